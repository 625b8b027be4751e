/-! WaterTurnsModel.passes()V -/
theorem dX12_passes_0 : decode cX12_passes 0 = .ok (.iconst 0, 1) := by decide +kernel
theorem dX12_passes_1 : decode cX12_passes 1 = .ok (.istore_n 1, 1) := by decide +kernel
theorem dX12_passes_2 : decode cX12_passes 2 = .ok (.iload_n 1, 1) := by decide +kernel
theorem dX12_passes_3 : decode cX12_passes 3 = .ok (.aload_n 0, 1) := by decide +kernel
theorem dX12_passes_4 : decode cX12_passes 4 = .ok (.getfield 7, 3) := by decide +kernel
theorem dX12_passes_7 : decode cX12_passes 7 = .ok (.iconst 5, 1) := by decide +kernel
theorem dX12_passes_8 : decode cX12_passes 8 = .ok (.iaload, 1) := by decide +kernel
theorem dX12_passes_9 : decode cX12_passes 9 = .ok (.if_icmp .ge 33, 3) := by decide +kernel
theorem dX12_passes_12 : decode cX12_passes 12 = .ok (.aload_n 0, 1) := by decide +kernel
theorem dX12_passes_13 : decode cX12_passes 13 = .ok (.getfield 7, 3) := by decide +kernel
theorem dX12_passes_16 : decode cX12_passes 16 = .ok (.sipush 258, 3) := by decide +kernel
theorem dX12_passes_19 : decode cX12_passes 19 = .ok (.iload_n 1, 1) := by decide +kernel
theorem dX12_passes_20 : decode cX12_passes 20 = .ok (.iadd, 1) := by decide +kernel
theorem dX12_passes_21 : decode cX12_passes 21 = .ok (.dup2, 1) := by decide +kernel
theorem dX12_passes_22 : decode cX12_passes 22 = .ok (.iaload, 1) := by decide +kernel
theorem dX12_passes_23 : decode cX12_passes 23 = .ok (.aload_n 0, 1) := by decide +kernel
theorem dX12_passes_24 : decode cX12_passes 24 = .ok (.iload_n 1, 1) := by decide +kernel
theorem dX12_passes_25 : decode cX12_passes 25 = .ok (.invokevirtual 357, 3) := by decide +kernel
theorem dX12_passes_28 : decode cX12_passes 28 = .ok (.aload_n 0, 1) := by decide +kernel
theorem dX12_passes_29 : decode cX12_passes 29 = .ok (.invokevirtual 331, 3) := by decide +kernel
theorem dX12_passes_32 : decode cX12_passes 32 = .ok (.ldiv, 1) := by decide +kernel
theorem dX12_passes_33 : decode cX12_passes 33 = .ok (.l2i, 1) := by decide +kernel
theorem dX12_passes_34 : decode cX12_passes 34 = .ok (.iadd, 1) := by decide +kernel
theorem dX12_passes_35 : decode cX12_passes 35 = .ok (.iastore, 1) := by decide +kernel
theorem dX12_passes_36 : decode cX12_passes 36 = .ok (.iinc 1 1, 3) := by decide +kernel
theorem dX12_passes_39 : decode cX12_passes 39 = .ok (.goto (-37), 3) := by decide +kernel
theorem dX12_passes_42 : decode cX12_passes 42 = .ok (.aload_n 0, 1) := by decide +kernel
theorem dX12_passes_43 : decode cX12_passes 43 = .ok (.getfield 7, 3) := by decide +kernel
theorem dX12_passes_46 : decode cX12_passes 46 = .ok (.bipush 8, 2) := by decide +kernel
theorem dX12_passes_48 : decode cX12_passes 48 = .ok (.iconst 0, 1) := by decide +kernel
theorem dX12_passes_49 : decode cX12_passes 49 = .ok (.iastore, 1) := by decide +kernel
theorem dX12_passes_50 : decode cX12_passes 50 = .ok (.aload_n 0, 1) := by decide +kernel
theorem dX12_passes_51 : decode cX12_passes 51 = .ok (.getfield 7, 3) := by decide +kernel
theorem dX12_passes_54 : decode cX12_passes 54 = .ok (.bipush 6, 2) := by decide +kernel
theorem dX12_passes_56 : decode cX12_passes 56 = .ok (.dup2, 1) := by decide +kernel
theorem dX12_passes_57 : decode cX12_passes 57 = .ok (.iaload, 1) := by decide +kernel
theorem dX12_passes_58 : decode cX12_passes 58 = .ok (.iconst 1, 1) := by decide +kernel
theorem dX12_passes_59 : decode cX12_passes 59 = .ok (.iadd, 1) := by decide +kernel
theorem dX12_passes_60 : decode cX12_passes 60 = .ok (.iastore, 1) := by decide +kernel
theorem dX12_passes_61 : decode cX12_passes 61 = .ok (.return_, 1) := by decide +kernel
set_option maxRecDepth 100000 in
theorem f_X12_passes_L2_ok {E : EnvT} {C : Cx} {Mi : Mem} {x0 : Int} (h0 : x0 ≠ 0) (hC : CxOK E C cX12_passes 2 yX12_passes.cls 9 0 0) {M0 : Mem} (hq : RQ E C 0 0 Mi none none M0) {k : Mem → Option (Mem)} (hk : ∀ M12, Bk E C 2 Mi M0 42 [(0, 30, x0)] [] M12 0 0 (k M12)) : ∀ (n : Nat) (p1 : Int) (M2 : Mem), Bk E C 2 Mi M0 2 [(0, 30, x0), (1, 0, p1)] [] M2 0 0 (f_X12_passes_L2 x0 k n p1 M2) := by
  intro n
  induction n with
  | zero =>
    intro p1 M2
    exact r_none
  | succ n ih =>
    intro p1 M2
    rw [f_X12_passes_L2]
    refine r_iload_n 2 hC 1 rfl rfl dX12_passes_2 ?_
    refine r_aload_n 3 hC 0 rfl (Or.inl (by decide)) rfl dX12_passes_3 ?_
    refine r_get 4 hC fd_10_0 fl_X12_7 dX12_passes_4 (fun v3 => ?_)
    refine r_iconst 7 hC (r32c rfl) dX12_passes_7 ?_
    refine r_iaload 8 hC dX12_passes_8 (fun v4 => ?_)
    refine r_icmp_ge 9 hC (tgt := 42) (by decide) dX12_passes_9 ?_ ?_
    · exact r_sub [0] rfl (hk M2)
    · refine r_aload_n 12 hC 0 rfl (Or.inl (by decide)) rfl dX12_passes_12 ?_
      refine r_get 13 hC fd_10_0 fl_X12_7 dX12_passes_13 (fun v5 => ?_)
      refine r_sipush 16 hC ks_258 dX12_passes_16 ?_
      refine r_iload_n 19 hC 1 rfl rfl dX12_passes_19 ?_
      refine r_iadd 20 hC dX12_passes_20 ?_
      refine r_dup2 21 hC ⟨by decide, by decide⟩ dX12_passes_21 ?_
      refine r_iaload 22 hC dX12_passes_22 (fun v6 => ?_)
      refine r_aload_n 23 hC 0 rfl (Or.inl (by decide)) rfl dX12_passes_23 ?_
      refine r_iload_n 24 hC 1 rfl rfl dX12_passes_24 ?_
      refine r_callVI 25 hC [(0, p1)] [(0, v6), (0, w32 (258 + p1)), (10, v5)] rfl vl_X12_357 rfl h0 (by decide) (Nat.le_of_ble_eq_true rfl) (by decide) (by decide) dX12_passes_25 (t_X12_waterIn x0 p1 M2 h0) (fun v7 M8 => ?_)
      refine r_aload_n 28 hC 0 rfl (Or.inl (by decide)) rfl dX12_passes_28 ?_
      refine r_callVP 29 hC [] [(1, v7), (0, v6), (0, w32 (258 + p1)), (10, v5)] rfl vl_X12_331 rfl h0 (by decide) (Nat.le_of_ble_eq_true rfl) (by decide) (by decide) dX12_passes_29 (t_X12_litre x0 M8 h0) (fun v9 => ?_)
      refine r_ldiv 32 hC dX12_passes_32 (fun v10 => ?_)
      refine r_l2i 33 hC dX12_passes_33 ?_
      refine r_iadd 34 hC dX12_passes_34 ?_
      refine r_iastore 35 hC dX12_passes_35 (fun M11 => ?_)
      refine r_iinc 36 hC 1 rfl (by decide) dX12_passes_36 (r_eqls (ls' := [(1, 0, w32 (p1 + 1)), (0, 30, x0)]) rfl ?_)
      refine r_goto 39 hC (tgt := 2) (by decide) dX12_passes_39 ?_
      exact r_sub [1, 0] rfl (ih (w32 (p1 + 1)) M11)
set_option maxRecDepth 100000 in
theorem t_X12_passes (x0 : Int) (M : Mem) (h0 : x0 ≠ 0) : MtV yX12_passes cX12_passes 2 none 9 0 0 [(30, x0)] M (f_X12_passes x0 M) := by
  refine mk_V (by decide +kernel) (Nat.le_of_ble_eq_true rfl) (fun E C M0 hC hq hin => ?_)
  refine r_eqls (ls' := [(0, 30, x0)]) rfl ?_
  unfold f_X12_passes
  refine r_iconst 0 hC (r32c rfl) dX12_passes_0 ?_
  refine r_istore_n 1 hC rfl (by decide) dX12_passes_1 (r_eqls (ls' := [(1, 0, 0), (0, 30, x0)]) rfl ?_)
  refine r_sub [1, 0] rfl (f_X12_passes_L2_ok h0 hC hq (fun M13 => ?_) KF 0 M)
  · refine r_aload_n 42 hC 0 rfl (Or.inl (by decide)) rfl dX12_passes_42 ?_
    refine r_get 43 hC fd_10_0 fl_X12_7 dX12_passes_43 (fun v14 => ?_)
    refine r_bipush 46 hC kb_8 dX12_passes_46 ?_
    refine r_iconst 48 hC (r32c rfl) dX12_passes_48 ?_
    refine r_iastore 49 hC dX12_passes_49 (fun M15 => ?_)
    refine r_aload_n 50 hC 0 rfl (Or.inl (by decide)) rfl dX12_passes_50 ?_
    refine r_get 51 hC fd_10_0 fl_X12_7 dX12_passes_51 (fun v16 => ?_)
    refine r_bipush 54 hC kb_6 dX12_passes_54 ?_
    refine r_dup2 56 hC ⟨by decide, by decide⟩ dX12_passes_56 ?_
    refine r_iaload 57 hC dX12_passes_57 (fun v17 => ?_)
    refine r_iconst 58 hC (r32c rfl) dX12_passes_58 ?_
    refine r_iadd 59 hC dX12_passes_59 ?_
    refine r_iastore 60 hC dX12_passes_60 (fun M18 => ?_)
    exact r_return 61 hC hq (by decide) (by decide) dX12_passes_61

/-! WaterTurnsModel.pass()I -/
theorem dX12_pass_0 : decode cX12_pass 0 = .ok (.aload_n 0, 1) := by decide +kernel
theorem dX12_pass_1 : decode cX12_pass 1 = .ok (.getfield 7, 3) := by decide +kernel
theorem dX12_pass_4 : decode cX12_pass 4 = .ok (.bipush 6, 2) := by decide +kernel
theorem dX12_pass_6 : decode cX12_pass 6 = .ok (.iaload, 1) := by decide +kernel
theorem dX12_pass_7 : decode cX12_pass 7 = .ok (.bipush 99, 2) := by decide +kernel
theorem dX12_pass_9 : decode cX12_pass 9 = .ok (.if_icmp .ne 9, 3) := by decide +kernel
theorem dX12_pass_12 : decode cX12_pass 12 = .ok (.aload_n 0, 1) := by decide +kernel
theorem dX12_pass_13 : decode cX12_pass 13 = .ok (.iconst 4, 1) := by decide +kernel
theorem dX12_pass_14 : decode cX12_pass 14 = .ok (.invokevirtual 87, 3) := by decide +kernel
theorem dX12_pass_17 : decode cX12_pass 17 = .ok (.ireturn, 1) := by decide +kernel
theorem dX12_pass_18 : decode cX12_pass 18 = .ok (.aload_n 0, 1) := by decide +kernel
theorem dX12_pass_19 : decode cX12_pass 19 = .ok (.invokevirtual 396, 3) := by decide +kernel
theorem dX12_pass_22 : decode cX12_pass 22 = .ok (.aload_n 0, 1) := by decide +kernel
theorem dX12_pass_23 : decode cX12_pass 23 = .ok (.aload_n 0, 1) := by decide +kernel
theorem dX12_pass_24 : decode cX12_pass 24 = .ok (.getfield 7, 3) := by decide +kernel
theorem dX12_pass_27 : decode cX12_pass 27 = .ok (.bipush 6, 2) := by decide +kernel
theorem dX12_pass_29 : decode cX12_pass 29 = .ok (.iaload, 1) := by decide +kernel
theorem dX12_pass_30 : decode cX12_pass 30 = .ok (.invokevirtual 91, 3) := by decide +kernel
theorem dX12_pass_33 : decode cX12_pass 33 = .ok (.ireturn, 1) := by decide +kernel
set_option maxRecDepth 100000 in
theorem t_X12_pass (x0 : Int) (M : Mem) (h0 : x0 ≠ 0) : MtI yX12_pass cX12_pass 1 (some .int) 10 0 0 [(30, x0)] M 0 (f_X12_pass x0 M) := by
  refine mk_I (by decide +kernel) (Nat.le_of_ble_eq_true rfl) (fun E C r0 M0 hC hq hin => ?_)
  refine r_eqls (ls' := [(0, 30, x0)]) rfl ?_
  unfold f_X12_pass
  refine r_aload_n 0 hC 0 rfl (Or.inl (by decide)) rfl dX12_pass_0 ?_
  refine r_get 1 hC fd_10_0 fl_X12_7 dX12_pass_1 (fun v1 => ?_)
  refine r_bipush 4 hC kb_6 dX12_pass_4 ?_
  refine r_iaload 6 hC dX12_pass_6 (fun v2 => ?_)
  refine r_bipush 7 hC kb_99 dX12_pass_7 ?_
  refine r_icmp_ne 9 hC (tgt := 18) (by decide) dX12_pass_9 ?_ ?_
  · refine r_aload_n 18 hC 0 rfl (Or.inl (by decide)) rfl dX12_pass_18 ?_
    refine r_callVV 19 hC [] [] rfl vl_X12_396 rfl h0 (by decide) (Nat.le_of_ble_eq_true rfl) (by decide) (by decide) dX12_pass_19 (t_X12_passes x0 M h0) (fun M3 => ?_)
    refine r_aload_n 22 hC 0 rfl (Or.inl (by decide)) rfl dX12_pass_22 ?_
    refine r_aload_n 23 hC 0 rfl (Or.inl (by decide)) rfl dX12_pass_23 ?_
    refine r_get 24 hC fd_10_0 fl_X12_7 dX12_pass_24 (fun v4 => ?_)
    refine r_bipush 27 hC kb_6 dX12_pass_27 ?_
    refine r_iaload 29 hC dX12_pass_29 (fun v5 => ?_)
    refine r_callVI 30 hC [(0, v5)] [] rfl vl_X12_91 rfl h0 (by decide) (Nat.le_of_ble_eq_true rfl) (by decide) (by decide) dX12_pass_30 (t_X12_gives x0 v5 M3 h0) (fun v6 M7 => ?_)
    exact r_ireturn 33 hC hq (by decide) (by decide) dX12_pass_33
  · refine r_aload_n 12 hC 0 rfl (Or.inl (by decide)) rfl dX12_pass_12 ?_
    refine r_iconst 13 hC (r32c rfl) dX12_pass_13 ?_
    refine r_callVI 14 hC [(0, 4)] [] rfl vl_X12_87 rfl h0 (by decide) (Nat.le_of_ble_eq_true rfl) (by decide) (by decide) dX12_pass_14 (t_X12_refuse x0 4 M h0) (fun v8 M9 => ?_)
    exact r_ireturn 17 hC hq (by decide) (by decide) dX12_pass_17

/-! WaterTurnsModel.account(I)J -/
theorem dX12_account_0 : decode cX12_account 0 = .ok (.aload_n 0, 1) := by decide +kernel
theorem dX12_account_1 : decode cX12_account 1 = .ok (.iload_n 1, 1) := by decide +kernel
theorem dX12_account_2 : decode cX12_account 2 = .ok (.invokevirtual 266, 3) := by decide +kernel
theorem dX12_account_5 : decode cX12_account 5 = .ok (.ifCond .eq 21, 3) := by decide +kernel
theorem dX12_account_8 : decode cX12_account 8 = .ok (.aload_n 0, 1) := by decide +kernel
theorem dX12_account_9 : decode cX12_account 9 = .ok (.aload_n 0, 1) := by decide +kernel
theorem dX12_account_10 : decode cX12_account 10 = .ok (.getfield 7, 3) := by decide +kernel
theorem dX12_account_13 : decode cX12_account 13 = .ok (.sipush 258, 3) := by decide +kernel
theorem dX12_account_16 : decode cX12_account 16 = .ok (.iload_n 1, 1) := by decide +kernel
theorem dX12_account_17 : decode cX12_account 17 = .ok (.iadd, 1) := by decide +kernel
theorem dX12_account_18 : decode cX12_account 18 = .ok (.iaload, 1) := by decide +kernel
theorem dX12_account_19 : decode cX12_account 19 = .ok (.invokevirtual 91, 3) := by decide +kernel
theorem dX12_account_22 : decode cX12_account 22 = .ok (.i2l, 1) := by decide +kernel
theorem dX12_account_23 : decode cX12_account 23 = .ok (.goto 9, 3) := by decide +kernel
theorem dX12_account_26 : decode cX12_account 26 = .ok (.aload_n 0, 1) := by decide +kernel
theorem dX12_account_27 : decode cX12_account 27 = .ok (.iconst 1, 1) := by decide +kernel
theorem dX12_account_28 : decode cX12_account 28 = .ok (.invokevirtual 87, 3) := by decide +kernel
theorem dX12_account_31 : decode cX12_account 31 = .ok (.i2l, 1) := by decide +kernel
theorem dX12_account_32 : decode cX12_account 32 = .ok (.lreturn, 1) := by decide +kernel
set_option maxRecDepth 100000 in
theorem t_X12_account (x0 x1 : Int) (M : Mem) (h0 : x0 ≠ 0) : MtI yX12_account cX12_account 2 (some .long) 2 0 0 [(30, x0), (0, x1)] M 1 (f_X12_account x0 x1 M) := by
  refine mk_I (by decide +kernel) (Nat.le_of_ble_eq_true rfl) (fun E C r0 M0 hC hq hin => ?_)
  refine r_eqls (ls' := [(0, 30, x0), (1, 0, x1)]) rfl ?_
  unfold f_X12_account
  refine r_aload_n 0 hC 0 rfl (Or.inl (by decide)) rfl dX12_account_0 ?_
  refine r_iload_n 1 hC 1 rfl rfl dX12_account_1 ?_
  refine r_callVP 2 hC [(0, x1)] [] rfl vl_X12_266 rfl h0 (by decide) (Nat.le_of_ble_eq_true rfl) (by decide) (by decide) dX12_account_2 (t_X12_isField x0 x1 M h0) (fun v1 => ?_)
  refine r_jn (P := fun j32 => ∀ (q2 : Int) (M3 : Mem), Bk E C 2 M (r0, M0) 32 [] [(1, q2)] M3 0 0 (j32 q2 M3)) ?_ (fun j32 hj32 => ?_)
  · intro q2 M3
    exact r_lreturn 32 hC hq (by decide) (by decide) dX12_account_32
  refine r_if_eq 5 hC (tgt := 26) (by decide) dX12_account_5 ?_ ?_
  · refine r_aload_n 26 hC 0 rfl (Or.inl (by decide)) rfl dX12_account_26 ?_
    refine r_iconst 27 hC (r32c rfl) dX12_account_27 ?_
    refine r_callVI 28 hC [(0, 1)] [] rfl vl_X12_87 rfl h0 (by decide) (Nat.le_of_ble_eq_true rfl) (by decide) (by decide) dX12_account_28 (t_X12_refuse x0 1 M h0) (fun v4 M5 => ?_)
    refine r_i2l 31 hC dX12_account_31 ?_
    exact r_sub [] rfl (hj32 v4 M5)
  · refine r_aload_n 8 hC 0 rfl (Or.inl (by decide)) rfl dX12_account_8 ?_
    refine r_aload_n 9 hC 0 rfl (Or.inl (by decide)) rfl dX12_account_9 ?_
    refine r_get 10 hC fd_10_0 fl_X12_7 dX12_account_10 (fun v6 => ?_)
    refine r_sipush 13 hC ks_258 dX12_account_13 ?_
    refine r_iload_n 16 hC 1 rfl rfl dX12_account_16 ?_
    refine r_iadd 17 hC dX12_account_17 ?_
    refine r_iaload 18 hC dX12_account_18 (fun v7 => ?_)
    refine r_callVI 19 hC [(0, v7)] [] rfl vl_X12_91 rfl h0 (by decide) (Nat.le_of_ble_eq_true rfl) (by decide) (by decide) dX12_account_19 (t_X12_gives x0 v7 M h0) (fun v8 M9 => ?_)
    refine r_i2l 22 hC dX12_account_22 ?_
    refine r_goto 23 hC (tgt := 32) (by decide) dX12_account_23 ?_
    exact r_sub [] rfl (hj32 v8 M9)

/-! WaterTurnsModel.draw()I -/
theorem dX12_draw_0 : decode cX12_draw 0 = .ok (.aload_n 0, 1) := by decide +kernel
theorem dX12_draw_1 : decode cX12_draw 1 = .ok (.aload_n 0, 1) := by decide +kernel
theorem dX12_draw_2 : decode cX12_draw 2 = .ok (.getfield 399, 3) := by decide +kernel
theorem dX12_draw_5 : decode cX12_draw 5 = .ok (.sipush 2753, 3) := by decide +kernel
theorem dX12_draw_8 : decode cX12_draw 8 = .ok (.imul, 1) := by decide +kernel
theorem dX12_draw_9 : decode cX12_draw 9 = .ok (.sipush 10559, 3) := by decide +kernel
theorem dX12_draw_12 : decode cX12_draw 12 = .ok (.iadd, 1) := by decide +kernel
theorem dX12_draw_13 : decode cX12_draw 13 = .ok (.ldc_w 402, 3) := by decide +kernel
theorem dX12_draw_16 : decode cX12_draw 16 = .ok (.irem, 1) := by decide +kernel
theorem dX12_draw_17 : decode cX12_draw 17 = .ok (.putfield 399, 3) := by decide +kernel
theorem dX12_draw_20 : decode cX12_draw 20 = .ok (.aload_n 0, 1) := by decide +kernel
theorem dX12_draw_21 : decode cX12_draw 21 = .ok (.getfield 399, 3) := by decide +kernel
theorem dX12_draw_24 : decode cX12_draw 24 = .ok (.bipush 8, 2) := by decide +kernel
theorem dX12_draw_26 : decode cX12_draw 26 = .ok (.idiv, 1) := by decide +kernel
theorem dX12_draw_27 : decode cX12_draw 27 = .ok (.bipush 16, 2) := by decide +kernel
theorem dX12_draw_29 : decode cX12_draw 29 = .ok (.irem, 1) := by decide +kernel
theorem dX12_draw_30 : decode cX12_draw 30 = .ok (.ireturn, 1) := by decide +kernel
set_option maxRecDepth 100000 in
theorem t_X12_draw (x0 : Int) (M : Mem) (h0 : x0 ≠ 0) : MtI yX12_draw cX12_draw 1 (some .int) 1 0 0 [(30, x0)] M 0 (f_X12_draw x0 M) := by
  refine mk_I (by decide +kernel) (Nat.le_of_ble_eq_true rfl) (fun E C r0 M0 hC hq hin => ?_)
  refine r_eqls (ls' := [(0, 30, x0)]) rfl ?_
  unfold f_X12_draw
  refine r_aload_n 0 hC 0 rfl (Or.inl (by decide)) rfl dX12_draw_0 ?_
  refine r_aload_n 1 hC 0 rfl (Or.inl (by decide)) rfl dX12_draw_1 ?_
  refine r_get 2 hC fd_10_36 fl_X12_399 dX12_draw_2 (fun v1 => ?_)
  refine r_sipush 5 hC ks_2753 dX12_draw_5 ?_
  refine r_imul 8 hC dX12_draw_8 ?_
  refine r_sipush 9 hC ks_10559 dX12_draw_9 ?_
  refine r_iadd 12 hC dX12_draw_12 ?_
  refine r_ldcw 13 hC (x := 65536) kc_X12_402 ⟨by decide +kernel, r32c rfl⟩ dX12_draw_13 ?_
  refine r_irem 16 hC dX12_draw_16 (fun v2 => ?_)
  refine r_put 17 hC fd_10_36 fl_X12_399 dX12_draw_17 (fun M3 => ?_)
  refine r_aload_n 20 hC 0 rfl (Or.inl (by decide)) rfl dX12_draw_20 ?_
  refine r_get 21 hC fd_10_36 fl_X12_399 dX12_draw_21 (fun v4 => ?_)
  refine r_bipush 24 hC kb_8 dX12_draw_24 ?_
  refine r_idiv 26 hC dX12_draw_26 (fun v5 => ?_)
  refine r_bipush 27 hC kb_16 dX12_draw_27 ?_
  refine r_irem 29 hC dX12_draw_29 (fun v6 => ?_)
  exact r_ireturn 30 hC hq (by decide) (by decide) dX12_draw_30

/-! WaterTurnsModel.does(I)Z -/
theorem dX12_does_0 : decode cX12_does 0 = .ok (.aload_n 0, 1) := by decide +kernel
theorem dX12_does_1 : decode cX12_does 1 = .ok (.getfield 7, 3) := by decide +kernel
theorem dX12_does_4 : decode cX12_does 4 = .ok (.iload_n 1, 1) := by decide +kernel
theorem dX12_does_5 : decode cX12_does 5 = .ok (.iconst 1, 1) := by decide +kernel
theorem dX12_does_6 : decode cX12_does 6 = .ok (.iadd, 1) := by decide +kernel
theorem dX12_does_7 : decode cX12_does 7 = .ok (.iaload, 1) := by decide +kernel
theorem dX12_does_8 : decode cX12_does 8 = .ok (.istore_n 2, 1) := by decide +kernel
theorem dX12_does_9 : decode cX12_does 9 = .ok (.aload_n 0, 1) := by decide +kernel
theorem dX12_does_10 : decode cX12_does 10 = .ok (.getfield 7, 3) := by decide +kernel
theorem dX12_does_13 : decode cX12_does 13 = .ok (.iload_n 1, 1) := by decide +kernel
theorem dX12_does_14 : decode cX12_does 14 = .ok (.iconst 2, 1) := by decide +kernel
theorem dX12_does_15 : decode cX12_does 15 = .ok (.iadd, 1) := by decide +kernel
theorem dX12_does_16 : decode cX12_does 16 = .ok (.iaload, 1) := by decide +kernel
theorem dX12_does_17 : decode cX12_does 17 = .ok (.istore_n 3, 1) := by decide +kernel
theorem dX12_does_18 : decode cX12_does 18 = .ok (.aload_n 0, 1) := by decide +kernel
theorem dX12_does_19 : decode cX12_does 19 = .ok (.getfield 7, 3) := by decide +kernel
theorem dX12_does_22 : decode cX12_does 22 = .ok (.iload_n 1, 1) := by decide +kernel
theorem dX12_does_23 : decode cX12_does 23 = .ok (.iaload, 1) := by decide +kernel
theorem dX12_does_24 : decode cX12_does 24 = .ok (.tableswitch 289 10 22 #[68, 289, 289, 289, 289, 289, 83, 100, 125, 125, 218, 227, 259], 68) := by decide +kernel
theorem dX12_does_92 : decode cX12_does 92 = .ok (.aload_n 0, 1) := by decide +kernel
theorem dX12_does_93 : decode cX12_does 93 = .ok (.getfield 7, 3) := by decide +kernel
theorem dX12_does_96 : decode cX12_does 96 = .ok (.bipush 7, 2) := by decide +kernel
theorem dX12_does_98 : decode cX12_does 98 = .ok (.dup2, 1) := by decide +kernel
theorem dX12_does_99 : decode cX12_does 99 = .ok (.iaload, 1) := by decide +kernel
theorem dX12_does_100 : decode cX12_does 100 = .ok (.iconst 1, 1) := by decide +kernel
theorem dX12_does_101 : decode cX12_does 101 = .ok (.iload_n 2, 1) := by decide +kernel
theorem dX12_does_102 : decode cX12_does 102 = .ok (.ishl, 1) := by decide +kernel
theorem dX12_does_103 : decode cX12_does 103 = .ok (.ior, 1) := by decide +kernel
theorem dX12_does_104 : decode cX12_does 104 = .ok (.iastore, 1) := by decide +kernel
theorem dX12_does_105 : decode cX12_does 105 = .ok (.iconst 1, 1) := by decide +kernel
theorem dX12_does_106 : decode cX12_does 106 = .ok (.ireturn, 1) := by decide +kernel
theorem dX12_does_107 : decode cX12_does 107 = .ok (.aload_n 0, 1) := by decide +kernel
theorem dX12_does_108 : decode cX12_does 108 = .ok (.getfield 7, 3) := by decide +kernel
theorem dX12_does_111 : decode cX12_does 111 = .ok (.bipush 7, 2) := by decide +kernel
theorem dX12_does_113 : decode cX12_does 113 = .ok (.dup2, 1) := by decide +kernel
theorem dX12_does_114 : decode cX12_does 114 = .ok (.iaload, 1) := by decide +kernel
theorem dX12_does_115 : decode cX12_does 115 = .ok (.iconst 1, 1) := by decide +kernel
theorem dX12_does_116 : decode cX12_does 116 = .ok (.iload_n 2, 1) := by decide +kernel
theorem dX12_does_117 : decode cX12_does 117 = .ok (.ishl, 1) := by decide +kernel
theorem dX12_does_118 : decode cX12_does 118 = .ok (.iconst (-1), 1) := by decide +kernel
theorem dX12_does_119 : decode cX12_does 119 = .ok (.ixor, 1) := by decide +kernel
theorem dX12_does_120 : decode cX12_does 120 = .ok (.iand, 1) := by decide +kernel
theorem dX12_does_121 : decode cX12_does 121 = .ok (.iastore, 1) := by decide +kernel
theorem dX12_does_122 : decode cX12_does 122 = .ok (.iconst 1, 1) := by decide +kernel
theorem dX12_does_123 : decode cX12_does 123 = .ok (.ireturn, 1) := by decide +kernel
theorem dX12_does_124 : decode cX12_does 124 = .ok (.iload_n 2, 1) := by decide +kernel
theorem dX12_does_125 : decode cX12_does 125 = .ok (.iload_n 3, 1) := by decide +kernel
theorem dX12_does_126 : decode cX12_does 126 = .ok (.if_icmp .eq 13, 3) := by decide +kernel
theorem dX12_does_129 : decode cX12_does 129 = .ok (.aload_n 0, 1) := by decide +kernel
theorem dX12_does_130 : decode cX12_does 130 = .ok (.getfield 7, 3) := by decide +kernel
theorem dX12_does_133 : decode cX12_does 133 = .ok (.bipush 8, 2) := by decide +kernel
theorem dX12_does_135 : decode cX12_does 135 = .ok (.iaload, 1) := by decide +kernel
theorem dX12_does_136 : decode cX12_does 136 = .ok (.ifCond .le 5, 3) := by decide +kernel
theorem dX12_does_139 : decode cX12_does 139 = .ok (.iconst 0, 1) := by decide +kernel
theorem dX12_does_140 : decode cX12_does 140 = .ok (.ireturn, 1) := by decide +kernel
theorem dX12_does_141 : decode cX12_does 141 = .ok (.aload_n 0, 1) := by decide +kernel
theorem dX12_does_142 : decode cX12_does 142 = .ok (.iload_n 2, 1) := by decide +kernel
theorem dX12_does_143 : decode cX12_does 143 = .ok (.iload_n 3, 1) := by decide +kernel
theorem dX12_does_144 : decode cX12_does 144 = .ok (.invokevirtual 293, 3) := by decide +kernel
theorem dX12_does_147 : decode cX12_does 147 = .ok (.iconst 1, 1) := by decide +kernel
theorem dX12_does_148 : decode cX12_does 148 = .ok (.ireturn, 1) := by decide +kernel
theorem dX12_does_149 : decode cX12_does 149 = .ok (.iload_n 2, 1) := by decide +kernel
theorem dX12_does_150 : decode cX12_does 150 = .ok (.iload_n 3, 1) := by decide +kernel
theorem dX12_does_151 : decode cX12_does 151 = .ok (.if_icmp .eq 15, 3) := by decide +kernel
theorem dX12_does_154 : decode cX12_does 154 = .ok (.aload_n 0, 1) := by decide +kernel
theorem dX12_does_155 : decode cX12_does 155 = .ok (.getfield 7, 3) := by decide +kernel
theorem dX12_does_158 : decode cX12_does 158 = .ok (.bipush 8, 2) := by decide +kernel
theorem dX12_does_160 : decode cX12_does 160 = .ok (.iaload, 1) := by decide +kernel
theorem dX12_does_161 : decode cX12_does 161 = .ok (.bipush 12, 2) := by decide +kernel
theorem dX12_does_163 : decode cX12_does 163 = .ok (.if_icmp .ne 5, 3) := by decide +kernel
theorem dX12_does_166 : decode cX12_does 166 = .ok (.iconst 0, 1) := by decide +kernel
theorem dX12_does_167 : decode cX12_does 167 = .ok (.ireturn, 1) := by decide +kernel
theorem dX12_does_168 : decode cX12_does 168 = .ok (.aload_n 0, 1) := by decide +kernel
theorem dX12_does_169 : decode cX12_does 169 = .ok (.getfield 7, 3) := by decide +kernel
theorem dX12_does_172 : decode cX12_does 172 = .ok (.iload_n 1, 1) := by decide +kernel
theorem dX12_does_173 : decode cX12_does 173 = .ok (.iaload, 1) := by decide +kernel
theorem dX12_does_174 : decode cX12_does 174 = .ok (.bipush 18, 2) := by decide +kernel
theorem dX12_does_176 : decode cX12_does 176 = .ok (.if_icmp .ne 14, 3) := by decide +kernel
theorem dX12_does_179 : decode cX12_does 179 = .ok (.aload_n 0, 1) := by decide +kernel
theorem dX12_does_180 : decode cX12_does 180 = .ok (.getfield 7, 3) := by decide +kernel
theorem dX12_does_183 : decode cX12_does 183 = .ok (.iload_n 1, 1) := by decide +kernel
theorem dX12_does_184 : decode cX12_does 184 = .ok (.iconst 3, 1) := by decide +kernel
theorem dX12_does_185 : decode cX12_does 185 = .ok (.iadd, 1) := by decide +kernel
theorem dX12_does_186 : decode cX12_does 186 = .ok (.iaload, 1) := by decide +kernel
theorem dX12_does_187 : decode cX12_does 187 = .ok (.goto 26, 3) := by decide +kernel
theorem dX12_does_190 : decode cX12_does 190 = .ok (.aload_n 0, 1) := by decide +kernel
theorem dX12_does_191 : decode cX12_does 191 = .ok (.getfield 7, 3) := by decide +kernel
theorem dX12_does_194 : decode cX12_does 194 = .ok (.sipush 158, 3) := by decide +kernel
theorem dX12_does_197 : decode cX12_does 197 = .ok (.bipush 10, 2) := by decide +kernel
theorem dX12_does_199 : decode cX12_does 199 = .ok (.iload_n 2, 1) := by decide +kernel
theorem dX12_does_200 : decode cX12_does 200 = .ok (.imul, 1) := by decide +kernel
theorem dX12_does_201 : decode cX12_does 201 = .ok (.iadd, 1) := by decide +kernel
theorem dX12_does_202 : decode cX12_does 202 = .ok (.iload_n 3, 1) := by decide +kernel
theorem dX12_does_203 : decode cX12_does 203 = .ok (.iadd, 1) := by decide +kernel
theorem dX12_does_204 : decode cX12_does 204 = .ok (.iaload, 1) := by decide +kernel
theorem dX12_does_205 : decode cX12_does 205 = .ok (.aload_n 0, 1) := by decide +kernel
theorem dX12_does_206 : decode cX12_does 206 = .ok (.iload_n 2, 1) := by decide +kernel
theorem dX12_does_207 : decode cX12_does 207 = .ok (.invokevirtual 303, 3) := by decide +kernel
theorem dX12_does_210 : decode cX12_does 210 = .ok (.invokestatic 142, 3) := by decide +kernel
theorem dX12_does_213 : decode cX12_does 213 = .ok (.istore 4, 2) := by decide +kernel
theorem dX12_does_215 : decode cX12_does 215 = .ok (.iload 4, 2) := by decide +kernel
theorem dX12_does_217 : decode cX12_does 217 = .ok (.ifCond .eq 13, 3) := by decide +kernel
theorem dX12_does_220 : decode cX12_does 220 = .ok (.aload_n 0, 1) := by decide +kernel
theorem dX12_does_221 : decode cX12_does 221 = .ok (.iload_n 2, 1) := by decide +kernel
theorem dX12_does_222 : decode cX12_does 222 = .ok (.invokevirtual 303, 3) := by decide +kernel
theorem dX12_does_225 : decode cX12_does 225 = .ok (.iload 4, 2) := by decide +kernel
theorem dX12_does_227 : decode cX12_does 227 = .ok (.if_icmp .ge 5, 3) := by decide +kernel
theorem dX12_does_230 : decode cX12_does 230 = .ok (.iconst 0, 1) := by decide +kernel
theorem dX12_does_231 : decode cX12_does 231 = .ok (.ireturn, 1) := by decide +kernel
theorem dX12_does_232 : decode cX12_does 232 = .ok (.aload_n 0, 1) := by decide +kernel
theorem dX12_does_233 : decode cX12_does 233 = .ok (.iload_n 2, 1) := by decide +kernel
theorem dX12_does_234 : decode cX12_does 234 = .ok (.iload_n 3, 1) := by decide +kernel
theorem dX12_does_235 : decode cX12_does 235 = .ok (.iload 4, 2) := by decide +kernel
theorem dX12_does_237 : decode cX12_does 237 = .ok (.invokevirtual 306, 3) := by decide +kernel
theorem dX12_does_240 : decode cX12_does 240 = .ok (.iconst 1, 1) := by decide +kernel
theorem dX12_does_241 : decode cX12_does 241 = .ok (.ireturn, 1) := by decide +kernel
theorem dX12_does_242 : decode cX12_does 242 = .ok (.aload_n 0, 1) := by decide +kernel
theorem dX12_does_243 : decode cX12_does 243 = .ok (.getfield 7, 3) := by decide +kernel
theorem dX12_does_246 : decode cX12_does 246 = .ok (.iconst 0, 1) := by decide +kernel
theorem dX12_does_247 : decode cX12_does 247 = .ok (.iload_n 2, 1) := by decide +kernel
theorem dX12_does_248 : decode cX12_does 248 = .ok (.iastore, 1) := by decide +kernel
theorem dX12_does_249 : decode cX12_does 249 = .ok (.iconst 1, 1) := by decide +kernel
theorem dX12_does_250 : decode cX12_does 250 = .ok (.ireturn, 1) := by decide +kernel
theorem dX12_does_251 : decode cX12_does 251 = .ok (.aload_n 0, 1) := by decide +kernel
theorem dX12_does_252 : decode cX12_does 252 = .ok (.invokevirtual 403, 3) := by decide +kernel
theorem dX12_does_255 : decode cX12_does 255 = .ok (.iload_n 2, 1) := by decide +kernel
theorem dX12_does_256 : decode cX12_does 256 = .ok (.if_icmp .lt 5, 3) := by decide +kernel
theorem dX12_does_259 : decode cX12_does 259 = .ok (.iconst 1, 1) := by decide +kernel
theorem dX12_does_260 : decode cX12_does 260 = .ok (.ireturn, 1) := by decide +kernel
theorem dX12_does_261 : decode cX12_does 261 = .ok (.aload_n 0, 1) := by decide +kernel
theorem dX12_does_262 : decode cX12_does 262 = .ok (.getfield 7, 3) := by decide +kernel
theorem dX12_does_265 : decode cX12_does 265 = .ok (.iconst 0, 1) := by decide +kernel
theorem dX12_does_266 : decode cX12_does 266 = .ok (.dup2, 1) := by decide +kernel
theorem dX12_does_267 : decode cX12_does 267 = .ok (.iaload, 1) := by decide +kernel
theorem dX12_does_268 : decode cX12_does 268 = .ok (.iconst 2, 1) := by decide +kernel
theorem dX12_does_269 : decode cX12_does 269 = .ok (.idiv, 1) := by decide +kernel
theorem dX12_does_270 : decode cX12_does 270 = .ok (.iastore, 1) := by decide +kernel
theorem dX12_does_271 : decode cX12_does 271 = .ok (.aload_n 0, 1) := by decide +kernel
theorem dX12_does_272 : decode cX12_does 272 = .ok (.getfield 71, 3) := by decide +kernel
theorem dX12_does_275 : decode cX12_does 275 = .ok (.iconst 2, 1) := by decide +kernel
theorem dX12_does_276 : decode cX12_does 276 = .ok (.dup2, 1) := by decide +kernel
theorem dX12_does_277 : decode cX12_does 277 = .ok (.iaload, 1) := by decide +kernel
theorem dX12_does_278 : decode cX12_does 278 = .ok (.iconst 1, 1) := by decide +kernel
theorem dX12_does_279 : decode cX12_does 279 = .ok (.iadd, 1) := by decide +kernel
theorem dX12_does_280 : decode cX12_does 280 = .ok (.iastore, 1) := by decide +kernel
theorem dX12_does_281 : decode cX12_does 281 = .ok (.iconst 1, 1) := by decide +kernel
theorem dX12_does_282 : decode cX12_does 282 = .ok (.ireturn, 1) := by decide +kernel
theorem dX12_does_283 : decode cX12_does 283 = .ok (.aload_n 0, 1) := by decide +kernel
theorem dX12_does_284 : decode cX12_does 284 = .ok (.getfield 7, 3) := by decide +kernel
theorem dX12_does_287 : decode cX12_does 287 = .ok (.bipush 6, 2) := by decide +kernel
theorem dX12_does_289 : decode cX12_does 289 = .ok (.iaload, 1) := by decide +kernel
theorem dX12_does_290 : decode cX12_does 290 = .ok (.bipush 99, 2) := by decide +kernel
theorem dX12_does_292 : decode cX12_does 292 = .ok (.if_icmp .ne 5, 3) := by decide +kernel
theorem dX12_does_295 : decode cX12_does 295 = .ok (.iconst 0, 1) := by decide +kernel
theorem dX12_does_296 : decode cX12_does 296 = .ok (.ireturn, 1) := by decide +kernel
theorem dX12_does_297 : decode cX12_does 297 = .ok (.aload_n 0, 1) := by decide +kernel
theorem dX12_does_298 : decode cX12_does 298 = .ok (.invokevirtual 396, 3) := by decide +kernel
theorem dX12_does_301 : decode cX12_does 301 = .ok (.aload_n 0, 1) := by decide +kernel
theorem dX12_does_302 : decode cX12_does 302 = .ok (.getfield 71, 3) := by decide +kernel
theorem dX12_does_305 : decode cX12_does 305 = .ok (.iconst 0, 1) := by decide +kernel
theorem dX12_does_306 : decode cX12_does 306 = .ok (.dup2, 1) := by decide +kernel
theorem dX12_does_307 : decode cX12_does 307 = .ok (.iaload, 1) := by decide +kernel
theorem dX12_does_308 : decode cX12_does 308 = .ok (.iconst 1, 1) := by decide +kernel
theorem dX12_does_309 : decode cX12_does 309 = .ok (.iadd, 1) := by decide +kernel
theorem dX12_does_310 : decode cX12_does 310 = .ok (.iastore, 1) := by decide +kernel
theorem dX12_does_311 : decode cX12_does 311 = .ok (.iconst 1, 1) := by decide +kernel
theorem dX12_does_312 : decode cX12_does 312 = .ok (.ireturn, 1) := by decide +kernel
theorem dX12_does_313 : decode cX12_does 313 = .ok (.iconst 1, 1) := by decide +kernel
theorem dX12_does_314 : decode cX12_does 314 = .ok (.ireturn, 1) := by decide +kernel
set_option maxRecDepth 100000 in
theorem t_X12_does (x0 x1 : Int) (M : Mem) (h0 : x0 ≠ 0) : MtI yX12_does cX12_does 5 (some .boolean) 10 0 0 [(30, x0), (0, x1)] M 0 (f_X12_does x0 x1 M) := by
  refine mk_I (by decide +kernel) (Nat.le_of_ble_eq_true rfl) (fun E C r0 M0 hC hq hin => ?_)
  refine r_eqls (ls' := [(0, 30, x0), (1, 0, x1)]) rfl ?_
  unfold f_X12_does
  refine r_aload_n 0 hC 0 rfl (Or.inl (by decide)) rfl dX12_does_0 ?_
  refine r_get 1 hC fd_10_0 fl_X12_7 dX12_does_1 (fun v1 => ?_)
  refine r_iload_n 4 hC 1 rfl rfl dX12_does_4 ?_
  refine r_iconst 5 hC (r32c rfl) dX12_does_5 ?_
  refine r_iadd 6 hC dX12_does_6 ?_
  refine r_iaload 7 hC dX12_does_7 (fun v2 => ?_)
  refine r_istore_n 8 hC rfl (by decide) dX12_does_8 (r_eqls (ls' := [(2, 0, v2), (0, 30, x0), (1, 0, x1)]) rfl ?_)
  refine r_aload_n 9 hC 1 rfl (Or.inl (by decide)) rfl dX12_does_9 ?_
  refine r_get 10 hC fd_10_0 fl_X12_7 dX12_does_10 (fun v3 => ?_)
  refine r_iload_n 13 hC 2 rfl rfl dX12_does_13 ?_
  refine r_iconst 14 hC (r32c rfl) dX12_does_14 ?_
  refine r_iadd 15 hC dX12_does_15 ?_
  refine r_iaload 16 hC dX12_does_16 (fun v4 => ?_)
  refine r_istore_n 17 hC rfl (by decide) dX12_does_17 (r_eqls (ls' := [(3, 0, v4), (2, 0, v2), (0, 30, x0), (1, 0, x1)]) rfl ?_)
  refine r_aload_n 18 hC 2 rfl (Or.inl (by decide)) rfl dX12_does_18 ?_
  refine r_get 19 hC fd_10_0 fl_X12_7 dX12_does_19 (fun v5 => ?_)
  refine r_iload_n 22 hC 3 rfl rfl dX12_does_22 ?_
  refine r_iaload 23 hC dX12_does_23 (fun v6 => ?_)
  refine r_sw_case 24 (tgt := 92) (off := 68) hC dX12_does_24 ⟨by decide, by decide, r32c rfl⟩ (by decide) (by decide) ?_ (fun hs10 => ?_)
  · refine r_aload_n 92 hC 2 rfl (Or.inl (by decide)) rfl dX12_does_92 ?_
    refine r_get 93 hC fd_10_0 fl_X12_7 dX12_does_93 (fun v7 => ?_)
    refine r_bipush 96 hC kb_7 dX12_does_96 ?_
    refine r_dup2 98 hC ⟨by decide, by decide⟩ dX12_does_98 ?_
    refine r_iaload 99 hC dX12_does_99 (fun v8 => ?_)
    refine r_iconst 100 hC (r32c rfl) dX12_does_100 ?_
    refine r_iload_n 101 hC 1 rfl rfl dX12_does_101 ?_
    refine r_ishl 102 hC dX12_does_102 ?_
    refine r_ior 103 hC dX12_does_103 ?_
    refine r_iastore 104 hC dX12_does_104 (fun M9 => ?_)
    refine r_iconst 105 hC (r32c rfl) dX12_does_105 ?_
    exact r_zreturn 106 hC hq (by decide) (by decide) dX12_does_106
  refine r_sw_case 24 (tgt := 107) (off := 83) hC dX12_does_24 ⟨by decide, by decide, r32c rfl⟩ (by decide) (by decide) ?_ (fun hs16 => ?_)
  · refine r_aload_n 107 hC 2 rfl (Or.inl (by decide)) rfl dX12_does_107 ?_
    refine r_get 108 hC fd_10_0 fl_X12_7 dX12_does_108 (fun v10 => ?_)
    refine r_bipush 111 hC kb_7 dX12_does_111 ?_
    refine r_dup2 113 hC ⟨by decide, by decide⟩ dX12_does_113 ?_
    refine r_iaload 114 hC dX12_does_114 (fun v11 => ?_)
    refine r_iconst 115 hC (r32c rfl) dX12_does_115 ?_
    refine r_iload_n 116 hC 1 rfl rfl dX12_does_116 ?_
    refine r_ishl 117 hC dX12_does_117 ?_
    refine r_iconst 118 hC (r32c rfl) dX12_does_118 ?_
    refine r_ixor 119 hC dX12_does_119 ?_
    refine r_iand 120 hC dX12_does_120 ?_
    refine r_iastore 121 hC dX12_does_121 (fun M12 => ?_)
    refine r_iconst 122 hC (r32c rfl) dX12_does_122 ?_
    exact r_zreturn 123 hC hq (by decide) (by decide) dX12_does_123
  refine r_sw_case 24 (tgt := 124) (off := 100) hC dX12_does_24 ⟨by decide, by decide, r32c rfl⟩ (by decide) (by decide) ?_ (fun hs17 => ?_)
  · refine r_iload_n 124 hC 1 rfl rfl dX12_does_124 ?_
    refine r_iload_n 125 hC 0 rfl rfl dX12_does_125 ?_
    refine r_jn (P := fun j139 => Bk E C 5 M (r0, M0) 139 [] [] M 0 0 (j139)) ?_ (fun j139 hj139 => ?_)
    · refine r_iconst 139 hC (r32c rfl) dX12_does_139 ?_
      exact r_zreturn 140 hC hq (by decide) (by decide) dX12_does_140
    refine r_icmp_eq 126 hC (tgt := 139) (by decide) dX12_does_126 ?_ ?_
    · exact r_sub [] rfl (hj139)
    · refine r_aload_n 129 hC 2 rfl (Or.inl (by decide)) rfl dX12_does_129 ?_
      refine r_get 130 hC fd_10_0 fl_X12_7 dX12_does_130 (fun v13 => ?_)
      refine r_bipush 133 hC kb_8 dX12_does_133 ?_
      refine r_iaload 135 hC dX12_does_135 (fun v14 => ?_)
      refine r_if_le 136 hC (tgt := 141) (by decide) dX12_does_136 ?_ ?_
      · refine r_aload_n 141 hC 2 rfl (Or.inl (by decide)) rfl dX12_does_141 ?_
        refine r_iload_n 142 hC 1 rfl rfl dX12_does_142 ?_
        refine r_iload_n 143 hC 0 rfl rfl dX12_does_143 ?_
        refine r_callVV 144 hC [(0, v2), (0, v4)] [] rfl vl_X12_293 rfl h0 (by decide) (Nat.le_of_ble_eq_true rfl) (by decide) (by decide) dX12_does_144 (t_X12_swaps x0 v2 v4 M h0) (fun M15 => ?_)
        refine r_iconst 147 hC (r32c rfl) dX12_does_147 ?_
        exact r_zreturn 148 hC hq (by decide) (by decide) dX12_does_148
      · exact r_sub [] rfl (hj139)
  refine r_sw_case 24 (tgt := 149) (off := 125) hC dX12_does_24 ⟨by decide, by decide, r32c rfl⟩ (by decide) (by decide) ?_ (fun hs18 => ?_)
  · refine r_iload_n 149 hC 1 rfl rfl dX12_does_149 ?_
    refine r_iload_n 150 hC 0 rfl rfl dX12_does_150 ?_
    refine r_jn (P := fun j166 => Bk E C 5 M (r0, M0) 166 [] [] M 0 0 (j166)) ?_ (fun j166 hj166 => ?_)
    · refine r_iconst 166 hC (r32c rfl) dX12_does_166 ?_
      exact r_zreturn 167 hC hq (by decide) (by decide) dX12_does_167
    refine r_icmp_eq 151 hC (tgt := 166) (by decide) dX12_does_151 ?_ ?_
    · exact r_sub [] rfl (hj166)
    · refine r_aload_n 154 hC 2 rfl (Or.inl (by decide)) rfl dX12_does_154 ?_
      refine r_get 155 hC fd_10_0 fl_X12_7 dX12_does_155 (fun v16 => ?_)
      refine r_bipush 158 hC kb_8 dX12_does_158 ?_
      refine r_iaload 160 hC dX12_does_160 (fun v17 => ?_)
      refine r_bipush 161 hC kb_12 dX12_does_161 ?_
      refine r_icmp_ne 163 hC (tgt := 168) (by decide) dX12_does_163 ?_ ?_
      · refine r_aload_n 168 hC 2 rfl (Or.inl (by decide)) rfl dX12_does_168 ?_
        refine r_get 169 hC fd_10_0 fl_X12_7 dX12_does_169 (fun v18 => ?_)
        refine r_iload_n 172 hC 3 rfl rfl dX12_does_172 ?_
        refine r_iaload 173 hC dX12_does_173 (fun v19 => ?_)
        refine r_bipush 174 hC kb_18 dX12_does_174 ?_
        refine r_jn (P := fun j213 => ∀ (q20 : Int), Bk E C 5 M (r0, M0) 213 [(0, 30, x0), (2, 0, v2), (3, 0, v4)] [(0, q20)] M 0 0 (j213 q20)) ?_ (fun j213 hj213 => ?_)
        · intro q20
          refine r_istore 213 hC (by decide) dX12_does_213 (r_eqls (ls' := [(4, 0, q20), (0, 30, x0), (2, 0, v2), (3, 0, v4)]) rfl ?_)
          refine r_iload 215 hC 0 rfl dX12_does_215 ?_
          refine r_jn (P := fun j230 => Bk E C 5 M (r0, M0) 230 [] [] M 0 0 (j230)) ?_ (fun j230 hj230 => ?_)
          · refine r_iconst 230 hC (r32c rfl) dX12_does_230 ?_
            exact r_zreturn 231 hC hq (by decide) (by decide) dX12_does_231
          refine r_if_eq 217 hC (tgt := 230) (by decide) dX12_does_217 ?_ ?_
          · exact r_sub [] rfl (hj230)
          · refine r_aload_n 220 hC 1 rfl (Or.inl (by decide)) rfl dX12_does_220 ?_
            refine r_iload_n 221 hC 2 rfl rfl dX12_does_221 ?_
            refine r_callVP 222 hC [(0, v2)] [] rfl vl_X12_303 rfl h0 (by decide) (Nat.le_of_ble_eq_true rfl) (by decide) (by decide) dX12_does_222 (t_X12_ownLeft x0 v2 M h0) (fun v21 => ?_)
            refine r_iload 225 hC 0 rfl dX12_does_225 ?_
            refine r_icmp_ge 227 hC (tgt := 232) (by decide) dX12_does_227 ?_ ?_
            · refine r_aload_n 232 hC 1 rfl (Or.inl (by decide)) rfl dX12_does_232 ?_
              refine r_iload_n 233 hC 2 rfl rfl dX12_does_233 ?_
              refine r_iload_n 234 hC 3 rfl rfl dX12_does_234 ?_
              refine r_iload 235 hC 0 rfl dX12_does_235 ?_
              refine r_callVV 237 hC [(0, v2), (0, v4), (0, q20)] [] rfl vl_X12_306 rfl h0 (by decide) (Nat.le_of_ble_eq_true rfl) (by decide) (by decide) dX12_does_237 (t_X12_lends x0 v2 v4 q20 M h0) (fun M22 => ?_)
              refine r_iconst 240 hC (r32c rfl) dX12_does_240 ?_
              exact r_zreturn 241 hC hq (by decide) (by decide) dX12_does_241
            · exact r_sub [] rfl (hj230)
        refine r_icmp_ne 176 hC (tgt := 190) (by decide) dX12_does_176 ?_ ?_
        · refine r_aload_n 190 hC 2 rfl (Or.inl (by decide)) rfl dX12_does_190 ?_
          refine r_get 191 hC fd_10_0 fl_X12_7 dX12_does_191 (fun v23 => ?_)
          refine r_sipush 194 hC ks_158 dX12_does_194 ?_
          refine r_bipush 197 hC kb_10 dX12_does_197 ?_
          refine r_iload_n 199 hC 1 rfl rfl dX12_does_199 ?_
          refine r_imul 200 hC dX12_does_200 ?_
          refine r_iadd 201 hC dX12_does_201 ?_
          refine r_iload_n 202 hC 0 rfl rfl dX12_does_202 ?_
          refine r_iadd 203 hC dX12_does_203 ?_
          refine r_iaload 204 hC dX12_does_204 (fun v24 => ?_)
          refine r_aload_n 205 hC 2 rfl (Or.inl (by decide)) rfl dX12_does_205 ?_
          refine r_iload_n 206 hC 1 rfl rfl dX12_does_206 ?_
          refine r_callVP 207 hC [(0, v2)] [(0, v24)] rfl vl_X12_303 rfl h0 (by decide) (Nat.le_of_ble_eq_true rfl) (by decide) (by decide) dX12_does_207 (t_X12_ownLeft x0 v2 M h0) (fun v25 => ?_)
          refine r_callSP 210 hC [(0, v24), (0, v25)] [] rfl sl_X12_142 rfl (by decide) (Nat.le_of_ble_eq_true rfl) (by decide) (by decide) dX12_does_210 (t_J9_min_7cf53 v24 v25 M) (fun v26 => ?_)
          exact r_sub [2, 1, 0] rfl (hj213 v26)
        · refine r_aload_n 179 hC 2 rfl (Or.inl (by decide)) rfl dX12_does_179 ?_
          refine r_get 180 hC fd_10_0 fl_X12_7 dX12_does_180 (fun v27 => ?_)
          refine r_iload_n 183 hC 3 rfl rfl dX12_does_183 ?_
          refine r_iconst 184 hC (r32c rfl) dX12_does_184 ?_
          refine r_iadd 185 hC dX12_does_185 ?_
          refine r_iaload 186 hC dX12_does_186 (fun v28 => ?_)
          refine r_goto 187 hC (tgt := 213) (by decide) dX12_does_187 ?_
          exact r_sub [2, 1, 0] rfl (hj213 v28)
      · exact r_sub [] rfl (hj166)
  refine r_sw_case 24 (tgt := 149) (off := 125) hC dX12_does_24 ⟨by decide, by decide, r32c rfl⟩ (by decide) (by decide) ?_ (fun hs19 => ?_)
  · refine r_iload_n 149 hC 1 rfl rfl dX12_does_149 ?_
    refine r_iload_n 150 hC 0 rfl rfl dX12_does_150 ?_
    refine r_jn (P := fun j166 => Bk E C 5 M (r0, M0) 166 [] [] M 0 0 (j166)) ?_ (fun j166 hj166 => ?_)
    · refine r_iconst 166 hC (r32c rfl) dX12_does_166 ?_
      exact r_zreturn 167 hC hq (by decide) (by decide) dX12_does_167
    refine r_icmp_eq 151 hC (tgt := 166) (by decide) dX12_does_151 ?_ ?_
    · exact r_sub [] rfl (hj166)
    · refine r_aload_n 154 hC 2 rfl (Or.inl (by decide)) rfl dX12_does_154 ?_
      refine r_get 155 hC fd_10_0 fl_X12_7 dX12_does_155 (fun v29 => ?_)
      refine r_bipush 158 hC kb_8 dX12_does_158 ?_
      refine r_iaload 160 hC dX12_does_160 (fun v30 => ?_)
      refine r_bipush 161 hC kb_12 dX12_does_161 ?_
      refine r_icmp_ne 163 hC (tgt := 168) (by decide) dX12_does_163 ?_ ?_
      · refine r_aload_n 168 hC 2 rfl (Or.inl (by decide)) rfl dX12_does_168 ?_
        refine r_get 169 hC fd_10_0 fl_X12_7 dX12_does_169 (fun v31 => ?_)
        refine r_iload_n 172 hC 3 rfl rfl dX12_does_172 ?_
        refine r_iaload 173 hC dX12_does_173 (fun v32 => ?_)
        refine r_bipush 174 hC kb_18 dX12_does_174 ?_
        refine r_jn (P := fun j213 => ∀ (q33 : Int), Bk E C 5 M (r0, M0) 213 [(0, 30, x0), (2, 0, v2), (3, 0, v4)] [(0, q33)] M 0 0 (j213 q33)) ?_ (fun j213 hj213 => ?_)
        · intro q33
          refine r_istore 213 hC (by decide) dX12_does_213 (r_eqls (ls' := [(4, 0, q33), (0, 30, x0), (2, 0, v2), (3, 0, v4)]) rfl ?_)
          refine r_iload 215 hC 0 rfl dX12_does_215 ?_
          refine r_jn (P := fun j230 => Bk E C 5 M (r0, M0) 230 [] [] M 0 0 (j230)) ?_ (fun j230 hj230 => ?_)
          · refine r_iconst 230 hC (r32c rfl) dX12_does_230 ?_
            exact r_zreturn 231 hC hq (by decide) (by decide) dX12_does_231
          refine r_if_eq 217 hC (tgt := 230) (by decide) dX12_does_217 ?_ ?_
          · exact r_sub [] rfl (hj230)
          · refine r_aload_n 220 hC 1 rfl (Or.inl (by decide)) rfl dX12_does_220 ?_
            refine r_iload_n 221 hC 2 rfl rfl dX12_does_221 ?_
            refine r_callVP 222 hC [(0, v2)] [] rfl vl_X12_303 rfl h0 (by decide) (Nat.le_of_ble_eq_true rfl) (by decide) (by decide) dX12_does_222 (t_X12_ownLeft x0 v2 M h0) (fun v34 => ?_)
            refine r_iload 225 hC 0 rfl dX12_does_225 ?_
            refine r_icmp_ge 227 hC (tgt := 232) (by decide) dX12_does_227 ?_ ?_
            · refine r_aload_n 232 hC 1 rfl (Or.inl (by decide)) rfl dX12_does_232 ?_
              refine r_iload_n 233 hC 2 rfl rfl dX12_does_233 ?_
              refine r_iload_n 234 hC 3 rfl rfl dX12_does_234 ?_
              refine r_iload 235 hC 0 rfl dX12_does_235 ?_
              refine r_callVV 237 hC [(0, v2), (0, v4), (0, q33)] [] rfl vl_X12_306 rfl h0 (by decide) (Nat.le_of_ble_eq_true rfl) (by decide) (by decide) dX12_does_237 (t_X12_lends x0 v2 v4 q33 M h0) (fun M35 => ?_)
              refine r_iconst 240 hC (r32c rfl) dX12_does_240 ?_
              exact r_zreturn 241 hC hq (by decide) (by decide) dX12_does_241
            · exact r_sub [] rfl (hj230)
        refine r_icmp_ne 176 hC (tgt := 190) (by decide) dX12_does_176 ?_ ?_
        · refine r_aload_n 190 hC 2 rfl (Or.inl (by decide)) rfl dX12_does_190 ?_
          refine r_get 191 hC fd_10_0 fl_X12_7 dX12_does_191 (fun v36 => ?_)
          refine r_sipush 194 hC ks_158 dX12_does_194 ?_
          refine r_bipush 197 hC kb_10 dX12_does_197 ?_
          refine r_iload_n 199 hC 1 rfl rfl dX12_does_199 ?_
          refine r_imul 200 hC dX12_does_200 ?_
          refine r_iadd 201 hC dX12_does_201 ?_
          refine r_iload_n 202 hC 0 rfl rfl dX12_does_202 ?_
          refine r_iadd 203 hC dX12_does_203 ?_
          refine r_iaload 204 hC dX12_does_204 (fun v37 => ?_)
          refine r_aload_n 205 hC 2 rfl (Or.inl (by decide)) rfl dX12_does_205 ?_
          refine r_iload_n 206 hC 1 rfl rfl dX12_does_206 ?_
          refine r_callVP 207 hC [(0, v2)] [(0, v37)] rfl vl_X12_303 rfl h0 (by decide) (Nat.le_of_ble_eq_true rfl) (by decide) (by decide) dX12_does_207 (t_X12_ownLeft x0 v2 M h0) (fun v38 => ?_)
          refine r_callSP 210 hC [(0, v37), (0, v38)] [] rfl sl_X12_142 rfl (by decide) (Nat.le_of_ble_eq_true rfl) (by decide) (by decide) dX12_does_210 (t_J9_min_7cf53 v37 v38 M) (fun v39 => ?_)
          exact r_sub [2, 1, 0] rfl (hj213 v39)
        · refine r_aload_n 179 hC 2 rfl (Or.inl (by decide)) rfl dX12_does_179 ?_
          refine r_get 180 hC fd_10_0 fl_X12_7 dX12_does_180 (fun v40 => ?_)
          refine r_iload_n 183 hC 3 rfl rfl dX12_does_183 ?_
          refine r_iconst 184 hC (r32c rfl) dX12_does_184 ?_
          refine r_iadd 185 hC dX12_does_185 ?_
          refine r_iaload 186 hC dX12_does_186 (fun v41 => ?_)
          refine r_goto 187 hC (tgt := 213) (by decide) dX12_does_187 ?_
          exact r_sub [2, 1, 0] rfl (hj213 v41)
      · exact r_sub [] rfl (hj166)
  refine r_sw_case 24 (tgt := 242) (off := 218) hC dX12_does_24 ⟨by decide, by decide, r32c rfl⟩ (by decide) (by decide) ?_ (fun hs20 => ?_)
  · refine r_aload_n 242 hC 2 rfl (Or.inl (by decide)) rfl dX12_does_242 ?_
    refine r_get 243 hC fd_10_0 fl_X12_7 dX12_does_243 (fun v42 => ?_)
    refine r_iconst 246 hC (r32c rfl) dX12_does_246 ?_
    refine r_iload_n 247 hC 1 rfl rfl dX12_does_247 ?_
    refine r_iastore 248 hC dX12_does_248 (fun M43 => ?_)
    refine r_iconst 249 hC (r32c rfl) dX12_does_249 ?_
    exact r_zreturn 250 hC hq (by decide) (by decide) dX12_does_250
  refine r_sw_case 24 (tgt := 251) (off := 227) hC dX12_does_24 ⟨by decide, by decide, r32c rfl⟩ (by decide) (by decide) ?_ (fun hs21 => ?_)
  · refine r_aload_n 251 hC 2 rfl (Or.inl (by decide)) rfl dX12_does_251 ?_
    refine r_callVI 252 hC [] [] rfl vl_X12_403 rfl h0 (by decide) (Nat.le_of_ble_eq_true rfl) (by decide) (by decide) dX12_does_252 (t_X12_draw x0 M h0) (fun v44 M45 => ?_)
    refine r_iload_n 255 hC 1 rfl rfl dX12_does_255 ?_
    refine r_icmp_lt 256 hC (tgt := 261) (by decide) dX12_does_256 ?_ ?_
    · refine r_aload_n 261 hC 2 rfl (Or.inl (by decide)) rfl dX12_does_261 ?_
      refine r_get 262 hC fd_10_0 fl_X12_7 dX12_does_262 (fun v46 => ?_)
      refine r_iconst 265 hC (r32c rfl) dX12_does_265 ?_
      refine r_dup2 266 hC ⟨by decide, by decide⟩ dX12_does_266 ?_
      refine r_iaload 267 hC dX12_does_267 (fun v47 => ?_)
      refine r_iconst 268 hC (r32c rfl) dX12_does_268 ?_
      refine r_idiv 269 hC dX12_does_269 (fun v48 => ?_)
      refine r_iastore 270 hC dX12_does_270 (fun M49 => ?_)
      refine r_aload_n 271 hC 2 rfl (Or.inl (by decide)) rfl dX12_does_271 ?_
      refine r_get 272 hC fd_10_39 fl_X12_71 dX12_does_272 (fun v50 => ?_)
      refine r_iconst 275 hC (r32c rfl) dX12_does_275 ?_
      refine r_dup2 276 hC ⟨by decide, by decide⟩ dX12_does_276 ?_
      refine r_iaload 277 hC dX12_does_277 (fun v51 => ?_)
      refine r_iconst 278 hC (r32c rfl) dX12_does_278 ?_
      refine r_iadd 279 hC dX12_does_279 ?_
      refine r_iastore 280 hC dX12_does_280 (fun M52 => ?_)
      refine r_iconst 281 hC (r32c rfl) dX12_does_281 ?_
      exact r_zreturn 282 hC hq (by decide) (by decide) dX12_does_282
    · refine r_iconst 259 hC (r32c rfl) dX12_does_259 ?_
      exact r_zreturn 260 hC hq (by decide) (by decide) dX12_does_260
  refine r_sw_case 24 (tgt := 283) (off := 259) hC dX12_does_24 ⟨by decide, by decide, r32c rfl⟩ (by decide) (by decide) ?_ (fun hs22 => ?_)
  · refine r_aload_n 283 hC 2 rfl (Or.inl (by decide)) rfl dX12_does_283 ?_
    refine r_get 284 hC fd_10_0 fl_X12_7 dX12_does_284 (fun v53 => ?_)
    refine r_bipush 287 hC kb_6 dX12_does_287 ?_
    refine r_iaload 289 hC dX12_does_289 (fun v54 => ?_)
    refine r_bipush 290 hC kb_99 dX12_does_290 ?_
    refine r_icmp_ne 292 hC (tgt := 297) (by decide) dX12_does_292 ?_ ?_
    · refine r_aload_n 297 hC 2 rfl (Or.inl (by decide)) rfl dX12_does_297 ?_
      refine r_callVV 298 hC [] [] rfl vl_X12_396 rfl h0 (by decide) (Nat.le_of_ble_eq_true rfl) (by decide) (by decide) dX12_does_298 (t_X12_passes x0 M h0) (fun M55 => ?_)
      refine r_aload_n 301 hC 2 rfl (Or.inl (by decide)) rfl dX12_does_301 ?_
      refine r_get 302 hC fd_10_39 fl_X12_71 dX12_does_302 (fun v56 => ?_)
      refine r_iconst 305 hC (r32c rfl) dX12_does_305 ?_
      refine r_dup2 306 hC ⟨by decide, by decide⟩ dX12_does_306 ?_
      refine r_iaload 307 hC dX12_does_307 (fun v57 => ?_)
      refine r_iconst 308 hC (r32c rfl) dX12_does_308 ?_
      refine r_iadd 309 hC dX12_does_309 ?_
      refine r_iastore 310 hC dX12_does_310 (fun M58 => ?_)
      refine r_iconst 311 hC (r32c rfl) dX12_does_311 ?_
      exact r_zreturn 312 hC hq (by decide) (by decide) dX12_does_312
    · refine r_iconst 295 hC (r32c rfl) dX12_does_295 ?_
      exact r_zreturn 296 hC hq (by decide) (by decide) dX12_does_296
  refine r_sw_dflt2 24 (tgt := 313) hC dX12_does_24 [11, 12, 13, 14, 15] (by decide) (by simp only [List.mem_cons, List.not_mem_nil, or_false]; omega) (by decide) ?_
  refine r_iconst 313 hC (r32c rfl) dX12_does_313 ?_
  exact r_zreturn 314 hC hq (by decide) (by decide) dX12_does_314

/-! WaterTurnsModel.holds(I)Z -/
theorem dX12_holds_0 : decode cX12_holds 0 = .ok (.aload_n 0, 1) := by decide +kernel
theorem dX12_holds_1 : decode cX12_holds 1 = .ok (.getfield 7, 3) := by decide +kernel
theorem dX12_holds_4 : decode cX12_holds 4 = .ok (.iload_n 1, 1) := by decide +kernel
theorem dX12_holds_5 : decode cX12_holds 5 = .ok (.iaload, 1) := by decide +kernel
theorem dX12_holds_6 : decode cX12_holds 6 = .ok (.sipush 2300, 3) := by decide +kernel
theorem dX12_holds_9 : decode cX12_holds 9 = .ok (.isub, 1) := by decide +kernel
theorem dX12_holds_10 : decode cX12_holds 10 = .ok (.istore_n 2, 1) := by decide +kernel
theorem dX12_holds_11 : decode cX12_holds 11 = .ok (.aload_n 0, 1) := by decide +kernel
theorem dX12_holds_12 : decode cX12_holds 12 = .ok (.getfield 7, 3) := by decide +kernel
theorem dX12_holds_15 : decode cX12_holds 15 = .ok (.iload_n 1, 1) := by decide +kernel
theorem dX12_holds_16 : decode cX12_holds 16 = .ok (.iconst 1, 1) := by decide +kernel
theorem dX12_holds_17 : decode cX12_holds 17 = .ok (.iadd, 1) := by decide +kernel
theorem dX12_holds_18 : decode cX12_holds 18 = .ok (.iaload, 1) := by decide +kernel
theorem dX12_holds_19 : decode cX12_holds 19 = .ok (.istore_n 3, 1) := by decide +kernel
theorem dX12_holds_20 : decode cX12_holds 20 = .ok (.iload_n 2, 1) := by decide +kernel
theorem dX12_holds_21 : decode cX12_holds 21 = .ok (.bipush 10, 2) := by decide +kernel
theorem dX12_holds_23 : decode cX12_holds 23 = .ok (.if_icmp .ne 24, 3) := by decide +kernel
theorem dX12_holds_26 : decode cX12_holds 26 = .ok (.aload_n 0, 1) := by decide +kernel
theorem dX12_holds_27 : decode cX12_holds 27 = .ok (.getfield 7, 3) := by decide +kernel
theorem dX12_holds_30 : decode cX12_holds 30 = .ok (.bipush 7, 2) := by decide +kernel
theorem dX12_holds_32 : decode cX12_holds 32 = .ok (.iaload, 1) := by decide +kernel
theorem dX12_holds_33 : decode cX12_holds 33 = .ok (.iload_n 3, 1) := by decide +kernel
theorem dX12_holds_34 : decode cX12_holds 34 = .ok (.ishr, 1) := by decide +kernel
theorem dX12_holds_35 : decode cX12_holds 35 = .ok (.iconst 1, 1) := by decide +kernel
theorem dX12_holds_36 : decode cX12_holds 36 = .ok (.iand, 1) := by decide +kernel
theorem dX12_holds_37 : decode cX12_holds 37 = .ok (.iconst 1, 1) := by decide +kernel
theorem dX12_holds_38 : decode cX12_holds 38 = .ok (.if_icmp .ne 7, 3) := by decide +kernel
theorem dX12_holds_41 : decode cX12_holds 41 = .ok (.iconst 1, 1) := by decide +kernel
theorem dX12_holds_42 : decode cX12_holds 42 = .ok (.goto 4, 3) := by decide +kernel
theorem dX12_holds_45 : decode cX12_holds 45 = .ok (.iconst 0, 1) := by decide +kernel
theorem dX12_holds_46 : decode cX12_holds 46 = .ok (.ireturn, 1) := by decide +kernel
theorem dX12_holds_47 : decode cX12_holds 47 = .ok (.aload_n 0, 1) := by decide +kernel
theorem dX12_holds_48 : decode cX12_holds 48 = .ok (.getfield 7, 3) := by decide +kernel
theorem dX12_holds_51 : decode cX12_holds 51 = .ok (.sipush 258, 3) := by decide +kernel
theorem dX12_holds_54 : decode cX12_holds 54 = .ok (.iload_n 3, 1) := by decide +kernel
theorem dX12_holds_55 : decode cX12_holds 55 = .ok (.iadd, 1) := by decide +kernel
theorem dX12_holds_56 : decode cX12_holds 56 = .ok (.iaload, 1) := by decide +kernel
theorem dX12_holds_57 : decode cX12_holds 57 = .ok (.istore 4, 2) := by decide +kernel
theorem dX12_holds_59 : decode cX12_holds 59 = .ok (.iload_n 2, 1) := by decide +kernel
theorem dX12_holds_60 : decode cX12_holds 60 = .ok (.bipush 28, 2) := by decide +kernel
theorem dX12_holds_62 : decode cX12_holds 62 = .ok (.if_icmp .ne 43, 3) := by decide +kernel
theorem dX12_holds_65 : decode cX12_holds 65 = .ok (.iconst 0, 1) := by decide +kernel
theorem dX12_holds_66 : decode cX12_holds 66 = .ok (.istore 4, 2) := by decide +kernel
theorem dX12_holds_68 : decode cX12_holds 68 = .ok (.iconst 0, 1) := by decide +kernel
theorem dX12_holds_69 : decode cX12_holds 69 = .ok (.istore 5, 2) := by decide +kernel
theorem dX12_holds_71 : decode cX12_holds 71 = .ok (.iload 5, 2) := by decide +kernel
theorem dX12_holds_73 : decode cX12_holds 73 = .ok (.bipush 10, 2) := by decide +kernel
theorem dX12_holds_75 : decode cX12_holds 75 = .ok (.if_icmp .ge 30, 3) := by decide +kernel
theorem dX12_holds_78 : decode cX12_holds 78 = .ok (.iload 4, 2) := by decide +kernel
theorem dX12_holds_80 : decode cX12_holds 80 = .ok (.aload_n 0, 1) := by decide +kernel
theorem dX12_holds_81 : decode cX12_holds 81 = .ok (.getfield 7, 3) := by decide +kernel
theorem dX12_holds_84 : decode cX12_holds 84 = .ok (.sipush 158, 3) := by decide +kernel
theorem dX12_holds_87 : decode cX12_holds 87 = .ok (.bipush 10, 2) := by decide +kernel
theorem dX12_holds_89 : decode cX12_holds 89 = .ok (.iload_n 3, 1) := by decide +kernel
theorem dX12_holds_90 : decode cX12_holds 90 = .ok (.imul, 1) := by decide +kernel
theorem dX12_holds_91 : decode cX12_holds 91 = .ok (.iadd, 1) := by decide +kernel
theorem dX12_holds_92 : decode cX12_holds 92 = .ok (.iload 5, 2) := by decide +kernel
theorem dX12_holds_94 : decode cX12_holds 94 = .ok (.iadd, 1) := by decide +kernel
theorem dX12_holds_95 : decode cX12_holds 95 = .ok (.iaload, 1) := by decide +kernel
theorem dX12_holds_96 : decode cX12_holds 96 = .ok (.iadd, 1) := by decide +kernel
theorem dX12_holds_97 : decode cX12_holds 97 = .ok (.istore 4, 2) := by decide +kernel
theorem dX12_holds_99 : decode cX12_holds 99 = .ok (.iinc 5 1, 3) := by decide +kernel
theorem dX12_holds_102 : decode cX12_holds 102 = .ok (.goto (-31), 3) := by decide +kernel
theorem dX12_holds_105 : decode cX12_holds 105 = .ok (.aload_n 0, 1) := by decide +kernel
theorem dX12_holds_106 : decode cX12_holds 106 = .ok (.getfield 7, 3) := by decide +kernel
theorem dX12_holds_109 : decode cX12_holds 109 = .ok (.iload_n 1, 1) := by decide +kernel
theorem dX12_holds_110 : decode cX12_holds 110 = .ok (.iconst 5, 1) := by decide +kernel
theorem dX12_holds_111 : decode cX12_holds 111 = .ok (.iadd, 1) := by decide +kernel
theorem dX12_holds_112 : decode cX12_holds 112 = .ok (.iaload, 1) := by decide +kernel
theorem dX12_holds_113 : decode cX12_holds 113 = .ok (.bipush 60, 2) := by decide +kernel
theorem dX12_holds_115 : decode cX12_holds 115 = .ok (.if_icmp .ne 24, 3) := by decide +kernel
theorem dX12_holds_118 : decode cX12_holds 118 = .ok (.iload 4, 2) := by decide +kernel
theorem dX12_holds_120 : decode cX12_holds 120 = .ok (.aload_n 0, 1) := by decide +kernel
theorem dX12_holds_121 : decode cX12_holds 121 = .ok (.getfield 7, 3) := by decide +kernel
theorem dX12_holds_124 : decode cX12_holds 124 = .ok (.iload_n 1, 1) := by decide +kernel
theorem dX12_holds_125 : decode cX12_holds 125 = .ok (.iconst 2, 1) := by decide +kernel
theorem dX12_holds_126 : decode cX12_holds 126 = .ok (.iadd, 1) := by decide +kernel
theorem dX12_holds_127 : decode cX12_holds 127 = .ok (.iaload, 1) := by decide +kernel
theorem dX12_holds_128 : decode cX12_holds 128 = .ok (.if_icmp .ge 7, 3) := by decide +kernel
theorem dX12_holds_131 : decode cX12_holds 131 = .ok (.iconst 1, 1) := by decide +kernel
theorem dX12_holds_132 : decode cX12_holds 132 = .ok (.goto 59, 3) := by decide +kernel
theorem dX12_holds_135 : decode cX12_holds 135 = .ok (.iconst 0, 1) := by decide +kernel
theorem dX12_holds_136 : decode cX12_holds 136 = .ok (.goto 55, 3) := by decide +kernel
theorem dX12_holds_139 : decode cX12_holds 139 = .ok (.aload_n 0, 1) := by decide +kernel
theorem dX12_holds_140 : decode cX12_holds 140 = .ok (.getfield 7, 3) := by decide +kernel
theorem dX12_holds_143 : decode cX12_holds 143 = .ok (.iload_n 1, 1) := by decide +kernel
theorem dX12_holds_144 : decode cX12_holds 144 = .ok (.iconst 5, 1) := by decide +kernel
theorem dX12_holds_145 : decode cX12_holds 145 = .ok (.iadd, 1) := by decide +kernel
theorem dX12_holds_146 : decode cX12_holds 146 = .ok (.iaload, 1) := by decide +kernel
theorem dX12_holds_147 : decode cX12_holds 147 = .ok (.bipush 62, 2) := by decide +kernel
theorem dX12_holds_149 : decode cX12_holds 149 = .ok (.if_icmp .ne 24, 3) := by decide +kernel
theorem dX12_holds_152 : decode cX12_holds 152 = .ok (.iload 4, 2) := by decide +kernel
theorem dX12_holds_154 : decode cX12_holds 154 = .ok (.aload_n 0, 1) := by decide +kernel
theorem dX12_holds_155 : decode cX12_holds 155 = .ok (.getfield 7, 3) := by decide +kernel
theorem dX12_holds_158 : decode cX12_holds 158 = .ok (.iload_n 1, 1) := by decide +kernel
theorem dX12_holds_159 : decode cX12_holds 159 = .ok (.iconst 2, 1) := by decide +kernel
theorem dX12_holds_160 : decode cX12_holds 160 = .ok (.iadd, 1) := by decide +kernel
theorem dX12_holds_161 : decode cX12_holds 161 = .ok (.iaload, 1) := by decide +kernel
theorem dX12_holds_162 : decode cX12_holds 162 = .ok (.if_icmp .le 7, 3) := by decide +kernel
theorem dX12_holds_165 : decode cX12_holds 165 = .ok (.iconst 1, 1) := by decide +kernel
theorem dX12_holds_166 : decode cX12_holds 166 = .ok (.goto 25, 3) := by decide +kernel
theorem dX12_holds_169 : decode cX12_holds 169 = .ok (.iconst 0, 1) := by decide +kernel
theorem dX12_holds_170 : decode cX12_holds 170 = .ok (.goto 21, 3) := by decide +kernel
theorem dX12_holds_173 : decode cX12_holds 173 = .ok (.iload 4, 2) := by decide +kernel
theorem dX12_holds_175 : decode cX12_holds 175 = .ok (.aload_n 0, 1) := by decide +kernel
theorem dX12_holds_176 : decode cX12_holds 176 = .ok (.getfield 7, 3) := by decide +kernel
theorem dX12_holds_179 : decode cX12_holds 179 = .ok (.iload_n 1, 1) := by decide +kernel
theorem dX12_holds_180 : decode cX12_holds 180 = .ok (.iconst 2, 1) := by decide +kernel
theorem dX12_holds_181 : decode cX12_holds 181 = .ok (.iadd, 1) := by decide +kernel
theorem dX12_holds_182 : decode cX12_holds 182 = .ok (.iaload, 1) := by decide +kernel
theorem dX12_holds_183 : decode cX12_holds 183 = .ok (.if_icmp .ne 7, 3) := by decide +kernel
theorem dX12_holds_186 : decode cX12_holds 186 = .ok (.iconst 1, 1) := by decide +kernel
theorem dX12_holds_187 : decode cX12_holds 187 = .ok (.goto 4, 3) := by decide +kernel
theorem dX12_holds_190 : decode cX12_holds 190 = .ok (.iconst 0, 1) := by decide +kernel
theorem dX12_holds_191 : decode cX12_holds 191 = .ok (.ireturn, 1) := by decide +kernel
set_option maxRecDepth 100000 in
theorem f_X12_holds_L71_ok {E : EnvT} {C : Cx} {Mi M : Mem} {x0 : Int} (h0 : x0 ≠ 0) (hC : CxOK E C cX12_holds 6 yX12_holds.cls 1 0 0) {r0 : Int} (hq : RQ E C 0 0 Mi (some .boolean) (some (0, r0)) M) {v5 x1 : Int} {k : Int → Option (Int)} (hk : ∀ q25, Bk E C 6 Mi r0 105 [(0, 30, x0), (1, 0, x1), (4, 0, q25)] [] M 0 0 (k q25)) : ∀ (n : Nat) (p20 : Int) (p21 : Int), Bk E C 6 Mi r0 71 [(0, 30, x0), (1, 0, x1), (3, 0, v5), (4, 0, p20), (5, 0, p21)] [] M 0 0 (f_X12_holds_L71 M v5 x0 x1 k n p20 p21) := by
  intro n
  induction n with
  | zero =>
    intro p20 p21
    exact r_none
  | succ n ih =>
    intro p20 p21
    rw [f_X12_holds_L71]
    refine r_iload 71 hC 4 rfl dX12_holds_71 ?_
    refine r_bipush 73 hC kb_10 dX12_holds_73 ?_
    refine r_icmp_ge 75 hC (tgt := 105) (by decide) dX12_holds_75 ?_ ?_
    · exact r_sub [0, 1, 3] rfl (hk p20)
    · refine r_iload 78 hC 3 rfl dX12_holds_78 ?_
      refine r_aload_n 80 hC 0 rfl (Or.inl (by decide)) rfl dX12_holds_80 ?_
      refine r_get 81 hC fd_10_0 fl_X12_7 dX12_holds_81 (fun v22 => ?_)
      refine r_sipush 84 hC ks_158 dX12_holds_84 ?_
      refine r_bipush 87 hC kb_10 dX12_holds_87 ?_
      refine r_iload_n 89 hC 2 rfl rfl dX12_holds_89 ?_
      refine r_imul 90 hC dX12_holds_90 ?_
      refine r_iadd 91 hC dX12_holds_91 ?_
      refine r_iload 92 hC 4 rfl dX12_holds_92 ?_
      refine r_iadd 94 hC dX12_holds_94 ?_
      refine r_iaload 95 hC dX12_holds_95 (fun v23 => ?_)
      refine r_iadd 96 hC dX12_holds_96 ?_
      refine r_istoreL 97 hC (by decide) dX12_holds_97 (fun v24 => r_eqls (ls' := [(4, 0, v24), (0, 30, x0), (1, 0, x1), (3, 0, v5), (5, 0, p21)]) rfl ?_)
      refine r_iinc 99 hC 4 rfl (by decide) dX12_holds_99 (r_eqls (ls' := [(5, 0, w32 (p21 + 1)), (4, 0, v24), (0, 30, x0), (1, 0, x1), (3, 0, v5)]) rfl ?_)
      refine r_goto 102 hC (tgt := 71) (by decide) dX12_holds_102 ?_
      exact r_sub [2, 3, 4, 1, 0] rfl (ih v24 (w32 (p21 + 1)))
set_option maxRecDepth 100000 in
theorem t_X12_holds (x0 x1 : Int) (M : Mem) (h0 : x0 ≠ 0) : MtP yX12_holds cX12_holds 6 (some .boolean) 1 0 0 [(30, x0), (0, x1)] M 0 (f_X12_holds x0 x1 M) := by
  refine mk_P (by decide +kernel) (Nat.le_of_ble_eq_true rfl) (fun E C r0 hC hq hin => ?_)
  refine r_eqls (ls' := [(0, 30, x0), (1, 0, x1)]) rfl ?_
  unfold f_X12_holds
  refine r_aload_n 0 hC 0 rfl (Or.inl (by decide)) rfl dX12_holds_0 ?_
  refine r_get 1 hC fd_10_0 fl_X12_7 dX12_holds_1 (fun v1 => ?_)
  refine r_iload_n 4 hC 1 rfl rfl dX12_holds_4 ?_
  refine r_iaload 5 hC dX12_holds_5 (fun v2 => ?_)
  refine r_sipush 6 hC ks_2300 dX12_holds_6 ?_
  refine r_isub 9 hC dX12_holds_9 ?_
  refine r_istore_nL 10 hC rfl (by decide) dX12_holds_10 (fun v3 => r_eqls (ls' := [(2, 0, v3), (0, 30, x0), (1, 0, x1)]) rfl ?_)
  refine r_aload_n 11 hC 1 rfl (Or.inl (by decide)) rfl dX12_holds_11 ?_
  refine r_get 12 hC fd_10_0 fl_X12_7 dX12_holds_12 (fun v4 => ?_)
  refine r_iload_n 15 hC 2 rfl rfl dX12_holds_15 ?_
  refine r_iconst 16 hC (r32c rfl) dX12_holds_16 ?_
  refine r_iadd 17 hC dX12_holds_17 ?_
  refine r_iaload 18 hC dX12_holds_18 (fun v5 => ?_)
  refine r_istore_n 19 hC rfl (by decide) dX12_holds_19 (r_eqls (ls' := [(3, 0, v5), (2, 0, v3), (0, 30, x0), (1, 0, x1)]) rfl ?_)
  refine r_iload_n 20 hC 1 rfl rfl dX12_holds_20 ?_
  refine r_bipush 21 hC kb_10 dX12_holds_21 ?_
  refine r_icmp_ne 23 hC (tgt := 47) (by decide) dX12_holds_23 ?_ ?_
  · refine r_aload_n 47 hC 2 rfl (Or.inl (by decide)) rfl dX12_holds_47 ?_
    refine r_get 48 hC fd_10_0 fl_X12_7 dX12_holds_48 (fun v6 => ?_)
    refine r_sipush 51 hC ks_258 dX12_holds_51 ?_
    refine r_iload_n 54 hC 0 rfl rfl dX12_holds_54 ?_
    refine r_iadd 55 hC dX12_holds_55 ?_
    refine r_iaload 56 hC dX12_holds_56 (fun v7 => ?_)
    refine r_istore 57 hC (by decide) dX12_holds_57 (r_eqls (ls' := [(4, 0, v7), (3, 0, v5), (2, 0, v3), (0, 30, x0), (1, 0, x1)]) rfl ?_)
    refine r_iload_n 59 hC 2 rfl rfl dX12_holds_59 ?_
    refine r_bipush 60 hC kb_28 dX12_holds_60 ?_
    refine r_jn (P := fun j105 => ∀ (q8 : Int), Bk E C 6 M r0 105 [(0, 30, x0), (1, 0, x1), (4, 0, q8)] [] M 0 0 (j105 q8)) ?_ (fun j105 hj105 => ?_)
    · intro q8
      refine r_aload_n 105 hC 0 rfl (Or.inl (by decide)) rfl dX12_holds_105 ?_
      refine r_get 106 hC fd_10_0 fl_X12_7 dX12_holds_106 (fun v9 => ?_)
      refine r_iload_n 109 hC 1 rfl rfl dX12_holds_109 ?_
      refine r_iconst 110 hC (r32c rfl) dX12_holds_110 ?_
      refine r_iadd 111 hC dX12_holds_111 ?_
      refine r_iaload 112 hC dX12_holds_112 (fun v10 => ?_)
      refine r_bipush 113 hC kb_60 dX12_holds_113 ?_
      refine r_jn (P := fun j191 => ∀ (q11 : Int), Bk E C 6 M r0 191 [] [(0, q11)] M 0 0 (j191 q11)) ?_ (fun j191 hj191 => ?_)
      · intro q11
        exact r_zreturnP 191 hC hq (by decide) (by decide) dX12_holds_191
      refine r_icmp_ne 115 hC (tgt := 139) (by decide) dX12_holds_115 ?_ ?_
      · refine r_aload_n 139 hC 0 rfl (Or.inl (by decide)) rfl dX12_holds_139 ?_
        refine r_get 140 hC fd_10_0 fl_X12_7 dX12_holds_140 (fun v12 => ?_)
        refine r_iload_n 143 hC 1 rfl rfl dX12_holds_143 ?_
        refine r_iconst 144 hC (r32c rfl) dX12_holds_144 ?_
        refine r_iadd 145 hC dX12_holds_145 ?_
        refine r_iaload 146 hC dX12_holds_146 (fun v13 => ?_)
        refine r_bipush 147 hC kb_62 dX12_holds_147 ?_
        refine r_icmp_ne 149 hC (tgt := 173) (by decide) dX12_holds_149 ?_ ?_
        · refine r_iload 173 hC 2 rfl dX12_holds_173 ?_
          refine r_aload_n 175 hC 0 rfl (Or.inl (by decide)) rfl dX12_holds_175 ?_
          refine r_get 176 hC fd_10_0 fl_X12_7 dX12_holds_176 (fun v14 => ?_)
          refine r_iload_n 179 hC 1 rfl rfl dX12_holds_179 ?_
          refine r_iconst 180 hC (r32c rfl) dX12_holds_180 ?_
          refine r_iadd 181 hC dX12_holds_181 ?_
          refine r_iaload 182 hC dX12_holds_182 (fun v15 => ?_)
          refine r_icmp_ne 183 hC (tgt := 190) (by decide) dX12_holds_183 ?_ ?_
          · refine r_iconst 190 hC (r32c rfl) dX12_holds_190 ?_
            exact r_sub [] rfl (hj191 0)
          · refine r_iconst 186 hC (r32c rfl) dX12_holds_186 ?_
            refine r_goto 187 hC (tgt := 191) (by decide) dX12_holds_187 ?_
            exact r_sub [] rfl (hj191 1)
        · refine r_iload 152 hC 2 rfl dX12_holds_152 ?_
          refine r_aload_n 154 hC 0 rfl (Or.inl (by decide)) rfl dX12_holds_154 ?_
          refine r_get 155 hC fd_10_0 fl_X12_7 dX12_holds_155 (fun v16 => ?_)
          refine r_iload_n 158 hC 1 rfl rfl dX12_holds_158 ?_
          refine r_iconst 159 hC (r32c rfl) dX12_holds_159 ?_
          refine r_iadd 160 hC dX12_holds_160 ?_
          refine r_iaload 161 hC dX12_holds_161 (fun v17 => ?_)
          refine r_icmp_le 162 hC (tgt := 169) (by decide) dX12_holds_162 ?_ ?_
          · refine r_iconst 169 hC (r32c rfl) dX12_holds_169 ?_
            refine r_goto 170 hC (tgt := 191) (by decide) dX12_holds_170 ?_
            exact r_sub [] rfl (hj191 0)
          · refine r_iconst 165 hC (r32c rfl) dX12_holds_165 ?_
            refine r_goto 166 hC (tgt := 191) (by decide) dX12_holds_166 ?_
            exact r_sub [] rfl (hj191 1)
      · refine r_iload 118 hC 2 rfl dX12_holds_118 ?_
        refine r_aload_n 120 hC 0 rfl (Or.inl (by decide)) rfl dX12_holds_120 ?_
        refine r_get 121 hC fd_10_0 fl_X12_7 dX12_holds_121 (fun v18 => ?_)
        refine r_iload_n 124 hC 1 rfl rfl dX12_holds_124 ?_
        refine r_iconst 125 hC (r32c rfl) dX12_holds_125 ?_
        refine r_iadd 126 hC dX12_holds_126 ?_
        refine r_iaload 127 hC dX12_holds_127 (fun v19 => ?_)
        refine r_icmp_ge 128 hC (tgt := 135) (by decide) dX12_holds_128 ?_ ?_
        · refine r_iconst 135 hC (r32c rfl) dX12_holds_135 ?_
          refine r_goto 136 hC (tgt := 191) (by decide) dX12_holds_136 ?_
          exact r_sub [] rfl (hj191 0)
        · refine r_iconst 131 hC (r32c rfl) dX12_holds_131 ?_
          refine r_goto 132 hC (tgt := 191) (by decide) dX12_holds_132 ?_
          exact r_sub [] rfl (hj191 1)
    refine r_icmp_ne 62 hC (tgt := 105) (by decide) dX12_holds_62 ?_ ?_
    · exact r_sub [3, 4, 0] rfl (hj105 v7)
    · refine r_iconst 65 hC (r32c rfl) dX12_holds_65 ?_
      refine r_istore 66 hC (by decide) dX12_holds_66 (r_eqls (ls' := [(4, 0, 0), (3, 0, v5), (2, 0, v3), (0, 30, x0), (1, 0, x1)]) rfl ?_)
      refine r_iconst 68 hC (r32c rfl) dX12_holds_68 ?_
      refine r_istore 69 hC (by decide) dX12_holds_69 (r_eqls (ls' := [(5, 0, 0), (4, 0, 0), (3, 0, v5), (2, 0, v3), (0, 30, x0), (1, 0, x1)]) rfl ?_)
      refine r_sub [4, 5, 2, 1, 0] rfl (f_X12_holds_L71_ok h0 hC hq (fun q26 => ?_) KF 0 0)
      · exact hj105 q26
  · refine r_aload_n 26 hC 2 rfl (Or.inl (by decide)) rfl dX12_holds_26 ?_
    refine r_get 27 hC fd_10_0 fl_X12_7 dX12_holds_27 (fun v27 => ?_)
    refine r_bipush 30 hC kb_7 dX12_holds_30 ?_
    refine r_iaload 32 hC dX12_holds_32 (fun v28 => ?_)
    refine r_iload_n 33 hC 0 rfl rfl dX12_holds_33 ?_
    refine r_ishr 34 hC dX12_holds_34 ?_
    refine r_iconst 35 hC (r32c rfl) dX12_holds_35 ?_
    refine r_iand 36 hC dX12_holds_36 ?_
    refine r_iconst 37 hC (r32c rfl) dX12_holds_37 ?_
    refine r_jn (P := fun j46 => ∀ (q29 : Int), Bk E C 6 M r0 46 [] [(0, q29)] M 0 0 (j46 q29)) ?_ (fun j46 hj46 => ?_)
    · intro q29
      exact r_zreturnP 46 hC hq (by decide) (by decide) dX12_holds_46
    refine r_icmp_ne 38 hC (tgt := 45) (by decide) dX12_holds_38 ?_ ?_
    · refine r_iconst 45 hC (r32c rfl) dX12_holds_45 ?_
      exact r_sub [] rfl (hj46 0)
    · refine r_iconst 41 hC (r32c rfl) dX12_holds_41 ?_
      refine r_goto 42 hC (tgt := 46) (by decide) dX12_holds_42 ?_
      exact r_sub [] rfl (hj46 1)

/-! WaterTurnsModel.behindEnds(I)I -/
theorem dX12_behindEnds_0 : decode cX12_behindEnds 0 = .ok (.iload_n 1, 1) := by decide +kernel
theorem dX12_behindEnds_1 : decode cX12_behindEnds 1 = .ok (.istore_n 2, 1) := by decide +kernel
theorem dX12_behindEnds_2 : decode cX12_behindEnds 2 = .ok (.iload_n 2, 1) := by decide +kernel
theorem dX12_behindEnds_3 : decode cX12_behindEnds 3 = .ok (.aload_n 0, 1) := by decide +kernel
theorem dX12_behindEnds_4 : decode cX12_behindEnds 4 = .ok (.getfield 7, 3) := by decide +kernel
theorem dX12_behindEnds_7 : decode cX12_behindEnds 7 = .ok (.bipush 9, 2) := by decide +kernel
theorem dX12_behindEnds_9 : decode cX12_behindEnds 9 = .ok (.iaload, 1) := by decide +kernel
theorem dX12_behindEnds_10 : decode cX12_behindEnds 10 = .ok (.if_icmp .ge 108, 3) := by decide +kernel
theorem dX12_behindEnds_13 : decode cX12_behindEnds 13 = .ok (.aload_n 0, 1) := by decide +kernel
theorem dX12_behindEnds_14 : decode cX12_behindEnds 14 = .ok (.getfield 7, 3) := by decide +kernel
theorem dX12_behindEnds_17 : decode cX12_behindEnds 17 = .ok (.sipush 270, 3) := by decide +kernel
theorem dX12_behindEnds_20 : decode cX12_behindEnds 20 = .ok (.bipush 6, 2) := by decide +kernel
theorem dX12_behindEnds_22 : decode cX12_behindEnds 22 = .ok (.iload_n 2, 1) := by decide +kernel
theorem dX12_behindEnds_23 : decode cX12_behindEnds 23 = .ok (.imul, 1) := by decide +kernel
theorem dX12_behindEnds_24 : decode cX12_behindEnds 24 = .ok (.iadd, 1) := by decide +kernel
theorem dX12_behindEnds_25 : decode cX12_behindEnds 25 = .ok (.iaload, 1) := by decide +kernel
theorem dX12_behindEnds_26 : decode cX12_behindEnds 26 = .ok (.bipush 25, 2) := by decide +kernel
theorem dX12_behindEnds_28 : decode cX12_behindEnds 28 = .ok (.if_icmp .ne 90, 3) := by decide +kernel
theorem dX12_behindEnds_31 : decode cX12_behindEnds 31 = .ok (.aload_n 0, 1) := by decide +kernel
theorem dX12_behindEnds_32 : decode cX12_behindEnds 32 = .ok (.getfield 7, 3) := by decide +kernel
theorem dX12_behindEnds_35 : decode cX12_behindEnds 35 = .ok (.sipush 270, 3) := by decide +kernel
theorem dX12_behindEnds_38 : decode cX12_behindEnds 38 = .ok (.bipush 6, 2) := by decide +kernel
theorem dX12_behindEnds_40 : decode cX12_behindEnds 40 = .ok (.iload_n 2, 1) := by decide +kernel
theorem dX12_behindEnds_41 : decode cX12_behindEnds 41 = .ok (.imul, 1) := by decide +kernel
theorem dX12_behindEnds_42 : decode cX12_behindEnds 42 = .ok (.iadd, 1) := by decide +kernel
theorem dX12_behindEnds_43 : decode cX12_behindEnds 43 = .ok (.iconst 4, 1) := by decide +kernel
theorem dX12_behindEnds_44 : decode cX12_behindEnds 44 = .ok (.iadd, 1) := by decide +kernel
theorem dX12_behindEnds_45 : decode cX12_behindEnds 45 = .ok (.iaload, 1) := by decide +kernel
theorem dX12_behindEnds_46 : decode cX12_behindEnds 46 = .ok (.istore_n 3, 1) := by decide +kernel
theorem dX12_behindEnds_47 : decode cX12_behindEnds 47 = .ok (.aload_n 0, 1) := by decide +kernel
theorem dX12_behindEnds_48 : decode cX12_behindEnds 48 = .ok (.getfield 7, 3) := by decide +kernel
theorem dX12_behindEnds_51 : decode cX12_behindEnds 51 = .ok (.sipush 270, 3) := by decide +kernel
theorem dX12_behindEnds_54 : decode cX12_behindEnds 54 = .ok (.bipush 6, 2) := by decide +kernel
theorem dX12_behindEnds_56 : decode cX12_behindEnds 56 = .ok (.iload_n 3, 1) := by decide +kernel
theorem dX12_behindEnds_57 : decode cX12_behindEnds 57 = .ok (.imul, 1) := by decide +kernel
theorem dX12_behindEnds_58 : decode cX12_behindEnds 58 = .ok (.iadd, 1) := by decide +kernel
theorem dX12_behindEnds_59 : decode cX12_behindEnds 59 = .ok (.iaload, 1) := by decide +kernel
theorem dX12_behindEnds_60 : decode cX12_behindEnds 60 = .ok (.bipush 24, 2) := by decide +kernel
theorem dX12_behindEnds_62 : decode cX12_behindEnds 62 = .ok (.if_icmp .ne 16, 3) := by decide +kernel
theorem dX12_behindEnds_65 : decode cX12_behindEnds 65 = .ok (.aload_n 0, 1) := by decide +kernel
theorem dX12_behindEnds_66 : decode cX12_behindEnds 66 = .ok (.getfield 68, 3) := by decide +kernel
theorem dX12_behindEnds_69 : decode cX12_behindEnds 69 = .ok (.iload_n 3, 1) := by decide +kernel
theorem dX12_behindEnds_70 : decode cX12_behindEnds 70 = .ok (.iaload, 1) := by decide +kernel
theorem dX12_behindEnds_71 : decode cX12_behindEnds 71 = .ok (.ifCond .le 7, 3) := by decide +kernel
theorem dX12_behindEnds_74 : decode cX12_behindEnds 74 = .ok (.iconst 1, 1) := by decide +kernel
theorem dX12_behindEnds_75 : decode cX12_behindEnds 75 = .ok (.goto 4, 3) := by decide +kernel
theorem dX12_behindEnds_78 : decode cX12_behindEnds 78 = .ok (.iconst 0, 1) := by decide +kernel
theorem dX12_behindEnds_79 : decode cX12_behindEnds 79 = .ok (.istore 4, 2) := by decide +kernel
theorem dX12_behindEnds_81 : decode cX12_behindEnds 81 = .ok (.aload_n 0, 1) := by decide +kernel
theorem dX12_behindEnds_82 : decode cX12_behindEnds 82 = .ok (.getfield 68, 3) := by decide +kernel
theorem dX12_behindEnds_85 : decode cX12_behindEnds 85 = .ok (.iload_n 3, 1) := by decide +kernel
theorem dX12_behindEnds_86 : decode cX12_behindEnds 86 = .ok (.dup2, 1) := by decide +kernel
theorem dX12_behindEnds_87 : decode cX12_behindEnds 87 = .ok (.iaload, 1) := by decide +kernel
theorem dX12_behindEnds_88 : decode cX12_behindEnds 88 = .ok (.iload 4, 2) := by decide +kernel
theorem dX12_behindEnds_90 : decode cX12_behindEnds 90 = .ok (.ifCond .eq 7, 3) := by decide +kernel
theorem dX12_behindEnds_93 : decode cX12_behindEnds 93 = .ok (.iconst 1, 1) := by decide +kernel
theorem dX12_behindEnds_94 : decode cX12_behindEnds 94 = .ok (.goto 4, 3) := by decide +kernel
theorem dX12_behindEnds_97 : decode cX12_behindEnds 97 = .ok (.iconst 0, 1) := by decide +kernel
theorem dX12_behindEnds_98 : decode cX12_behindEnds 98 = .ok (.isub, 1) := by decide +kernel
theorem dX12_behindEnds_99 : decode cX12_behindEnds 99 = .ok (.iastore, 1) := by decide +kernel
theorem dX12_behindEnds_100 : decode cX12_behindEnds 100 = .ok (.iload 4, 2) := by decide +kernel
theorem dX12_behindEnds_102 : decode cX12_behindEnds 102 = .ok (.ifCond .eq 9, 3) := by decide +kernel
theorem dX12_behindEnds_105 : decode cX12_behindEnds 105 = .ok (.iload_n 3, 1) := by decide +kernel
theorem dX12_behindEnds_106 : decode cX12_behindEnds 106 = .ok (.iconst 1, 1) := by decide +kernel
theorem dX12_behindEnds_107 : decode cX12_behindEnds 107 = .ok (.iadd, 1) := by decide +kernel
theorem dX12_behindEnds_108 : decode cX12_behindEnds 108 = .ok (.goto 6, 3) := by decide +kernel
theorem dX12_behindEnds_111 : decode cX12_behindEnds 111 = .ok (.iload_n 2, 1) := by decide +kernel
theorem dX12_behindEnds_112 : decode cX12_behindEnds 112 = .ok (.iconst 1, 1) := by decide +kernel
theorem dX12_behindEnds_113 : decode cX12_behindEnds 113 = .ok (.iadd, 1) := by decide +kernel
theorem dX12_behindEnds_114 : decode cX12_behindEnds 114 = .ok (.istore_n 2, 1) := by decide +kernel
theorem dX12_behindEnds_115 : decode cX12_behindEnds 115 = .ok (.goto (-113), 3) := by decide +kernel
theorem dX12_behindEnds_118 : decode cX12_behindEnds 118 = .ok (.iload_n 2, 1) := by decide +kernel
theorem dX12_behindEnds_119 : decode cX12_behindEnds 119 = .ok (.ireturn, 1) := by decide +kernel
set_option maxRecDepth 100000 in
theorem f_X12_behindEnds_L2_ok {E : EnvT} {C : Cx} {Mi : Mem} {x0 : Int} (h0 : x0 ≠ 0) (hC : CxOK E C cX12_behindEnds 5 yX12_behindEnds.cls 1 0 0) {r0 : Int} {M0 : Mem} (hq : RQ E C 0 0 Mi (some .int) (some (0, r0)) M0) {k : Int → Mem → Option (Int × Mem)} (hk : ∀ q19 M20, Bk E C 5 Mi (r0, M0) 118 [(2, 0, q19)] [] M20 0 0 (k q19 M20)) : ∀ (n : Nat) (p1 : Int) (M2 : Mem), Bk E C 5 Mi (r0, M0) 2 [(0, 30, x0), (2, 0, p1)] [] M2 0 0 (f_X12_behindEnds_L2 x0 k n p1 M2) := by
  intro n
  induction n with
  | zero =>
    intro p1 M2
    exact r_none
  | succ n ih =>
    intro p1 M2
    rw [f_X12_behindEnds_L2]
    refine r_iload_n 2 hC 1 rfl rfl dX12_behindEnds_2 ?_
    refine r_aload_n 3 hC 0 rfl (Or.inl (by decide)) rfl dX12_behindEnds_3 ?_
    refine r_get 4 hC fd_10_0 fl_X12_7 dX12_behindEnds_4 (fun v3 => ?_)
    refine r_bipush 7 hC kb_9 dX12_behindEnds_7 ?_
    refine r_iaload 9 hC dX12_behindEnds_9 (fun v4 => ?_)
    refine r_icmp_ge 10 hC (tgt := 118) (by decide) dX12_behindEnds_10 ?_ ?_
    · exact r_sub [1] rfl (hk p1 M2)
    · refine r_aload_n 13 hC 0 rfl (Or.inl (by decide)) rfl dX12_behindEnds_13 ?_
      refine r_get 14 hC fd_10_0 fl_X12_7 dX12_behindEnds_14 (fun v5 => ?_)
      refine r_sipush 17 hC ks_270 dX12_behindEnds_17 ?_
      refine r_bipush 20 hC kb_6 dX12_behindEnds_20 ?_
      refine r_iload_n 22 hC 1 rfl rfl dX12_behindEnds_22 ?_
      refine r_imul 23 hC dX12_behindEnds_23 ?_
      refine r_iadd 24 hC dX12_behindEnds_24 ?_
      refine r_iaload 25 hC dX12_behindEnds_25 (fun v6 => ?_)
      refine r_bipush 26 hC kb_25 dX12_behindEnds_26 ?_
      refine r_icmp_ne 28 hC (tgt := 118) (by decide) dX12_behindEnds_28 ?_ ?_
      · exact r_sub [1] rfl (hk p1 M2)
      · refine r_aload_n 31 hC 0 rfl (Or.inl (by decide)) rfl dX12_behindEnds_31 ?_
        refine r_get 32 hC fd_10_0 fl_X12_7 dX12_behindEnds_32 (fun v7 => ?_)
        refine r_sipush 35 hC ks_270 dX12_behindEnds_35 ?_
        refine r_bipush 38 hC kb_6 dX12_behindEnds_38 ?_
        refine r_iload_n 40 hC 1 rfl rfl dX12_behindEnds_40 ?_
        refine r_imul 41 hC dX12_behindEnds_41 ?_
        refine r_iadd 42 hC dX12_behindEnds_42 ?_
        refine r_iconst 43 hC (r32c rfl) dX12_behindEnds_43 ?_
        refine r_iadd 44 hC dX12_behindEnds_44 ?_
        refine r_iaload 45 hC dX12_behindEnds_45 (fun v8 => ?_)
        refine r_istore_n 46 hC rfl (by decide) dX12_behindEnds_46 (r_eqls (ls' := [(3, 0, v8), (0, 30, x0), (2, 0, p1)]) rfl ?_)
        refine r_aload_n 47 hC 1 rfl (Or.inl (by decide)) rfl dX12_behindEnds_47 ?_
        refine r_get 48 hC fd_10_0 fl_X12_7 dX12_behindEnds_48 (fun v9 => ?_)
        refine r_sipush 51 hC ks_270 dX12_behindEnds_51 ?_
        refine r_bipush 54 hC kb_6 dX12_behindEnds_54 ?_
        refine r_iload_n 56 hC 0 rfl rfl dX12_behindEnds_56 ?_
        refine r_imul 57 hC dX12_behindEnds_57 ?_
        refine r_iadd 58 hC dX12_behindEnds_58 ?_
        refine r_iaload 59 hC dX12_behindEnds_59 (fun v10 => ?_)
        refine r_bipush 60 hC kb_24 dX12_behindEnds_60 ?_
        refine r_jn (P := fun j79 => ∀ (q11 : Int), Bk E C 5 Mi (r0, M0) 79 [(0, 30, x0), (2, 0, p1), (3, 0, v8)] [(0, q11)] M2 0 0 (j79 q11)) ?_ (fun j79 hj79 => ?_)
        · intro q11
          refine r_istore 79 hC (by decide) dX12_behindEnds_79 (r_eqls (ls' := [(4, 0, q11), (0, 30, x0), (2, 0, p1), (3, 0, v8)]) rfl ?_)
          refine r_aload_n 81 hC 1 rfl (Or.inl (by decide)) rfl dX12_behindEnds_81 ?_
          refine r_get 82 hC fd_10_38 fl_X12_68 dX12_behindEnds_82 (fun v12 => ?_)
          refine r_iload_n 85 hC 3 rfl rfl dX12_behindEnds_85 ?_
          refine r_dup2 86 hC ⟨by decide, by decide⟩ dX12_behindEnds_86 ?_
          refine r_iaload 87 hC dX12_behindEnds_87 (fun v13 => ?_)
          refine r_iload 88 hC 0 rfl dX12_behindEnds_88 ?_
          refine r_jn (P := fun j98 => ∀ (q14 : Int), Bk E C 5 Mi (r0, M0) 98 [(0, 30, x0), (2, 0, p1), (3, 0, v8), (4, 0, q11)] [(0, q14), (0, v13), (0, v8), (10, v12)] M2 0 0 (j98 q14)) ?_ (fun j98 hj98 => ?_)
          · intro q14
            refine r_isub 98 hC dX12_behindEnds_98 ?_
            refine r_iastore 99 hC dX12_behindEnds_99 (fun M15 => ?_)
            refine r_iload 100 hC 3 rfl dX12_behindEnds_100 ?_
            refine r_jn (P := fun j114 => ∀ (q16 : Int), Bk E C 5 Mi (r0, M0) 114 [(0, 30, x0)] [(0, q16)] M15 0 0 (j114 q16)) ?_ (fun j114 hj114 => ?_)
            · intro q16
              refine r_istore_n 114 hC rfl (by decide) dX12_behindEnds_114 (r_eqls (ls' := [(2, 0, q16), (0, 30, x0)]) rfl ?_)
              refine r_goto 115 hC (tgt := 2) (by decide) dX12_behindEnds_115 ?_
              exact r_sub [1, 0] rfl (ih q16 M15)
            refine r_if_eq 102 hC (tgt := 111) (by decide) dX12_behindEnds_102 ?_ ?_
            · refine r_iload_n 111 hC 1 rfl rfl dX12_behindEnds_111 ?_
              refine r_iconst 112 hC (r32c rfl) dX12_behindEnds_112 ?_
              refine r_iadd 113 hC dX12_behindEnds_113 ?_
              exact r_sub [0] rfl (hj114 (w32 (p1 + 1)))
            · refine r_iload_n 105 hC 2 rfl rfl dX12_behindEnds_105 ?_
              refine r_iconst 106 hC (r32c rfl) dX12_behindEnds_106 ?_
              refine r_iadd 107 hC dX12_behindEnds_107 ?_
              refine r_goto 108 hC (tgt := 114) (by decide) dX12_behindEnds_108 ?_
              exact r_sub [0] rfl (hj114 (w32 (v8 + 1)))
          refine r_if_eq 90 hC (tgt := 97) (by decide) dX12_behindEnds_90 ?_ ?_
          · refine r_iconst 97 hC (r32c rfl) dX12_behindEnds_97 ?_
            exact r_sub [1, 2, 3, 0] rfl (hj98 0)
          · refine r_iconst 93 hC (r32c rfl) dX12_behindEnds_93 ?_
            refine r_goto 94 hC (tgt := 98) (by decide) dX12_behindEnds_94 ?_
            exact r_sub [1, 2, 3, 0] rfl (hj98 1)
        refine r_jn (P := fun j78 => Bk E C 5 Mi (r0, M0) 78 [(0, 30, x0), (2, 0, p1), (3, 0, v8)] [] M2 0 0 (j78)) ?_ (fun j78 hj78 => ?_)
        · refine r_iconst 78 hC (r32c rfl) dX12_behindEnds_78 ?_
          exact hj79 0
        refine r_icmp_ne 62 hC (tgt := 78) (by decide) dX12_behindEnds_62 ?_ ?_
        · exact r_sub [1, 2, 0] rfl (hj78)
        · refine r_aload_n 65 hC 1 rfl (Or.inl (by decide)) rfl dX12_behindEnds_65 ?_
          refine r_get 66 hC fd_10_38 fl_X12_68 dX12_behindEnds_66 (fun v17 => ?_)
          refine r_iload_n 69 hC 0 rfl rfl dX12_behindEnds_69 ?_
          refine r_iaload 70 hC dX12_behindEnds_70 (fun v18 => ?_)
          refine r_if_le 71 hC (tgt := 78) (by decide) dX12_behindEnds_71 ?_ ?_
          · exact r_sub [1, 2, 0] rfl (hj78)
          · refine r_iconst 74 hC (r32c rfl) dX12_behindEnds_74 ?_
            refine r_goto 75 hC (tgt := 79) (by decide) dX12_behindEnds_75 ?_
            exact r_sub [1, 2, 0] rfl (hj79 1)
set_option maxRecDepth 100000 in
theorem t_X12_behindEnds (x0 x1 : Int) (M : Mem) (h0 : x0 ≠ 0) : MtI yX12_behindEnds cX12_behindEnds 5 (some .int) 1 0 0 [(30, x0), (0, x1)] M 0 (f_X12_behindEnds x0 x1 M) := by
  refine mk_I (by decide +kernel) (Nat.le_of_ble_eq_true rfl) (fun E C r0 M0 hC hq hin => ?_)
  refine r_eqls (ls' := [(0, 30, x0), (1, 0, x1)]) rfl ?_
  unfold f_X12_behindEnds
  refine r_iload_n 0 hC 1 rfl rfl dX12_behindEnds_0 ?_
  refine r_istore_n 1 hC rfl (by decide) dX12_behindEnds_1 (r_eqls (ls' := [(2, 0, x1), (0, 30, x0), (1, 0, x1)]) rfl ?_)
  refine r_sub [1, 0] rfl (f_X12_behindEnds_L2_ok h0 hC hq (fun q21 M22 => ?_) KF x1 M)
  · refine r_iload_n 118 hC 0 rfl rfl dX12_behindEnds_118 ?_
    exact r_ireturn 119 hC hq (by decide) (by decide) dX12_behindEnds_119

/-! WaterTurnsModel.lives(I)V -/
theorem dX12_lives_0 : decode cX12_lives 0 = .ok (.aload_n 0, 1) := by decide +kernel
theorem dX12_lives_1 : decode cX12_lives 1 = .ok (.iload_n 1, 1) := by decide +kernel
theorem dX12_lives_2 : decode cX12_lives 2 = .ok (.putfield 399, 3) := by decide +kernel
theorem dX12_lives_5 : decode cX12_lives 5 = .ok (.aload_n 0, 1) := by decide +kernel
theorem dX12_lives_6 : decode cX12_lives 6 = .ok (.iconst 0, 1) := by decide +kernel
theorem dX12_lives_7 : decode cX12_lives 7 = .ok (.putfield 406, 3) := by decide +kernel
theorem dX12_lives_10 : decode cX12_lives 10 = .ok (.iconst 0, 1) := by decide +kernel
theorem dX12_lives_11 : decode cX12_lives 11 = .ok (.istore_n 2, 1) := by decide +kernel
theorem dX12_lives_12 : decode cX12_lives 12 = .ok (.iload_n 2, 1) := by decide +kernel
theorem dX12_lives_13 : decode cX12_lives 13 = .ok (.iconst 4, 1) := by decide +kernel
theorem dX12_lives_14 : decode cX12_lives 14 = .ok (.if_icmp .ge 16, 3) := by decide +kernel
theorem dX12_lives_17 : decode cX12_lives 17 = .ok (.aload_n 0, 1) := by decide +kernel
theorem dX12_lives_18 : decode cX12_lives 18 = .ok (.getfield 71, 3) := by decide +kernel
theorem dX12_lives_21 : decode cX12_lives 21 = .ok (.iload_n 2, 1) := by decide +kernel
theorem dX12_lives_22 : decode cX12_lives 22 = .ok (.iconst 0, 1) := by decide +kernel
theorem dX12_lives_23 : decode cX12_lives 23 = .ok (.iastore, 1) := by decide +kernel
theorem dX12_lives_24 : decode cX12_lives 24 = .ok (.iinc 2 1, 3) := by decide +kernel
theorem dX12_lives_27 : decode cX12_lives 27 = .ok (.goto (-15), 3) := by decide +kernel
theorem dX12_lives_30 : decode cX12_lives 30 = .ok (.iconst 0, 1) := by decide +kernel
theorem dX12_lives_31 : decode cX12_lives 31 = .ok (.istore_n 2, 1) := by decide +kernel
theorem dX12_lives_32 : decode cX12_lives 32 = .ok (.iload_n 2, 1) := by decide +kernel
theorem dX12_lives_33 : decode cX12_lives 33 = .ok (.aload_n 0, 1) := by decide +kernel
theorem dX12_lives_34 : decode cX12_lives 34 = .ok (.getfield 7, 3) := by decide +kernel
theorem dX12_lives_37 : decode cX12_lives 37 = .ok (.bipush 9, 2) := by decide +kernel
theorem dX12_lives_39 : decode cX12_lives 39 = .ok (.iaload, 1) := by decide +kernel
theorem dX12_lives_40 : decode cX12_lives 40 = .ok (.if_icmp .ge 145, 3) := by decide +kernel
theorem dX12_lives_43 : decode cX12_lives 43 = .ok (.aload_n 0, 1) := by decide +kernel
theorem dX12_lives_44 : decode cX12_lives 44 = .ok (.getfield 406, 3) := by decide +kernel
theorem dX12_lives_47 : decode cX12_lives 47 = .ok (.sipush 300, 3) := by decide +kernel
theorem dX12_lives_50 : decode cX12_lives 50 = .ok (.if_icmp .ne 11, 3) := by decide +kernel
theorem dX12_lives_53 : decode cX12_lives 53 = .ok (.aload_n 0, 1) := by decide +kernel
theorem dX12_lives_54 : decode cX12_lives 54 = .ok (.getfield 71, 3) := by decide +kernel
theorem dX12_lives_57 : decode cX12_lives 57 = .ok (.iconst 3, 1) := by decide +kernel
theorem dX12_lives_58 : decode cX12_lives 58 = .ok (.iconst 1, 1) := by decide +kernel
theorem dX12_lives_59 : decode cX12_lives 59 = .ok (.iastore, 1) := by decide +kernel
theorem dX12_lives_60 : decode cX12_lives 60 = .ok (.return_, 1) := by decide +kernel
theorem dX12_lives_61 : decode cX12_lives 61 = .ok (.sipush 270, 3) := by decide +kernel
theorem dX12_lives_64 : decode cX12_lives 64 = .ok (.bipush 6, 2) := by decide +kernel
theorem dX12_lives_66 : decode cX12_lives 66 = .ok (.iload_n 2, 1) := by decide +kernel
theorem dX12_lives_67 : decode cX12_lives 67 = .ok (.imul, 1) := by decide +kernel
theorem dX12_lives_68 : decode cX12_lives 68 = .ok (.iadd, 1) := by decide +kernel
theorem dX12_lives_69 : decode cX12_lives 69 = .ok (.istore_n 3, 1) := by decide +kernel
theorem dX12_lives_70 : decode cX12_lives 70 = .ok (.aload_n 0, 1) := by decide +kernel
theorem dX12_lives_71 : decode cX12_lives 71 = .ok (.dup, 1) := by decide +kernel
theorem dX12_lives_72 : decode cX12_lives 72 = .ok (.getfield 406, 3) := by decide +kernel
theorem dX12_lives_75 : decode cX12_lives 75 = .ok (.iconst 1, 1) := by decide +kernel
theorem dX12_lives_76 : decode cX12_lives 76 = .ok (.iadd, 1) := by decide +kernel
theorem dX12_lives_77 : decode cX12_lives 77 = .ok (.putfield 406, 3) := by decide +kernel
theorem dX12_lives_80 : decode cX12_lives 80 = .ok (.aload_n 0, 1) := by decide +kernel
theorem dX12_lives_81 : decode cX12_lives 81 = .ok (.getfield 7, 3) := by decide +kernel
theorem dX12_lives_84 : decode cX12_lives 84 = .ok (.iload_n 3, 1) := by decide +kernel
theorem dX12_lives_85 : decode cX12_lives 85 = .ok (.iaload, 1) := by decide +kernel
theorem dX12_lives_86 : decode cX12_lives 86 = .ok (.bipush 26, 2) := by decide +kernel
theorem dX12_lives_88 : decode cX12_lives 88 = .ok (.if_icmp .ne 4, 3) := by decide +kernel
theorem dX12_lives_91 : decode cX12_lives 91 = .ok (.return_, 1) := by decide +kernel
theorem dX12_lives_92 : decode cX12_lives 92 = .ok (.aload_n 0, 1) := by decide +kernel
theorem dX12_lives_93 : decode cX12_lives 93 = .ok (.getfield 71, 3) := by decide +kernel
theorem dX12_lives_96 : decode cX12_lives 96 = .ok (.iconst 1, 1) := by decide +kernel
theorem dX12_lives_97 : decode cX12_lives 97 = .ok (.dup2, 1) := by decide +kernel
theorem dX12_lives_98 : decode cX12_lives 98 = .ok (.iaload, 1) := by decide +kernel
theorem dX12_lives_99 : decode cX12_lives 99 = .ok (.aload_n 0, 1) := by decide +kernel
theorem dX12_lives_100 : decode cX12_lives 100 = .ok (.iload_n 3, 1) := by decide +kernel
theorem dX12_lives_101 : decode cX12_lives 101 = .ok (.invokevirtual 409, 3) := by decide +kernel
theorem dX12_lives_104 : decode cX12_lives 104 = .ok (.ifCond .eq 7, 3) := by decide +kernel
theorem dX12_lives_107 : decode cX12_lives 107 = .ok (.iconst 0, 1) := by decide +kernel
theorem dX12_lives_108 : decode cX12_lives 108 = .ok (.goto 4, 3) := by decide +kernel
theorem dX12_lives_111 : decode cX12_lives 111 = .ok (.iconst 1, 1) := by decide +kernel
theorem dX12_lives_112 : decode cX12_lives 112 = .ok (.iadd, 1) := by decide +kernel
theorem dX12_lives_113 : decode cX12_lives 113 = .ok (.iastore, 1) := by decide +kernel
theorem dX12_lives_114 : decode cX12_lives 114 = .ok (.aload_n 0, 1) := by decide +kernel
theorem dX12_lives_115 : decode cX12_lives 115 = .ok (.getfield 7, 3) := by decide +kernel
theorem dX12_lives_118 : decode cX12_lives 118 = .ok (.iload_n 3, 1) := by decide +kernel
theorem dX12_lives_119 : decode cX12_lives 119 = .ok (.iaload, 1) := by decide +kernel
theorem dX12_lives_120 : decode cX12_lives 120 = .ok (.bipush 24, 2) := by decide +kernel
theorem dX12_lives_122 : decode cX12_lives 122 = .ok (.if_icmp .ne 19, 3) := by decide +kernel
theorem dX12_lives_125 : decode cX12_lives 125 = .ok (.aload_n 0, 1) := by decide +kernel
theorem dX12_lives_126 : decode cX12_lives 126 = .ok (.getfield 68, 3) := by decide +kernel
theorem dX12_lives_129 : decode cX12_lives 129 = .ok (.iload_n 2, 1) := by decide +kernel
theorem dX12_lives_130 : decode cX12_lives 130 = .ok (.aload_n 0, 1) := by decide +kernel
theorem dX12_lives_131 : decode cX12_lives 131 = .ok (.getfield 7, 3) := by decide +kernel
theorem dX12_lives_134 : decode cX12_lives 134 = .ok (.iload_n 3, 1) := by decide +kernel
theorem dX12_lives_135 : decode cX12_lives 135 = .ok (.iconst 1, 1) := by decide +kernel
theorem dX12_lives_136 : decode cX12_lives 136 = .ok (.iadd, 1) := by decide +kernel
theorem dX12_lives_137 : decode cX12_lives 137 = .ok (.iaload, 1) := by decide +kernel
theorem dX12_lives_138 : decode cX12_lives 138 = .ok (.iconst 1, 1) := by decide +kernel
theorem dX12_lives_139 : decode cX12_lives 139 = .ok (.isub, 1) := by decide +kernel
theorem dX12_lives_140 : decode cX12_lives 140 = .ok (.iastore, 1) := by decide +kernel
theorem dX12_lives_141 : decode cX12_lives 141 = .ok (.aload_n 0, 1) := by decide +kernel
theorem dX12_lives_142 : decode cX12_lives 142 = .ok (.aload_n 0, 1) := by decide +kernel
theorem dX12_lives_143 : decode cX12_lives 143 = .ok (.getfield 7, 3) := by decide +kernel
theorem dX12_lives_146 : decode cX12_lives 146 = .ok (.iload_n 3, 1) := by decide +kernel
theorem dX12_lives_147 : decode cX12_lives 147 = .ok (.iaload, 1) := by decide +kernel
theorem dX12_lives_148 : decode cX12_lives 148 = .ok (.sipush 2300, 3) := by decide +kernel
theorem dX12_lives_151 : decode cX12_lives 151 = .ok (.if_icmp .lt 24, 3) := by decide +kernel
theorem dX12_lives_154 : decode cX12_lives 154 = .ok (.aload_n 0, 1) := by decide +kernel
theorem dX12_lives_155 : decode cX12_lives 155 = .ok (.iload_n 3, 1) := by decide +kernel
theorem dX12_lives_156 : decode cX12_lives 156 = .ok (.invokevirtual 412, 3) := by decide +kernel
theorem dX12_lives_159 : decode cX12_lives 159 = .ok (.ifCond .ne 16, 3) := by decide +kernel
theorem dX12_lives_162 : decode cX12_lives 162 = .ok (.aload_n 0, 1) := by decide +kernel
theorem dX12_lives_163 : decode cX12_lives 163 = .ok (.getfield 7, 3) := by decide +kernel
theorem dX12_lives_166 : decode cX12_lives 166 = .ok (.iload_n 3, 1) := by decide +kernel
theorem dX12_lives_167 : decode cX12_lives 167 = .ok (.iconst 4, 1) := by decide +kernel
theorem dX12_lives_168 : decode cX12_lives 168 = .ok (.iadd, 1) := by decide +kernel
theorem dX12_lives_169 : decode cX12_lives 169 = .ok (.iaload, 1) := by decide +kernel
theorem dX12_lives_170 : decode cX12_lives 170 = .ok (.iconst 1, 1) := by decide +kernel
theorem dX12_lives_171 : decode cX12_lives 171 = .ok (.iadd, 1) := by decide +kernel
theorem dX12_lives_172 : decode cX12_lives 172 = .ok (.goto 6, 3) := by decide +kernel
theorem dX12_lives_175 : decode cX12_lives 175 = .ok (.iload_n 2, 1) := by decide +kernel
theorem dX12_lives_176 : decode cX12_lives 176 = .ok (.iconst 1, 1) := by decide +kernel
theorem dX12_lives_177 : decode cX12_lives 177 = .ok (.iadd, 1) := by decide +kernel
theorem dX12_lives_178 : decode cX12_lives 178 = .ok (.invokevirtual 415, 3) := by decide +kernel
theorem dX12_lives_181 : decode cX12_lives 181 = .ok (.istore_n 2, 1) := by decide +kernel
theorem dX12_lives_182 : decode cX12_lives 182 = .ok (.goto (-150), 3) := by decide +kernel
theorem dX12_lives_185 : decode cX12_lives 185 = .ok (.return_, 1) := by decide +kernel
set_option maxRecDepth 100000 in
theorem f_X12_lives_L12_ok {E : EnvT} {C : Cx} {Mi : Mem} {x0 : Int} (h0 : x0 ≠ 0) (hC : CxOK E C cX12_lives 4 yX12_lives.cls 11 0 0) {M0 : Mem} (hq : RQ E C 0 0 Mi none none M0) {k : Mem → Option (Mem)} (hk : ∀ M7, Bk E C 4 Mi M0 30 [(0, 30, x0)] [] M7 0 0 (k M7)) : ∀ (n : Nat) (p3 : Int) (M4 : Mem), Bk E C 4 Mi M0 12 [(0, 30, x0), (2, 0, p3)] [] M4 0 0 (f_X12_lives_L12 x0 k n p3 M4) := by
  intro n
  induction n with
  | zero =>
    intro p3 M4
    exact r_none
  | succ n ih =>
    intro p3 M4
    rw [f_X12_lives_L12]
    refine r_iload_n 12 hC 1 rfl rfl dX12_lives_12 ?_
    refine r_iconst 13 hC (r32c rfl) dX12_lives_13 ?_
    refine r_icmp_ge 14 hC (tgt := 30) (by decide) dX12_lives_14 ?_ ?_
    · exact r_sub [0] rfl (hk M4)
    · refine r_aload_n 17 hC 0 rfl (Or.inl (by decide)) rfl dX12_lives_17 ?_
      refine r_get 18 hC fd_10_39 fl_X12_71 dX12_lives_18 (fun v5 => ?_)
      refine r_iload_n 21 hC 1 rfl rfl dX12_lives_21 ?_
      refine r_iconst 22 hC (r32c rfl) dX12_lives_22 ?_
      refine r_iastore 23 hC dX12_lives_23 (fun M6 => ?_)
      refine r_iinc 24 hC 1 rfl (by decide) dX12_lives_24 (r_eqls (ls' := [(2, 0, w32 (p3 + 1)), (0, 30, x0)]) rfl ?_)
      refine r_goto 27 hC (tgt := 12) (by decide) dX12_lives_27 ?_
      exact r_sub [1, 0] rfl (ih (w32 (p3 + 1)) M6)
set_option maxRecDepth 100000 in
theorem f_X12_lives_L32_ok {E : EnvT} {C : Cx} {Mi : Mem} {x0 : Int} (h0 : x0 ≠ 0) (hC : CxOK E C cX12_lives 4 yX12_lives.cls 11 0 0) {M0 : Mem} (hq : RQ E C 0 0 Mi none none M0) {k : Mem → Option (Mem)} (hk : ∀ M42, Bk E C 4 Mi M0 185 [] [] M42 0 0 (k M42)) : ∀ (n : Nat) (p9 : Int) (M10 : Mem), Bk E C 4 Mi M0 32 [(0, 30, x0), (2, 0, p9)] [] M10 0 0 (f_X12_lives_L32 x0 k n p9 M10) := by
  intro n
  induction n with
  | zero =>
    intro p9 M10
    exact r_none
  | succ n ih =>
    intro p9 M10
    rw [f_X12_lives_L32]
    refine r_iload_n 32 hC 1 rfl rfl dX12_lives_32 ?_
    refine r_aload_n 33 hC 0 rfl (Or.inl (by decide)) rfl dX12_lives_33 ?_
    refine r_get 34 hC fd_10_0 fl_X12_7 dX12_lives_34 (fun v11 => ?_)
    refine r_bipush 37 hC kb_9 dX12_lives_37 ?_
    refine r_iaload 39 hC dX12_lives_39 (fun v12 => ?_)
    refine r_icmp_ge 40 hC (tgt := 185) (by decide) dX12_lives_40 ?_ ?_
    · exact r_sub [] rfl (hk M10)
    · refine r_aload_n 43 hC 0 rfl (Or.inl (by decide)) rfl dX12_lives_43 ?_
      refine r_get 44 hC fd_10_37 fl_X12_406 dX12_lives_44 (fun v13 => ?_)
      refine r_sipush 47 hC ks_300 dX12_lives_47 ?_
      refine r_icmp_ne 50 hC (tgt := 61) (by decide) dX12_lives_50 ?_ ?_
      · refine r_sipush 61 hC ks_270 dX12_lives_61 ?_
        refine r_bipush 64 hC kb_6 dX12_lives_64 ?_
        refine r_iload_n 66 hC 1 rfl rfl dX12_lives_66 ?_
        refine r_imul 67 hC dX12_lives_67 ?_
        refine r_iadd 68 hC dX12_lives_68 ?_
        refine r_istore_nL 69 hC rfl (by decide) dX12_lives_69 (fun v14 => r_eqls (ls' := [(3, 0, v14), (0, 30, x0), (2, 0, p9)]) rfl ?_)
        refine r_aload_n 70 hC 1 rfl (Or.inl (by decide)) rfl dX12_lives_70 ?_
        refine r_dup 71 hC (by decide) dX12_lives_71 ?_
        refine r_get 72 hC fd_10_37 fl_X12_406 dX12_lives_72 (fun v15 => ?_)
        refine r_iconst 75 hC (r32c rfl) dX12_lives_75 ?_
        refine r_iadd 76 hC dX12_lives_76 ?_
        refine r_put 77 hC fd_10_37 fl_X12_406 dX12_lives_77 (fun M16 => ?_)
        refine r_aload_n 80 hC 1 rfl (Or.inl (by decide)) rfl dX12_lives_80 ?_
        refine r_get 81 hC fd_10_0 fl_X12_7 dX12_lives_81 (fun v17 => ?_)
        refine r_iload_n 84 hC 0 rfl rfl dX12_lives_84 ?_
        refine r_iaload 85 hC dX12_lives_85 (fun v18 => ?_)
        refine r_bipush 86 hC kb_26 dX12_lives_86 ?_
        refine r_icmp_ne 88 hC (tgt := 92) (by decide) dX12_lives_88 ?_ ?_
        · refine r_aload_n 92 hC 1 rfl (Or.inl (by decide)) rfl dX12_lives_92 ?_
          refine r_get 93 hC fd_10_39 fl_X12_71 dX12_lives_93 (fun v19 => ?_)
          refine r_iconst 96 hC (r32c rfl) dX12_lives_96 ?_
          refine r_dup2 97 hC ⟨by decide, by decide⟩ dX12_lives_97 ?_
          refine r_iaload 98 hC dX12_lives_98 (fun v20 => ?_)
          refine r_aload_n 99 hC 1 rfl (Or.inl (by decide)) rfl dX12_lives_99 ?_
          refine r_iload_n 100 hC 0 rfl rfl dX12_lives_100 ?_
          refine r_callVI 101 hC [(0, v14)] [(0, v20), (0, 1), (10, v19)] rfl vl_X12_409 rfl h0 (by decide) (Nat.le_of_ble_eq_true rfl) (by decide) (by decide) dX12_lives_101 (t_X12_does x0 v14 M16 h0) (fun v21 M22 => ?_)
          refine r_jn (P := fun j112 => ∀ (q23 : Int), Bk E C 4 Mi M0 112 [(0, 30, x0), (2, 0, p9), (3, 0, v14)] [(0, q23), (0, v20), (0, 1), (10, v19)] M22 0 0 (j112 q23)) ?_ (fun j112 hj112 => ?_)
          · intro q23
            refine r_iadd 112 hC dX12_lives_112 ?_
            refine r_iastore 113 hC dX12_lives_113 (fun M24 => ?_)
            refine r_aload_n 114 hC 0 rfl (Or.inl (by decide)) rfl dX12_lives_114 ?_
            refine r_get 115 hC fd_10_0 fl_X12_7 dX12_lives_115 (fun v25 => ?_)
            refine r_iload_n 118 hC 2 rfl rfl dX12_lives_118 ?_
            refine r_iaload 119 hC dX12_lives_119 (fun v26 => ?_)
            refine r_bipush 120 hC kb_24 dX12_lives_120 ?_
            refine r_jn (P := fun j141 => ∀ (M27 : Mem), Bk E C 4 Mi M0 141 [(0, 30, x0), (2, 0, p9), (3, 0, v14)] [] M27 0 0 (j141 M27)) ?_ (fun j141 hj141 => ?_)
            · intro M27
              refine r_aload_n 141 hC 0 rfl (Or.inl (by decide)) rfl dX12_lives_141 ?_
              refine r_aload_n 142 hC 0 rfl (Or.inl (by decide)) rfl dX12_lives_142 ?_
              refine r_get 143 hC fd_10_0 fl_X12_7 dX12_lives_143 (fun v28 => ?_)
              refine r_iload_n 146 hC 2 rfl rfl dX12_lives_146 ?_
              refine r_iaload 147 hC dX12_lives_147 (fun v29 => ?_)
              refine r_sipush 148 hC ks_2300 dX12_lives_148 ?_
              refine r_jn (P := fun j178 => ∀ (q30 : Int), Bk E C 4 Mi M0 178 [(0, 30, x0)] [(0, q30), (30, x0)] M27 0 0 (j178 q30)) ?_ (fun j178 hj178 => ?_)
              · intro q30
                refine r_callVI 178 hC [(0, q30)] [] rfl vl_X12_415 rfl h0 (by decide) (Nat.le_of_ble_eq_true rfl) (by decide) (by decide) dX12_lives_178 (t_X12_behindEnds x0 q30 M27 h0) (fun v31 M32 => ?_)
                refine r_istore_n 181 hC rfl (by decide) dX12_lives_181 (r_eqls (ls' := [(2, 0, v31), (0, 30, x0)]) rfl ?_)
                refine r_goto 182 hC (tgt := 32) (by decide) dX12_lives_182 ?_
                exact r_sub [1, 0] rfl (ih v31 M32)
              refine r_jn (P := fun j175 => Bk E C 4 Mi M0 175 [(0, 30, x0), (2, 0, p9)] [(30, x0)] M27 0 0 (j175)) ?_ (fun j175 hj175 => ?_)
              · refine r_iload_n 175 hC 1 rfl rfl dX12_lives_175 ?_
                refine r_iconst 176 hC (r32c rfl) dX12_lives_176 ?_
                refine r_iadd 177 hC dX12_lives_177 ?_
                exact r_sub [0] rfl (hj178 (w32 (p9 + 1)))
              refine r_icmp_lt 151 hC (tgt := 175) (by decide) dX12_lives_151 ?_ ?_
              · exact r_sub [0, 1] rfl (hj175)
              · refine r_aload_n 154 hC 0 rfl (Or.inl (by decide)) rfl dX12_lives_154 ?_
                refine r_iload_n 155 hC 2 rfl rfl dX12_lives_155 ?_
                refine r_callVP 156 hC [(0, v14)] [(30, x0)] rfl vl_X12_412 rfl h0 (by decide) (Nat.le_of_ble_eq_true rfl) (by decide) (by decide) dX12_lives_156 (t_X12_holds x0 v14 M27 h0) (fun v33 => ?_)
                refine r_if_ne 159 hC (tgt := 175) (by decide) dX12_lives_159 ?_ ?_
                · exact r_sub [0, 1] rfl (hj175)
                · refine r_aload_n 162 hC 0 rfl (Or.inl (by decide)) rfl dX12_lives_162 ?_
                  refine r_get 163 hC fd_10_0 fl_X12_7 dX12_lives_163 (fun v34 => ?_)
                  refine r_iload_n 166 hC 2 rfl rfl dX12_lives_166 ?_
                  refine r_iconst 167 hC (r32c rfl) dX12_lives_167 ?_
                  refine r_iadd 168 hC dX12_lives_168 ?_
                  refine r_iaload 169 hC dX12_lives_169 (fun v35 => ?_)
                  refine r_iconst 170 hC (r32c rfl) dX12_lives_170 ?_
                  refine r_iadd 171 hC dX12_lives_171 ?_
                  refine r_goto 172 hC (tgt := 178) (by decide) dX12_lives_172 ?_
                  exact r_sub [0] rfl (hj178 (w32 (v35 + 1)))
            refine r_icmp_ne 122 hC (tgt := 141) (by decide) dX12_lives_122 ?_ ?_
            · exact hj141 M24
            · refine r_aload_n 125 hC 0 rfl (Or.inl (by decide)) rfl dX12_lives_125 ?_
              refine r_get 126 hC fd_10_38 fl_X12_68 dX12_lives_126 (fun v36 => ?_)
              refine r_iload_n 129 hC 1 rfl rfl dX12_lives_129 ?_
              refine r_aload_n 130 hC 0 rfl (Or.inl (by decide)) rfl dX12_lives_130 ?_
              refine r_get 131 hC fd_10_0 fl_X12_7 dX12_lives_131 (fun v37 => ?_)
              refine r_iload_n 134 hC 2 rfl rfl dX12_lives_134 ?_
              refine r_iconst 135 hC (r32c rfl) dX12_lives_135 ?_
              refine r_iadd 136 hC dX12_lives_136 ?_
              refine r_iaload 137 hC dX12_lives_137 (fun v38 => ?_)
              refine r_iconst 138 hC (r32c rfl) dX12_lives_138 ?_
              refine r_isub 139 hC dX12_lives_139 ?_
              refine r_iastore 140 hC dX12_lives_140 (fun M39 => ?_)
              exact hj141 M39
          refine r_if_eq 104 hC (tgt := 111) (by decide) dX12_lives_104 ?_ ?_
          · refine r_iconst 111 hC (r32c rfl) dX12_lives_111 ?_
            exact r_sub [1, 2, 0] rfl (hj112 1)
          · refine r_iconst 107 hC (r32c rfl) dX12_lives_107 ?_
            refine r_goto 108 hC (tgt := 112) (by decide) dX12_lives_108 ?_
            exact r_sub [1, 2, 0] rfl (hj112 0)
        · exact r_return 91 hC hq (by decide) (by decide) dX12_lives_91
      · refine r_aload_n 53 hC 0 rfl (Or.inl (by decide)) rfl dX12_lives_53 ?_
        refine r_get 54 hC fd_10_39 fl_X12_71 dX12_lives_54 (fun v40 => ?_)
        refine r_iconst 57 hC (r32c rfl) dX12_lives_57 ?_
        refine r_iconst 58 hC (r32c rfl) dX12_lives_58 ?_
        refine r_iastore 59 hC dX12_lives_59 (fun M41 => ?_)
        exact r_return 60 hC hq (by decide) (by decide) dX12_lives_60
set_option maxRecDepth 100000 in
theorem t_X12_lives (x0 x1 : Int) (M : Mem) (h0 : x0 ≠ 0) : MtV yX12_lives cX12_lives 4 none 11 0 0 [(30, x0), (0, x1)] M (f_X12_lives x0 x1 M) := by
  refine mk_V (by decide +kernel) (Nat.le_of_ble_eq_true rfl) (fun E C M0 hC hq hin => ?_)
  refine r_eqls (ls' := [(0, 30, x0), (1, 0, x1)]) rfl ?_
  unfold f_X12_lives
  refine r_aload_n 0 hC 0 rfl (Or.inl (by decide)) rfl dX12_lives_0 ?_
  refine r_iload_n 1 hC 1 rfl rfl dX12_lives_1 ?_
  refine r_put 2 hC fd_10_36 fl_X12_399 dX12_lives_2 (fun M1 => ?_)
  refine r_aload_n 5 hC 0 rfl (Or.inl (by decide)) rfl dX12_lives_5 ?_
  refine r_iconst 6 hC (r32c rfl) dX12_lives_6 ?_
  refine r_put 7 hC fd_10_37 fl_X12_406 dX12_lives_7 (fun M2 => ?_)
  refine r_iconst 10 hC (r32c rfl) dX12_lives_10 ?_
  refine r_istore_n 11 hC rfl (by decide) dX12_lives_11 (r_eqls (ls' := [(2, 0, 0), (0, 30, x0), (1, 0, x1)]) rfl ?_)
  refine r_sub [1, 0] rfl (f_X12_lives_L12_ok h0 hC hq (fun M8 => ?_) KF 0 M2)
  · refine r_iconst 30 hC (r32c rfl) dX12_lives_30 ?_
    refine r_istore_n 31 hC rfl (by decide) dX12_lives_31 (r_eqls (ls' := [(2, 0, 0), (0, 30, x0)]) rfl ?_)
    refine r_sub [1, 0] rfl (f_X12_lives_L32_ok h0 hC hq (fun M43 => ?_) KF 0 M8)
    · exact r_return 185 hC hq (by decide) (by decide) dX12_lives_185

/-! WaterTurnsModel.live(I)I -/
theorem dX12_live_0 : decode cX12_live 0 = .ok (.iload_n 1, 1) := by decide +kernel
theorem dX12_live_1 : decode cX12_live 1 = .ok (.i2l, 1) := by decide +kernel
theorem dX12_live_2 : decode cX12_live 2 = .ok (.lconst 0, 1) := by decide +kernel
theorem dX12_live_3 : decode cX12_live 3 = .ok (.ldc2_w 418, 3) := by decide +kernel
theorem dX12_live_6 : decode cX12_live 6 = .ok (.invokestatic 299, 3) := by decide +kernel
theorem dX12_live_9 : decode cX12_live 9 = .ok (.ifCond .ne 9, 3) := by decide +kernel
theorem dX12_live_12 : decode cX12_live 12 = .ok (.aload_n 0, 1) := by decide +kernel
theorem dX12_live_13 : decode cX12_live 13 = .ok (.iconst 1, 1) := by decide +kernel
theorem dX12_live_14 : decode cX12_live 14 = .ok (.invokevirtual 87, 3) := by decide +kernel
theorem dX12_live_17 : decode cX12_live 17 = .ok (.ireturn, 1) := by decide +kernel
theorem dX12_live_18 : decode cX12_live 18 = .ok (.aload_n 0, 1) := by decide +kernel
theorem dX12_live_19 : decode cX12_live 19 = .ok (.getfield 7, 3) := by decide +kernel
theorem dX12_live_22 : decode cX12_live 22 = .ok (.bipush 9, 2) := by decide +kernel
theorem dX12_live_24 : decode cX12_live 24 = .ok (.iaload, 1) := by decide +kernel
theorem dX12_live_25 : decode cX12_live 25 = .ok (.iconst (-1), 1) := by decide +kernel
theorem dX12_live_26 : decode cX12_live 26 = .ok (.if_icmp .ne 10, 3) := by decide +kernel
theorem dX12_live_29 : decode cX12_live 29 = .ok (.aload_n 0, 1) := by decide +kernel
theorem dX12_live_30 : decode cX12_live 30 = .ok (.bipush 6, 2) := by decide +kernel
theorem dX12_live_32 : decode cX12_live 32 = .ok (.invokevirtual 87, 3) := by decide +kernel
theorem dX12_live_35 : decode cX12_live 35 = .ok (.ireturn, 1) := by decide +kernel
theorem dX12_live_36 : decode cX12_live 36 = .ok (.aload_n 0, 1) := by decide +kernel
theorem dX12_live_37 : decode cX12_live 37 = .ok (.iload_n 1, 1) := by decide +kernel
theorem dX12_live_38 : decode cX12_live 38 = .ok (.invokevirtual 420, 3) := by decide +kernel
theorem dX12_live_41 : decode cX12_live 41 = .ok (.iconst 0, 1) := by decide +kernel
theorem dX12_live_42 : decode cX12_live 42 = .ok (.istore_n 2, 1) := by decide +kernel
theorem dX12_live_43 : decode cX12_live 43 = .ok (.iload_n 2, 1) := by decide +kernel
theorem dX12_live_44 : decode cX12_live 44 = .ok (.iconst 4, 1) := by decide +kernel
theorem dX12_live_45 : decode cX12_live 45 = .ok (.if_icmp .ge 21, 3) := by decide +kernel
theorem dX12_live_48 : decode cX12_live 48 = .ok (.aload_n 0, 1) := by decide +kernel
theorem dX12_live_49 : decode cX12_live 49 = .ok (.getfield 74, 3) := by decide +kernel
theorem dX12_live_52 : decode cX12_live 52 = .ok (.iload_n 2, 1) := by decide +kernel
theorem dX12_live_53 : decode cX12_live 53 = .ok (.aload_n 0, 1) := by decide +kernel
theorem dX12_live_54 : decode cX12_live 54 = .ok (.getfield 71, 3) := by decide +kernel
theorem dX12_live_57 : decode cX12_live 57 = .ok (.iload_n 2, 1) := by decide +kernel
theorem dX12_live_58 : decode cX12_live 58 = .ok (.iaload, 1) := by decide +kernel
theorem dX12_live_59 : decode cX12_live 59 = .ok (.iastore, 1) := by decide +kernel
theorem dX12_live_60 : decode cX12_live 60 = .ok (.iinc 2 1, 3) := by decide +kernel
theorem dX12_live_63 : decode cX12_live 63 = .ok (.goto (-20), 3) := by decide +kernel
theorem dX12_live_66 : decode cX12_live 66 = .ok (.aload_n 0, 1) := by decide +kernel
theorem dX12_live_67 : decode cX12_live 67 = .ok (.iconst 1, 1) := by decide +kernel
theorem dX12_live_68 : decode cX12_live 68 = .ok (.putfield 423, 3) := by decide +kernel
theorem dX12_live_71 : decode cX12_live 71 = .ok (.aload_n 0, 1) := by decide +kernel
theorem dX12_live_72 : decode cX12_live 72 = .ok (.aload_n 0, 1) := by decide +kernel
theorem dX12_live_73 : decode cX12_live 73 = .ok (.getfield 406, 3) := by decide +kernel
theorem dX12_live_76 : decode cX12_live 76 = .ok (.invokevirtual 91, 3) := by decide +kernel
theorem dX12_live_79 : decode cX12_live 79 = .ok (.ireturn, 1) := by decide +kernel
set_option maxRecDepth 100000 in
theorem f_X12_live_L43_ok {E : EnvT} {C : Cx} {Mi : Mem} {x0 : Int} (h0 : x0 ≠ 0) (hC : CxOK E C cX12_live 3 yX12_live.cls 12 0 0) {r0 : Int} {M0 : Mem} (hq : RQ E C 0 0 Mi (some .int) (some (0, r0)) M0) {k : Mem → Option (Int × Mem)} (hk : ∀ M11, Bk E C 3 Mi (r0, M0) 66 [(0, 30, x0)] [] M11 0 0 (k M11)) : ∀ (n : Nat) (p5 : Int) (M6 : Mem), Bk E C 3 Mi (r0, M0) 43 [(0, 30, x0), (2, 0, p5)] [] M6 0 0 (f_X12_live_L43 x0 k n p5 M6) := by
  intro n
  induction n with
  | zero =>
    intro p5 M6
    exact r_none
  | succ n ih =>
    intro p5 M6
    rw [f_X12_live_L43]
    refine r_iload_n 43 hC 1 rfl rfl dX12_live_43 ?_
    refine r_iconst 44 hC (r32c rfl) dX12_live_44 ?_
    refine r_icmp_ge 45 hC (tgt := 66) (by decide) dX12_live_45 ?_ ?_
    · exact r_sub [0] rfl (hk M6)
    · refine r_aload_n 48 hC 0 rfl (Or.inl (by decide)) rfl dX12_live_48 ?_
      refine r_get 49 hC fd_10_40 fl_X12_74 dX12_live_49 (fun v7 => ?_)
      refine r_iload_n 52 hC 1 rfl rfl dX12_live_52 ?_
      refine r_aload_n 53 hC 0 rfl (Or.inl (by decide)) rfl dX12_live_53 ?_
      refine r_get 54 hC fd_10_39 fl_X12_71 dX12_live_54 (fun v8 => ?_)
      refine r_iload_n 57 hC 1 rfl rfl dX12_live_57 ?_
      refine r_iaload 58 hC dX12_live_58 (fun v9 => ?_)
      refine r_iastore 59 hC dX12_live_59 (fun M10 => ?_)
      refine r_iinc 60 hC 1 rfl (by decide) dX12_live_60 (r_eqls (ls' := [(2, 0, w32 (p5 + 1)), (0, 30, x0)]) rfl ?_)
      refine r_goto 63 hC (tgt := 43) (by decide) dX12_live_63 ?_
      exact r_sub [1, 0] rfl (ih (w32 (p5 + 1)) M10)
set_option maxRecDepth 100000 in
theorem t_X12_live (x0 x1 : Int) (M : Mem) (h0 : x0 ≠ 0) : MtI yX12_live cX12_live 3 (some .int) 12 0 0 [(30, x0), (0, x1)] M 0 (f_X12_live x0 x1 M) := by
  refine mk_I (by decide +kernel) (Nat.le_of_ble_eq_true rfl) (fun E C r0 M0 hC hq hin => ?_)
  refine r_eqls (ls' := [(0, 30, x0), (1, 0, x1)]) rfl ?_
  unfold f_X12_live
  refine r_iload_n 0 hC 1 rfl rfl dX12_live_0 ?_
  refine r_i2l 1 hC dX12_live_1 ?_
  refine r_lconst 2 hC (x := 0) ⟨by decide +kernel, r64c rfl⟩ dX12_live_2 ?_
  refine r_ldc2 3 hC (x := 9999) kl_X12_418 ⟨by decide +kernel, r64c rfl⟩ dX12_live_3 ?_
  refine r_callSP 6 hC [(1, x1), (1, 0), (1, 9999)] [] rfl sl_X12_299 rfl (by decide) (Nat.le_of_ble_eq_true rfl) (by decide) (by decide) dX12_live_6 (t_X12_isFrom x1 0 9999 M) (fun v1 => ?_)
  refine r_if_ne 9 hC (tgt := 18) (by decide) dX12_live_9 ?_ ?_
  · refine r_aload_n 18 hC 0 rfl (Or.inl (by decide)) rfl dX12_live_18 ?_
    refine r_get 19 hC fd_10_0 fl_X12_7 dX12_live_19 (fun v2 => ?_)
    refine r_bipush 22 hC kb_9 dX12_live_22 ?_
    refine r_iaload 24 hC dX12_live_24 (fun v3 => ?_)
    refine r_iconst 25 hC (r32c rfl) dX12_live_25 ?_
    refine r_icmp_ne 26 hC (tgt := 36) (by decide) dX12_live_26 ?_ ?_
    · refine r_aload_n 36 hC 0 rfl (Or.inl (by decide)) rfl dX12_live_36 ?_
      refine r_iload_n 37 hC 1 rfl rfl dX12_live_37 ?_
      refine r_callVV 38 hC [(0, x1)] [] rfl vl_X12_420 rfl h0 (by decide) (Nat.le_of_ble_eq_true rfl) (by decide) (by decide) dX12_live_38 (t_X12_lives x0 x1 M h0) (fun M4 => ?_)
      refine r_iconst 41 hC (r32c rfl) dX12_live_41 ?_
      refine r_istore_n 42 hC rfl (by decide) dX12_live_42 (r_eqls (ls' := [(2, 0, 0), (0, 30, x0), (1, 0, x1)]) rfl ?_)
      refine r_sub [1, 0] rfl (f_X12_live_L43_ok h0 hC hq (fun M12 => ?_) KF 0 M4)
      · refine r_aload_n 66 hC 0 rfl (Or.inl (by decide)) rfl dX12_live_66 ?_
        refine r_iconst 67 hC (r32c rfl) dX12_live_67 ?_
        refine r_putz 68 hC fd_10_41 fl_X12_423 dX12_live_68 (fun M13 => ?_)
        refine r_aload_n 71 hC 0 rfl (Or.inl (by decide)) rfl dX12_live_71 ?_
        refine r_aload_n 72 hC 0 rfl (Or.inl (by decide)) rfl dX12_live_72 ?_
        refine r_get 73 hC fd_10_37 fl_X12_406 dX12_live_73 (fun v14 => ?_)
        refine r_callVI 76 hC [(0, v14)] [] rfl vl_X12_91 rfl h0 (by decide) (Nat.le_of_ble_eq_true rfl) (by decide) (by decide) dX12_live_76 (t_X12_gives x0 v14 M13 h0) (fun v15 M16 => ?_)
        exact r_ireturn 79 hC hq (by decide) (by decide) dX12_live_79
    · refine r_aload_n 29 hC 0 rfl (Or.inl (by decide)) rfl dX12_live_29 ?_
      refine r_bipush 30 hC kb_6 dX12_live_30 ?_
      refine r_callVI 32 hC [(0, 6)] [] rfl vl_X12_87 rfl h0 (by decide) (Nat.le_of_ble_eq_true rfl) (by decide) (by decide) dX12_live_32 (t_X12_refuse x0 6 M h0) (fun v17 M18 => ?_)
      exact r_ireturn 35 hC hq (by decide) (by decide) dX12_live_35
  · refine r_aload_n 12 hC 0 rfl (Or.inl (by decide)) rfl dX12_live_12 ?_
    refine r_iconst 13 hC (r32c rfl) dX12_live_13 ?_
    refine r_callVI 14 hC [(0, 1)] [] rfl vl_X12_87 rfl h0 (by decide) (Nat.le_of_ble_eq_true rfl) (by decide) (by decide) dX12_live_14 (t_X12_refuse x0 1 M h0) (fun v19 M20 => ?_)
    exact r_ireturn 17 hC hq (by decide) (by decide) dX12_live_17

/-! WaterTurnsModel.lived(I)I -/
theorem dX12_lived_0 : decode cX12_lived 0 = .ok (.iload_n 1, 1) := by decide +kernel
theorem dX12_lived_1 : decode cX12_lived 1 = .ok (.ifCond .lt 8, 3) := by decide +kernel
theorem dX12_lived_4 : decode cX12_lived 4 = .ok (.iload_n 1, 1) := by decide +kernel
theorem dX12_lived_5 : decode cX12_lived 5 = .ok (.iconst 3, 1) := by decide +kernel
theorem dX12_lived_6 : decode cX12_lived 6 = .ok (.if_icmp .le 11, 3) := by decide +kernel
theorem dX12_lived_9 : decode cX12_lived 9 = .ok (.aload_n 0, 1) := by decide +kernel
theorem dX12_lived_10 : decode cX12_lived 10 = .ok (.iconst 1, 1) := by decide +kernel
theorem dX12_lived_11 : decode cX12_lived 11 = .ok (.invokevirtual 87, 3) := by decide +kernel
theorem dX12_lived_14 : decode cX12_lived 14 = .ok (.goto 29, 3) := by decide +kernel
theorem dX12_lived_17 : decode cX12_lived 17 = .ok (.aload_n 0, 1) := by decide +kernel
theorem dX12_lived_18 : decode cX12_lived 18 = .ok (.getfield 423, 3) := by decide +kernel
theorem dX12_lived_21 : decode cX12_lived 21 = .ok (.ifCond .eq 16, 3) := by decide +kernel
theorem dX12_lived_24 : decode cX12_lived 24 = .ok (.aload_n 0, 1) := by decide +kernel
theorem dX12_lived_25 : decode cX12_lived 25 = .ok (.aload_n 0, 1) := by decide +kernel
theorem dX12_lived_26 : decode cX12_lived 26 = .ok (.getfield 74, 3) := by decide +kernel
theorem dX12_lived_29 : decode cX12_lived 29 = .ok (.iload_n 1, 1) := by decide +kernel
theorem dX12_lived_30 : decode cX12_lived 30 = .ok (.iaload, 1) := by decide +kernel
theorem dX12_lived_31 : decode cX12_lived 31 = .ok (.invokevirtual 91, 3) := by decide +kernel
theorem dX12_lived_34 : decode cX12_lived 34 = .ok (.goto 9, 3) := by decide +kernel
theorem dX12_lived_37 : decode cX12_lived 37 = .ok (.aload_n 0, 1) := by decide +kernel
theorem dX12_lived_38 : decode cX12_lived 38 = .ok (.bipush 6, 2) := by decide +kernel
theorem dX12_lived_40 : decode cX12_lived 40 = .ok (.invokevirtual 87, 3) := by decide +kernel
theorem dX12_lived_43 : decode cX12_lived 43 = .ok (.ireturn, 1) := by decide +kernel
set_option maxRecDepth 100000 in
theorem t_X12_lived (x0 x1 : Int) (M : Mem) (h0 : x0 ≠ 0) : MtI yX12_lived cX12_lived 2 (some .int) 2 0 0 [(30, x0), (0, x1)] M 0 (f_X12_lived x0 x1 M) := by
  refine mk_I (by decide +kernel) (Nat.le_of_ble_eq_true rfl) (fun E C r0 M0 hC hq hin => ?_)
  refine r_eqls (ls' := [(0, 30, x0), (1, 0, x1)]) rfl ?_
  unfold f_X12_lived
  refine r_iload_n 0 hC 1 rfl rfl dX12_lived_0 ?_
  refine r_jn (P := fun j43 => ∀ (q1 : Int) (M2 : Mem), Bk E C 2 M (r0, M0) 43 [] [(0, q1)] M2 0 0 (j43 q1 M2)) ?_ (fun j43 hj43 => ?_)
  · intro q1 M2
    exact r_ireturn 43 hC hq (by decide) (by decide) dX12_lived_43
  refine r_jn (P := fun j9 => Bk E C 2 M (r0, M0) 9 [(0, 30, x0)] [] M 0 0 (j9)) ?_ (fun j9 hj9 => ?_)
  · refine r_aload_n 9 hC 0 rfl (Or.inl (by decide)) rfl dX12_lived_9 ?_
    refine r_iconst 10 hC (r32c rfl) dX12_lived_10 ?_
    refine r_callVI 11 hC [(0, 1)] [] rfl vl_X12_87 rfl h0 (by decide) (Nat.le_of_ble_eq_true rfl) (by decide) (by decide) dX12_lived_11 (t_X12_refuse x0 1 M h0) (fun v3 M4 => ?_)
    refine r_goto 14 hC (tgt := 43) (by decide) dX12_lived_14 ?_
    exact r_sub [] rfl (hj43 v3 M4)
  refine r_if_lt 1 hC (tgt := 9) (by decide) dX12_lived_1 ?_ ?_
  · exact r_sub [0] rfl (hj9)
  · refine r_iload_n 4 hC 1 rfl rfl dX12_lived_4 ?_
    refine r_iconst 5 hC (r32c rfl) dX12_lived_5 ?_
    refine r_icmp_le 6 hC (tgt := 17) (by decide) dX12_lived_6 ?_ ?_
    · refine r_aload_n 17 hC 0 rfl (Or.inl (by decide)) rfl dX12_lived_17 ?_
      refine r_getz 18 hC fd_10_41 fl_X12_423 dX12_lived_18 (fun v5 => ?_)
      refine r_if_eq 21 hC (tgt := 37) (by decide) dX12_lived_21 ?_ ?_
      · refine r_aload_n 37 hC 0 rfl (Or.inl (by decide)) rfl dX12_lived_37 ?_
        refine r_bipush 38 hC kb_6 dX12_lived_38 ?_
        refine r_callVI 40 hC [(0, 6)] [] rfl vl_X12_87 rfl h0 (by decide) (Nat.le_of_ble_eq_true rfl) (by decide) (by decide) dX12_lived_40 (t_X12_refuse x0 6 M h0) (fun v6 M7 => ?_)
        exact r_sub [] rfl (hj43 v6 M7)
      · refine r_aload_n 24 hC 0 rfl (Or.inl (by decide)) rfl dX12_lived_24 ?_
        refine r_aload_n 25 hC 0 rfl (Or.inl (by decide)) rfl dX12_lived_25 ?_
        refine r_get 26 hC fd_10_40 fl_X12_74 dX12_lived_26 (fun v8 => ?_)
        refine r_iload_n 29 hC 1 rfl rfl dX12_lived_29 ?_
        refine r_iaload 30 hC dX12_lived_30 (fun v9 => ?_)
        refine r_callVI 31 hC [(0, v9)] [] rfl vl_X12_91 rfl h0 (by decide) (Nat.le_of_ble_eq_true rfl) (by decide) (by decide) dX12_lived_31 (t_X12_gives x0 v9 M h0) (fun v10 M11 => ?_)
        refine r_goto 34 hC (tgt := 43) (by decide) dX12_lived_34 ?_
        exact r_sub [] rfl (hj43 v10 M11)
    · exact r_sub [0] rfl (hj9)

/-! WaterTurnsModel.odds(IIII)Z -/
theorem dX12_odds_0 : decode cX12_odds 0 = .ok (.aload_n 0, 1) := by decide +kernel
theorem dX12_odds_1 : decode cX12_odds 1 = .ok (.iload_n 1, 1) := by decide +kernel
theorem dX12_odds_2 : decode cX12_odds 2 = .ok (.invokevirtual 266, 3) := by decide +kernel
theorem dX12_odds_5 : decode cX12_odds 5 = .ok (.ifCond .eq 52, 3) := by decide +kernel
theorem dX12_odds_8 : decode cX12_odds 8 = .ok (.iload_n 2, 1) := by decide +kernel
theorem dX12_odds_9 : decode cX12_odds 9 = .ok (.i2l, 1) := by decide +kernel
theorem dX12_odds_10 : decode cX12_odds 10 = .ok (.lconst 0, 1) := by decide +kernel
theorem dX12_odds_11 : decode cX12_odds 11 = .ok (.ldc2_w 418, 3) := by decide +kernel
theorem dX12_odds_14 : decode cX12_odds 14 = .ok (.invokestatic 299, 3) := by decide +kernel
theorem dX12_odds_17 : decode cX12_odds 17 = .ok (.ifCond .eq 40, 3) := by decide +kernel
theorem dX12_odds_20 : decode cX12_odds 20 = .ok (.iload_n 3, 1) := by decide +kernel
theorem dX12_odds_21 : decode cX12_odds 21 = .ok (.i2l, 1) := by decide +kernel
theorem dX12_odds_22 : decode cX12_odds 22 = .ok (.lconst 0, 1) := by decide +kernel
theorem dX12_odds_23 : decode cX12_odds 23 = .ok (.ldc2_w 418, 3) := by decide +kernel
theorem dX12_odds_26 : decode cX12_odds 26 = .ok (.invokestatic 299, 3) := by decide +kernel
theorem dX12_odds_29 : decode cX12_odds 29 = .ok (.ifCond .eq 28, 3) := by decide +kernel
theorem dX12_odds_32 : decode cX12_odds 32 = .ok (.iload 4, 2) := by decide +kernel
theorem dX12_odds_34 : decode cX12_odds 34 = .ok (.i2l, 1) := by decide +kernel
theorem dX12_odds_35 : decode cX12_odds 35 = .ok (.lconst 1, 1) := by decide +kernel
theorem dX12_odds_36 : decode cX12_odds 36 = .ok (.ldc2_w 427, 3) := by decide +kernel
theorem dX12_odds_39 : decode cX12_odds 39 = .ok (.invokestatic 299, 3) := by decide +kernel
theorem dX12_odds_42 : decode cX12_odds 42 = .ok (.ifCond .eq 15, 3) := by decide +kernel
theorem dX12_odds_45 : decode cX12_odds 45 = .ok (.iload_n 3, 1) := by decide +kernel
theorem dX12_odds_46 : decode cX12_odds 46 = .ok (.iload 4, 2) := by decide +kernel
theorem dX12_odds_48 : decode cX12_odds 48 = .ok (.iadd, 1) := by decide +kernel
theorem dX12_odds_49 : decode cX12_odds 49 = .ok (.iconst 1, 1) := by decide +kernel
theorem dX12_odds_50 : decode cX12_odds 50 = .ok (.isub, 1) := by decide +kernel
theorem dX12_odds_51 : decode cX12_odds 51 = .ok (.sipush 9999, 3) := by decide +kernel
theorem dX12_odds_54 : decode cX12_odds 54 = .ok (.if_icmp .le 9, 3) := by decide +kernel
theorem dX12_odds_57 : decode cX12_odds 57 = .ok (.aload_n 0, 1) := by decide +kernel
theorem dX12_odds_58 : decode cX12_odds 58 = .ok (.iconst 1, 1) := by decide +kernel
theorem dX12_odds_59 : decode cX12_odds 59 = .ok (.invokevirtual 94, 3) := by decide +kernel
theorem dX12_odds_62 : decode cX12_odds 62 = .ok (.ireturn, 1) := by decide +kernel
theorem dX12_odds_63 : decode cX12_odds 63 = .ok (.aload_n 0, 1) := by decide +kernel
theorem dX12_odds_64 : decode cX12_odds 64 = .ok (.getfield 7, 3) := by decide +kernel
theorem dX12_odds_67 : decode cX12_odds 67 = .ok (.bipush 9, 2) := by decide +kernel
theorem dX12_odds_69 : decode cX12_odds 69 = .ok (.iaload, 1) := by decide +kernel
theorem dX12_odds_70 : decode cX12_odds 70 = .ok (.iconst (-1), 1) := by decide +kernel
theorem dX12_odds_71 : decode cX12_odds 71 = .ok (.if_icmp .ne 10, 3) := by decide +kernel
theorem dX12_odds_74 : decode cX12_odds 74 = .ok (.aload_n 0, 1) := by decide +kernel
theorem dX12_odds_75 : decode cX12_odds 75 = .ok (.bipush 6, 2) := by decide +kernel
theorem dX12_odds_77 : decode cX12_odds 77 = .ok (.invokevirtual 94, 3) := by decide +kernel
theorem dX12_odds_80 : decode cX12_odds 80 = .ok (.ireturn, 1) := by decide +kernel
theorem dX12_odds_81 : decode cX12_odds 81 = .ok (.iconst 0, 1) := by decide +kernel
theorem dX12_odds_82 : decode cX12_odds 82 = .ok (.istore 5, 2) := by decide +kernel
theorem dX12_odds_84 : decode cX12_odds 84 = .ok (.iload 5, 2) := by decide +kernel
theorem dX12_odds_86 : decode cX12_odds 86 = .ok (.sipush 270, 3) := by decide +kernel
theorem dX12_odds_89 : decode cX12_odds 89 = .ok (.if_icmp .ge 27, 3) := by decide +kernel
theorem dX12_odds_92 : decode cX12_odds 92 = .ok (.aload_n 0, 1) := by decide +kernel
theorem dX12_odds_93 : decode cX12_odds 93 = .ok (.getfield 7, 3) := by decide +kernel
theorem dX12_odds_96 : decode cX12_odds 96 = .ok (.sipush 3200, 3) := by decide +kernel
theorem dX12_odds_99 : decode cX12_odds 99 = .ok (.iload 5, 2) := by decide +kernel
theorem dX12_odds_101 : decode cX12_odds 101 = .ok (.iadd, 1) := by decide +kernel
theorem dX12_odds_102 : decode cX12_odds 102 = .ok (.aload_n 0, 1) := by decide +kernel
theorem dX12_odds_103 : decode cX12_odds 103 = .ok (.getfield 7, 3) := by decide +kernel
theorem dX12_odds_106 : decode cX12_odds 106 = .ok (.iload 5, 2) := by decide +kernel
theorem dX12_odds_108 : decode cX12_odds 108 = .ok (.iaload, 1) := by decide +kernel
theorem dX12_odds_109 : decode cX12_odds 109 = .ok (.iastore, 1) := by decide +kernel
theorem dX12_odds_110 : decode cX12_odds 110 = .ok (.iinc 5 1, 3) := by decide +kernel
theorem dX12_odds_113 : decode cX12_odds 113 = .ok (.goto (-29), 3) := by decide +kernel
theorem dX12_odds_116 : decode cX12_odds 116 = .ok (.iconst 0, 1) := by decide +kernel
theorem dX12_odds_117 : decode cX12_odds 117 = .ok (.istore 5, 2) := by decide +kernel
theorem dX12_odds_119 : decode cX12_odds 119 = .ok (.iconst 0, 1) := by decide +kernel
theorem dX12_odds_120 : decode cX12_odds 120 = .ok (.istore 6, 2) := by decide +kernel
theorem dX12_odds_122 : decode cX12_odds 122 = .ok (.iload 6, 2) := by decide +kernel
theorem dX12_odds_124 : decode cX12_odds 124 = .ok (.iload 4, 2) := by decide +kernel
theorem dX12_odds_126 : decode cX12_odds 126 = .ok (.if_icmp .ge 76, 3) := by decide +kernel
theorem dX12_odds_129 : decode cX12_odds 129 = .ok (.aload_n 0, 1) := by decide +kernel
theorem dX12_odds_130 : decode cX12_odds 130 = .ok (.iload_n 3, 1) := by decide +kernel
theorem dX12_odds_131 : decode cX12_odds 131 = .ok (.iload 6, 2) := by decide +kernel
theorem dX12_odds_133 : decode cX12_odds 133 = .ok (.iadd, 1) := by decide +kernel
theorem dX12_odds_134 : decode cX12_odds 134 = .ok (.invokevirtual 420, 3) := by decide +kernel
theorem dX12_odds_137 : decode cX12_odds 137 = .ok (.iload 5, 2) := by decide +kernel
theorem dX12_odds_139 : decode cX12_odds 139 = .ok (.aload_n 0, 1) := by decide +kernel
theorem dX12_odds_140 : decode cX12_odds 140 = .ok (.getfield 7, 3) := by decide +kernel
theorem dX12_odds_143 : decode cX12_odds 143 = .ok (.sipush 258, 3) := by decide +kernel
theorem dX12_odds_146 : decode cX12_odds 146 = .ok (.iload_n 1, 1) := by decide +kernel
theorem dX12_odds_147 : decode cX12_odds 147 = .ok (.iadd, 1) := by decide +kernel
theorem dX12_odds_148 : decode cX12_odds 148 = .ok (.iaload, 1) := by decide +kernel
theorem dX12_odds_149 : decode cX12_odds 149 = .ok (.iload_n 2, 1) := by decide +kernel
theorem dX12_odds_150 : decode cX12_odds 150 = .ok (.if_icmp .lt 7, 3) := by decide +kernel
theorem dX12_odds_153 : decode cX12_odds 153 = .ok (.iconst 1, 1) := by decide +kernel
theorem dX12_odds_154 : decode cX12_odds 154 = .ok (.goto 4, 3) := by decide +kernel
theorem dX12_odds_157 : decode cX12_odds 157 = .ok (.iconst 0, 1) := by decide +kernel
theorem dX12_odds_158 : decode cX12_odds 158 = .ok (.iadd, 1) := by decide +kernel
theorem dX12_odds_159 : decode cX12_odds 159 = .ok (.istore 5, 2) := by decide +kernel
theorem dX12_odds_161 : decode cX12_odds 161 = .ok (.iconst 0, 1) := by decide +kernel
theorem dX12_odds_162 : decode cX12_odds 162 = .ok (.istore 7, 2) := by decide +kernel
theorem dX12_odds_164 : decode cX12_odds 164 = .ok (.iload 7, 2) := by decide +kernel
theorem dX12_odds_166 : decode cX12_odds 166 = .ok (.sipush 270, 3) := by decide +kernel
theorem dX12_odds_169 : decode cX12_odds 169 = .ok (.if_icmp .ge 27, 3) := by decide +kernel
theorem dX12_odds_172 : decode cX12_odds 172 = .ok (.aload_n 0, 1) := by decide +kernel
theorem dX12_odds_173 : decode cX12_odds 173 = .ok (.getfield 7, 3) := by decide +kernel
theorem dX12_odds_176 : decode cX12_odds 176 = .ok (.iload 7, 2) := by decide +kernel
theorem dX12_odds_178 : decode cX12_odds 178 = .ok (.aload_n 0, 1) := by decide +kernel
theorem dX12_odds_179 : decode cX12_odds 179 = .ok (.getfield 7, 3) := by decide +kernel
theorem dX12_odds_182 : decode cX12_odds 182 = .ok (.sipush 3200, 3) := by decide +kernel
theorem dX12_odds_185 : decode cX12_odds 185 = .ok (.iload 7, 2) := by decide +kernel
theorem dX12_odds_187 : decode cX12_odds 187 = .ok (.iadd, 1) := by decide +kernel
theorem dX12_odds_188 : decode cX12_odds 188 = .ok (.iaload, 1) := by decide +kernel
theorem dX12_odds_189 : decode cX12_odds 189 = .ok (.iastore, 1) := by decide +kernel
theorem dX12_odds_190 : decode cX12_odds 190 = .ok (.iinc 7 1, 3) := by decide +kernel
theorem dX12_odds_193 : decode cX12_odds 193 = .ok (.goto (-29), 3) := by decide +kernel
theorem dX12_odds_196 : decode cX12_odds 196 = .ok (.iinc 6 1, 3) := by decide +kernel
theorem dX12_odds_199 : decode cX12_odds 199 = .ok (.goto (-77), 3) := by decide +kernel
theorem dX12_odds_202 : decode cX12_odds 202 = .ok (.aload_n 0, 1) := by decide +kernel
theorem dX12_odds_203 : decode cX12_odds 203 = .ok (.iload 5, 2) := by decide +kernel
theorem dX12_odds_205 : decode cX12_odds 205 = .ok (.i2l, 1) := by decide +kernel
theorem dX12_odds_206 : decode cX12_odds 206 = .ok (.iload 4, 2) := by decide +kernel
theorem dX12_odds_208 : decode cX12_odds 208 = .ok (.i2l, 1) := by decide +kernel
theorem dX12_odds_209 : decode cX12_odds 209 = .ok (.invokevirtual 353, 3) := by decide +kernel
theorem dX12_odds_212 : decode cX12_odds 212 = .ok (.ireturn, 1) := by decide +kernel
set_option maxRecDepth 100000 in
theorem f_X12_odds_L84_ok {E : EnvT} {C : Cx} {Mi : Mem} {x0 : Int} (h0 : x0 ≠ 0) (hC : CxOK E C cX12_odds 8 yX12_odds.cls 12 0 0) {r0 : Int} {M0 : Mem} (hq : RQ E C 0 0 Mi (some .boolean) (some (0, r0)) M0) {x1 x2 x3 x4 : Int} {k : Mem → Option (Int × Mem)} (hk : ∀ M15, Bk E C 8 Mi (r0, M0) 116 [(0, 30, x0), (1, 0, x1), (2, 0, x2), (3, 0, x3), (4, 0, x4)] [] M15 0 0 (k M15)) : ∀ (n : Nat) (p9 : Int) (M10 : Mem), Bk E C 8 Mi (r0, M0) 84 [(0, 30, x0), (1, 0, x1), (2, 0, x2), (3, 0, x3), (4, 0, x4), (5, 0, p9)] [] M10 0 0 (f_X12_odds_L84 x0 x1 x2 x3 x4 k n p9 M10) := by
  intro n
  induction n with
  | zero =>
    intro p9 M10
    exact r_none
  | succ n ih =>
    intro p9 M10
    rw [f_X12_odds_L84]
    refine r_iload 84 hC 5 rfl dX12_odds_84 ?_
    refine r_sipush 86 hC ks_270 dX12_odds_86 ?_
    refine r_icmp_ge 89 hC (tgt := 116) (by decide) dX12_odds_89 ?_ ?_
    · exact r_sub [0, 1, 2, 3, 4] rfl (hk M10)
    · refine r_aload_n 92 hC 0 rfl (Or.inl (by decide)) rfl dX12_odds_92 ?_
      refine r_get 93 hC fd_10_0 fl_X12_7 dX12_odds_93 (fun v11 => ?_)
      refine r_sipush 96 hC ks_3200 dX12_odds_96 ?_
      refine r_iload 99 hC 5 rfl dX12_odds_99 ?_
      refine r_iadd 101 hC dX12_odds_101 ?_
      refine r_aload_n 102 hC 0 rfl (Or.inl (by decide)) rfl dX12_odds_102 ?_
      refine r_get 103 hC fd_10_0 fl_X12_7 dX12_odds_103 (fun v12 => ?_)
      refine r_iload 106 hC 5 rfl dX12_odds_106 ?_
      refine r_iaload 108 hC dX12_odds_108 (fun v13 => ?_)
      refine r_iastore 109 hC dX12_odds_109 (fun M14 => ?_)
      refine r_iinc 110 hC 5 rfl (by decide) dX12_odds_110 (r_eqls (ls' := [(5, 0, w32 (p9 + 1)), (0, 30, x0), (1, 0, x1), (2, 0, x2), (3, 0, x3), (4, 0, x4)]) rfl ?_)
      refine r_goto 113 hC (tgt := 84) (by decide) dX12_odds_113 ?_
      exact r_sub [1, 2, 3, 4, 5, 0] rfl (ih (w32 (p9 + 1)) M14)
set_option maxRecDepth 100000 in
theorem f_X12_odds_L164_ok {E : EnvT} {C : Cx} {Mi : Mem} {x0 : Int} (h0 : x0 ≠ 0) (hC : CxOK E C cX12_odds 8 yX12_odds.cls 12 0 0) {r0 : Int} {M0 : Mem} (hq : RQ E C 0 0 Mi (some .boolean) (some (0, r0)) M0) {p18 v24 x1 x2 x3 x4 : Int} {k : Mem → Option (Int × Mem)} (hk : ∀ M31, Bk E C 8 Mi (r0, M0) 196 [(0, 30, x0), (1, 0, x1), (2, 0, x2), (3, 0, x3), (4, 0, x4), (5, 0, v24), (6, 0, p18)] [] M31 0 0 (k M31)) : ∀ (n : Nat) (p25 : Int) (M26 : Mem), Bk E C 8 Mi (r0, M0) 164 [(0, 30, x0), (1, 0, x1), (2, 0, x2), (3, 0, x3), (4, 0, x4), (5, 0, v24), (6, 0, p18), (7, 0, p25)] [] M26 0 0 (f_X12_odds_L164 p18 v24 x0 x1 x2 x3 x4 k n p25 M26) := by
  intro n
  induction n with
  | zero =>
    intro p25 M26
    exact r_none
  | succ n ih =>
    intro p25 M26
    rw [f_X12_odds_L164]
    refine r_iload 164 hC 7 rfl dX12_odds_164 ?_
    refine r_sipush 166 hC ks_270 dX12_odds_166 ?_
    refine r_icmp_ge 169 hC (tgt := 196) (by decide) dX12_odds_169 ?_ ?_
    · exact r_sub [0, 1, 2, 3, 4, 5, 6] rfl (hk M26)
    · refine r_aload_n 172 hC 0 rfl (Or.inl (by decide)) rfl dX12_odds_172 ?_
      refine r_get 173 hC fd_10_0 fl_X12_7 dX12_odds_173 (fun v27 => ?_)
      refine r_iload 176 hC 7 rfl dX12_odds_176 ?_
      refine r_aload_n 178 hC 0 rfl (Or.inl (by decide)) rfl dX12_odds_178 ?_
      refine r_get 179 hC fd_10_0 fl_X12_7 dX12_odds_179 (fun v28 => ?_)
      refine r_sipush 182 hC ks_3200 dX12_odds_182 ?_
      refine r_iload 185 hC 7 rfl dX12_odds_185 ?_
      refine r_iadd 187 hC dX12_odds_187 ?_
      refine r_iaload 188 hC dX12_odds_188 (fun v29 => ?_)
      refine r_iastore 189 hC dX12_odds_189 (fun M30 => ?_)
      refine r_iinc 190 hC 7 rfl (by decide) dX12_odds_190 (r_eqls (ls' := [(7, 0, w32 (p25 + 1)), (0, 30, x0), (1, 0, x1), (2, 0, x2), (3, 0, x3), (4, 0, x4), (5, 0, v24), (6, 0, p18)]) rfl ?_)
      refine r_goto 193 hC (tgt := 164) (by decide) dX12_odds_193 ?_
      exact r_sub [1, 2, 3, 4, 5, 6, 7, 0] rfl (ih (w32 (p25 + 1)) M30)
set_option maxRecDepth 100000 in
theorem f_X12_odds_L122_ok {E : EnvT} {C : Cx} {Mi : Mem} {x0 : Int} (h0 : x0 ≠ 0) (hC : CxOK E C cX12_odds 8 yX12_odds.cls 12 0 0) {r0 : Int} {M0 : Mem} (hq : RQ E C 0 0 Mi (some .boolean) (some (0, r0)) M0) {x1 x2 x3 x4 : Int} {k : Int → Mem → Option (Int × Mem)} (hk : ∀ q33 M34, Bk E C 8 Mi (r0, M0) 202 [(0, 30, x0), (4, 0, x4), (5, 0, q33)] [] M34 0 0 (k q33 M34)) : ∀ (n : Nat) (p17 : Int) (p18 : Int) (M19 : Mem), Bk E C 8 Mi (r0, M0) 122 [(0, 30, x0), (1, 0, x1), (2, 0, x2), (3, 0, x3), (4, 0, x4), (5, 0, p17), (6, 0, p18)] [] M19 0 0 (f_X12_odds_L122 x0 x1 x2 x3 x4 k n p17 p18 M19) := by
  intro n
  induction n with
  | zero =>
    intro p17 p18 M19
    exact r_none
  | succ n ih =>
    intro p17 p18 M19
    rw [f_X12_odds_L122]
    refine r_iload 122 hC 6 rfl dX12_odds_122 ?_
    refine r_iload 124 hC 4 rfl dX12_odds_124 ?_
    refine r_icmp_ge 126 hC (tgt := 202) (by decide) dX12_odds_126 ?_ ?_
    · exact r_sub [0, 4, 5] rfl (hk p17 M19)
    · refine r_aload_n 129 hC 0 rfl (Or.inl (by decide)) rfl dX12_odds_129 ?_
      refine r_iload_n 130 hC 3 rfl rfl dX12_odds_130 ?_
      refine r_iload 131 hC 6 rfl dX12_odds_131 ?_
      refine r_iadd 133 hC dX12_odds_133 ?_
      refine r_callVV 134 hC [(0, w32 (x3 + p18))] [] rfl vl_X12_420 rfl h0 (by decide) (Nat.le_of_ble_eq_true rfl) (by decide) (by decide) dX12_odds_134 (t_X12_lives x0 (w32 (x3 + p18)) M19 h0) (fun M20 => ?_)
      refine r_iload 137 hC 5 rfl dX12_odds_137 ?_
      refine r_aload_n 139 hC 0 rfl (Or.inl (by decide)) rfl dX12_odds_139 ?_
      refine r_get 140 hC fd_10_0 fl_X12_7 dX12_odds_140 (fun v21 => ?_)
      refine r_sipush 143 hC ks_258 dX12_odds_143 ?_
      refine r_iload_n 146 hC 1 rfl rfl dX12_odds_146 ?_
      refine r_iadd 147 hC dX12_odds_147 ?_
      refine r_iaload 148 hC dX12_odds_148 (fun v22 => ?_)
      refine r_iload_n 149 hC 2 rfl rfl dX12_odds_149 ?_
      refine r_jn (P := fun j158 => ∀ (q23 : Int), Bk E C 8 Mi (r0, M0) 158 [(0, 30, x0), (1, 0, x1), (2, 0, x2), (3, 0, x3), (4, 0, x4), (6, 0, p18)] [(0, q23), (0, p17)] M20 0 0 (j158 q23)) ?_ (fun j158 hj158 => ?_)
      · intro q23
        refine r_iadd 158 hC dX12_odds_158 ?_
        refine r_istoreL 159 hC (by decide) dX12_odds_159 (fun v24 => r_eqls (ls' := [(5, 0, v24), (0, 30, x0), (1, 0, x1), (2, 0, x2), (3, 0, x3), (4, 0, x4), (6, 0, p18)]) rfl ?_)
        refine r_iconst 161 hC (r32c rfl) dX12_odds_161 ?_
        refine r_istore 162 hC (by decide) dX12_odds_162 (r_eqls (ls' := [(7, 0, 0), (5, 0, v24), (0, 30, x0), (1, 0, x1), (2, 0, x2), (3, 0, x3), (4, 0, x4), (6, 0, p18)]) rfl ?_)
        refine r_sub [2, 3, 4, 5, 6, 1, 7, 0] rfl (f_X12_odds_L164_ok h0 hC hq (fun M32 => ?_) KF 0 M20)
        · refine r_iinc 196 hC 6 rfl (by decide) dX12_odds_196 (r_eqls (ls' := [(6, 0, w32 (p18 + 1)), (0, 30, x0), (1, 0, x1), (2, 0, x2), (3, 0, x3), (4, 0, x4), (5, 0, v24)]) rfl ?_)
          refine r_goto 199 hC (tgt := 122) (by decide) dX12_odds_199 ?_
          exact r_sub [1, 2, 3, 4, 5, 6, 0] rfl (ih v24 (w32 (p18 + 1)) M32)
      refine r_icmp_lt 150 hC (tgt := 157) (by decide) dX12_odds_150 ?_ ?_
      · refine r_iconst 157 hC (r32c rfl) dX12_odds_157 ?_
        exact r_sub [0, 1, 2, 3, 4, 6] rfl (hj158 0)
      · refine r_iconst 153 hC (r32c rfl) dX12_odds_153 ?_
        refine r_goto 154 hC (tgt := 158) (by decide) dX12_odds_154 ?_
        exact r_sub [0, 1, 2, 3, 4, 6] rfl (hj158 1)
set_option maxRecDepth 100000 in
theorem t_X12_odds (x0 x1 x2 x3 x4 : Int) (M : Mem) (h0 : x0 ≠ 0) : MtI yX12_odds cX12_odds 8 (some .boolean) 12 0 0 [(30, x0), (0, x1), (0, x2), (0, x3), (0, x4)] M 0 (f_X12_odds x0 x1 x2 x3 x4 M) := by
  refine mk_I (by decide +kernel) (Nat.le_of_ble_eq_true rfl) (fun E C r0 M0 hC hq hin => ?_)
  refine r_eqls (ls' := [(0, 30, x0), (1, 0, x1), (2, 0, x2), (3, 0, x3), (4, 0, x4)]) rfl ?_
  unfold f_X12_odds
  refine r_aload_n 0 hC 0 rfl (Or.inl (by decide)) rfl dX12_odds_0 ?_
  refine r_iload_n 1 hC 1 rfl rfl dX12_odds_1 ?_
  refine r_callVP 2 hC [(0, x1)] [] rfl vl_X12_266 rfl h0 (by decide) (Nat.le_of_ble_eq_true rfl) (by decide) (by decide) dX12_odds_2 (t_X12_isField x0 x1 M h0) (fun v1 => ?_)
  refine r_jn (P := fun j57 => Bk E C 8 M (r0, M0) 57 [(0, 30, x0)] [] M 0 0 (j57)) ?_ (fun j57 hj57 => ?_)
  · refine r_aload_n 57 hC 0 rfl (Or.inl (by decide)) rfl dX12_odds_57 ?_
    refine r_iconst 58 hC (r32c rfl) dX12_odds_58 ?_
    refine r_callVI 59 hC [(0, 1)] [] rfl vl_X12_94 rfl h0 (by decide) (Nat.le_of_ble_eq_true rfl) (by decide) (by decide) dX12_odds_59 (t_X12_is x0 1 M h0) (fun v2 M3 => ?_)
    exact r_zreturn 62 hC hq (by decide) (by decide) dX12_odds_62
  refine r_if_eq 5 hC (tgt := 57) (by decide) dX12_odds_5 ?_ ?_
  · exact r_sub [0] rfl (hj57)
  · refine r_iload_n 8 hC 2 rfl rfl dX12_odds_8 ?_
    refine r_i2l 9 hC dX12_odds_9 ?_
    refine r_lconst 10 hC (x := 0) ⟨by decide +kernel, r64c rfl⟩ dX12_odds_10 ?_
    refine r_ldc2 11 hC (x := 9999) kl_X12_418 ⟨by decide +kernel, r64c rfl⟩ dX12_odds_11 ?_
    refine r_callSP 14 hC [(1, x2), (1, 0), (1, 9999)] [] rfl sl_X12_299 rfl (by decide) (Nat.le_of_ble_eq_true rfl) (by decide) (by decide) dX12_odds_14 (t_X12_isFrom x2 0 9999 M) (fun v4 => ?_)
    refine r_if_eq 17 hC (tgt := 57) (by decide) dX12_odds_17 ?_ ?_
    · exact r_sub [0] rfl (hj57)
    · refine r_iload_n 20 hC 3 rfl rfl dX12_odds_20 ?_
      refine r_i2l 21 hC dX12_odds_21 ?_
      refine r_lconst 22 hC (x := 0) ⟨by decide +kernel, r64c rfl⟩ dX12_odds_22 ?_
      refine r_ldc2 23 hC (x := 9999) kl_X12_418 ⟨by decide +kernel, r64c rfl⟩ dX12_odds_23 ?_
      refine r_callSP 26 hC [(1, x3), (1, 0), (1, 9999)] [] rfl sl_X12_299 rfl (by decide) (Nat.le_of_ble_eq_true rfl) (by decide) (by decide) dX12_odds_26 (t_X12_isFrom x3 0 9999 M) (fun v5 => ?_)
      refine r_if_eq 29 hC (tgt := 57) (by decide) dX12_odds_29 ?_ ?_
      · exact r_sub [0] rfl (hj57)
      · refine r_iload 32 hC 4 rfl dX12_odds_32 ?_
        refine r_i2l 34 hC dX12_odds_34 ?_
        refine r_lconst 35 hC (x := 1) ⟨by decide +kernel, r64c rfl⟩ dX12_odds_35 ?_
        refine r_ldc2 36 hC (x := 10) kl_X12_427 ⟨by decide +kernel, r64c rfl⟩ dX12_odds_36 ?_
        refine r_callSP 39 hC [(1, x4), (1, 1), (1, 10)] [] rfl sl_X12_299 rfl (by decide) (Nat.le_of_ble_eq_true rfl) (by decide) (by decide) dX12_odds_39 (t_X12_isFrom x4 1 10 M) (fun v6 => ?_)
        refine r_if_eq 42 hC (tgt := 57) (by decide) dX12_odds_42 ?_ ?_
        · exact r_sub [0] rfl (hj57)
        · refine r_iload_n 45 hC 3 rfl rfl dX12_odds_45 ?_
          refine r_iload 46 hC 4 rfl dX12_odds_46 ?_
          refine r_iadd 48 hC dX12_odds_48 ?_
          refine r_iconst 49 hC (r32c rfl) dX12_odds_49 ?_
          refine r_isub 50 hC dX12_odds_50 ?_
          refine r_sipush 51 hC ks_9999 dX12_odds_51 ?_
          refine r_icmp_le 54 hC (tgt := 63) (by decide) dX12_odds_54 ?_ ?_
          · refine r_aload_n 63 hC 0 rfl (Or.inl (by decide)) rfl dX12_odds_63 ?_
            refine r_get 64 hC fd_10_0 fl_X12_7 dX12_odds_64 (fun v7 => ?_)
            refine r_bipush 67 hC kb_9 dX12_odds_67 ?_
            refine r_iaload 69 hC dX12_odds_69 (fun v8 => ?_)
            refine r_iconst 70 hC (r32c rfl) dX12_odds_70 ?_
            refine r_icmp_ne 71 hC (tgt := 81) (by decide) dX12_odds_71 ?_ ?_
            · refine r_iconst 81 hC (r32c rfl) dX12_odds_81 ?_
              refine r_istore 82 hC (by decide) dX12_odds_82 (r_eqls (ls' := [(5, 0, 0), (0, 30, x0), (1, 0, x1), (2, 0, x2), (3, 0, x3), (4, 0, x4)]) rfl ?_)
              refine r_sub [1, 2, 3, 4, 5, 0] rfl (f_X12_odds_L84_ok h0 hC hq (fun M16 => ?_) KF 0 M)
              · refine r_iconst 116 hC (r32c rfl) dX12_odds_116 ?_
                refine r_istore 117 hC (by decide) dX12_odds_117 (r_eqls (ls' := [(5, 0, 0), (0, 30, x0), (1, 0, x1), (2, 0, x2), (3, 0, x3), (4, 0, x4)]) rfl ?_)
                refine r_iconst 119 hC (r32c rfl) dX12_odds_119 ?_
                refine r_istore 120 hC (by decide) dX12_odds_120 (r_eqls (ls' := [(6, 0, 0), (5, 0, 0), (0, 30, x0), (1, 0, x1), (2, 0, x2), (3, 0, x3), (4, 0, x4)]) rfl ?_)
                refine r_sub [2, 3, 4, 5, 6, 1, 0] rfl (f_X12_odds_L122_ok h0 hC hq (fun q35 M36 => ?_) KF 0 0 M16)
                · refine r_aload_n 202 hC 0 rfl (Or.inl (by decide)) rfl dX12_odds_202 ?_
                  refine r_iload 203 hC 2 rfl dX12_odds_203 ?_
                  refine r_i2l 205 hC dX12_odds_205 ?_
                  refine r_iload 206 hC 1 rfl dX12_odds_206 ?_
                  refine r_i2l 208 hC dX12_odds_208 ?_
                  refine r_callVI 209 hC [(1, q35), (1, x4)] [] rfl vl_X12_353 rfl h0 (by decide) (Nat.le_of_ble_eq_true rfl) (by decide) (by decide) dX12_odds_209 (t_X12_tellsBy x0 q35 x4 M36 h0) (fun v37 M38 => ?_)
                  exact r_zreturn 212 hC hq (by decide) (by decide) dX12_odds_212
            · refine r_aload_n 74 hC 0 rfl (Or.inl (by decide)) rfl dX12_odds_74 ?_
              refine r_bipush 75 hC kb_6 dX12_odds_75 ?_
              refine r_callVI 77 hC [(0, 6)] [] rfl vl_X12_94 rfl h0 (by decide) (Nat.le_of_ble_eq_true rfl) (by decide) (by decide) dX12_odds_77 (t_X12_is x0 6 M h0) (fun v39 M40 => ?_)
              exact r_zreturn 80 hC hq (by decide) (by decide) dX12_odds_80
          · exact r_sub [0] rfl (hj57)

/-! WaterTurnsModel.copies(II)V -/
theorem dX12_copies_0 : decode cX12_copies 0 = .ok (.iconst 0, 1) := by decide +kernel
theorem dX12_copies_1 : decode cX12_copies 1 = .ok (.istore_n 3, 1) := by decide +kernel
theorem dX12_copies_2 : decode cX12_copies 2 = .ok (.iload_n 3, 1) := by decide +kernel
theorem dX12_copies_3 : decode cX12_copies 3 = .ok (.sipush 640, 3) := by decide +kernel
theorem dX12_copies_6 : decode cX12_copies 6 = .ok (.if_icmp .ge 33, 3) := by decide +kernel
theorem dX12_copies_9 : decode cX12_copies 9 = .ok (.aload_n 0, 1) := by decide +kernel
theorem dX12_copies_10 : decode cX12_copies 10 = .ok (.getfield 7, 3) := by decide +kernel
theorem dX12_copies_13 : decode cX12_copies 13 = .ok (.sipush 640, 3) := by decide +kernel
theorem dX12_copies_16 : decode cX12_copies 16 = .ok (.iload_n 2, 1) := by decide +kernel
theorem dX12_copies_17 : decode cX12_copies 17 = .ok (.imul, 1) := by decide +kernel
theorem dX12_copies_18 : decode cX12_copies 18 = .ok (.iload_n 3, 1) := by decide +kernel
theorem dX12_copies_19 : decode cX12_copies 19 = .ok (.iadd, 1) := by decide +kernel
theorem dX12_copies_20 : decode cX12_copies 20 = .ok (.aload_n 0, 1) := by decide +kernel
theorem dX12_copies_21 : decode cX12_copies 21 = .ok (.getfield 7, 3) := by decide +kernel
theorem dX12_copies_24 : decode cX12_copies 24 = .ok (.sipush 640, 3) := by decide +kernel
theorem dX12_copies_27 : decode cX12_copies 27 = .ok (.iload_n 1, 1) := by decide +kernel
theorem dX12_copies_28 : decode cX12_copies 28 = .ok (.imul, 1) := by decide +kernel
theorem dX12_copies_29 : decode cX12_copies 29 = .ok (.iload_n 3, 1) := by decide +kernel
theorem dX12_copies_30 : decode cX12_copies 30 = .ok (.iadd, 1) := by decide +kernel
theorem dX12_copies_31 : decode cX12_copies 31 = .ok (.iaload, 1) := by decide +kernel
theorem dX12_copies_32 : decode cX12_copies 32 = .ok (.iastore, 1) := by decide +kernel
theorem dX12_copies_33 : decode cX12_copies 33 = .ok (.iinc 3 1, 3) := by decide +kernel
theorem dX12_copies_36 : decode cX12_copies 36 = .ok (.goto (-34), 3) := by decide +kernel
theorem dX12_copies_39 : decode cX12_copies 39 = .ok (.iconst 0, 1) := by decide +kernel
theorem dX12_copies_40 : decode cX12_copies 40 = .ok (.istore_n 3, 1) := by decide +kernel
theorem dX12_copies_41 : decode cX12_copies 41 = .ok (.iload_n 3, 1) := by decide +kernel
theorem dX12_copies_42 : decode cX12_copies 42 = .ok (.bipush 26, 2) := by decide +kernel
theorem dX12_copies_44 : decode cX12_copies 44 = .ok (.if_icmp .ge 31, 3) := by decide +kernel
theorem dX12_copies_47 : decode cX12_copies 47 = .ok (.aload_n 0, 1) := by decide +kernel
theorem dX12_copies_48 : decode cX12_copies 48 = .ok (.getfield 13, 3) := by decide +kernel
theorem dX12_copies_51 : decode cX12_copies 51 = .ok (.bipush 26, 2) := by decide +kernel
theorem dX12_copies_53 : decode cX12_copies 53 = .ok (.iload_n 2, 1) := by decide +kernel
theorem dX12_copies_54 : decode cX12_copies 54 = .ok (.imul, 1) := by decide +kernel
theorem dX12_copies_55 : decode cX12_copies 55 = .ok (.iload_n 3, 1) := by decide +kernel
theorem dX12_copies_56 : decode cX12_copies 56 = .ok (.iadd, 1) := by decide +kernel
theorem dX12_copies_57 : decode cX12_copies 57 = .ok (.aload_n 0, 1) := by decide +kernel
theorem dX12_copies_58 : decode cX12_copies 58 = .ok (.getfield 13, 3) := by decide +kernel
theorem dX12_copies_61 : decode cX12_copies 61 = .ok (.bipush 26, 2) := by decide +kernel
theorem dX12_copies_63 : decode cX12_copies 63 = .ok (.iload_n 1, 1) := by decide +kernel
theorem dX12_copies_64 : decode cX12_copies 64 = .ok (.imul, 1) := by decide +kernel
theorem dX12_copies_65 : decode cX12_copies 65 = .ok (.iload_n 3, 1) := by decide +kernel
theorem dX12_copies_66 : decode cX12_copies 66 = .ok (.iadd, 1) := by decide +kernel
theorem dX12_copies_67 : decode cX12_copies 67 = .ok (.laload, 1) := by decide +kernel
theorem dX12_copies_68 : decode cX12_copies 68 = .ok (.lastore, 1) := by decide +kernel
theorem dX12_copies_69 : decode cX12_copies 69 = .ok (.iinc 3 1, 3) := by decide +kernel
theorem dX12_copies_72 : decode cX12_copies 72 = .ok (.goto (-31), 3) := by decide +kernel
theorem dX12_copies_75 : decode cX12_copies 75 = .ok (.return_, 1) := by decide +kernel
set_option maxRecDepth 100000 in
theorem f_X12_copies_L2_ok {E : EnvT} {C : Cx} {Mi : Mem} {x0 : Int} (h0 : x0 ≠ 0) (hC : CxOK E C cX12_copies 4 yX12_copies.cls 1 0 0) {M0 : Mem} (hq : RQ E C 0 0 Mi none none M0) {x1 x2 : Int} {k : Mem → Option (Mem)} (hk : ∀ M7, Bk E C 4 Mi M0 39 [(0, 30, x0), (1, 0, x1), (2, 0, x2)] [] M7 0 0 (k M7)) : ∀ (n : Nat) (p1 : Int) (M2 : Mem), Bk E C 4 Mi M0 2 [(0, 30, x0), (1, 0, x1), (2, 0, x2), (3, 0, p1)] [] M2 0 0 (f_X12_copies_L2 x0 x1 x2 k n p1 M2) := by
  intro n
  induction n with
  | zero =>
    intro p1 M2
    exact r_none
  | succ n ih =>
    intro p1 M2
    rw [f_X12_copies_L2]
    refine r_iload_n 2 hC 3 rfl rfl dX12_copies_2 ?_
    refine r_sipush 3 hC ks_640 dX12_copies_3 ?_
    refine r_icmp_ge 6 hC (tgt := 39) (by decide) dX12_copies_6 ?_ ?_
    · exact r_sub [0, 1, 2] rfl (hk M2)
    · refine r_aload_n 9 hC 0 rfl (Or.inl (by decide)) rfl dX12_copies_9 ?_
      refine r_get 10 hC fd_10_0 fl_X12_7 dX12_copies_10 (fun v3 => ?_)
      refine r_sipush 13 hC ks_640 dX12_copies_13 ?_
      refine r_iload_n 16 hC 2 rfl rfl dX12_copies_16 ?_
      refine r_imul 17 hC dX12_copies_17 ?_
      refine r_iload_n 18 hC 3 rfl rfl dX12_copies_18 ?_
      refine r_iadd 19 hC dX12_copies_19 ?_
      refine r_aload_n 20 hC 0 rfl (Or.inl (by decide)) rfl dX12_copies_20 ?_
      refine r_get 21 hC fd_10_0 fl_X12_7 dX12_copies_21 (fun v4 => ?_)
      refine r_sipush 24 hC ks_640 dX12_copies_24 ?_
      refine r_iload_n 27 hC 1 rfl rfl dX12_copies_27 ?_
      refine r_imul 28 hC dX12_copies_28 ?_
      refine r_iload_n 29 hC 3 rfl rfl dX12_copies_29 ?_
      refine r_iadd 30 hC dX12_copies_30 ?_
      refine r_iaload 31 hC dX12_copies_31 (fun v5 => ?_)
      refine r_iastore 32 hC dX12_copies_32 (fun M6 => ?_)
      refine r_iinc 33 hC 3 rfl (by decide) dX12_copies_33 (r_eqls (ls' := [(3, 0, w32 (p1 + 1)), (0, 30, x0), (1, 0, x1), (2, 0, x2)]) rfl ?_)
      refine r_goto 36 hC (tgt := 2) (by decide) dX12_copies_36 ?_
      exact r_sub [1, 2, 3, 0] rfl (ih (w32 (p1 + 1)) M6)
set_option maxRecDepth 100000 in
theorem f_X12_copies_L41_ok {E : EnvT} {C : Cx} {Mi : Mem} {x0 : Int} (h0 : x0 ≠ 0) (hC : CxOK E C cX12_copies 4 yX12_copies.cls 1 0 0) {M0 : Mem} (hq : RQ E C 0 0 Mi none none M0) {x1 x2 : Int} {k : Mem → Option (Mem)} (hk : ∀ M15, Bk E C 4 Mi M0 75 [] [] M15 0 0 (k M15)) : ∀ (n : Nat) (p9 : Int) (M10 : Mem), Bk E C 4 Mi M0 41 [(0, 30, x0), (1, 0, x1), (2, 0, x2), (3, 0, p9)] [] M10 0 0 (f_X12_copies_L41 x0 x1 x2 k n p9 M10) := by
  intro n
  induction n with
  | zero =>
    intro p9 M10
    exact r_none
  | succ n ih =>
    intro p9 M10
    rw [f_X12_copies_L41]
    refine r_iload_n 41 hC 3 rfl rfl dX12_copies_41 ?_
    refine r_bipush 42 hC kb_26 dX12_copies_42 ?_
    refine r_icmp_ge 44 hC (tgt := 75) (by decide) dX12_copies_44 ?_ ?_
    · exact r_sub [] rfl (hk M10)
    · refine r_aload_n 47 hC 0 rfl (Or.inl (by decide)) rfl dX12_copies_47 ?_
      refine r_get 48 hC fd_10_1 fl_X12_13 dX12_copies_48 (fun v11 => ?_)
      refine r_bipush 51 hC kb_26 dX12_copies_51 ?_
      refine r_iload_n 53 hC 2 rfl rfl dX12_copies_53 ?_
      refine r_imul 54 hC dX12_copies_54 ?_
      refine r_iload_n 55 hC 3 rfl rfl dX12_copies_55 ?_
      refine r_iadd 56 hC dX12_copies_56 ?_
      refine r_aload_n 57 hC 0 rfl (Or.inl (by decide)) rfl dX12_copies_57 ?_
      refine r_get 58 hC fd_10_1 fl_X12_13 dX12_copies_58 (fun v12 => ?_)
      refine r_bipush 61 hC kb_26 dX12_copies_61 ?_
      refine r_iload_n 63 hC 1 rfl rfl dX12_copies_63 ?_
      refine r_imul 64 hC dX12_copies_64 ?_
      refine r_iload_n 65 hC 3 rfl rfl dX12_copies_65 ?_
      refine r_iadd 66 hC dX12_copies_66 ?_
      refine r_laload 67 hC dX12_copies_67 (fun v13 => ?_)
      refine r_lastore 68 hC dX12_copies_68 (fun M14 => ?_)
      refine r_iinc 69 hC 3 rfl (by decide) dX12_copies_69 (r_eqls (ls' := [(3, 0, w32 (p9 + 1)), (0, 30, x0), (1, 0, x1), (2, 0, x2)]) rfl ?_)
      refine r_goto 72 hC (tgt := 41) (by decide) dX12_copies_72 ?_
      exact r_sub [1, 2, 3, 0] rfl (ih (w32 (p9 + 1)) M14)
set_option maxRecDepth 100000 in
theorem t_X12_copies (x0 x1 x2 : Int) (M : Mem) (h0 : x0 ≠ 0) : MtV yX12_copies cX12_copies 4 none 1 0 0 [(30, x0), (0, x1), (0, x2)] M (f_X12_copies x0 x1 x2 M) := by
  refine mk_V (by decide +kernel) (Nat.le_of_ble_eq_true rfl) (fun E C M0 hC hq hin => ?_)
  refine r_eqls (ls' := [(0, 30, x0), (1, 0, x1), (2, 0, x2)]) rfl ?_
  unfold f_X12_copies
  refine r_iconst 0 hC (r32c rfl) dX12_copies_0 ?_
  refine r_istore_n 1 hC rfl (by decide) dX12_copies_1 (r_eqls (ls' := [(3, 0, 0), (0, 30, x0), (1, 0, x1), (2, 0, x2)]) rfl ?_)
  refine r_sub [1, 2, 3, 0] rfl (f_X12_copies_L2_ok h0 hC hq (fun M8 => ?_) KF 0 M)
  · refine r_iconst 39 hC (r32c rfl) dX12_copies_39 ?_
    refine r_istore_n 40 hC rfl (by decide) dX12_copies_40 (r_eqls (ls' := [(3, 0, 0), (0, 30, x0), (1, 0, x1), (2, 0, x2)]) rfl ?_)
    refine r_sub [1, 2, 3, 0] rfl (f_X12_copies_L41_ok h0 hC hq (fun M16 => ?_) KF 0 M8)
    · exact r_return 75 hC hq (by decide) (by decide) dX12_copies_75

/-! WaterTurnsModel.mark()I -/
theorem dX12_mark_0 : decode cX12_mark 0 = .ok (.aload_n 0, 1) := by decide +kernel
theorem dX12_mark_1 : decode cX12_mark 1 = .ok (.getfield 429, 3) := by decide +kernel
theorem dX12_mark_4 : decode cX12_mark 4 = .ok (.iconst 3, 1) := by decide +kernel
theorem dX12_mark_5 : decode cX12_mark 5 = .ok (.if_icmp .ne 9, 3) := by decide +kernel
theorem dX12_mark_8 : decode cX12_mark 8 = .ok (.aload_n 0, 1) := by decide +kernel
theorem dX12_mark_9 : decode cX12_mark 9 = .ok (.iconst 4, 1) := by decide +kernel
theorem dX12_mark_10 : decode cX12_mark 10 = .ok (.invokevirtual 87, 3) := by decide +kernel
theorem dX12_mark_13 : decode cX12_mark 13 = .ok (.ireturn, 1) := by decide +kernel
theorem dX12_mark_14 : decode cX12_mark 14 = .ok (.aload_n 0, 1) := by decide +kernel
theorem dX12_mark_15 : decode cX12_mark 15 = .ok (.dup, 1) := by decide +kernel
theorem dX12_mark_16 : decode cX12_mark 16 = .ok (.getfield 429, 3) := by decide +kernel
theorem dX12_mark_19 : decode cX12_mark 19 = .ok (.iconst 1, 1) := by decide +kernel
theorem dX12_mark_20 : decode cX12_mark 20 = .ok (.iadd, 1) := by decide +kernel
theorem dX12_mark_21 : decode cX12_mark 21 = .ok (.putfield 429, 3) := by decide +kernel
theorem dX12_mark_24 : decode cX12_mark 24 = .ok (.aload_n 0, 1) := by decide +kernel
theorem dX12_mark_25 : decode cX12_mark 25 = .ok (.iconst 0, 1) := by decide +kernel
theorem dX12_mark_26 : decode cX12_mark 26 = .ok (.aload_n 0, 1) := by decide +kernel
theorem dX12_mark_27 : decode cX12_mark 27 = .ok (.getfield 429, 3) := by decide +kernel
theorem dX12_mark_30 : decode cX12_mark 30 = .ok (.invokevirtual 432, 3) := by decide +kernel
theorem dX12_mark_33 : decode cX12_mark 33 = .ok (.aload_n 0, 1) := by decide +kernel
theorem dX12_mark_34 : decode cX12_mark 34 = .ok (.aload_n 0, 1) := by decide +kernel
theorem dX12_mark_35 : decode cX12_mark 35 = .ok (.getfield 429, 3) := by decide +kernel
theorem dX12_mark_38 : decode cX12_mark 38 = .ok (.invokevirtual 91, 3) := by decide +kernel
theorem dX12_mark_41 : decode cX12_mark 41 = .ok (.ireturn, 1) := by decide +kernel
set_option maxRecDepth 100000 in
theorem t_X12_mark (x0 : Int) (M : Mem) (h0 : x0 ≠ 0) : MtI yX12_mark cX12_mark 1 (some .int) 2 0 0 [(30, x0)] M 0 (f_X12_mark x0 M) := by
  refine mk_I (by decide +kernel) (Nat.le_of_ble_eq_true rfl) (fun E C r0 M0 hC hq hin => ?_)
  refine r_eqls (ls' := [(0, 30, x0)]) rfl ?_
  unfold f_X12_mark
  refine r_aload_n 0 hC 0 rfl (Or.inl (by decide)) rfl dX12_mark_0 ?_
  refine r_get 1 hC fd_10_42 fl_X12_429 dX12_mark_1 (fun v1 => ?_)
  refine r_iconst 4 hC (r32c rfl) dX12_mark_4 ?_
  refine r_icmp_ne 5 hC (tgt := 14) (by decide) dX12_mark_5 ?_ ?_
  · refine r_aload_n 14 hC 0 rfl (Or.inl (by decide)) rfl dX12_mark_14 ?_
    refine r_dup 15 hC (by decide) dX12_mark_15 ?_
    refine r_get 16 hC fd_10_42 fl_X12_429 dX12_mark_16 (fun v2 => ?_)
    refine r_iconst 19 hC (r32c rfl) dX12_mark_19 ?_
    refine r_iadd 20 hC dX12_mark_20 ?_
    refine r_put 21 hC fd_10_42 fl_X12_429 dX12_mark_21 (fun M3 => ?_)
    refine r_aload_n 24 hC 0 rfl (Or.inl (by decide)) rfl dX12_mark_24 ?_
    refine r_iconst 25 hC (r32c rfl) dX12_mark_25 ?_
    refine r_aload_n 26 hC 0 rfl (Or.inl (by decide)) rfl dX12_mark_26 ?_
    refine r_get 27 hC fd_10_42 fl_X12_429 dX12_mark_27 (fun v4 => ?_)
    refine r_callVV 30 hC [(0, 0), (0, v4)] [] rfl vl_X12_432 rfl h0 (by decide) (Nat.le_of_ble_eq_true rfl) (by decide) (by decide) dX12_mark_30 (t_X12_copies x0 0 v4 M3 h0) (fun M5 => ?_)
    refine r_aload_n 33 hC 0 rfl (Or.inl (by decide)) rfl dX12_mark_33 ?_
    refine r_aload_n 34 hC 0 rfl (Or.inl (by decide)) rfl dX12_mark_34 ?_
    refine r_get 35 hC fd_10_42 fl_X12_429 dX12_mark_35 (fun v6 => ?_)
    refine r_callVI 38 hC [(0, v6)] [] rfl vl_X12_91 rfl h0 (by decide) (Nat.le_of_ble_eq_true rfl) (by decide) (by decide) dX12_mark_38 (t_X12_gives x0 v6 M5 h0) (fun v7 M8 => ?_)
    exact r_ireturn 41 hC hq (by decide) (by decide) dX12_mark_41
  · refine r_aload_n 8 hC 0 rfl (Or.inl (by decide)) rfl dX12_mark_8 ?_
    refine r_iconst 9 hC (r32c rfl) dX12_mark_9 ?_
    refine r_callVI 10 hC [(0, 4)] [] rfl vl_X12_87 rfl h0 (by decide) (Nat.le_of_ble_eq_true rfl) (by decide) (by decide) dX12_mark_10 (t_X12_refuse x0 4 M h0) (fun v9 M10 => ?_)
    exact r_ireturn 13 hC hq (by decide) (by decide) dX12_mark_13

/-! WaterTurnsModel.back()I -/
theorem dX12_back_0 : decode cX12_back 0 = .ok (.aload_n 0, 1) := by decide +kernel
theorem dX12_back_1 : decode cX12_back 1 = .ok (.getfield 429, 3) := by decide +kernel
theorem dX12_back_4 : decode cX12_back 4 = .ok (.ifCond .ne 10, 3) := by decide +kernel
theorem dX12_back_7 : decode cX12_back 7 = .ok (.aload_n 0, 1) := by decide +kernel
theorem dX12_back_8 : decode cX12_back 8 = .ok (.bipush 6, 2) := by decide +kernel
theorem dX12_back_10 : decode cX12_back 10 = .ok (.invokevirtual 87, 3) := by decide +kernel
theorem dX12_back_13 : decode cX12_back 13 = .ok (.ireturn, 1) := by decide +kernel
theorem dX12_back_14 : decode cX12_back 14 = .ok (.aload_n 0, 1) := by decide +kernel
theorem dX12_back_15 : decode cX12_back 15 = .ok (.aload_n 0, 1) := by decide +kernel
theorem dX12_back_16 : decode cX12_back 16 = .ok (.getfield 429, 3) := by decide +kernel
theorem dX12_back_19 : decode cX12_back 19 = .ok (.iconst 0, 1) := by decide +kernel
theorem dX12_back_20 : decode cX12_back 20 = .ok (.invokevirtual 432, 3) := by decide +kernel
theorem dX12_back_23 : decode cX12_back 23 = .ok (.aload_n 0, 1) := by decide +kernel
theorem dX12_back_24 : decode cX12_back 24 = .ok (.dup, 1) := by decide +kernel
theorem dX12_back_25 : decode cX12_back 25 = .ok (.getfield 429, 3) := by decide +kernel
theorem dX12_back_28 : decode cX12_back 28 = .ok (.iconst 1, 1) := by decide +kernel
theorem dX12_back_29 : decode cX12_back 29 = .ok (.isub, 1) := by decide +kernel
theorem dX12_back_30 : decode cX12_back 30 = .ok (.putfield 429, 3) := by decide +kernel
theorem dX12_back_33 : decode cX12_back 33 = .ok (.aload_n 0, 1) := by decide +kernel
theorem dX12_back_34 : decode cX12_back 34 = .ok (.aload_n 0, 1) := by decide +kernel
theorem dX12_back_35 : decode cX12_back 35 = .ok (.getfield 429, 3) := by decide +kernel
theorem dX12_back_38 : decode cX12_back 38 = .ok (.invokevirtual 91, 3) := by decide +kernel
theorem dX12_back_41 : decode cX12_back 41 = .ok (.ireturn, 1) := by decide +kernel
set_option maxRecDepth 100000 in
theorem t_X12_back (x0 : Int) (M : Mem) (h0 : x0 ≠ 0) : MtI yX12_back cX12_back 1 (some .int) 2 0 0 [(30, x0)] M 0 (f_X12_back x0 M) := by
  refine mk_I (by decide +kernel) (Nat.le_of_ble_eq_true rfl) (fun E C r0 M0 hC hq hin => ?_)
  refine r_eqls (ls' := [(0, 30, x0)]) rfl ?_
  unfold f_X12_back
  refine r_aload_n 0 hC 0 rfl (Or.inl (by decide)) rfl dX12_back_0 ?_
  refine r_get 1 hC fd_10_42 fl_X12_429 dX12_back_1 (fun v1 => ?_)
  refine r_if_ne 4 hC (tgt := 14) (by decide) dX12_back_4 ?_ ?_
  · refine r_aload_n 14 hC 0 rfl (Or.inl (by decide)) rfl dX12_back_14 ?_
    refine r_aload_n 15 hC 0 rfl (Or.inl (by decide)) rfl dX12_back_15 ?_
    refine r_get 16 hC fd_10_42 fl_X12_429 dX12_back_16 (fun v2 => ?_)
    refine r_iconst 19 hC (r32c rfl) dX12_back_19 ?_
    refine r_callVV 20 hC [(0, v2), (0, 0)] [] rfl vl_X12_432 rfl h0 (by decide) (Nat.le_of_ble_eq_true rfl) (by decide) (by decide) dX12_back_20 (t_X12_copies x0 v2 0 M h0) (fun M3 => ?_)
    refine r_aload_n 23 hC 0 rfl (Or.inl (by decide)) rfl dX12_back_23 ?_
    refine r_dup 24 hC (by decide) dX12_back_24 ?_
    refine r_get 25 hC fd_10_42 fl_X12_429 dX12_back_25 (fun v4 => ?_)
    refine r_iconst 28 hC (r32c rfl) dX12_back_28 ?_
    refine r_isub 29 hC dX12_back_29 ?_
    refine r_put 30 hC fd_10_42 fl_X12_429 dX12_back_30 (fun M5 => ?_)
    refine r_aload_n 33 hC 0 rfl (Or.inl (by decide)) rfl dX12_back_33 ?_
    refine r_aload_n 34 hC 0 rfl (Or.inl (by decide)) rfl dX12_back_34 ?_
    refine r_get 35 hC fd_10_42 fl_X12_429 dX12_back_35 (fun v6 => ?_)
    refine r_callVI 38 hC [(0, v6)] [] rfl vl_X12_91 rfl h0 (by decide) (Nat.le_of_ble_eq_true rfl) (by decide) (by decide) dX12_back_38 (t_X12_gives x0 v6 M5 h0) (fun v7 M8 => ?_)
    exact r_ireturn 41 hC hq (by decide) (by decide) dX12_back_41
  · refine r_aload_n 7 hC 0 rfl (Or.inl (by decide)) rfl dX12_back_7 ?_
    refine r_bipush 8 hC kb_6 dX12_back_8 ?_
    refine r_callVI 10 hC [(0, 6)] [] rfl vl_X12_87 rfl h0 (by decide) (Nat.le_of_ble_eq_true rfl) (by decide) (by decide) dX12_back_10 (t_X12_refuse x0 6 M h0) (fun v9 M10 => ?_)
    exact r_ireturn 13 hC hq (by decide) (by decide) dX12_back_13
