/-! WaterTurns.days(I)I -/
theorem dX11_days_0 : decode cX11_days 0 = .ok (.iload_n 1, 1) := by decide +kernel
theorem dX11_days_1 : decode cX11_days 1 = .ok (.iconst 0, 1) := by decide +kernel
theorem dX11_days_2 : decode cX11_days 2 = .ok (.aload_n 0, 1) := by decide +kernel
theorem dX11_days_3 : decode cX11_days 3 = .ok (.getfield 19, 3) := by decide +kernel
theorem dX11_days_6 : decode cX11_days 6 = .ok (.getfield 174, 3) := by decide +kernel
theorem dX11_days_9 : decode cX11_days 9 = .ok (.sipush 300, 3) := by decide +kernel
theorem dX11_days_12 : decode cX11_days 12 = .ok (.invokestatic 186, 3) := by decide +kernel
theorem dX11_days_15 : decode cX11_days 15 = .ok (.invokestatic 132, 3) := by decide +kernel
theorem dX11_days_18 : decode cX11_days 18 = .ok (.ifCond .ne 9, 3) := by decide +kernel
theorem dX11_days_21 : decode cX11_days 21 = .ok (.aload_n 0, 1) := by decide +kernel
theorem dX11_days_22 : decode cX11_days 22 = .ok (.iconst 1, 1) := by decide +kernel
theorem dX11_days_23 : decode cX11_days 23 = .ok (.invokevirtual 91, 3) := by decide +kernel
theorem dX11_days_26 : decode cX11_days 26 = .ok (.ireturn, 1) := by decide +kernel
theorem dX11_days_27 : decode cX11_days 27 = .ok (.aload_n 0, 1) := by decide +kernel
theorem dX11_days_28 : decode cX11_days 28 = .ok (.getfield 19, 3) := by decide +kernel
theorem dX11_days_31 : decode cX11_days 31 = .ok (.iload_n 1, 1) := by decide +kernel
theorem dX11_days_32 : decode cX11_days 32 = .ok (.aload_n 0, 1) := by decide +kernel
theorem dX11_days_33 : decode cX11_days 33 = .ok (.getfield 26, 3) := by decide +kernel
theorem dX11_days_36 : decode cX11_days 36 = .ok (.getfield 111, 3) := by decide +kernel
theorem dX11_days_39 : decode cX11_days 39 = .ok (.aload_n 0, 1) := by decide +kernel
theorem dX11_days_40 : decode cX11_days 40 = .ok (.getfield 69, 3) := by decide +kernel
theorem dX11_days_43 : decode cX11_days 43 = .ok (.invokestatic 189, 3) := by decide +kernel
theorem dX11_days_46 : decode cX11_days 46 = .ok (.istore_n 2, 1) := by decide +kernel
theorem dX11_days_47 : decode cX11_days 47 = .ok (.aload_n 0, 1) := by decide +kernel
theorem dX11_days_48 : decode cX11_days 48 = .ok (.getfield 19, 3) := by decide +kernel
theorem dX11_days_51 : decode cX11_days 51 = .ok (.iconst 0, 1) := by decide +kernel
theorem dX11_days_52 : decode cX11_days 52 = .ok (.putfield 174, 3) := by decide +kernel
theorem dX11_days_55 : decode cX11_days 55 = .ok (.iload_n 2, 1) := by decide +kernel
theorem dX11_days_56 : decode cX11_days 56 = .ok (.ifCond .ne 10, 3) := by decide +kernel
theorem dX11_days_59 : decode cX11_days 59 = .ok (.aload_n 0, 1) := by decide +kernel
theorem dX11_days_60 : decode cX11_days 60 = .ok (.bipush 9, 2) := by decide +kernel
theorem dX11_days_62 : decode cX11_days 62 = .ok (.invokevirtual 91, 3) := by decide +kernel
theorem dX11_days_65 : decode cX11_days 65 = .ok (.ireturn, 1) := by decide +kernel
theorem dX11_days_66 : decode cX11_days 66 = .ok (.aload_n 0, 1) := by decide +kernel
theorem dX11_days_67 : decode cX11_days 67 = .ok (.getfield 26, 3) := by decide +kernel
theorem dX11_days_70 : decode cX11_days 70 = .ok (.getfield 194, 3) := by decide +kernel
theorem dX11_days_73 : decode cX11_days 73 = .ok (.astore_n 3, 1) := by decide +kernel
theorem dX11_days_74 : decode cX11_days 74 = .ok (.aload_n 0, 1) := by decide +kernel
theorem dX11_days_75 : decode cX11_days 75 = .ok (.getfield 26, 3) := by decide +kernel
theorem dX11_days_78 : decode cX11_days 78 = .ok (.aload_n 0, 1) := by decide +kernel
theorem dX11_days_79 : decode cX11_days 79 = .ok (.getfield 69, 3) := by decide +kernel
theorem dX11_days_82 : decode cX11_days 82 = .ok (.putfield 194, 3) := by decide +kernel
theorem dX11_days_85 : decode cX11_days 85 = .ok (.aload_n 0, 1) := by decide +kernel
theorem dX11_days_86 : decode cX11_days 86 = .ok (.aload_n 3, 1) := by decide +kernel
theorem dX11_days_87 : decode cX11_days 87 = .ok (.putfield 69, 3) := by decide +kernel
theorem dX11_days_90 : decode cX11_days 90 = .ok (.aload_n 0, 1) := by decide +kernel
theorem dX11_days_91 : decode cX11_days 91 = .ok (.aload_n 0, 1) := by decide +kernel
theorem dX11_days_92 : decode cX11_days 92 = .ok (.getfield 26, 3) := by decide +kernel
theorem dX11_days_95 : decode cX11_days 95 = .ok (.getfield 194, 3) := by decide +kernel
theorem dX11_days_98 : decode cX11_days 98 = .ok (.getfield 197, 3) := by decide +kernel
theorem dX11_days_101 : decode cX11_days 101 = .ok (.invokevirtual 95, 3) := by decide +kernel
theorem dX11_days_104 : decode cX11_days 104 = .ok (.ireturn, 1) := by decide +kernel
set_option maxRecDepth 100000 in
theorem t_X11_days (x0 x1 : Int) (M : Mem) (h0 : x0 ≠ 0) : MtI yX11_days cX11_days 4 (some .int) 8 0 0 [(29, x0), (0, x1)] M 0 (f_X11_days x0 x1 M) := by
  refine mk_I (by decide +kernel) (Nat.le_of_ble_eq_true rfl) (fun E C r0 M0 hC hq hin => ?_)
  refine r_eqls (ls' := [(0, 29, x0), (1, 0, x1)]) rfl ?_
  unfold f_X11_days
  refine r_iload_n 0 hC 1 rfl rfl dX11_days_0 ?_
  refine r_iconst 1 hC (r32c rfl) dX11_days_1 ?_
  refine r_aload_n 2 hC 0 rfl (Or.inl (by decide)) rfl dX11_days_2 ?_
  refine r_get 3 hC fd_9_1 fl_X11_19 dX11_days_3 (fun v1 => ?_)
  refine r_get 6 hC fd_5_6 fl_X11_174 dX11_days_6 (fun v2 => ?_)
  refine r_sipush 9 hC ks_300 dX11_days_9 ?_
  refine r_callSP 12 hC [(0, v2), (0, 300)] [(0, 0), (0, x1)] rfl sl_X11_186 rfl (by decide) (Nat.le_of_ble_eq_true rfl) (by decide) (by decide) dX11_days_12 (t_J9_min_7cf53 v2 300 M) (fun v3 => ?_)
  refine r_callSP 15 hC [(0, x1), (0, 0), (0, v3)] [] rfl sl_X11_132 rfl (by decide) (Nat.le_of_ble_eq_true rfl) (by decide) (by decide) dX11_days_15 (t_X11_isWithin x1 0 v3 M) (fun v4 => ?_)
  refine r_if_ne 18 hC (tgt := 27) (by decide) dX11_days_18 ?_ ?_
  · refine r_aload_n 27 hC 0 rfl (Or.inl (by decide)) rfl dX11_days_27 ?_
    refine r_get 28 hC fd_9_1 fl_X11_19 dX11_days_28 (fun v5 => ?_)
    refine r_iload_n 31 hC 1 rfl rfl dX11_days_31 ?_
    refine r_aload_n 32 hC 0 rfl (Or.inl (by decide)) rfl dX11_days_32 ?_
    refine r_get 33 hC fd_9_2 fl_X11_26 dX11_days_33 (fun v6 => ?_)
    refine r_get 36 hC fd_8_0 fl_X11_111 dX11_days_36 (fun v7 => ?_)
    refine r_aload_n 39 hC 0 rfl (Or.inl (by decide)) rfl dX11_days_39 ?_
    refine r_get 40 hC fd_9_9 fl_X11_69 dX11_days_40 (fun v8 => ?_)
    refine r_callSI 43 hC [(25, v5), (0, x1), (27, v7), (20, v8)] [] rfl sl_X11_189 rfl (by decide) (Nat.le_of_ble_eq_true rfl) (by decide) (by decide) dX11_days_43 (t_X1_takes v5 x1 v7 v8 M) (fun v9 M10 => ?_)
    refine r_istore_n 46 hC rfl (by decide) dX11_days_46 (r_eqls (ls' := [(2, 0, v9), (0, 29, x0), (1, 0, x1)]) rfl ?_)
    refine r_aload_n 47 hC 1 rfl (Or.inl (by decide)) rfl dX11_days_47 ?_
    refine r_get 48 hC fd_9_1 fl_X11_19 dX11_days_48 (fun v11 => ?_)
    refine r_iconst 51 hC (r32c rfl) dX11_days_51 ?_
    refine r_put 52 hC fd_5_6 fl_X11_174 dX11_days_52 (fun M12 => ?_)
    refine r_iload_n 55 hC 0 rfl rfl dX11_days_55 ?_
    refine r_if_ne 56 hC (tgt := 66) (by decide) dX11_days_56 ?_ ?_
    · refine r_aload_n 66 hC 1 rfl (Or.inl (by decide)) rfl dX11_days_66 ?_
      refine r_get 67 hC fd_9_2 fl_X11_26 dX11_days_67 (fun v13 => ?_)
      refine r_get 70 hC fd_8_1 fl_X11_194 dX11_days_70 (fun v14 => ?_)
      refine r_astore_n 73 hC rfl (Or.inl (by decide)) (by decide) dX11_days_73 (r_eqls (ls' := [(3, 20, v14), (2, 0, v9), (0, 29, x0), (1, 0, x1)]) rfl ?_)
      refine r_aload_n 74 hC 2 rfl (Or.inl (by decide)) rfl dX11_days_74 ?_
      refine r_get 75 hC fd_9_2 fl_X11_26 dX11_days_75 (fun v15 => ?_)
      refine r_aload_n 78 hC 2 rfl (Or.inl (by decide)) rfl dX11_days_78 ?_
      refine r_get 79 hC fd_9_9 fl_X11_69 dX11_days_79 (fun v16 => ?_)
      refine r_put 82 hC fd_8_1 fl_X11_194 dX11_days_82 (fun M17 => ?_)
      refine r_aload_n 85 hC 2 rfl (Or.inl (by decide)) rfl dX11_days_85 ?_
      refine r_aload_n 86 hC 0 rfl (Or.inl (by decide)) rfl dX11_days_86 ?_
      refine r_put 87 hC fd_9_9 fl_X11_69 dX11_days_87 (fun M18 => ?_)
      refine r_aload_n 90 hC 2 rfl (Or.inl (by decide)) rfl dX11_days_90 ?_
      refine r_aload_n 91 hC 2 rfl (Or.inl (by decide)) rfl dX11_days_91 ?_
      refine r_get 92 hC fd_9_2 fl_X11_26 dX11_days_92 (fun v19 => ?_)
      refine r_get 95 hC fd_8_1 fl_X11_194 dX11_days_95 (fun v20 => ?_)
      refine r_get 98 hC fd_0_1 fl_X11_197 dX11_days_98 (fun v21 => ?_)
      refine r_callVI 101 hC [(0, v21)] [] rfl vl_X11_95 rfl h0 (by decide) (Nat.le_of_ble_eq_true rfl) (by decide) (by decide) dX11_days_101 (t_X11_answer x0 v21 M18 h0) (fun v22 M23 => ?_)
      exact r_ireturn 104 hC hq (by decide) (by decide) dX11_days_104
    · refine r_aload_n 59 hC 1 rfl (Or.inl (by decide)) rfl dX11_days_59 ?_
      refine r_bipush 60 hC kb_9 dX11_days_60 ?_
      refine r_callVI 62 hC [(0, 9)] [] rfl vl_X11_91 rfl h0 (by decide) (Nat.le_of_ble_eq_true rfl) (by decide) (by decide) dX11_days_62 (t_X11_refuse x0 9 M12 h0) (fun v24 M25 => ?_)
      exact r_ireturn 65 hC hq (by decide) (by decide) dX11_days_65
  · refine r_aload_n 21 hC 0 rfl (Or.inl (by decide)) rfl dX11_days_21 ?_
    refine r_iconst 22 hC (r32c rfl) dX11_days_22 ?_
    refine r_callVI 23 hC [(0, 1)] [] rfl vl_X11_91 rfl h0 (by decide) (Nat.le_of_ble_eq_true rfl) (by decide) (by decide) dX11_days_23 (t_X11_refuse x0 1 M h0) (fun v26 M27 => ?_)
    exact r_ireturn 26 hC hq (by decide) (by decide) dX11_days_26

/-! WaterTurns.fault(I)I -/
theorem dX11_fault_0 : decode cX11_fault 0 = .ok (.iload_n 1, 1) := by decide +kernel
theorem dX11_fault_1 : decode cX11_fault 1 = .ok (.ifCond .ne 13, 3) := by decide +kernel
theorem dX11_fault_4 : decode cX11_fault 4 = .ok (.aload_n 0, 1) := by decide +kernel
theorem dX11_fault_5 : decode cX11_fault 5 = .ok (.getfield 19, 3) := by decide +kernel
theorem dX11_fault_8 : decode cX11_fault 8 = .ok (.getfield 200, 3) := by decide +kernel
theorem dX11_fault_11 : decode cX11_fault 11 = .ok (.goto 19, 3) := by decide +kernel
theorem dX11_fault_14 : decode cX11_fault 14 = .ok (.iload_n 1, 1) := by decide +kernel
theorem dX11_fault_15 : decode cX11_fault 15 = .ok (.iconst 1, 1) := by decide +kernel
theorem dX11_fault_16 : decode cX11_fault 16 = .ok (.if_icmp .ne 13, 3) := by decide +kernel
theorem dX11_fault_19 : decode cX11_fault 19 = .ok (.aload_n 0, 1) := by decide +kernel
theorem dX11_fault_20 : decode cX11_fault 20 = .ok (.getfield 19, 3) := by decide +kernel
theorem dX11_fault_23 : decode cX11_fault 23 = .ok (.getfield 203, 3) := by decide +kernel
theorem dX11_fault_26 : decode cX11_fault 26 = .ok (.goto 4, 3) := by decide +kernel
theorem dX11_fault_29 : decode cX11_fault 29 = .ok (.iconst (-1), 1) := by decide +kernel
theorem dX11_fault_30 : decode cX11_fault 30 = .ok (.ireturn, 1) := by decide +kernel
set_option maxRecDepth 100000 in
theorem t_X11_fault (x0 x1 : Int) (M : Mem) (h0 : x0 ≠ 0) : MtP yX11_fault cX11_fault 2 (some .int) 1 0 0 [(29, x0), (0, x1)] M 0 (f_X11_fault x0 x1 M) := by
  refine mk_P (by decide +kernel) (Nat.le_of_ble_eq_true rfl) (fun E C r0 hC hq hin => ?_)
  refine r_eqls (ls' := [(0, 29, x0), (1, 0, x1)]) rfl ?_
  unfold f_X11_fault
  refine r_iload_n 0 hC 1 rfl rfl dX11_fault_0 ?_
  refine r_jn (P := fun j30 => ∀ (q1 : Int), Bk E C 2 M r0 30 [] [(0, q1)] M 0 0 (j30 q1)) ?_ (fun j30 hj30 => ?_)
  · intro q1
    exact r_ireturnP 30 hC hq (by decide) (by decide) dX11_fault_30
  refine r_if_ne 1 hC (tgt := 14) (by decide) dX11_fault_1 ?_ ?_
  · refine r_iload_n 14 hC 1 rfl rfl dX11_fault_14 ?_
    refine r_iconst 15 hC (r32c rfl) dX11_fault_15 ?_
    refine r_icmp_ne 16 hC (tgt := 29) (by decide) dX11_fault_16 ?_ ?_
    · refine r_iconst 29 hC (r32c rfl) dX11_fault_29 ?_
      exact r_sub [] rfl (hj30 (-1))
    · refine r_aload_n 19 hC 0 rfl (Or.inl (by decide)) rfl dX11_fault_19 ?_
      refine r_get 20 hC fd_9_1 fl_X11_19 dX11_fault_20 (fun v2 => ?_)
      refine r_get 23 hC fd_5_12 fl_X11_203 dX11_fault_23 (fun v3 => ?_)
      refine r_goto 26 hC (tgt := 30) (by decide) dX11_fault_26 ?_
      exact r_sub [] rfl (hj30 v3)
  · refine r_aload_n 4 hC 0 rfl (Or.inl (by decide)) rfl dX11_fault_4 ?_
    refine r_get 5 hC fd_9_1 fl_X11_19 dX11_fault_5 (fun v4 => ?_)
    refine r_get 8 hC fd_5_11 fl_X11_200 dX11_fault_8 (fun v5 => ?_)
    refine r_goto 11 hC (tgt := 30) (by decide) dX11_fault_11 ?_
    exact r_sub [] rfl (hj30 v5)

/-! WaterTurns.told(I)I -/
theorem dX11_told_0 : decode cX11_told 0 = .ok (.aload_n 0, 1) := by decide +kernel
theorem dX11_told_1 : decode cX11_told 1 = .ok (.getfield 26, 3) := by decide +kernel
theorem dX11_told_4 : decode cX11_told 4 = .ok (.getfield 111, 3) := by decide +kernel
theorem dX11_told_7 : decode cX11_told 7 = .ok (.astore_n 2, 1) := by decide +kernel
theorem dX11_told_8 : decode cX11_told 8 = .ok (.aload_n 0, 1) := by decide +kernel
theorem dX11_told_9 : decode cX11_told 9 = .ok (.getfield 26, 3) := by decide +kernel
theorem dX11_told_12 : decode cX11_told 12 = .ok (.getfield 206, 3) := by decide +kernel
theorem dX11_told_15 : decode cX11_told 15 = .ok (.astore_n 3, 1) := by decide +kernel
theorem dX11_told_16 : decode cX11_told 16 = .ok (.iload_n 1, 1) := by decide +kernel
theorem dX11_told_17 : decode cX11_told 17 = .ok (.tableswitch 132 0 8 #[51, 60, 69, 78, 87, 96, 105, 114, 123], 51) := by decide +kernel
theorem dX11_told_68 : decode cX11_told 68 = .ok (.aload_n 0, 1) := by decide +kernel
theorem dX11_told_69 : decode cX11_told 69 = .ok (.aload_n 3, 1) := by decide +kernel
theorem dX11_told_70 : decode cX11_told 70 = .ok (.getfield 209, 3) := by decide +kernel
theorem dX11_told_73 : decode cX11_told 73 = .ok (.invokevirtual 95, 3) := by decide +kernel
theorem dX11_told_76 : decode cX11_told 76 = .ok (.ireturn, 1) := by decide +kernel
theorem dX11_told_77 : decode cX11_told 77 = .ok (.aload_n 0, 1) := by decide +kernel
theorem dX11_told_78 : decode cX11_told 78 = .ok (.aload_n 2, 1) := by decide +kernel
theorem dX11_told_79 : decode cX11_told 79 = .ok (.getfield 126, 3) := by decide +kernel
theorem dX11_told_82 : decode cX11_told 82 = .ok (.invokevirtual 95, 3) := by decide +kernel
theorem dX11_told_85 : decode cX11_told 85 = .ok (.ireturn, 1) := by decide +kernel
theorem dX11_told_86 : decode cX11_told 86 = .ok (.aload_n 0, 1) := by decide +kernel
theorem dX11_told_87 : decode cX11_told 87 = .ok (.aload_n 2, 1) := by decide +kernel
theorem dX11_told_88 : decode cX11_told 88 = .ok (.getfield 212, 3) := by decide +kernel
theorem dX11_told_91 : decode cX11_told 91 = .ok (.invokevirtual 95, 3) := by decide +kernel
theorem dX11_told_94 : decode cX11_told 94 = .ok (.ireturn, 1) := by decide +kernel
theorem dX11_told_95 : decode cX11_told 95 = .ok (.aload_n 0, 1) := by decide +kernel
theorem dX11_told_96 : decode cX11_told 96 = .ok (.aload_n 2, 1) := by decide +kernel
theorem dX11_told_97 : decode cX11_told 97 = .ok (.getfield 114, 3) := by decide +kernel
theorem dX11_told_100 : decode cX11_told 100 = .ok (.invokevirtual 95, 3) := by decide +kernel
theorem dX11_told_103 : decode cX11_told 103 = .ok (.ireturn, 1) := by decide +kernel
theorem dX11_told_104 : decode cX11_told 104 = .ok (.aload_n 0, 1) := by decide +kernel
theorem dX11_told_105 : decode cX11_told 105 = .ok (.aload_n 2, 1) := by decide +kernel
theorem dX11_told_106 : decode cX11_told 106 = .ok (.getfield 117, 3) := by decide +kernel
theorem dX11_told_109 : decode cX11_told 109 = .ok (.invokevirtual 95, 3) := by decide +kernel
theorem dX11_told_112 : decode cX11_told 112 = .ok (.ireturn, 1) := by decide +kernel
theorem dX11_told_113 : decode cX11_told 113 = .ok (.aload_n 0, 1) := by decide +kernel
theorem dX11_told_114 : decode cX11_told 114 = .ok (.aload_n 2, 1) := by decide +kernel
theorem dX11_told_115 : decode cX11_told 115 = .ok (.getfield 120, 3) := by decide +kernel
theorem dX11_told_118 : decode cX11_told 118 = .ok (.invokevirtual 95, 3) := by decide +kernel
theorem dX11_told_121 : decode cX11_told 121 = .ok (.ireturn, 1) := by decide +kernel
theorem dX11_told_122 : decode cX11_told 122 = .ok (.aload_n 0, 1) := by decide +kernel
theorem dX11_told_123 : decode cX11_told 123 = .ok (.aload_n 3, 1) := by decide +kernel
theorem dX11_told_124 : decode cX11_told 124 = .ok (.getfield 215, 3) := by decide +kernel
theorem dX11_told_127 : decode cX11_told 127 = .ok (.invokevirtual 95, 3) := by decide +kernel
theorem dX11_told_130 : decode cX11_told 130 = .ok (.ireturn, 1) := by decide +kernel
theorem dX11_told_131 : decode cX11_told 131 = .ok (.aload_n 0, 1) := by decide +kernel
theorem dX11_told_132 : decode cX11_told 132 = .ok (.aload_n 3, 1) := by decide +kernel
theorem dX11_told_133 : decode cX11_told 133 = .ok (.getfield 216, 3) := by decide +kernel
theorem dX11_told_136 : decode cX11_told 136 = .ok (.invokevirtual 95, 3) := by decide +kernel
theorem dX11_told_139 : decode cX11_told 139 = .ok (.ireturn, 1) := by decide +kernel
theorem dX11_told_140 : decode cX11_told 140 = .ok (.aload_n 0, 1) := by decide +kernel
theorem dX11_told_141 : decode cX11_told 141 = .ok (.aload_n 3, 1) := by decide +kernel
theorem dX11_told_142 : decode cX11_told 142 = .ok (.getfield 219, 3) := by decide +kernel
theorem dX11_told_145 : decode cX11_told 145 = .ok (.invokevirtual 95, 3) := by decide +kernel
theorem dX11_told_148 : decode cX11_told 148 = .ok (.ireturn, 1) := by decide +kernel
theorem dX11_told_149 : decode cX11_told 149 = .ok (.aload_n 0, 1) := by decide +kernel
theorem dX11_told_150 : decode cX11_told 150 = .ok (.iconst 1, 1) := by decide +kernel
theorem dX11_told_151 : decode cX11_told 151 = .ok (.invokevirtual 91, 3) := by decide +kernel
theorem dX11_told_154 : decode cX11_told 154 = .ok (.ireturn, 1) := by decide +kernel
set_option maxRecDepth 100000 in
theorem t_X11_told (x0 x1 : Int) (M : Mem) (h0 : x0 ≠ 0) : MtI yX11_told cX11_told 4 (some .int) 2 0 0 [(29, x0), (0, x1)] M 0 (f_X11_told x0 x1 M) := by
  refine mk_I (by decide +kernel) (Nat.le_of_ble_eq_true rfl) (fun E C r0 M0 hC hq hin => ?_)
  refine r_eqls (ls' := [(0, 29, x0), (1, 0, x1)]) rfl ?_
  unfold f_X11_told
  refine r_aload_n 0 hC 0 rfl (Or.inl (by decide)) rfl dX11_told_0 ?_
  refine r_get 1 hC fd_9_2 fl_X11_26 dX11_told_1 (fun v1 => ?_)
  refine r_get 4 hC fd_8_0 fl_X11_111 dX11_told_4 (fun v2 => ?_)
  refine r_astore_n 7 hC rfl (Or.inl (by decide)) (by decide) dX11_told_7 (r_eqls (ls' := [(2, 27, v2), (0, 29, x0), (1, 0, x1)]) rfl ?_)
  refine r_aload_n 8 hC 1 rfl (Or.inl (by decide)) rfl dX11_told_8 ?_
  refine r_get 9 hC fd_9_2 fl_X11_26 dX11_told_9 (fun v3 => ?_)
  refine r_get 12 hC fd_8_2 fl_X11_206 dX11_told_12 (fun v4 => ?_)
  refine r_astore_n 15 hC rfl (Or.inl (by decide)) (by decide) dX11_told_15 (r_eqls (ls' := [(3, 23, v4), (2, 27, v2), (0, 29, x0), (1, 0, x1)]) rfl ?_)
  refine r_iload_n 16 hC 3 rfl rfl dX11_told_16 ?_
  refine r_sw_case 17 (tgt := 68) (off := 51) hC dX11_told_17 ⟨by decide, by decide, r32c rfl⟩ (by decide) (by decide) ?_ (fun hs0 => ?_)
  · refine r_aload_n 68 hC 2 rfl (Or.inl (by decide)) rfl dX11_told_68 ?_
    refine r_aload_n 69 hC 0 rfl (Or.inl (by decide)) rfl dX11_told_69 ?_
    refine r_get 70 hC fd_3_0 fl_X11_209 dX11_told_70 (fun v5 => ?_)
    refine r_callVI 73 hC [(0, v5)] [] rfl vl_X11_95 rfl h0 (by decide) (Nat.le_of_ble_eq_true rfl) (by decide) (by decide) dX11_told_73 (t_X11_answer x0 v5 M h0) (fun v6 M7 => ?_)
    exact r_ireturn 76 hC hq (by decide) (by decide) dX11_told_76
  refine r_sw_case 17 (tgt := 77) (off := 60) hC dX11_told_17 ⟨by decide, by decide, r32c rfl⟩ (by decide) (by decide) ?_ (fun hs1 => ?_)
  · refine r_aload_n 77 hC 2 rfl (Or.inl (by decide)) rfl dX11_told_77 ?_
    refine r_aload_n 78 hC 1 rfl (Or.inl (by decide)) rfl dX11_told_78 ?_
    refine r_get 79 hC fd_7_1 fl_X11_126 dX11_told_79 (fun v8 => ?_)
    refine r_callVI 82 hC [(0, v8)] [] rfl vl_X11_95 rfl h0 (by decide) (Nat.le_of_ble_eq_true rfl) (by decide) (by decide) dX11_told_82 (t_X11_answer x0 v8 M h0) (fun v9 M10 => ?_)
    exact r_ireturn 85 hC hq (by decide) (by decide) dX11_told_85
  refine r_sw_case 17 (tgt := 86) (off := 69) hC dX11_told_17 ⟨by decide, by decide, r32c rfl⟩ (by decide) (by decide) ?_ (fun hs2 => ?_)
  · refine r_aload_n 86 hC 2 rfl (Or.inl (by decide)) rfl dX11_told_86 ?_
    refine r_aload_n 87 hC 1 rfl (Or.inl (by decide)) rfl dX11_told_87 ?_
    refine r_get 88 hC fd_7_2 fl_X11_212 dX11_told_88 (fun v11 => ?_)
    refine r_callVI 91 hC [(0, v11)] [] rfl vl_X11_95 rfl h0 (by decide) (Nat.le_of_ble_eq_true rfl) (by decide) (by decide) dX11_told_91 (t_X11_answer x0 v11 M h0) (fun v12 M13 => ?_)
    exact r_ireturn 94 hC hq (by decide) (by decide) dX11_told_94
  refine r_sw_case 17 (tgt := 95) (off := 78) hC dX11_told_17 ⟨by decide, by decide, r32c rfl⟩ (by decide) (by decide) ?_ (fun hs3 => ?_)
  · refine r_aload_n 95 hC 2 rfl (Or.inl (by decide)) rfl dX11_told_95 ?_
    refine r_aload_n 96 hC 1 rfl (Or.inl (by decide)) rfl dX11_told_96 ?_
    refine r_get 97 hC fd_7_3 fl_X11_114 dX11_told_97 (fun v14 => ?_)
    refine r_callVI 100 hC [(0, v14)] [] rfl vl_X11_95 rfl h0 (by decide) (Nat.le_of_ble_eq_true rfl) (by decide) (by decide) dX11_told_100 (t_X11_answer x0 v14 M h0) (fun v15 M16 => ?_)
    exact r_ireturn 103 hC hq (by decide) (by decide) dX11_told_103
  refine r_sw_case 17 (tgt := 104) (off := 87) hC dX11_told_17 ⟨by decide, by decide, r32c rfl⟩ (by decide) (by decide) ?_ (fun hs4 => ?_)
  · refine r_aload_n 104 hC 2 rfl (Or.inl (by decide)) rfl dX11_told_104 ?_
    refine r_aload_n 105 hC 1 rfl (Or.inl (by decide)) rfl dX11_told_105 ?_
    refine r_get 106 hC fd_7_4 fl_X11_117 dX11_told_106 (fun v17 => ?_)
    refine r_callVI 109 hC [(0, v17)] [] rfl vl_X11_95 rfl h0 (by decide) (Nat.le_of_ble_eq_true rfl) (by decide) (by decide) dX11_told_109 (t_X11_answer x0 v17 M h0) (fun v18 M19 => ?_)
    exact r_ireturn 112 hC hq (by decide) (by decide) dX11_told_112
  refine r_sw_case 17 (tgt := 113) (off := 96) hC dX11_told_17 ⟨by decide, by decide, r32c rfl⟩ (by decide) (by decide) ?_ (fun hs5 => ?_)
  · refine r_aload_n 113 hC 2 rfl (Or.inl (by decide)) rfl dX11_told_113 ?_
    refine r_aload_n 114 hC 1 rfl (Or.inl (by decide)) rfl dX11_told_114 ?_
    refine r_get 115 hC fd_7_5 fl_X11_120 dX11_told_115 (fun v20 => ?_)
    refine r_callVI 118 hC [(0, v20)] [] rfl vl_X11_95 rfl h0 (by decide) (Nat.le_of_ble_eq_true rfl) (by decide) (by decide) dX11_told_118 (t_X11_answer x0 v20 M h0) (fun v21 M22 => ?_)
    exact r_ireturn 121 hC hq (by decide) (by decide) dX11_told_121
  refine r_sw_case 17 (tgt := 122) (off := 105) hC dX11_told_17 ⟨by decide, by decide, r32c rfl⟩ (by decide) (by decide) ?_ (fun hs6 => ?_)
  · refine r_aload_n 122 hC 2 rfl (Or.inl (by decide)) rfl dX11_told_122 ?_
    refine r_aload_n 123 hC 0 rfl (Or.inl (by decide)) rfl dX11_told_123 ?_
    refine r_get 124 hC fd_3_1 fl_X11_215 dX11_told_124 (fun v23 => ?_)
    refine r_callVI 127 hC [(0, v23)] [] rfl vl_X11_95 rfl h0 (by decide) (Nat.le_of_ble_eq_true rfl) (by decide) (by decide) dX11_told_127 (t_X11_answer x0 v23 M h0) (fun v24 M25 => ?_)
    exact r_ireturn 130 hC hq (by decide) (by decide) dX11_told_130
  refine r_sw_case 17 (tgt := 131) (off := 114) hC dX11_told_17 ⟨by decide, by decide, r32c rfl⟩ (by decide) (by decide) ?_ (fun hs7 => ?_)
  · refine r_aload_n 131 hC 2 rfl (Or.inl (by decide)) rfl dX11_told_131 ?_
    refine r_aload_n 132 hC 0 rfl (Or.inl (by decide)) rfl dX11_told_132 ?_
    refine r_get 133 hC fd_3_2 fl_X11_216 dX11_told_133 (fun v26 => ?_)
    refine r_callVI 136 hC [(0, v26)] [] rfl vl_X11_95 rfl h0 (by decide) (Nat.le_of_ble_eq_true rfl) (by decide) (by decide) dX11_told_136 (t_X11_answer x0 v26 M h0) (fun v27 M28 => ?_)
    exact r_ireturn 139 hC hq (by decide) (by decide) dX11_told_139
  refine r_sw_case 17 (tgt := 140) (off := 123) hC dX11_told_17 ⟨by decide, by decide, r32c rfl⟩ (by decide) (by decide) ?_ (fun hs8 => ?_)
  · refine r_aload_n 140 hC 2 rfl (Or.inl (by decide)) rfl dX11_told_140 ?_
    refine r_aload_n 141 hC 0 rfl (Or.inl (by decide)) rfl dX11_told_141 ?_
    refine r_get 142 hC fd_3_3 fl_X11_219 dX11_told_142 (fun v29 => ?_)
    refine r_callVI 145 hC [(0, v29)] [] rfl vl_X11_95 rfl h0 (by decide) (Nat.le_of_ble_eq_true rfl) (by decide) (by decide) dX11_told_145 (t_X11_answer x0 v29 M h0) (fun v30 M31 => ?_)
    exact r_ireturn 148 hC hq (by decide) (by decide) dX11_told_148
  refine r_sw_dflt 17 (tgt := 149) hC dX11_told_17 (by omega) (by decide) ?_
  refine r_aload_n 149 hC 2 rfl (Or.inl (by decide)) rfl dX11_told_149 ?_
  refine r_iconst 150 hC (r32c rfl) dX11_told_150 ?_
  refine r_callVI 151 hC [(0, 1)] [] rfl vl_X11_91 rfl h0 (by decide) (Nat.le_of_ble_eq_true rfl) (by decide) (by decide) dX11_told_151 (t_X11_refuse x0 1 M h0) (fun v32 M33 => ?_)
  exact r_ireturn 154 hC hq (by decide) (by decide) dX11_told_154

/-! WaterTurns.reach(II)I -/
theorem dX11_reach_0 : decode cX11_reach 0 = .ok (.aload_n 0, 1) := by decide +kernel
theorem dX11_reach_1 : decode cX11_reach 1 = .ok (.iload_n 1, 1) := by decide +kernel
theorem dX11_reach_2 : decode cX11_reach 2 = .ok (.invokevirtual 222, 3) := by decide +kernel
theorem dX11_reach_5 : decode cX11_reach 5 = .ok (.ifCond .eq 12, 3) := by decide +kernel
theorem dX11_reach_8 : decode cX11_reach 8 = .ok (.iload_n 2, 1) := by decide +kernel
theorem dX11_reach_9 : decode cX11_reach 9 = .ok (.iconst 0, 1) := by decide +kernel
theorem dX11_reach_10 : decode cX11_reach 10 = .ok (.iconst 5, 1) := by decide +kernel
theorem dX11_reach_11 : decode cX11_reach 11 = .ok (.invokestatic 132, 3) := by decide +kernel
theorem dX11_reach_14 : decode cX11_reach 14 = .ok (.ifCond .ne 9, 3) := by decide +kernel
theorem dX11_reach_17 : decode cX11_reach 17 = .ok (.aload_n 0, 1) := by decide +kernel
theorem dX11_reach_18 : decode cX11_reach 18 = .ok (.iconst 1, 1) := by decide +kernel
theorem dX11_reach_19 : decode cX11_reach 19 = .ok (.invokevirtual 91, 3) := by decide +kernel
theorem dX11_reach_22 : decode cX11_reach 22 = .ok (.ireturn, 1) := by decide +kernel
theorem dX11_reach_23 : decode cX11_reach 23 = .ok (.aload_n 0, 1) := by decide +kernel
theorem dX11_reach_24 : decode cX11_reach 24 = .ok (.aload_n 0, 1) := by decide +kernel
theorem dX11_reach_25 : decode cX11_reach 25 = .ok (.getfield 26, 3) := by decide +kernel
theorem dX11_reach_28 : decode cX11_reach 28 = .ok (.getfield 111, 3) := by decide +kernel
theorem dX11_reach_31 : decode cX11_reach 31 = .ok (.getfield 225, 3) := by decide +kernel
theorem dX11_reach_34 : decode cX11_reach 34 = .ok (.iload_n 1, 1) := by decide +kernel
theorem dX11_reach_35 : decode cX11_reach 35 = .ok (.aaload, 1) := by decide +kernel
theorem dX11_reach_36 : decode cX11_reach 36 = .ok (.iload_n 2, 1) := by decide +kernel
theorem dX11_reach_37 : decode cX11_reach 37 = .ok (.iaload, 1) := by decide +kernel
theorem dX11_reach_38 : decode cX11_reach 38 = .ok (.invokevirtual 229, 3) := by decide +kernel
theorem dX11_reach_41 : decode cX11_reach 41 = .ok (.ireturn, 1) := by decide +kernel
set_option maxRecDepth 100000 in
theorem t_X11_reach (x0 x1 x2 : Int) (M : Mem) (h0 : x0 ≠ 0) : MtI yX11_reach cX11_reach 3 (some .int) 3 0 0 [(29, x0), (0, x1), (0, x2)] M 0 (f_X11_reach x0 x1 x2 M) := by
  refine mk_I (by decide +kernel) (Nat.le_of_ble_eq_true rfl) (fun E C r0 M0 hC hq hin => ?_)
  refine r_eqls (ls' := [(0, 29, x0), (1, 0, x1), (2, 0, x2)]) rfl ?_
  unfold f_X11_reach
  refine r_aload_n 0 hC 0 rfl (Or.inl (by decide)) rfl dX11_reach_0 ?_
  refine r_iload_n 1 hC 1 rfl rfl dX11_reach_1 ?_
  refine r_callVP 2 hC [(0, x1)] [] rfl vl_X11_222 rfl h0 (by decide) (Nat.le_of_ble_eq_true rfl) (by decide) (by decide) dX11_reach_2 (t_X11_isReach x0 x1 M h0) (fun v1 => ?_)
  refine r_jn (P := fun j17 => Bk E C 3 M (r0, M0) 17 [(0, 29, x0)] [] M 0 0 (j17)) ?_ (fun j17 hj17 => ?_)
  · refine r_aload_n 17 hC 0 rfl (Or.inl (by decide)) rfl dX11_reach_17 ?_
    refine r_iconst 18 hC (r32c rfl) dX11_reach_18 ?_
    refine r_callVI 19 hC [(0, 1)] [] rfl vl_X11_91 rfl h0 (by decide) (Nat.le_of_ble_eq_true rfl) (by decide) (by decide) dX11_reach_19 (t_X11_refuse x0 1 M h0) (fun v2 M3 => ?_)
    exact r_ireturn 22 hC hq (by decide) (by decide) dX11_reach_22
  refine r_if_eq 5 hC (tgt := 17) (by decide) dX11_reach_5 ?_ ?_
  · exact r_sub [0] rfl (hj17)
  · refine r_iload_n 8 hC 2 rfl rfl dX11_reach_8 ?_
    refine r_iconst 9 hC (r32c rfl) dX11_reach_9 ?_
    refine r_iconst 10 hC (r32c rfl) dX11_reach_10 ?_
    refine r_callSP 11 hC [(0, x2), (0, 0), (0, 5)] [] rfl sl_X11_132 rfl (by decide) (Nat.le_of_ble_eq_true rfl) (by decide) (by decide) dX11_reach_11 (t_X11_isWithin x2 0 5 M) (fun v4 => ?_)
    refine r_if_ne 14 hC (tgt := 23) (by decide) dX11_reach_14 ?_ ?_
    · refine r_aload_n 23 hC 0 rfl (Or.inl (by decide)) rfl dX11_reach_23 ?_
      refine r_aload_n 24 hC 0 rfl (Or.inl (by decide)) rfl dX11_reach_24 ?_
      refine r_get 25 hC fd_9_2 fl_X11_26 dX11_reach_25 (fun v5 => ?_)
      refine r_get 28 hC fd_8_0 fl_X11_111 dX11_reach_28 (fun v6 => ?_)
      refine r_get 31 hC fd_7_8 fl_X11_225 dX11_reach_31 (fun v7 => ?_)
      refine r_iload_n 34 hC 1 rfl rfl dX11_reach_34 ?_
      refine r_aaloadI 35 hC dX11_reach_35 (fun v8 => ?_)
      refine r_iload_n 36 hC 2 rfl rfl dX11_reach_36 ?_
      refine r_iaload 37 hC dX11_reach_37 (fun v9 => ?_)
      refine r_callVI 38 hC [(0, v9)] [] rfl vl_X11_229 rfl h0 (by decide) (Nat.le_of_ble_eq_true rfl) (by decide) (by decide) dX11_reach_38 (t_X11_answerOrNone x0 v9 M h0) (fun v10 M11 => ?_)
      exact r_ireturn 41 hC hq (by decide) (by decide) dX11_reach_41
    · exact r_sub [0] rfl (hj17)

/-! WaterTurns.field(II)I -/
theorem dX11_field_0 : decode cX11_field 0 = .ok (.aload_n 0, 1) := by decide +kernel
theorem dX11_field_1 : decode cX11_field 1 = .ok (.iload_n 1, 1) := by decide +kernel
theorem dX11_field_2 : decode cX11_field 2 = .ok (.invokevirtual 123, 3) := by decide +kernel
theorem dX11_field_5 : decode cX11_field 5 = .ok (.ifCond .eq 12, 3) := by decide +kernel
theorem dX11_field_8 : decode cX11_field 8 = .ok (.iload_n 2, 1) := by decide +kernel
theorem dX11_field_9 : decode cX11_field 9 = .ok (.iconst 0, 1) := by decide +kernel
theorem dX11_field_10 : decode cX11_field 10 = .ok (.iconst 3, 1) := by decide +kernel
theorem dX11_field_11 : decode cX11_field 11 = .ok (.invokestatic 132, 3) := by decide +kernel
theorem dX11_field_14 : decode cX11_field 14 = .ok (.ifCond .ne 9, 3) := by decide +kernel
theorem dX11_field_17 : decode cX11_field 17 = .ok (.aload_n 0, 1) := by decide +kernel
theorem dX11_field_18 : decode cX11_field 18 = .ok (.iconst 1, 1) := by decide +kernel
theorem dX11_field_19 : decode cX11_field 19 = .ok (.invokevirtual 91, 3) := by decide +kernel
theorem dX11_field_22 : decode cX11_field 22 = .ok (.ireturn, 1) := by decide +kernel
theorem dX11_field_23 : decode cX11_field 23 = .ok (.aload_n 0, 1) := by decide +kernel
theorem dX11_field_24 : decode cX11_field 24 = .ok (.aload_n 0, 1) := by decide +kernel
theorem dX11_field_25 : decode cX11_field 25 = .ok (.getfield 26, 3) := by decide +kernel
theorem dX11_field_28 : decode cX11_field 28 = .ok (.getfield 111, 3) := by decide +kernel
theorem dX11_field_31 : decode cX11_field 31 = .ok (.getfield 232, 3) := by decide +kernel
theorem dX11_field_34 : decode cX11_field 34 = .ok (.iload_n 1, 1) := by decide +kernel
theorem dX11_field_35 : decode cX11_field 35 = .ok (.aaload, 1) := by decide +kernel
theorem dX11_field_36 : decode cX11_field 36 = .ok (.iload_n 2, 1) := by decide +kernel
theorem dX11_field_37 : decode cX11_field 37 = .ok (.iaload, 1) := by decide +kernel
theorem dX11_field_38 : decode cX11_field 38 = .ok (.invokevirtual 229, 3) := by decide +kernel
theorem dX11_field_41 : decode cX11_field 41 = .ok (.ireturn, 1) := by decide +kernel
set_option maxRecDepth 100000 in
theorem t_X11_field (x0 x1 x2 : Int) (M : Mem) (h0 : x0 ≠ 0) : MtI yX11_field cX11_field 3 (some .int) 3 0 0 [(29, x0), (0, x1), (0, x2)] M 0 (f_X11_field x0 x1 x2 M) := by
  refine mk_I (by decide +kernel) (Nat.le_of_ble_eq_true rfl) (fun E C r0 M0 hC hq hin => ?_)
  refine r_eqls (ls' := [(0, 29, x0), (1, 0, x1), (2, 0, x2)]) rfl ?_
  unfold f_X11_field
  refine r_aload_n 0 hC 0 rfl (Or.inl (by decide)) rfl dX11_field_0 ?_
  refine r_iload_n 1 hC 1 rfl rfl dX11_field_1 ?_
  refine r_callVP 2 hC [(0, x1)] [] rfl vl_X11_123 rfl h0 (by decide) (Nat.le_of_ble_eq_true rfl) (by decide) (by decide) dX11_field_2 (t_X11_isField x0 x1 M h0) (fun v1 => ?_)
  refine r_jn (P := fun j17 => Bk E C 3 M (r0, M0) 17 [(0, 29, x0)] [] M 0 0 (j17)) ?_ (fun j17 hj17 => ?_)
  · refine r_aload_n 17 hC 0 rfl (Or.inl (by decide)) rfl dX11_field_17 ?_
    refine r_iconst 18 hC (r32c rfl) dX11_field_18 ?_
    refine r_callVI 19 hC [(0, 1)] [] rfl vl_X11_91 rfl h0 (by decide) (Nat.le_of_ble_eq_true rfl) (by decide) (by decide) dX11_field_19 (t_X11_refuse x0 1 M h0) (fun v2 M3 => ?_)
    exact r_ireturn 22 hC hq (by decide) (by decide) dX11_field_22
  refine r_if_eq 5 hC (tgt := 17) (by decide) dX11_field_5 ?_ ?_
  · exact r_sub [0] rfl (hj17)
  · refine r_iload_n 8 hC 2 rfl rfl dX11_field_8 ?_
    refine r_iconst 9 hC (r32c rfl) dX11_field_9 ?_
    refine r_iconst 10 hC (r32c rfl) dX11_field_10 ?_
    refine r_callSP 11 hC [(0, x2), (0, 0), (0, 3)] [] rfl sl_X11_132 rfl (by decide) (Nat.le_of_ble_eq_true rfl) (by decide) (by decide) dX11_field_11 (t_X11_isWithin x2 0 3 M) (fun v4 => ?_)
    refine r_if_ne 14 hC (tgt := 23) (by decide) dX11_field_14 ?_ ?_
    · refine r_aload_n 23 hC 0 rfl (Or.inl (by decide)) rfl dX11_field_23 ?_
      refine r_aload_n 24 hC 0 rfl (Or.inl (by decide)) rfl dX11_field_24 ?_
      refine r_get 25 hC fd_9_2 fl_X11_26 dX11_field_25 (fun v5 => ?_)
      refine r_get 28 hC fd_8_0 fl_X11_111 dX11_field_28 (fun v6 => ?_)
      refine r_get 31 hC fd_7_9 fl_X11_232 dX11_field_31 (fun v7 => ?_)
      refine r_iload_n 34 hC 1 rfl rfl dX11_field_34 ?_
      refine r_aaloadI 35 hC dX11_field_35 (fun v8 => ?_)
      refine r_iload_n 36 hC 2 rfl rfl dX11_field_36 ?_
      refine r_iaload 37 hC dX11_field_37 (fun v9 => ?_)
      refine r_callVI 38 hC [(0, v9)] [] rfl vl_X11_229 rfl h0 (by decide) (Nat.le_of_ble_eq_true rfl) (by decide) (by decide) dX11_field_38 (t_X11_answerOrNone x0 v9 M h0) (fun v10 M11 => ?_)
      exact r_ireturn 41 hC hq (by decide) (by decide) dX11_field_41
    · exact r_sub [0] rfl (hj17)

/-! WaterTurns.below(I)I -/
theorem dX11_below_0 : decode cX11_below 0 = .ok (.aload_n 0, 1) := by decide +kernel
theorem dX11_below_1 : decode cX11_below 1 = .ok (.iload_n 1, 1) := by decide +kernel
theorem dX11_below_2 : decode cX11_below 2 = .ok (.invokevirtual 222, 3) := by decide +kernel
theorem dX11_below_5 : decode cX11_below 5 = .ok (.ifCond .eq 21, 3) := by decide +kernel
theorem dX11_below_8 : decode cX11_below 8 = .ok (.aload_n 0, 1) := by decide +kernel
theorem dX11_below_9 : decode cX11_below 9 = .ok (.aload_n 0, 1) := by decide +kernel
theorem dX11_below_10 : decode cX11_below 10 = .ok (.getfield 26, 3) := by decide +kernel
theorem dX11_below_13 : decode cX11_below 13 = .ok (.getfield 111, 3) := by decide +kernel
theorem dX11_below_16 : decode cX11_below 16 = .ok (.iload_n 1, 1) := by decide +kernel
theorem dX11_below_17 : decode cX11_below 17 = .ok (.invokevirtual 235, 3) := by decide +kernel
theorem dX11_below_20 : decode cX11_below 20 = .ok (.invokevirtual 95, 3) := by decide +kernel
theorem dX11_below_23 : decode cX11_below 23 = .ok (.goto 8, 3) := by decide +kernel
theorem dX11_below_26 : decode cX11_below 26 = .ok (.aload_n 0, 1) := by decide +kernel
theorem dX11_below_27 : decode cX11_below 27 = .ok (.iconst 1, 1) := by decide +kernel
theorem dX11_below_28 : decode cX11_below 28 = .ok (.invokevirtual 91, 3) := by decide +kernel
theorem dX11_below_31 : decode cX11_below 31 = .ok (.ireturn, 1) := by decide +kernel
set_option maxRecDepth 100000 in
theorem t_X11_below (x0 x1 : Int) (M : Mem) (h0 : x0 ≠ 0) : MtI yX11_below cX11_below 2 (some .int) 2 0 0 [(29, x0), (0, x1)] M 0 (f_X11_below x0 x1 M) := by
  refine mk_I (by decide +kernel) (Nat.le_of_ble_eq_true rfl) (fun E C r0 M0 hC hq hin => ?_)
  refine r_eqls (ls' := [(0, 29, x0), (1, 0, x1)]) rfl ?_
  unfold f_X11_below
  refine r_aload_n 0 hC 0 rfl (Or.inl (by decide)) rfl dX11_below_0 ?_
  refine r_iload_n 1 hC 1 rfl rfl dX11_below_1 ?_
  refine r_callVP 2 hC [(0, x1)] [] rfl vl_X11_222 rfl h0 (by decide) (Nat.le_of_ble_eq_true rfl) (by decide) (by decide) dX11_below_2 (t_X11_isReach x0 x1 M h0) (fun v1 => ?_)
  refine r_jn (P := fun j31 => ∀ (q2 : Int) (M3 : Mem), Bk E C 2 M (r0, M0) 31 [] [(0, q2)] M3 0 0 (j31 q2 M3)) ?_ (fun j31 hj31 => ?_)
  · intro q2 M3
    exact r_ireturn 31 hC hq (by decide) (by decide) dX11_below_31
  refine r_if_eq 5 hC (tgt := 26) (by decide) dX11_below_5 ?_ ?_
  · refine r_aload_n 26 hC 0 rfl (Or.inl (by decide)) rfl dX11_below_26 ?_
    refine r_iconst 27 hC (r32c rfl) dX11_below_27 ?_
    refine r_callVI 28 hC [(0, 1)] [] rfl vl_X11_91 rfl h0 (by decide) (Nat.le_of_ble_eq_true rfl) (by decide) (by decide) dX11_below_28 (t_X11_refuse x0 1 M h0) (fun v4 M5 => ?_)
    exact r_sub [] rfl (hj31 v4 M5)
  · refine r_aload_n 8 hC 0 rfl (Or.inl (by decide)) rfl dX11_below_8 ?_
    refine r_aload_n 9 hC 0 rfl (Or.inl (by decide)) rfl dX11_below_9 ?_
    refine r_get 10 hC fd_9_2 fl_X11_26 dX11_below_10 (fun v6 => ?_)
    refine r_get 13 hC fd_8_0 fl_X11_111 dX11_below_13 (fun v7 => ?_)
    refine r_iload_n 16 hC 1 rfl rfl dX11_below_16 ?_
    refine r_nn (fun hn8 => ?_)
    refine r_callVP 17 hC [(0, x1)] [(29, x0)] rfl vl_X11_235 rfl hn8 (by decide) (Nat.le_of_ble_eq_true rfl) (by decide) (by decide) dX11_below_17 (t_X8_fieldsBelow v7 x1 M hn8) (fun v9 => ?_)
    refine r_callVI 20 hC [(0, v9)] [] rfl vl_X11_95 rfl h0 (by decide) (Nat.le_of_ble_eq_true rfl) (by decide) (by decide) dX11_below_20 (t_X11_answer x0 v9 M h0) (fun v10 M11 => ?_)
    refine r_goto 23 hC (tgt := 31) (by decide) dX11_below_23 ?_
    exact r_sub [] rfl (hj31 v10 M11)

/-! WaterTurns.order(I)I -/
theorem dX11_order_0 : decode cX11_order 0 = .ok (.iload_n 1, 1) := by decide +kernel
theorem dX11_order_1 : decode cX11_order 1 = .ok (.ifCond .ge 9, 3) := by decide +kernel
theorem dX11_order_4 : decode cX11_order 4 = .ok (.aload_n 0, 1) := by decide +kernel
theorem dX11_order_5 : decode cX11_order 5 = .ok (.iconst 1, 1) := by decide +kernel
theorem dX11_order_6 : decode cX11_order 6 = .ok (.invokevirtual 91, 3) := by decide +kernel
theorem dX11_order_9 : decode cX11_order 9 = .ok (.ireturn, 1) := by decide +kernel
theorem dX11_order_10 : decode cX11_order 10 = .ok (.iload_n 1, 1) := by decide +kernel
theorem dX11_order_11 : decode cX11_order 11 = .ok (.aload_n 0, 1) := by decide +kernel
theorem dX11_order_12 : decode cX11_order 12 = .ok (.getfield 26, 3) := by decide +kernel
theorem dX11_order_15 : decode cX11_order 15 = .ok (.getfield 111, 3) := by decide +kernel
theorem dX11_order_18 : decode cX11_order 18 = .ok (.getfield 120, 3) := by decide +kernel
theorem dX11_order_21 : decode cX11_order 21 = .ok (.if_icmp .ge 22, 3) := by decide +kernel
theorem dX11_order_24 : decode cX11_order 24 = .ok (.aload_n 0, 1) := by decide +kernel
theorem dX11_order_25 : decode cX11_order 25 = .ok (.aload_n 0, 1) := by decide +kernel
theorem dX11_order_26 : decode cX11_order 26 = .ok (.getfield 26, 3) := by decide +kernel
theorem dX11_order_29 : decode cX11_order 29 = .ok (.getfield 206, 3) := by decide +kernel
theorem dX11_order_32 : decode cX11_order 32 = .ok (.getfield 238, 3) := by decide +kernel
theorem dX11_order_35 : decode cX11_order 35 = .ok (.iload_n 1, 1) := by decide +kernel
theorem dX11_order_36 : decode cX11_order 36 = .ok (.iaload, 1) := by decide +kernel
theorem dX11_order_37 : decode cX11_order 37 = .ok (.invokevirtual 95, 3) := by decide +kernel
theorem dX11_order_40 : decode cX11_order 40 = .ok (.goto 9, 3) := by decide +kernel
theorem dX11_order_43 : decode cX11_order 43 = .ok (.aload_n 0, 1) := by decide +kernel
theorem dX11_order_44 : decode cX11_order 44 = .ok (.bipush 6, 2) := by decide +kernel
theorem dX11_order_46 : decode cX11_order 46 = .ok (.invokevirtual 91, 3) := by decide +kernel
theorem dX11_order_49 : decode cX11_order 49 = .ok (.ireturn, 1) := by decide +kernel
set_option maxRecDepth 100000 in
theorem t_X11_order (x0 x1 : Int) (M : Mem) (h0 : x0 ≠ 0) : MtI yX11_order cX11_order 2 (some .int) 2 0 0 [(29, x0), (0, x1)] M 0 (f_X11_order x0 x1 M) := by
  refine mk_I (by decide +kernel) (Nat.le_of_ble_eq_true rfl) (fun E C r0 M0 hC hq hin => ?_)
  refine r_eqls (ls' := [(0, 29, x0), (1, 0, x1)]) rfl ?_
  unfold f_X11_order
  refine r_iload_n 0 hC 1 rfl rfl dX11_order_0 ?_
  refine r_if_ge 1 hC (tgt := 10) (by decide) dX11_order_1 ?_ ?_
  · refine r_iload_n 10 hC 1 rfl rfl dX11_order_10 ?_
    refine r_aload_n 11 hC 0 rfl (Or.inl (by decide)) rfl dX11_order_11 ?_
    refine r_get 12 hC fd_9_2 fl_X11_26 dX11_order_12 (fun v1 => ?_)
    refine r_get 15 hC fd_8_0 fl_X11_111 dX11_order_15 (fun v2 => ?_)
    refine r_get 18 hC fd_7_5 fl_X11_120 dX11_order_18 (fun v3 => ?_)
    refine r_jn (P := fun j49 => ∀ (q4 : Int) (M5 : Mem), Bk E C 2 M (r0, M0) 49 [] [(0, q4)] M5 0 0 (j49 q4 M5)) ?_ (fun j49 hj49 => ?_)
    · intro q4 M5
      exact r_ireturn 49 hC hq (by decide) (by decide) dX11_order_49
    refine r_icmp_ge 21 hC (tgt := 43) (by decide) dX11_order_21 ?_ ?_
    · refine r_aload_n 43 hC 0 rfl (Or.inl (by decide)) rfl dX11_order_43 ?_
      refine r_bipush 44 hC kb_6 dX11_order_44 ?_
      refine r_callVI 46 hC [(0, 6)] [] rfl vl_X11_91 rfl h0 (by decide) (Nat.le_of_ble_eq_true rfl) (by decide) (by decide) dX11_order_46 (t_X11_refuse x0 6 M h0) (fun v6 M7 => ?_)
      exact r_sub [] rfl (hj49 v6 M7)
    · refine r_aload_n 24 hC 0 rfl (Or.inl (by decide)) rfl dX11_order_24 ?_
      refine r_aload_n 25 hC 0 rfl (Or.inl (by decide)) rfl dX11_order_25 ?_
      refine r_get 26 hC fd_9_2 fl_X11_26 dX11_order_26 (fun v8 => ?_)
      refine r_get 29 hC fd_8_2 fl_X11_206 dX11_order_29 (fun v9 => ?_)
      refine r_get 32 hC fd_3_4 fl_X11_238 dX11_order_32 (fun v10 => ?_)
      refine r_iload_n 35 hC 1 rfl rfl dX11_order_35 ?_
      refine r_iaload 36 hC dX11_order_36 (fun v11 => ?_)
      refine r_callVI 37 hC [(0, v11)] [] rfl vl_X11_95 rfl h0 (by decide) (Nat.le_of_ble_eq_true rfl) (by decide) (by decide) dX11_order_37 (t_X11_answer x0 v11 M h0) (fun v12 M13 => ?_)
      refine r_goto 40 hC (tgt := 49) (by decide) dX11_order_40 ?_
      exact r_sub [] rfl (hj49 v12 M13)
  · refine r_aload_n 4 hC 0 rfl (Or.inl (by decide)) rfl dX11_order_4 ?_
    refine r_iconst 5 hC (r32c rfl) dX11_order_5 ?_
    refine r_callVI 6 hC [(0, 1)] [] rfl vl_X11_91 rfl h0 (by decide) (Nat.le_of_ble_eq_true rfl) (by decide) (by decide) dX11_order_6 (t_X11_refuse x0 1 M h0) (fun v14 M15 => ?_)
    exact r_ireturn 9 hC hq (by decide) (by decide) dX11_order_9

/-! WaterTurns.laidSlots()LWaterTurns$Slots; -/
theorem dX11_laidSlots_0 : decode cX11_laidSlots 0 = .ok (.aload_n 0, 1) := by decide +kernel
theorem dX11_laidSlots_1 : decode cX11_laidSlots 1 = .ok (.getfield 33, 3) := by decide +kernel
theorem dX11_laidSlots_4 : decode cX11_laidSlots 4 = .ok (.getfield 260, 3) := by decide +kernel
theorem dX11_laidSlots_7 : decode cX11_laidSlots 7 = .ok (.aload_n 0, 1) := by decide +kernel
theorem dX11_laidSlots_8 : decode cX11_laidSlots 8 = .ok (.getfield 26, 3) := by decide +kernel
theorem dX11_laidSlots_11 : decode cX11_laidSlots 11 = .ok (.invokevirtual 294, 3) := by decide +kernel
theorem dX11_laidSlots_14 : decode cX11_laidSlots 14 = .ok (.aload_n 0, 1) := by decide +kernel
theorem dX11_laidSlots_15 : decode cX11_laidSlots 15 = .ok (.getfield 33, 3) := by decide +kernel
theorem dX11_laidSlots_18 : decode cX11_laidSlots 18 = .ok (.getfield 260, 3) := by decide +kernel
theorem dX11_laidSlots_21 : decode cX11_laidSlots 21 = .ok (.areturn, 1) := by decide +kernel
set_option maxRecDepth 100000 in
theorem t_X11_laidSlots (x0 : Int) (M : Mem) (h0 : x0 ≠ 0) : MtI yX11_laidSlots cX11_laidSlots 1 (some (.object "WaterTurns$Slots")) 4 0 0 [(29, x0)] M 22 (f_X11_laidSlots x0 M) := by
  refine mk_I (by decide +kernel) (Nat.le_of_ble_eq_true rfl) (fun E C r0 M0 hC hq hin => ?_)
  refine r_eqls (ls' := [(0, 29, x0)]) rfl ?_
  unfold f_X11_laidSlots
  refine r_aload_n 0 hC 0 rfl (Or.inl (by decide)) rfl dX11_laidSlots_0 ?_
  refine r_get 1 hC fd_9_3 fl_X11_33 dX11_laidSlots_1 (fun v1 => ?_)
  refine r_get 4 hC fd_4_0 fl_X11_260 dX11_laidSlots_4 (fun v2 => ?_)
  refine r_aload_n 7 hC 0 rfl (Or.inl (by decide)) rfl dX11_laidSlots_7 ?_
  refine r_get 8 hC fd_9_2 fl_X11_26 dX11_laidSlots_8 (fun v3 => ?_)
  refine r_nn (fun hn4 => ?_)
  refine r_callVV 11 hC [(28, v3)] [] rfl vl_X11_294 rfl hn4 (by decide) (Nat.le_of_ble_eq_true rfl) (by decide) (by decide) dX11_laidSlots_11 (t_X3_lay v2 v3 M hn4) (fun M5 => ?_)
  refine r_aload_n 14 hC 0 rfl (Or.inl (by decide)) rfl dX11_laidSlots_14 ?_
  refine r_get 15 hC fd_9_3 fl_X11_33 dX11_laidSlots_15 (fun v6 => ?_)
  refine r_get 18 hC fd_4_0 fl_X11_260 dX11_laidSlots_18 (fun v7 => ?_)
  exact r_areturn 21 hC (by decide) hq (by decide) (by decide) dX11_laidSlots_21

/-! WaterTurns.turn(II)I -/
theorem dX11_turn_0 : decode cX11_turn 0 = .ok (.aload_n 0, 1) := by decide +kernel
theorem dX11_turn_1 : decode cX11_turn 1 = .ok (.iload_n 1, 1) := by decide +kernel
theorem dX11_turn_2 : decode cX11_turn 2 = .ok (.invokevirtual 123, 3) := by decide +kernel
theorem dX11_turn_5 : decode cX11_turn 5 = .ok (.ifCond .eq 12, 3) := by decide +kernel
theorem dX11_turn_8 : decode cX11_turn 8 = .ok (.iload_n 2, 1) := by decide +kernel
theorem dX11_turn_9 : decode cX11_turn 9 = .ok (.iconst 0, 1) := by decide +kernel
theorem dX11_turn_10 : decode cX11_turn 10 = .ok (.iconst 1, 1) := by decide +kernel
theorem dX11_turn_11 : decode cX11_turn 11 = .ok (.invokestatic 132, 3) := by decide +kernel
theorem dX11_turn_14 : decode cX11_turn 14 = .ok (.ifCond .ne 9, 3) := by decide +kernel
theorem dX11_turn_17 : decode cX11_turn 17 = .ok (.aload_n 0, 1) := by decide +kernel
theorem dX11_turn_18 : decode cX11_turn 18 = .ok (.iconst 1, 1) := by decide +kernel
theorem dX11_turn_19 : decode cX11_turn 19 = .ok (.invokevirtual 91, 3) := by decide +kernel
theorem dX11_turn_22 : decode cX11_turn 22 = .ok (.ireturn, 1) := by decide +kernel
theorem dX11_turn_23 : decode cX11_turn 23 = .ok (.aload_n 0, 1) := by decide +kernel
theorem dX11_turn_24 : decode cX11_turn 24 = .ok (.invokevirtual 241, 3) := by decide +kernel
theorem dX11_turn_27 : decode cX11_turn 27 = .ok (.astore_n 3, 1) := by decide +kernel
theorem dX11_turn_28 : decode cX11_turn 28 = .ok (.aload_n 0, 1) := by decide +kernel
theorem dX11_turn_29 : decode cX11_turn 29 = .ok (.iload_n 2, 1) := by decide +kernel
theorem dX11_turn_30 : decode cX11_turn 30 = .ok (.ifCond .ne 12, 3) := by decide +kernel
theorem dX11_turn_33 : decode cX11_turn 33 = .ok (.aload_n 3, 1) := by decide +kernel
theorem dX11_turn_34 : decode cX11_turn 34 = .ok (.getfield 245, 3) := by decide +kernel
theorem dX11_turn_37 : decode cX11_turn 37 = .ok (.iload_n 1, 1) := by decide +kernel
theorem dX11_turn_38 : decode cX11_turn 38 = .ok (.iaload, 1) := by decide +kernel
theorem dX11_turn_39 : decode cX11_turn 39 = .ok (.goto 9, 3) := by decide +kernel
theorem dX11_turn_42 : decode cX11_turn 42 = .ok (.aload_n 3, 1) := by decide +kernel
theorem dX11_turn_43 : decode cX11_turn 43 = .ok (.getfield 250, 3) := by decide +kernel
theorem dX11_turn_46 : decode cX11_turn 46 = .ok (.iload_n 1, 1) := by decide +kernel
theorem dX11_turn_47 : decode cX11_turn 47 = .ok (.iaload, 1) := by decide +kernel
theorem dX11_turn_48 : decode cX11_turn 48 = .ok (.invokevirtual 95, 3) := by decide +kernel
theorem dX11_turn_51 : decode cX11_turn 51 = .ok (.ireturn, 1) := by decide +kernel
set_option maxRecDepth 100000 in
theorem t_X11_turn (x0 x1 x2 : Int) (M : Mem) (h0 : x0 ≠ 0) : MtI yX11_turn cX11_turn 4 (some .int) 5 0 0 [(29, x0), (0, x1), (0, x2)] M 0 (f_X11_turn x0 x1 x2 M) := by
  refine mk_I (by decide +kernel) (Nat.le_of_ble_eq_true rfl) (fun E C r0 M0 hC hq hin => ?_)
  refine r_eqls (ls' := [(0, 29, x0), (1, 0, x1), (2, 0, x2)]) rfl ?_
  unfold f_X11_turn
  refine r_aload_n 0 hC 0 rfl (Or.inl (by decide)) rfl dX11_turn_0 ?_
  refine r_iload_n 1 hC 1 rfl rfl dX11_turn_1 ?_
  refine r_callVP 2 hC [(0, x1)] [] rfl vl_X11_123 rfl h0 (by decide) (Nat.le_of_ble_eq_true rfl) (by decide) (by decide) dX11_turn_2 (t_X11_isField x0 x1 M h0) (fun v1 => ?_)
  refine r_jn (P := fun j17 => Bk E C 4 M (r0, M0) 17 [(0, 29, x0)] [] M 0 0 (j17)) ?_ (fun j17 hj17 => ?_)
  · refine r_aload_n 17 hC 0 rfl (Or.inl (by decide)) rfl dX11_turn_17 ?_
    refine r_iconst 18 hC (r32c rfl) dX11_turn_18 ?_
    refine r_callVI 19 hC [(0, 1)] [] rfl vl_X11_91 rfl h0 (by decide) (Nat.le_of_ble_eq_true rfl) (by decide) (by decide) dX11_turn_19 (t_X11_refuse x0 1 M h0) (fun v2 M3 => ?_)
    exact r_ireturn 22 hC hq (by decide) (by decide) dX11_turn_22
  refine r_if_eq 5 hC (tgt := 17) (by decide) dX11_turn_5 ?_ ?_
  · exact r_sub [0] rfl (hj17)
  · refine r_iload_n 8 hC 2 rfl rfl dX11_turn_8 ?_
    refine r_iconst 9 hC (r32c rfl) dX11_turn_9 ?_
    refine r_iconst 10 hC (r32c rfl) dX11_turn_10 ?_
    refine r_callSP 11 hC [(0, x2), (0, 0), (0, 1)] [] rfl sl_X11_132 rfl (by decide) (Nat.le_of_ble_eq_true rfl) (by decide) (by decide) dX11_turn_11 (t_X11_isWithin x2 0 1 M) (fun v4 => ?_)
    refine r_if_ne 14 hC (tgt := 23) (by decide) dX11_turn_14 ?_ ?_
    · refine r_aload_n 23 hC 0 rfl (Or.inl (by decide)) rfl dX11_turn_23 ?_
      refine r_callVI 24 hC [] [] rfl vl_X11_241 rfl h0 (by decide) (Nat.le_of_ble_eq_true rfl) (by decide) (by decide) dX11_turn_24 (t_X11_laidSlots x0 M h0) (fun v5 M6 => ?_)
      refine r_astore_n 27 hC rfl (Or.inl (by decide)) (by decide) dX11_turn_27 (r_eqls (ls' := [(3, 22, v5), (0, 29, x0), (1, 0, x1), (2, 0, x2)]) rfl ?_)
      refine r_aload_n 28 hC 1 rfl (Or.inl (by decide)) rfl dX11_turn_28 ?_
      refine r_iload_n 29 hC 3 rfl rfl dX11_turn_29 ?_
      refine r_jn (P := fun j48 => ∀ (q7 : Int), Bk E C 4 M (r0, M0) 48 [] [(0, q7), (29, x0)] M6 0 0 (j48 q7)) ?_ (fun j48 hj48 => ?_)
      · intro q7
        refine r_callVI 48 hC [(0, q7)] [] rfl vl_X11_95 rfl h0 (by decide) (Nat.le_of_ble_eq_true rfl) (by decide) (by decide) dX11_turn_48 (t_X11_answer x0 q7 M6 h0) (fun v8 M9 => ?_)
        exact r_ireturn 51 hC hq (by decide) (by decide) dX11_turn_51
      refine r_if_ne 30 hC (tgt := 42) (by decide) dX11_turn_30 ?_ ?_
      · refine r_aload_n 42 hC 0 rfl (Or.inl (by decide)) rfl dX11_turn_42 ?_
        refine r_get 43 hC fd_2_1 fl_X11_250 dX11_turn_43 (fun v10 => ?_)
        refine r_iload_n 46 hC 2 rfl rfl dX11_turn_46 ?_
        refine r_iaload 47 hC dX11_turn_47 (fun v11 => ?_)
        exact r_sub [] rfl (hj48 v11)
      · refine r_aload_n 33 hC 0 rfl (Or.inl (by decide)) rfl dX11_turn_33 ?_
        refine r_get 34 hC fd_2_0 fl_X11_245 dX11_turn_34 (fun v12 => ?_)
        refine r_iload_n 37 hC 2 rfl rfl dX11_turn_37 ?_
        refine r_iaload 38 hC dX11_turn_38 (fun v13 => ?_)
        refine r_goto 39 hC (tgt := 48) (by decide) dX11_turn_39 ?_
        exact r_sub [] rfl (hj48 v13)
    · exact r_sub [0] rfl (hj17)

/-! WaterTurns.swap(II)Z -/
theorem dX11_swap_0 : decode cX11_swap 0 = .ok (.aload_n 0, 1) := by decide +kernel
theorem dX11_swap_1 : decode cX11_swap 1 = .ok (.aload_n 0, 1) := by decide +kernel
theorem dX11_swap_2 : decode cX11_swap 2 = .ok (.iload_n 1, 1) := by decide +kernel
theorem dX11_swap_3 : decode cX11_swap 3 = .ok (.iload_n 2, 1) := by decide +kernel
theorem dX11_swap_4 : decode cX11_swap 4 = .ok (.invokevirtual 253, 3) := by decide +kernel
theorem dX11_swap_7 : decode cX11_swap 7 = .ok (.ifCond .eq 15, 3) := by decide +kernel
theorem dX11_swap_10 : decode cX11_swap 10 = .ok (.aload_n 0, 1) := by decide +kernel
theorem dX11_swap_11 : decode cX11_swap 11 = .ok (.getfield 26, 3) := by decide +kernel
theorem dX11_swap_14 : decode cX11_swap 14 = .ok (.iload_n 1, 1) := by decide +kernel
theorem dX11_swap_15 : decode cX11_swap 15 = .ok (.iload_n 2, 1) := by decide +kernel
theorem dX11_swap_16 : decode cX11_swap 16 = .ok (.invokevirtual 257, 3) := by decide +kernel
theorem dX11_swap_19 : decode cX11_swap 19 = .ok (.goto 4, 3) := by decide +kernel
theorem dX11_swap_22 : decode cX11_swap 22 = .ok (.iconst 1, 1) := by decide +kernel
theorem dX11_swap_23 : decode cX11_swap 23 = .ok (.invokevirtual 102, 3) := by decide +kernel
theorem dX11_swap_26 : decode cX11_swap 26 = .ok (.ireturn, 1) := by decide +kernel
set_option maxRecDepth 100000 in
theorem t_X11_swap (x0 x1 x2 : Int) (M : Mem) (h0 : x0 ≠ 0) : MtI yX11_swap cX11_swap 3 (some .boolean) 3 0 0 [(29, x0), (0, x1), (0, x2)] M 0 (f_X11_swap x0 x1 x2 M) := by
  refine mk_I (by decide +kernel) (Nat.le_of_ble_eq_true rfl) (fun E C r0 M0 hC hq hin => ?_)
  refine r_eqls (ls' := [(0, 29, x0), (1, 0, x1), (2, 0, x2)]) rfl ?_
  unfold f_X11_swap
  refine r_aload_n 0 hC 0 rfl (Or.inl (by decide)) rfl dX11_swap_0 ?_
  refine r_aload_n 1 hC 0 rfl (Or.inl (by decide)) rfl dX11_swap_1 ?_
  refine r_iload_n 2 hC 1 rfl rfl dX11_swap_2 ?_
  refine r_iload_n 3 hC 2 rfl rfl dX11_swap_3 ?_
  refine r_callVP 4 hC [(0, x1), (0, x2)] [(29, x0)] rfl vl_X11_253 rfl h0 (by decide) (Nat.le_of_ble_eq_true rfl) (by decide) (by decide) dX11_swap_4 (t_X11_isCouple x0 x1 x2 M h0) (fun v1 => ?_)
  refine r_jn (P := fun j23 => ∀ (q2 : Int) (M3 : Mem), Bk E C 3 M (r0, M0) 23 [] [(0, q2), (29, x0)] M3 0 0 (j23 q2 M3)) ?_ (fun j23 hj23 => ?_)
  · intro q2 M3
    refine r_callVI 23 hC [(0, q2)] [] rfl vl_X11_102 rfl h0 (by decide) (Nat.le_of_ble_eq_true rfl) (by decide) (by decide) dX11_swap_23 (t_X11_settle x0 q2 M3 h0) (fun v4 M5 => ?_)
    exact r_zreturn 26 hC hq (by decide) (by decide) dX11_swap_26
  refine r_if_eq 7 hC (tgt := 22) (by decide) dX11_swap_7 ?_ ?_
  · refine r_iconst 22 hC (r32c rfl) dX11_swap_22 ?_
    exact r_sub [] rfl (hj23 1 M)
  · refine r_aload_n 10 hC 0 rfl (Or.inl (by decide)) rfl dX11_swap_10 ?_
    refine r_get 11 hC fd_9_2 fl_X11_26 dX11_swap_11 (fun v6 => ?_)
    refine r_iload_n 14 hC 1 rfl rfl dX11_swap_14 ?_
    refine r_iload_n 15 hC 2 rfl rfl dX11_swap_15 ?_
    refine r_nn (fun hn7 => ?_)
    refine r_callVI 16 hC [(0, x1), (0, x2)] [(29, x0)] rfl vl_X11_257 rfl hn7 (by decide) (Nat.le_of_ble_eq_true rfl) (by decide) (by decide) dX11_swap_16 (t_X10_changePlaces v6 x1 x2 M hn7) (fun v8 M9 => ?_)
    refine r_goto 19 hC (tgt := 23) (by decide) dX11_swap_19 ?_
    exact r_sub [] rfl (hj23 v8 M9)

/-! WaterTurns.lend(III)I -/
theorem dX11_lend_0 : decode cX11_lend 0 = .ok (.aload_n 0, 1) := by decide +kernel
theorem dX11_lend_1 : decode cX11_lend 1 = .ok (.iload_n 1, 1) := by decide +kernel
theorem dX11_lend_2 : decode cX11_lend 2 = .ok (.iload_n 2, 1) := by decide +kernel
theorem dX11_lend_3 : decode cX11_lend 3 = .ok (.invokevirtual 253, 3) := by decide +kernel
theorem dX11_lend_6 : decode cX11_lend 6 = .ok (.ifCond .eq 14, 3) := by decide +kernel
theorem dX11_lend_9 : decode cX11_lend 9 = .ok (.iload_n 3, 1) := by decide +kernel
theorem dX11_lend_10 : decode cX11_lend 10 = .ok (.iconst 1, 1) := by decide +kernel
theorem dX11_lend_11 : decode cX11_lend 11 = .ok (.sipush 999, 3) := by decide +kernel
theorem dX11_lend_14 : decode cX11_lend 14 = .ok (.invokestatic 132, 3) := by decide +kernel
theorem dX11_lend_17 : decode cX11_lend 17 = .ok (.ifCond .ne 9, 3) := by decide +kernel
theorem dX11_lend_20 : decode cX11_lend 20 = .ok (.aload_n 0, 1) := by decide +kernel
theorem dX11_lend_21 : decode cX11_lend 21 = .ok (.iconst 1, 1) := by decide +kernel
theorem dX11_lend_22 : decode cX11_lend 22 = .ok (.invokevirtual 91, 3) := by decide +kernel
theorem dX11_lend_25 : decode cX11_lend 25 = .ok (.ireturn, 1) := by decide +kernel
theorem dX11_lend_26 : decode cX11_lend 26 = .ok (.aload_n 0, 1) := by decide +kernel
theorem dX11_lend_27 : decode cX11_lend 27 = .ok (.getfield 26, 3) := by decide +kernel
theorem dX11_lend_30 : decode cX11_lend 30 = .ok (.iload_n 1, 1) := by decide +kernel
theorem dX11_lend_31 : decode cX11_lend 31 = .ok (.iload_n 2, 1) := by decide +kernel
theorem dX11_lend_32 : decode cX11_lend 32 = .ok (.iload_n 3, 1) := by decide +kernel
theorem dX11_lend_33 : decode cX11_lend 33 = .ok (.aload_n 0, 1) := by decide +kernel
theorem dX11_lend_34 : decode cX11_lend 34 = .ok (.getfield 33, 3) := by decide +kernel
theorem dX11_lend_37 : decode cX11_lend 37 = .ok (.getfield 260, 3) := by decide +kernel
theorem dX11_lend_40 : decode cX11_lend 40 = .ok (.invokevirtual 264, 3) := by decide +kernel
theorem dX11_lend_43 : decode cX11_lend 43 = .ok (.istore 4, 2) := by decide +kernel
theorem dX11_lend_45 : decode cX11_lend 45 = .ok (.iload 4, 2) := by decide +kernel
theorem dX11_lend_47 : decode cX11_lend 47 = .ok (.ifCond .ne 22, 3) := by decide +kernel
theorem dX11_lend_50 : decode cX11_lend 50 = .ok (.aload_n 0, 1) := by decide +kernel
theorem dX11_lend_51 : decode cX11_lend 51 = .ok (.aload_n 0, 1) := by decide +kernel
theorem dX11_lend_52 : decode cX11_lend 52 = .ok (.getfield 26, 3) := by decide +kernel
theorem dX11_lend_55 : decode cX11_lend 55 = .ok (.getfield 206, 3) := by decide +kernel
theorem dX11_lend_58 : decode cX11_lend 58 = .ok (.iload_n 2, 1) := by decide +kernel
theorem dX11_lend_59 : decode cX11_lend 59 = .ok (.iload_n 1, 1) := by decide +kernel
theorem dX11_lend_60 : decode cX11_lend 60 = .ok (.invokevirtual 268, 3) := by decide +kernel
theorem dX11_lend_63 : decode cX11_lend 63 = .ok (.invokevirtual 95, 3) := by decide +kernel
theorem dX11_lend_66 : decode cX11_lend 66 = .ok (.goto 9, 3) := by decide +kernel
theorem dX11_lend_69 : decode cX11_lend 69 = .ok (.aload_n 0, 1) := by decide +kernel
theorem dX11_lend_70 : decode cX11_lend 70 = .ok (.iload 4, 2) := by decide +kernel
theorem dX11_lend_72 : decode cX11_lend 72 = .ok (.invokevirtual 91, 3) := by decide +kernel
theorem dX11_lend_75 : decode cX11_lend 75 = .ok (.ireturn, 1) := by decide +kernel
set_option maxRecDepth 100000 in
theorem t_X11_lend (x0 x1 x2 x3 : Int) (M : Mem) (h0 : x0 ≠ 0) : MtI yX11_lend cX11_lend 5 (some .int) 5 0 0 [(29, x0), (0, x1), (0, x2), (0, x3)] M 0 (f_X11_lend x0 x1 x2 x3 M) := by
  refine mk_I (by decide +kernel) (Nat.le_of_ble_eq_true rfl) (fun E C r0 M0 hC hq hin => ?_)
  refine r_eqls (ls' := [(0, 29, x0), (1, 0, x1), (2, 0, x2), (3, 0, x3)]) rfl ?_
  unfold f_X11_lend
  refine r_aload_n 0 hC 0 rfl (Or.inl (by decide)) rfl dX11_lend_0 ?_
  refine r_iload_n 1 hC 1 rfl rfl dX11_lend_1 ?_
  refine r_iload_n 2 hC 2 rfl rfl dX11_lend_2 ?_
  refine r_callVP 3 hC [(0, x1), (0, x2)] [] rfl vl_X11_253 rfl h0 (by decide) (Nat.le_of_ble_eq_true rfl) (by decide) (by decide) dX11_lend_3 (t_X11_isCouple x0 x1 x2 M h0) (fun v1 => ?_)
  refine r_jn (P := fun j20 => Bk E C 5 M (r0, M0) 20 [(0, 29, x0)] [] M 0 0 (j20)) ?_ (fun j20 hj20 => ?_)
  · refine r_aload_n 20 hC 0 rfl (Or.inl (by decide)) rfl dX11_lend_20 ?_
    refine r_iconst 21 hC (r32c rfl) dX11_lend_21 ?_
    refine r_callVI 22 hC [(0, 1)] [] rfl vl_X11_91 rfl h0 (by decide) (Nat.le_of_ble_eq_true rfl) (by decide) (by decide) dX11_lend_22 (t_X11_refuse x0 1 M h0) (fun v2 M3 => ?_)
    exact r_ireturn 25 hC hq (by decide) (by decide) dX11_lend_25
  refine r_if_eq 6 hC (tgt := 20) (by decide) dX11_lend_6 ?_ ?_
  · exact r_sub [0] rfl (hj20)
  · refine r_iload_n 9 hC 3 rfl rfl dX11_lend_9 ?_
    refine r_iconst 10 hC (r32c rfl) dX11_lend_10 ?_
    refine r_sipush 11 hC ks_999 dX11_lend_11 ?_
    refine r_callSP 14 hC [(0, x3), (0, 1), (0, 999)] [] rfl sl_X11_132 rfl (by decide) (Nat.le_of_ble_eq_true rfl) (by decide) (by decide) dX11_lend_14 (t_X11_isWithin x3 1 999 M) (fun v4 => ?_)
    refine r_if_ne 17 hC (tgt := 26) (by decide) dX11_lend_17 ?_ ?_
    · refine r_aload_n 26 hC 0 rfl (Or.inl (by decide)) rfl dX11_lend_26 ?_
      refine r_get 27 hC fd_9_2 fl_X11_26 dX11_lend_27 (fun v5 => ?_)
      refine r_iload_n 30 hC 1 rfl rfl dX11_lend_30 ?_
      refine r_iload_n 31 hC 2 rfl rfl dX11_lend_31 ?_
      refine r_iload_n 32 hC 3 rfl rfl dX11_lend_32 ?_
      refine r_aload_n 33 hC 0 rfl (Or.inl (by decide)) rfl dX11_lend_33 ?_
      refine r_get 34 hC fd_9_3 fl_X11_33 dX11_lend_34 (fun v6 => ?_)
      refine r_get 37 hC fd_4_0 fl_X11_260 dX11_lend_37 (fun v7 => ?_)
      refine r_nn (fun hn8 => ?_)
      refine r_callVI 40 hC [(0, x1), (0, x2), (0, x3), (22, v7)] [] rfl vl_X11_264 rfl hn8 (by decide) (Nat.le_of_ble_eq_true rfl) (by decide) (by decide) dX11_lend_40 (t_X10_makeLoan v5 x1 x2 x3 v7 M hn8) (fun v9 M10 => ?_)
      refine r_istore 43 hC (by decide) dX11_lend_43 (r_eqls (ls' := [(4, 0, v9), (0, 29, x0), (1, 0, x1), (2, 0, x2), (3, 0, x3)]) rfl ?_)
      refine r_iload 45 hC 0 rfl dX11_lend_45 ?_
      refine r_jn (P := fun j75 => ∀ (q11 : Int) (M12 : Mem), Bk E C 5 M (r0, M0) 75 [] [(0, q11)] M12 0 0 (j75 q11 M12)) ?_ (fun j75 hj75 => ?_)
      · intro q11 M12
        exact r_ireturn 75 hC hq (by decide) (by decide) dX11_lend_75
      refine r_if_ne 47 hC (tgt := 69) (by decide) dX11_lend_47 ?_ ?_
      · refine r_aload_n 69 hC 1 rfl (Or.inl (by decide)) rfl dX11_lend_69 ?_
        refine r_iload 70 hC 0 rfl dX11_lend_70 ?_
        refine r_callVI 72 hC [(0, v9)] [] rfl vl_X11_91 rfl h0 (by decide) (Nat.le_of_ble_eq_true rfl) (by decide) (by decide) dX11_lend_72 (t_X11_refuse x0 v9 M10 h0) (fun v13 M14 => ?_)
        exact r_sub [] rfl (hj75 v13 M14)
      · refine r_aload_n 50 hC 1 rfl (Or.inl (by decide)) rfl dX11_lend_50 ?_
        refine r_aload_n 51 hC 1 rfl (Or.inl (by decide)) rfl dX11_lend_51 ?_
        refine r_get 52 hC fd_9_2 fl_X11_26 dX11_lend_52 (fun v15 => ?_)
        refine r_get 55 hC fd_8_2 fl_X11_206 dX11_lend_55 (fun v16 => ?_)
        refine r_iload_n 58 hC 3 rfl rfl dX11_lend_58 ?_
        refine r_iload_n 59 hC 2 rfl rfl dX11_lend_59 ?_
        refine r_nn (fun hn17 => ?_)
        refine r_callVP 60 hC [(0, x2), (0, x1)] [(29, x0)] rfl vl_X11_268 rfl hn17 (by decide) (Nat.le_of_ble_eq_true rfl) (by decide) (by decide) dX11_lend_60 (t_X4_debt v16 x2 x1 M10 hn17) (fun v18 => ?_)
        refine r_callVI 63 hC [(0, v18)] [] rfl vl_X11_95 rfl h0 (by decide) (Nat.le_of_ble_eq_true rfl) (by decide) (by decide) dX11_lend_63 (t_X11_answer x0 v18 M10 h0) (fun v19 M20 => ?_)
        refine r_goto 66 hC (tgt := 75) (by decide) dX11_lend_66 ?_
        exact r_sub [] rfl (hj75 v19 M20)
    · exact r_sub [0] rfl (hj20)

/-! WaterTurns.owed(II)I -/
theorem dX11_owed_0 : decode cX11_owed 0 = .ok (.aload_n 0, 1) := by decide +kernel
theorem dX11_owed_1 : decode cX11_owed 1 = .ok (.iload_n 1, 1) := by decide +kernel
theorem dX11_owed_2 : decode cX11_owed 2 = .ok (.iload_n 2, 1) := by decide +kernel
theorem dX11_owed_3 : decode cX11_owed 3 = .ok (.invokevirtual 253, 3) := by decide +kernel
theorem dX11_owed_6 : decode cX11_owed 6 = .ok (.ifCond .eq 22, 3) := by decide +kernel
theorem dX11_owed_9 : decode cX11_owed 9 = .ok (.aload_n 0, 1) := by decide +kernel
theorem dX11_owed_10 : decode cX11_owed 10 = .ok (.aload_n 0, 1) := by decide +kernel
theorem dX11_owed_11 : decode cX11_owed 11 = .ok (.getfield 26, 3) := by decide +kernel
theorem dX11_owed_14 : decode cX11_owed 14 = .ok (.getfield 206, 3) := by decide +kernel
theorem dX11_owed_17 : decode cX11_owed 17 = .ok (.iload_n 1, 1) := by decide +kernel
theorem dX11_owed_18 : decode cX11_owed 18 = .ok (.iload_n 2, 1) := by decide +kernel
theorem dX11_owed_19 : decode cX11_owed 19 = .ok (.invokevirtual 268, 3) := by decide +kernel
theorem dX11_owed_22 : decode cX11_owed 22 = .ok (.invokevirtual 95, 3) := by decide +kernel
theorem dX11_owed_25 : decode cX11_owed 25 = .ok (.goto 8, 3) := by decide +kernel
theorem dX11_owed_28 : decode cX11_owed 28 = .ok (.aload_n 0, 1) := by decide +kernel
theorem dX11_owed_29 : decode cX11_owed 29 = .ok (.iconst 1, 1) := by decide +kernel
theorem dX11_owed_30 : decode cX11_owed 30 = .ok (.invokevirtual 91, 3) := by decide +kernel
theorem dX11_owed_33 : decode cX11_owed 33 = .ok (.ireturn, 1) := by decide +kernel
set_option maxRecDepth 100000 in
theorem t_X11_owed (x0 x1 x2 : Int) (M : Mem) (h0 : x0 ≠ 0) : MtI yX11_owed cX11_owed 3 (some .int) 3 0 0 [(29, x0), (0, x1), (0, x2)] M 0 (f_X11_owed x0 x1 x2 M) := by
  refine mk_I (by decide +kernel) (Nat.le_of_ble_eq_true rfl) (fun E C r0 M0 hC hq hin => ?_)
  refine r_eqls (ls' := [(0, 29, x0), (1, 0, x1), (2, 0, x2)]) rfl ?_
  unfold f_X11_owed
  refine r_aload_n 0 hC 0 rfl (Or.inl (by decide)) rfl dX11_owed_0 ?_
  refine r_iload_n 1 hC 1 rfl rfl dX11_owed_1 ?_
  refine r_iload_n 2 hC 2 rfl rfl dX11_owed_2 ?_
  refine r_callVP 3 hC [(0, x1), (0, x2)] [] rfl vl_X11_253 rfl h0 (by decide) (Nat.le_of_ble_eq_true rfl) (by decide) (by decide) dX11_owed_3 (t_X11_isCouple x0 x1 x2 M h0) (fun v1 => ?_)
  refine r_jn (P := fun j33 => ∀ (q2 : Int) (M3 : Mem), Bk E C 3 M (r0, M0) 33 [] [(0, q2)] M3 0 0 (j33 q2 M3)) ?_ (fun j33 hj33 => ?_)
  · intro q2 M3
    exact r_ireturn 33 hC hq (by decide) (by decide) dX11_owed_33
  refine r_if_eq 6 hC (tgt := 28) (by decide) dX11_owed_6 ?_ ?_
  · refine r_aload_n 28 hC 0 rfl (Or.inl (by decide)) rfl dX11_owed_28 ?_
    refine r_iconst 29 hC (r32c rfl) dX11_owed_29 ?_
    refine r_callVI 30 hC [(0, 1)] [] rfl vl_X11_91 rfl h0 (by decide) (Nat.le_of_ble_eq_true rfl) (by decide) (by decide) dX11_owed_30 (t_X11_refuse x0 1 M h0) (fun v4 M5 => ?_)
    exact r_sub [] rfl (hj33 v4 M5)
  · refine r_aload_n 9 hC 0 rfl (Or.inl (by decide)) rfl dX11_owed_9 ?_
    refine r_aload_n 10 hC 0 rfl (Or.inl (by decide)) rfl dX11_owed_10 ?_
    refine r_get 11 hC fd_9_2 fl_X11_26 dX11_owed_11 (fun v6 => ?_)
    refine r_get 14 hC fd_8_2 fl_X11_206 dX11_owed_14 (fun v7 => ?_)
    refine r_iload_n 17 hC 1 rfl rfl dX11_owed_17 ?_
    refine r_iload_n 18 hC 2 rfl rfl dX11_owed_18 ?_
    refine r_nn (fun hn8 => ?_)
    refine r_callVP 19 hC [(0, x1), (0, x2)] [(29, x0)] rfl vl_X11_268 rfl hn8 (by decide) (Nat.le_of_ble_eq_true rfl) (by decide) (by decide) dX11_owed_19 (t_X4_debt v7 x1 x2 M hn8) (fun v9 => ?_)
    refine r_callVI 22 hC [(0, v9)] [] rfl vl_X11_95 rfl h0 (by decide) (Nat.le_of_ble_eq_true rfl) (by decide) (by decide) dX11_owed_22 (t_X11_answer x0 v9 M h0) (fun v10 M11 => ?_)
    refine r_goto 25 hC (tgt := 33) (by decide) dX11_owed_25 ?_
    exact r_sub [] rfl (hj33 v10 M11)

/-! WaterTurns.slots()I -/
theorem dX11_slots_0 : decode cX11_slots 0 = .ok (.aload_n 0, 1) := by decide +kernel
theorem dX11_slots_1 : decode cX11_slots 1 = .ok (.aload_n 0, 1) := by decide +kernel
theorem dX11_slots_2 : decode cX11_slots 2 = .ok (.invokevirtual 241, 3) := by decide +kernel
theorem dX11_slots_5 : decode cX11_slots 5 = .ok (.getfield 271, 3) := by decide +kernel
theorem dX11_slots_8 : decode cX11_slots 8 = .ok (.invokevirtual 95, 3) := by decide +kernel
theorem dX11_slots_11 : decode cX11_slots 11 = .ok (.ireturn, 1) := by decide +kernel
set_option maxRecDepth 100000 in
theorem t_X11_slots (x0 : Int) (M : Mem) (h0 : x0 ≠ 0) : MtI yX11_slots cX11_slots 1 (some .int) 5 0 0 [(29, x0)] M 0 (f_X11_slots x0 M) := by
  refine mk_I (by decide +kernel) (Nat.le_of_ble_eq_true rfl) (fun E C r0 M0 hC hq hin => ?_)
  refine r_eqls (ls' := [(0, 29, x0)]) rfl ?_
  unfold f_X11_slots
  refine r_aload_n 0 hC 0 rfl (Or.inl (by decide)) rfl dX11_slots_0 ?_
  refine r_aload_n 1 hC 0 rfl (Or.inl (by decide)) rfl dX11_slots_1 ?_
  refine r_callVI 2 hC [] [(29, x0)] rfl vl_X11_241 rfl h0 (by decide) (Nat.le_of_ble_eq_true rfl) (by decide) (by decide) dX11_slots_2 (t_X11_laidSlots x0 M h0) (fun v1 M2 => ?_)
  refine r_get 5 hC fd_2_3 fl_X11_271 dX11_slots_5 (fun v3 => ?_)
  refine r_callVI 8 hC [(0, v3)] [] rfl vl_X11_95 rfl h0 (by decide) (Nat.le_of_ble_eq_true rfl) (by decide) (by decide) dX11_slots_8 (t_X11_answer x0 v3 M2 h0) (fun v4 M5 => ?_)
  exact r_ireturn 11 hC hq (by decide) (by decide) dX11_slots_11

/-! WaterTurns.slot(II)I -/
theorem dX11_slot_0 : decode cX11_slot 0 = .ok (.iload_n 2, 1) := by decide +kernel
theorem dX11_slot_1 : decode cX11_slot 1 = .ok (.iconst 0, 1) := by decide +kernel
theorem dX11_slot_2 : decode cX11_slot 2 = .ok (.iconst 2, 1) := by decide +kernel
theorem dX11_slot_3 : decode cX11_slot 3 = .ok (.invokestatic 132, 3) := by decide +kernel
theorem dX11_slot_6 : decode cX11_slot 6 = .ok (.ifCond .ne 9, 3) := by decide +kernel
theorem dX11_slot_9 : decode cX11_slot 9 = .ok (.aload_n 0, 1) := by decide +kernel
theorem dX11_slot_10 : decode cX11_slot 10 = .ok (.iconst 1, 1) := by decide +kernel
theorem dX11_slot_11 : decode cX11_slot 11 = .ok (.invokevirtual 91, 3) := by decide +kernel
theorem dX11_slot_14 : decode cX11_slot 14 = .ok (.ireturn, 1) := by decide +kernel
theorem dX11_slot_15 : decode cX11_slot 15 = .ok (.aload_n 0, 1) := by decide +kernel
theorem dX11_slot_16 : decode cX11_slot 16 = .ok (.invokevirtual 241, 3) := by decide +kernel
theorem dX11_slot_19 : decode cX11_slot 19 = .ok (.astore_n 3, 1) := by decide +kernel
theorem dX11_slot_20 : decode cX11_slot 20 = .ok (.iload_n 1, 1) := by decide +kernel
theorem dX11_slot_21 : decode cX11_slot 21 = .ok (.iconst 0, 1) := by decide +kernel
theorem dX11_slot_22 : decode cX11_slot 22 = .ok (.aload_n 3, 1) := by decide +kernel
theorem dX11_slot_23 : decode cX11_slot 23 = .ok (.getfield 271, 3) := by decide +kernel
theorem dX11_slot_26 : decode cX11_slot 26 = .ok (.iconst 1, 1) := by decide +kernel
theorem dX11_slot_27 : decode cX11_slot 27 = .ok (.isub, 1) := by decide +kernel
theorem dX11_slot_28 : decode cX11_slot 28 = .ok (.invokestatic 132, 3) := by decide +kernel
theorem dX11_slot_31 : decode cX11_slot 31 = .ok (.ifCond .ne 10, 3) := by decide +kernel
theorem dX11_slot_34 : decode cX11_slot 34 = .ok (.aload_n 0, 1) := by decide +kernel
theorem dX11_slot_35 : decode cX11_slot 35 = .ok (.bipush 6, 2) := by decide +kernel
theorem dX11_slot_37 : decode cX11_slot 37 = .ok (.invokevirtual 91, 3) := by decide +kernel
theorem dX11_slot_40 : decode cX11_slot 40 = .ok (.ireturn, 1) := by decide +kernel
theorem dX11_slot_41 : decode cX11_slot 41 = .ok (.aload_n 0, 1) := by decide +kernel
theorem dX11_slot_42 : decode cX11_slot 42 = .ok (.iload_n 2, 1) := by decide +kernel
theorem dX11_slot_43 : decode cX11_slot 43 = .ok (.ifCond .ne 12, 3) := by decide +kernel
theorem dX11_slot_46 : decode cX11_slot 46 = .ok (.aload_n 3, 1) := by decide +kernel
theorem dX11_slot_47 : decode cX11_slot 47 = .ok (.getfield 274, 3) := by decide +kernel
theorem dX11_slot_50 : decode cX11_slot 50 = .ok (.iload_n 1, 1) := by decide +kernel
theorem dX11_slot_51 : decode cX11_slot 51 = .ok (.iaload, 1) := by decide +kernel
theorem dX11_slot_52 : decode cX11_slot 52 = .ok (.goto 23, 3) := by decide +kernel
theorem dX11_slot_55 : decode cX11_slot 55 = .ok (.iload_n 2, 1) := by decide +kernel
theorem dX11_slot_56 : decode cX11_slot 56 = .ok (.iconst 1, 1) := by decide +kernel
theorem dX11_slot_57 : decode cX11_slot 57 = .ok (.if_icmp .ne 12, 3) := by decide +kernel
theorem dX11_slot_60 : decode cX11_slot 60 = .ok (.aload_n 3, 1) := by decide +kernel
theorem dX11_slot_61 : decode cX11_slot 61 = .ok (.getfield 276, 3) := by decide +kernel
theorem dX11_slot_64 : decode cX11_slot 64 = .ok (.iload_n 1, 1) := by decide +kernel
theorem dX11_slot_65 : decode cX11_slot 65 = .ok (.iaload, 1) := by decide +kernel
theorem dX11_slot_66 : decode cX11_slot 66 = .ok (.goto 9, 3) := by decide +kernel
theorem dX11_slot_69 : decode cX11_slot 69 = .ok (.aload_n 3, 1) := by decide +kernel
theorem dX11_slot_70 : decode cX11_slot 70 = .ok (.getfield 279, 3) := by decide +kernel
theorem dX11_slot_73 : decode cX11_slot 73 = .ok (.iload_n 1, 1) := by decide +kernel
theorem dX11_slot_74 : decode cX11_slot 74 = .ok (.iaload, 1) := by decide +kernel
theorem dX11_slot_75 : decode cX11_slot 75 = .ok (.invokevirtual 95, 3) := by decide +kernel
theorem dX11_slot_78 : decode cX11_slot 78 = .ok (.ireturn, 1) := by decide +kernel
set_option maxRecDepth 100000 in
theorem t_X11_slot (x0 x1 x2 : Int) (M : Mem) (h0 : x0 ≠ 0) : MtI yX11_slot cX11_slot 4 (some .int) 5 0 0 [(29, x0), (0, x1), (0, x2)] M 0 (f_X11_slot x0 x1 x2 M) := by
  refine mk_I (by decide +kernel) (Nat.le_of_ble_eq_true rfl) (fun E C r0 M0 hC hq hin => ?_)
  refine r_eqls (ls' := [(0, 29, x0), (1, 0, x1), (2, 0, x2)]) rfl ?_
  unfold f_X11_slot
  refine r_iload_n 0 hC 2 rfl rfl dX11_slot_0 ?_
  refine r_iconst 1 hC (r32c rfl) dX11_slot_1 ?_
  refine r_iconst 2 hC (r32c rfl) dX11_slot_2 ?_
  refine r_callSP 3 hC [(0, x2), (0, 0), (0, 2)] [] rfl sl_X11_132 rfl (by decide) (Nat.le_of_ble_eq_true rfl) (by decide) (by decide) dX11_slot_3 (t_X11_isWithin x2 0 2 M) (fun v1 => ?_)
  refine r_if_ne 6 hC (tgt := 15) (by decide) dX11_slot_6 ?_ ?_
  · refine r_aload_n 15 hC 0 rfl (Or.inl (by decide)) rfl dX11_slot_15 ?_
    refine r_callVI 16 hC [] [] rfl vl_X11_241 rfl h0 (by decide) (Nat.le_of_ble_eq_true rfl) (by decide) (by decide) dX11_slot_16 (t_X11_laidSlots x0 M h0) (fun v2 M3 => ?_)
    refine r_astore_n 19 hC rfl (Or.inl (by decide)) (by decide) dX11_slot_19 (r_eqls (ls' := [(3, 22, v2), (0, 29, x0), (1, 0, x1), (2, 0, x2)]) rfl ?_)
    refine r_iload_n 20 hC 2 rfl rfl dX11_slot_20 ?_
    refine r_iconst 21 hC (r32c rfl) dX11_slot_21 ?_
    refine r_aload_n 22 hC 0 rfl (Or.inl (by decide)) rfl dX11_slot_22 ?_
    refine r_get 23 hC fd_2_3 fl_X11_271 dX11_slot_23 (fun v4 => ?_)
    refine r_iconst 26 hC (r32c rfl) dX11_slot_26 ?_
    refine r_isub 27 hC dX11_slot_27 ?_
    refine r_callSP 28 hC [(0, x1), (0, 0), (0, w32 (v4 - 1))] [] rfl sl_X11_132 rfl (by decide) (Nat.le_of_ble_eq_true rfl) (by decide) (by decide) dX11_slot_28 (t_X11_isWithin x1 0 (w32 (v4 - 1)) M3) (fun v5 => ?_)
    refine r_if_ne 31 hC (tgt := 41) (by decide) dX11_slot_31 ?_ ?_
    · refine r_aload_n 41 hC 1 rfl (Or.inl (by decide)) rfl dX11_slot_41 ?_
      refine r_iload_n 42 hC 3 rfl rfl dX11_slot_42 ?_
      refine r_jn (P := fun j75 => ∀ (q6 : Int), Bk E C 4 M (r0, M0) 75 [] [(0, q6), (29, x0)] M3 0 0 (j75 q6)) ?_ (fun j75 hj75 => ?_)
      · intro q6
        refine r_callVI 75 hC [(0, q6)] [] rfl vl_X11_95 rfl h0 (by decide) (Nat.le_of_ble_eq_true rfl) (by decide) (by decide) dX11_slot_75 (t_X11_answer x0 q6 M3 h0) (fun v7 M8 => ?_)
        exact r_ireturn 78 hC hq (by decide) (by decide) dX11_slot_78
      refine r_if_ne 43 hC (tgt := 55) (by decide) dX11_slot_43 ?_ ?_
      · refine r_iload_n 55 hC 3 rfl rfl dX11_slot_55 ?_
        refine r_iconst 56 hC (r32c rfl) dX11_slot_56 ?_
        refine r_icmp_ne 57 hC (tgt := 69) (by decide) dX11_slot_57 ?_ ?_
        · refine r_aload_n 69 hC 0 rfl (Or.inl (by decide)) rfl dX11_slot_69 ?_
          refine r_get 70 hC fd_2_6 fl_X11_279 dX11_slot_70 (fun v9 => ?_)
          refine r_iload_n 73 hC 2 rfl rfl dX11_slot_73 ?_
          refine r_iaload 74 hC dX11_slot_74 (fun v10 => ?_)
          exact r_sub [] rfl (hj75 v10)
        · refine r_aload_n 60 hC 0 rfl (Or.inl (by decide)) rfl dX11_slot_60 ?_
          refine r_get 61 hC fd_2_5 fl_X11_276 dX11_slot_61 (fun v11 => ?_)
          refine r_iload_n 64 hC 2 rfl rfl dX11_slot_64 ?_
          refine r_iaload 65 hC dX11_slot_65 (fun v12 => ?_)
          refine r_goto 66 hC (tgt := 75) (by decide) dX11_slot_66 ?_
          exact r_sub [] rfl (hj75 v12)
      · refine r_aload_n 46 hC 0 rfl (Or.inl (by decide)) rfl dX11_slot_46 ?_
        refine r_get 47 hC fd_2_4 fl_X11_274 dX11_slot_47 (fun v13 => ?_)
        refine r_iload_n 50 hC 2 rfl rfl dX11_slot_50 ?_
        refine r_iaload 51 hC dX11_slot_51 (fun v14 => ?_)
        refine r_goto 52 hC (tgt := 75) (by decide) dX11_slot_52 ?_
        exact r_sub [] rfl (hj75 v14)
    · refine r_aload_n 34 hC 1 rfl (Or.inl (by decide)) rfl dX11_slot_34 ?_
      refine r_bipush 35 hC kb_6 dX11_slot_35 ?_
      refine r_callVI 37 hC [(0, 6)] [] rfl vl_X11_91 rfl h0 (by decide) (Nat.le_of_ble_eq_true rfl) (by decide) (by decide) dX11_slot_37 (t_X11_refuse x0 6 M3 h0) (fun v15 M16 => ?_)
      exact r_ireturn 40 hC hq (by decide) (by decide) dX11_slot_40
  · refine r_aload_n 9 hC 0 rfl (Or.inl (by decide)) rfl dX11_slot_9 ?_
    refine r_iconst 10 hC (r32c rfl) dX11_slot_10 ?_
    refine r_callVI 11 hC [(0, 1)] [] rfl vl_X11_91 rfl h0 (by decide) (Nat.le_of_ble_eq_true rfl) (by decide) (by decide) dX11_slot_11 (t_X11_refuse x0 1 M h0) (fun v17 M18 => ?_)
    exact r_ireturn 14 hC hq (by decide) (by decide) dX11_slot_14

/-! WaterTurns.whose(I)I -/
theorem dX11_whose_0 : decode cX11_whose 0 = .ok (.aload_n 0, 1) := by decide +kernel
theorem dX11_whose_1 : decode cX11_whose 1 = .ok (.iload_n 1, 1) := by decide +kernel
theorem dX11_whose_2 : decode cX11_whose 2 = .ok (.invokevirtual 281, 3) := by decide +kernel
theorem dX11_whose_5 : decode cX11_whose 5 = .ok (.ifCond .ne 9, 3) := by decide +kernel
theorem dX11_whose_8 : decode cX11_whose 8 = .ok (.aload_n 0, 1) := by decide +kernel
theorem dX11_whose_9 : decode cX11_whose 9 = .ok (.iconst 1, 1) := by decide +kernel
theorem dX11_whose_10 : decode cX11_whose 10 = .ok (.invokevirtual 91, 3) := by decide +kernel
theorem dX11_whose_13 : decode cX11_whose 13 = .ok (.ireturn, 1) := by decide +kernel
theorem dX11_whose_14 : decode cX11_whose 14 = .ok (.aload_n 0, 1) := by decide +kernel
theorem dX11_whose_15 : decode cX11_whose 15 = .ok (.invokevirtual 241, 3) := by decide +kernel
theorem dX11_whose_18 : decode cX11_whose 18 = .ok (.astore_n 2, 1) := by decide +kernel
theorem dX11_whose_19 : decode cX11_whose 19 = .ok (.iconst 0, 1) := by decide +kernel
theorem dX11_whose_20 : decode cX11_whose 20 = .ok (.istore_n 3, 1) := by decide +kernel
theorem dX11_whose_21 : decode cX11_whose 21 = .ok (.iload_n 3, 1) := by decide +kernel
theorem dX11_whose_22 : decode cX11_whose 22 = .ok (.aload_n 2, 1) := by decide +kernel
theorem dX11_whose_23 : decode cX11_whose 23 = .ok (.getfield 271, 3) := by decide +kernel
theorem dX11_whose_26 : decode cX11_whose 26 = .ok (.if_icmp .ge 37, 3) := by decide +kernel
theorem dX11_whose_29 : decode cX11_whose 29 = .ok (.iload_n 1, 1) := by decide +kernel
theorem dX11_whose_30 : decode cX11_whose 30 = .ok (.aload_n 2, 1) := by decide +kernel
theorem dX11_whose_31 : decode cX11_whose 31 = .ok (.getfield 276, 3) := by decide +kernel
theorem dX11_whose_34 : decode cX11_whose 34 = .ok (.iload_n 3, 1) := by decide +kernel
theorem dX11_whose_35 : decode cX11_whose 35 = .ok (.iaload, 1) := by decide +kernel
theorem dX11_whose_36 : decode cX11_whose 36 = .ok (.aload_n 2, 1) := by decide +kernel
theorem dX11_whose_37 : decode cX11_whose 37 = .ok (.getfield 279, 3) := by decide +kernel
theorem dX11_whose_40 : decode cX11_whose 40 = .ok (.iload_n 3, 1) := by decide +kernel
theorem dX11_whose_41 : decode cX11_whose 41 = .ok (.iaload, 1) := by decide +kernel
theorem dX11_whose_42 : decode cX11_whose 42 = .ok (.iadd, 1) := by decide +kernel
theorem dX11_whose_43 : decode cX11_whose 43 = .ok (.if_icmp .ge 14, 3) := by decide +kernel
theorem dX11_whose_46 : decode cX11_whose 46 = .ok (.aload_n 0, 1) := by decide +kernel
theorem dX11_whose_47 : decode cX11_whose 47 = .ok (.aload_n 2, 1) := by decide +kernel
theorem dX11_whose_48 : decode cX11_whose 48 = .ok (.getfield 274, 3) := by decide +kernel
theorem dX11_whose_51 : decode cX11_whose 51 = .ok (.iload_n 3, 1) := by decide +kernel
theorem dX11_whose_52 : decode cX11_whose 52 = .ok (.iaload, 1) := by decide +kernel
theorem dX11_whose_53 : decode cX11_whose 53 = .ok (.invokevirtual 95, 3) := by decide +kernel
theorem dX11_whose_56 : decode cX11_whose 56 = .ok (.ireturn, 1) := by decide +kernel
theorem dX11_whose_57 : decode cX11_whose 57 = .ok (.iinc 3 1, 3) := by decide +kernel
theorem dX11_whose_60 : decode cX11_whose 60 = .ok (.goto (-39), 3) := by decide +kernel
theorem dX11_whose_63 : decode cX11_whose 63 = .ok (.aload_n 0, 1) := by decide +kernel
theorem dX11_whose_64 : decode cX11_whose 64 = .ok (.bipush 6, 2) := by decide +kernel
theorem dX11_whose_66 : decode cX11_whose 66 = .ok (.invokevirtual 91, 3) := by decide +kernel
theorem dX11_whose_69 : decode cX11_whose 69 = .ok (.ireturn, 1) := by decide +kernel
set_option maxRecDepth 100000 in
theorem f_X11_whose_L21_ok {E : EnvT} {C : Cx} {Mi : Mem} {x0 : Int} (h0 : x0 ≠ 0) (hC : CxOK E C cX11_whose 4 yX11_whose.cls 5 0 0) {r0 : Int} {M0 : Mem} (hq : RQ E C 0 0 Mi (some .int) (some (0, r0)) M0) {M3 : Mem} {v2 x1 : Int} {k : Option (Int × Mem)} (hk : Bk E C 4 Mi (r0, M0) 63 [(0, 29, x0)] [] M3 0 0 (k)) : ∀ (n : Nat) (p4 : Int), Bk E C 4 Mi (r0, M0) 21 [(0, 29, x0), (1, 0, x1), (2, 22, v2), (3, 0, p4)] [] M3 0 0 (f_X11_whose_L21 M3 v2 x0 x1 k n p4) := by
  intro n
  induction n with
  | zero =>
    intro p4
    exact r_none
  | succ n ih =>
    intro p4
    rw [f_X11_whose_L21]
    refine r_iload_n 21 hC 3 rfl rfl dX11_whose_21 ?_
    refine r_aload_n 22 hC 2 rfl (Or.inl (by decide)) rfl dX11_whose_22 ?_
    refine r_get 23 hC fd_2_3 fl_X11_271 dX11_whose_23 (fun v5 => ?_)
    refine r_icmp_ge 26 hC (tgt := 63) (by decide) dX11_whose_26 ?_ ?_
    · exact r_sub [0] rfl (hk)
    · refine r_iload_n 29 hC 1 rfl rfl dX11_whose_29 ?_
      refine r_aload_n 30 hC 2 rfl (Or.inl (by decide)) rfl dX11_whose_30 ?_
      refine r_get 31 hC fd_2_5 fl_X11_276 dX11_whose_31 (fun v6 => ?_)
      refine r_iload_n 34 hC 3 rfl rfl dX11_whose_34 ?_
      refine r_iaload 35 hC dX11_whose_35 (fun v7 => ?_)
      refine r_aload_n 36 hC 2 rfl (Or.inl (by decide)) rfl dX11_whose_36 ?_
      refine r_get 37 hC fd_2_6 fl_X11_279 dX11_whose_37 (fun v8 => ?_)
      refine r_iload_n 40 hC 3 rfl rfl dX11_whose_40 ?_
      refine r_iaload 41 hC dX11_whose_41 (fun v9 => ?_)
      refine r_iadd 42 hC dX11_whose_42 ?_
      refine r_icmp_ge 43 hC (tgt := 57) (by decide) dX11_whose_43 ?_ ?_
      · refine r_iinc 57 hC 3 rfl (by decide) dX11_whose_57 (r_eqls (ls' := [(3, 0, w32 (p4 + 1)), (0, 29, x0), (1, 0, x1), (2, 22, v2)]) rfl ?_)
        refine r_goto 60 hC (tgt := 21) (by decide) dX11_whose_60 ?_
        exact r_sub [1, 2, 3, 0] rfl (ih (w32 (p4 + 1)))
      · refine r_aload_n 46 hC 0 rfl (Or.inl (by decide)) rfl dX11_whose_46 ?_
        refine r_aload_n 47 hC 2 rfl (Or.inl (by decide)) rfl dX11_whose_47 ?_
        refine r_get 48 hC fd_2_4 fl_X11_274 dX11_whose_48 (fun v10 => ?_)
        refine r_iload_n 51 hC 3 rfl rfl dX11_whose_51 ?_
        refine r_iaload 52 hC dX11_whose_52 (fun v11 => ?_)
        refine r_callVI 53 hC [(0, v11)] [] rfl vl_X11_95 rfl h0 (by decide) (Nat.le_of_ble_eq_true rfl) (by decide) (by decide) dX11_whose_53 (t_X11_answer x0 v11 M3 h0) (fun v12 M13 => ?_)
        exact r_ireturn 56 hC hq (by decide) (by decide) dX11_whose_56
set_option maxRecDepth 100000 in
theorem t_X11_whose (x0 x1 : Int) (M : Mem) (h0 : x0 ≠ 0) : MtI yX11_whose cX11_whose 4 (some .int) 5 0 0 [(29, x0), (0, x1)] M 0 (f_X11_whose x0 x1 M) := by
  refine mk_I (by decide +kernel) (Nat.le_of_ble_eq_true rfl) (fun E C r0 M0 hC hq hin => ?_)
  refine r_eqls (ls' := [(0, 29, x0), (1, 0, x1)]) rfl ?_
  unfold f_X11_whose
  refine r_aload_n 0 hC 0 rfl (Or.inl (by decide)) rfl dX11_whose_0 ?_
  refine r_iload_n 1 hC 1 rfl rfl dX11_whose_1 ?_
  refine r_callVP 2 hC [(0, x1)] [] rfl vl_X11_281 rfl h0 (by decide) (Nat.le_of_ble_eq_true rfl) (by decide) (by decide) dX11_whose_2 (t_X11_isMinute x0 x1 M h0) (fun v1 => ?_)
  refine r_if_ne 5 hC (tgt := 14) (by decide) dX11_whose_5 ?_ ?_
  · refine r_aload_n 14 hC 0 rfl (Or.inl (by decide)) rfl dX11_whose_14 ?_
    refine r_callVI 15 hC [] [] rfl vl_X11_241 rfl h0 (by decide) (Nat.le_of_ble_eq_true rfl) (by decide) (by decide) dX11_whose_15 (t_X11_laidSlots x0 M h0) (fun v2 M3 => ?_)
    refine r_astore_n 18 hC rfl (Or.inl (by decide)) (by decide) dX11_whose_18 (r_eqls (ls' := [(2, 22, v2), (0, 29, x0), (1, 0, x1)]) rfl ?_)
    refine r_iconst 19 hC (r32c rfl) dX11_whose_19 ?_
    refine r_istore_n 20 hC rfl (by decide) dX11_whose_20 (r_eqls (ls' := [(3, 0, 0), (2, 22, v2), (0, 29, x0), (1, 0, x1)]) rfl ?_)
    refine r_sub [2, 3, 1, 0] rfl (f_X11_whose_L21_ok h0 hC hq ?_ KF 0)
    · refine r_aload_n 63 hC 0 rfl (Or.inl (by decide)) rfl dX11_whose_63 ?_
      refine r_bipush 64 hC kb_6 dX11_whose_64 ?_
      refine r_callVI 66 hC [(0, 6)] [] rfl vl_X11_91 rfl h0 (by decide) (Nat.le_of_ble_eq_true rfl) (by decide) (by decide) dX11_whose_66 (t_X11_refuse x0 6 M3 h0) (fun v14 M15 => ?_)
      exact r_ireturn 69 hC hq (by decide) (by decide) dX11_whose_69
  · refine r_aload_n 8 hC 0 rfl (Or.inl (by decide)) rfl dX11_whose_8 ?_
    refine r_iconst 9 hC (r32c rfl) dX11_whose_9 ?_
    refine r_callVI 10 hC [(0, 1)] [] rfl vl_X11_91 rfl h0 (by decide) (Nat.le_of_ble_eq_true rfl) (by decide) (by decide) dX11_whose_10 (t_X11_refuse x0 1 M h0) (fun v16 M17 => ?_)
    exact r_ireturn 13 hC hq (by decide) (by decide) dX11_whose_13

/-! WaterTurns.sweptWorld()LWaterTurns$Sweep; -/
theorem dX11_sweptWorld_0 : decode cX11_sweptWorld 0 = .ok (.aload_n 0, 1) := by decide +kernel
theorem dX11_sweptWorld_1 : decode cX11_sweptWorld 1 = .ok (.getfield 33, 3) := by decide +kernel
theorem dX11_sweptWorld_4 : decode cX11_sweptWorld 4 = .ok (.aload_n 0, 1) := by decide +kernel
theorem dX11_sweptWorld_5 : decode cX11_sweptWorld 5 = .ok (.getfield 26, 3) := by decide +kernel
theorem dX11_sweptWorld_8 : decode cX11_sweptWorld 8 = .ok (.invokevirtual 297, 3) := by decide +kernel
theorem dX11_sweptWorld_11 : decode cX11_sweptWorld 11 = .ok (.aload_n 0, 1) := by decide +kernel
theorem dX11_sweptWorld_12 : decode cX11_sweptWorld 12 = .ok (.getfield 33, 3) := by decide +kernel
theorem dX11_sweptWorld_15 : decode cX11_sweptWorld 15 = .ok (.areturn, 1) := by decide +kernel
set_option maxRecDepth 100000 in
theorem t_X11_sweptWorld (x0 : Int) (M : Mem) (h0 : x0 ≠ 0) : MtI yX11_sweptWorld cX11_sweptWorld 1 (some (.object "WaterTurns$Sweep")) 5 0 0 [(29, x0)] M 24 (f_X11_sweptWorld x0 M) := by
  refine mk_I (by decide +kernel) (Nat.le_of_ble_eq_true rfl) (fun E C r0 M0 hC hq hin => ?_)
  refine r_eqls (ls' := [(0, 29, x0)]) rfl ?_
  unfold f_X11_sweptWorld
  refine r_aload_n 0 hC 0 rfl (Or.inl (by decide)) rfl dX11_sweptWorld_0 ?_
  refine r_get 1 hC fd_9_3 fl_X11_33 dX11_sweptWorld_1 (fun v1 => ?_)
  refine r_aload_n 4 hC 0 rfl (Or.inl (by decide)) rfl dX11_sweptWorld_4 ?_
  refine r_get 5 hC fd_9_2 fl_X11_26 dX11_sweptWorld_5 (fun v2 => ?_)
  refine r_nn (fun hn3 => ?_)
  refine r_callVV 8 hC [(28, v2)] [] rfl vl_X11_297 rfl hn3 (by decide) (Nat.le_of_ble_eq_true rfl) (by decide) (by decide) dX11_sweptWorld_8 (t_X5_over v1 v2 M hn3) (fun M4 => ?_)
  refine r_aload_n 11 hC 0 rfl (Or.inl (by decide)) rfl dX11_sweptWorld_11 ?_
  refine r_get 12 hC fd_9_3 fl_X11_33 dX11_sweptWorld_12 (fun v5 => ?_)
  exact r_areturn 15 hC (by decide) hq (by decide) (by decide) dX11_sweptWorld_15

/-! WaterTurns.minutes(II)I -/
theorem dX11_minutes_0 : decode cX11_minutes 0 = .ok (.aload_n 0, 1) := by decide +kernel
theorem dX11_minutes_1 : decode cX11_minutes 1 = .ok (.iload_n 1, 1) := by decide +kernel
theorem dX11_minutes_2 : decode cX11_minutes 2 = .ok (.invokevirtual 123, 3) := by decide +kernel
theorem dX11_minutes_5 : decode cX11_minutes 5 = .ok (.ifCond .eq 12, 3) := by decide +kernel
theorem dX11_minutes_8 : decode cX11_minutes 8 = .ok (.iload_n 2, 1) := by decide +kernel
theorem dX11_minutes_9 : decode cX11_minutes 9 = .ok (.iconst 0, 1) := by decide +kernel
theorem dX11_minutes_10 : decode cX11_minutes 10 = .ok (.iconst 1, 1) := by decide +kernel
theorem dX11_minutes_11 : decode cX11_minutes 11 = .ok (.invokestatic 132, 3) := by decide +kernel
theorem dX11_minutes_14 : decode cX11_minutes 14 = .ok (.ifCond .ne 9, 3) := by decide +kernel
theorem dX11_minutes_17 : decode cX11_minutes 17 = .ok (.aload_n 0, 1) := by decide +kernel
theorem dX11_minutes_18 : decode cX11_minutes 18 = .ok (.iconst 1, 1) := by decide +kernel
theorem dX11_minutes_19 : decode cX11_minutes 19 = .ok (.invokevirtual 91, 3) := by decide +kernel
theorem dX11_minutes_22 : decode cX11_minutes 22 = .ok (.ireturn, 1) := by decide +kernel
theorem dX11_minutes_23 : decode cX11_minutes 23 = .ok (.aload_n 0, 1) := by decide +kernel
theorem dX11_minutes_24 : decode cX11_minutes 24 = .ok (.invokevirtual 284, 3) := by decide +kernel
theorem dX11_minutes_27 : decode cX11_minutes 27 = .ok (.astore_n 3, 1) := by decide +kernel
theorem dX11_minutes_28 : decode cX11_minutes 28 = .ok (.aload_n 0, 1) := by decide +kernel
theorem dX11_minutes_29 : decode cX11_minutes 29 = .ok (.iload_n 2, 1) := by decide +kernel
theorem dX11_minutes_30 : decode cX11_minutes 30 = .ok (.ifCond .ne 12, 3) := by decide +kernel
theorem dX11_minutes_33 : decode cX11_minutes 33 = .ok (.aload_n 3, 1) := by decide +kernel
theorem dX11_minutes_34 : decode cX11_minutes 34 = .ok (.getfield 288, 3) := by decide +kernel
theorem dX11_minutes_37 : decode cX11_minutes 37 = .ok (.iload_n 1, 1) := by decide +kernel
theorem dX11_minutes_38 : decode cX11_minutes 38 = .ok (.iaload, 1) := by decide +kernel
theorem dX11_minutes_39 : decode cX11_minutes 39 = .ok (.goto 9, 3) := by decide +kernel
theorem dX11_minutes_42 : decode cX11_minutes 42 = .ok (.aload_n 3, 1) := by decide +kernel
theorem dX11_minutes_43 : decode cX11_minutes 43 = .ok (.getfield 291, 3) := by decide +kernel
theorem dX11_minutes_46 : decode cX11_minutes 46 = .ok (.iload_n 1, 1) := by decide +kernel
theorem dX11_minutes_47 : decode cX11_minutes 47 = .ok (.iaload, 1) := by decide +kernel
theorem dX11_minutes_48 : decode cX11_minutes 48 = .ok (.invokevirtual 95, 3) := by decide +kernel
theorem dX11_minutes_51 : decode cX11_minutes 51 = .ok (.ireturn, 1) := by decide +kernel
set_option maxRecDepth 100000 in
theorem t_X11_minutes (x0 x1 x2 : Int) (M : Mem) (h0 : x0 ≠ 0) : MtI yX11_minutes cX11_minutes 4 (some .int) 6 0 0 [(29, x0), (0, x1), (0, x2)] M 0 (f_X11_minutes x0 x1 x2 M) := by
  refine mk_I (by decide +kernel) (Nat.le_of_ble_eq_true rfl) (fun E C r0 M0 hC hq hin => ?_)
  refine r_eqls (ls' := [(0, 29, x0), (1, 0, x1), (2, 0, x2)]) rfl ?_
  unfold f_X11_minutes
  refine r_aload_n 0 hC 0 rfl (Or.inl (by decide)) rfl dX11_minutes_0 ?_
  refine r_iload_n 1 hC 1 rfl rfl dX11_minutes_1 ?_
  refine r_callVP 2 hC [(0, x1)] [] rfl vl_X11_123 rfl h0 (by decide) (Nat.le_of_ble_eq_true rfl) (by decide) (by decide) dX11_minutes_2 (t_X11_isField x0 x1 M h0) (fun v1 => ?_)
  refine r_jn (P := fun j17 => Bk E C 4 M (r0, M0) 17 [(0, 29, x0)] [] M 0 0 (j17)) ?_ (fun j17 hj17 => ?_)
  · refine r_aload_n 17 hC 0 rfl (Or.inl (by decide)) rfl dX11_minutes_17 ?_
    refine r_iconst 18 hC (r32c rfl) dX11_minutes_18 ?_
    refine r_callVI 19 hC [(0, 1)] [] rfl vl_X11_91 rfl h0 (by decide) (Nat.le_of_ble_eq_true rfl) (by decide) (by decide) dX11_minutes_19 (t_X11_refuse x0 1 M h0) (fun v2 M3 => ?_)
    exact r_ireturn 22 hC hq (by decide) (by decide) dX11_minutes_22
  refine r_if_eq 5 hC (tgt := 17) (by decide) dX11_minutes_5 ?_ ?_
  · exact r_sub [0] rfl (hj17)
  · refine r_iload_n 8 hC 2 rfl rfl dX11_minutes_8 ?_
    refine r_iconst 9 hC (r32c rfl) dX11_minutes_9 ?_
    refine r_iconst 10 hC (r32c rfl) dX11_minutes_10 ?_
    refine r_callSP 11 hC [(0, x2), (0, 0), (0, 1)] [] rfl sl_X11_132 rfl (by decide) (Nat.le_of_ble_eq_true rfl) (by decide) (by decide) dX11_minutes_11 (t_X11_isWithin x2 0 1 M) (fun v4 => ?_)
    refine r_if_ne 14 hC (tgt := 23) (by decide) dX11_minutes_14 ?_ ?_
    · refine r_aload_n 23 hC 0 rfl (Or.inl (by decide)) rfl dX11_minutes_23 ?_
      refine r_callVI 24 hC [] [] rfl vl_X11_284 rfl h0 (by decide) (Nat.le_of_ble_eq_true rfl) (by decide) (by decide) dX11_minutes_24 (t_X11_sweptWorld x0 M h0) (fun v5 M6 => ?_)
      refine r_astore_n 27 hC rfl (Or.inl (by decide)) (by decide) dX11_minutes_27 (r_eqls (ls' := [(3, 24, v5), (0, 29, x0), (1, 0, x1), (2, 0, x2)]) rfl ?_)
      refine r_aload_n 28 hC 1 rfl (Or.inl (by decide)) rfl dX11_minutes_28 ?_
      refine r_iload_n 29 hC 3 rfl rfl dX11_minutes_29 ?_
      refine r_jn (P := fun j48 => ∀ (q7 : Int), Bk E C 4 M (r0, M0) 48 [] [(0, q7), (29, x0)] M6 0 0 (j48 q7)) ?_ (fun j48 hj48 => ?_)
      · intro q7
        refine r_callVI 48 hC [(0, q7)] [] rfl vl_X11_95 rfl h0 (by decide) (Nat.le_of_ble_eq_true rfl) (by decide) (by decide) dX11_minutes_48 (t_X11_answer x0 q7 M6 h0) (fun v8 M9 => ?_)
        exact r_ireturn 51 hC hq (by decide) (by decide) dX11_minutes_51
      refine r_if_ne 30 hC (tgt := 42) (by decide) dX11_minutes_30 ?_ ?_
      · refine r_aload_n 42 hC 0 rfl (Or.inl (by decide)) rfl dX11_minutes_42 ?_
        refine r_get 43 hC fd_4_7 fl_X11_291 dX11_minutes_43 (fun v10 => ?_)
        refine r_iload_n 46 hC 2 rfl rfl dX11_minutes_46 ?_
        refine r_iaload 47 hC dX11_minutes_47 (fun v11 => ?_)
        exact r_sub [] rfl (hj48 v11)
      · refine r_aload_n 33 hC 0 rfl (Or.inl (by decide)) rfl dX11_minutes_33 ?_
        refine r_get 34 hC fd_4_6 fl_X11_288 dX11_minutes_34 (fun v12 => ?_)
        refine r_iload_n 37 hC 2 rfl rfl dX11_minutes_37 ?_
        refine r_iaload 38 hC dX11_minutes_38 (fun v13 => ?_)
        refine r_goto 39 hC (tgt := 48) (by decide) dX11_minutes_39 ?_
        exact r_sub [] rfl (hj48 v13)
    · exact r_sub [0] rfl (hj17)

/-! WaterTurns.close(IZ)Z -/
theorem dX11_close_0 : decode cX11_close 0 = .ok (.aload_n 0, 1) := by decide +kernel
theorem dX11_close_1 : decode cX11_close 1 = .ok (.iload_n 1, 1) := by decide +kernel
theorem dX11_close_2 : decode cX11_close 2 = .ok (.invokevirtual 222, 3) := by decide +kernel
theorem dX11_close_5 : decode cX11_close 5 = .ok (.ifCond .ne 9, 3) := by decide +kernel
theorem dX11_close_8 : decode cX11_close 8 = .ok (.aload_n 0, 1) := by decide +kernel
theorem dX11_close_9 : decode cX11_close 9 = .ok (.iconst 1, 1) := by decide +kernel
theorem dX11_close_10 : decode cX11_close 10 = .ok (.invokevirtual 102, 3) := by decide +kernel
theorem dX11_close_13 : decode cX11_close 13 = .ok (.ireturn, 1) := by decide +kernel
theorem dX11_close_14 : decode cX11_close 14 = .ok (.aload_n 0, 1) := by decide +kernel
theorem dX11_close_15 : decode cX11_close 15 = .ok (.getfield 26, 3) := by decide +kernel
theorem dX11_close_18 : decode cX11_close 18 = .ok (.getfield 206, 3) := by decide +kernel
theorem dX11_close_21 : decode cX11_close 21 = .ok (.iload_n 1, 1) := by decide +kernel
theorem dX11_close_22 : decode cX11_close 22 = .ok (.iload_n 2, 1) := by decide +kernel
theorem dX11_close_23 : decode cX11_close 23 = .ok (.invokevirtual 300, 3) := by decide +kernel
theorem dX11_close_26 : decode cX11_close 26 = .ok (.aload_n 0, 1) := by decide +kernel
theorem dX11_close_27 : decode cX11_close 27 = .ok (.iconst 0, 1) := by decide +kernel
theorem dX11_close_28 : decode cX11_close 28 = .ok (.invokevirtual 102, 3) := by decide +kernel
theorem dX11_close_31 : decode cX11_close 31 = .ok (.ireturn, 1) := by decide +kernel
set_option maxRecDepth 100000 in
theorem t_X11_close (x0 x1 x2 : Int) (M : Mem) (h0 : x0 ≠ 0) : MtI yX11_close cX11_close 3 (some .boolean) 2 0 0 [(29, x0), (0, x1), (0, x2)] M 0 (f_X11_close x0 x1 x2 M) := by
  refine mk_I (by decide +kernel) (Nat.le_of_ble_eq_true rfl) (fun E C r0 M0 hC hq hin => ?_)
  refine r_eqls (ls' := [(0, 29, x0), (1, 0, x1), (2, 0, x2)]) rfl ?_
  unfold f_X11_close
  refine r_aload_n 0 hC 0 rfl (Or.inl (by decide)) rfl dX11_close_0 ?_
  refine r_iload_n 1 hC 1 rfl rfl dX11_close_1 ?_
  refine r_callVP 2 hC [(0, x1)] [] rfl vl_X11_222 rfl h0 (by decide) (Nat.le_of_ble_eq_true rfl) (by decide) (by decide) dX11_close_2 (t_X11_isReach x0 x1 M h0) (fun v1 => ?_)
  refine r_if_ne 5 hC (tgt := 14) (by decide) dX11_close_5 ?_ ?_
  · refine r_aload_n 14 hC 0 rfl (Or.inl (by decide)) rfl dX11_close_14 ?_
    refine r_get 15 hC fd_9_2 fl_X11_26 dX11_close_15 (fun v2 => ?_)
    refine r_get 18 hC fd_8_2 fl_X11_206 dX11_close_18 (fun v3 => ?_)
    refine r_iload_n 21 hC 1 rfl rfl dX11_close_21 ?_
    refine r_iload_n 22 hC 2 rfl rfl dX11_close_22 ?_
    refine r_nn (fun hn4 => ?_)
    refine r_callVV 23 hC [(0, x1), (0, x2)] [] rfl vl_X11_300 rfl hn4 (by decide) (Nat.le_of_ble_eq_true rfl) (by decide) (by decide) dX11_close_23 (t_X4_setClosed v3 x1 x2 M hn4) (fun M5 => ?_)
    refine r_aload_n 26 hC 0 rfl (Or.inl (by decide)) rfl dX11_close_26 ?_
    refine r_iconst 27 hC (r32c rfl) dX11_close_27 ?_
    refine r_callVI 28 hC [(0, 0)] [] rfl vl_X11_102 rfl h0 (by decide) (Nat.le_of_ble_eq_true rfl) (by decide) (by decide) dX11_close_28 (t_X11_settle x0 0 M5 h0) (fun v6 M7 => ?_)
    exact r_zreturn 31 hC hq (by decide) (by decide) dX11_close_31
  · refine r_aload_n 8 hC 0 rfl (Or.inl (by decide)) rfl dX11_close_8 ?_
    refine r_iconst 9 hC (r32c rfl) dX11_close_9 ?_
    refine r_callVI 10 hC [(0, 1)] [] rfl vl_X11_102 rfl h0 (by decide) (Nat.le_of_ble_eq_true rfl) (by decide) (by decide) dX11_close_10 (t_X11_settle x0 1 M h0) (fun v8 M9 => ?_)
    exact r_zreturn 13 hC hq (by decide) (by decide) dX11_close_13

/-! WaterTurns.head(I)Z -/
theorem dX11_head_0 : decode cX11_head 0 = .ok (.iload_n 1, 1) := by decide +kernel
theorem dX11_head_1 : decode cX11_head 1 = .ok (.iconst 0, 1) := by decide +kernel
theorem dX11_head_2 : decode cX11_head 2 = .ok (.sipush 999, 3) := by decide +kernel
theorem dX11_head_5 : decode cX11_head 5 = .ok (.invokestatic 132, 3) := by decide +kernel
theorem dX11_head_8 : decode cX11_head 8 = .ok (.ifCond .ne 9, 3) := by decide +kernel
theorem dX11_head_11 : decode cX11_head 11 = .ok (.aload_n 0, 1) := by decide +kernel
theorem dX11_head_12 : decode cX11_head 12 = .ok (.iconst 1, 1) := by decide +kernel
theorem dX11_head_13 : decode cX11_head 13 = .ok (.invokevirtual 102, 3) := by decide +kernel
theorem dX11_head_16 : decode cX11_head 16 = .ok (.ireturn, 1) := by decide +kernel
theorem dX11_head_17 : decode cX11_head 17 = .ok (.aload_n 0, 1) := by decide +kernel
theorem dX11_head_18 : decode cX11_head 18 = .ok (.getfield 26, 3) := by decide +kernel
theorem dX11_head_21 : decode cX11_head 21 = .ok (.getfield 206, 3) := by decide +kernel
theorem dX11_head_24 : decode cX11_head 24 = .ok (.iload_n 1, 1) := by decide +kernel
theorem dX11_head_25 : decode cX11_head 25 = .ok (.putfield 209, 3) := by decide +kernel
theorem dX11_head_28 : decode cX11_head 28 = .ok (.aload_n 0, 1) := by decide +kernel
theorem dX11_head_29 : decode cX11_head 29 = .ok (.iconst 0, 1) := by decide +kernel
theorem dX11_head_30 : decode cX11_head 30 = .ok (.invokevirtual 102, 3) := by decide +kernel
theorem dX11_head_33 : decode cX11_head 33 = .ok (.ireturn, 1) := by decide +kernel
set_option maxRecDepth 100000 in
theorem t_X11_head (x0 x1 : Int) (M : Mem) (h0 : x0 ≠ 0) : MtI yX11_head cX11_head 2 (some .boolean) 2 0 0 [(29, x0), (0, x1)] M 0 (f_X11_head x0 x1 M) := by
  refine mk_I (by decide +kernel) (Nat.le_of_ble_eq_true rfl) (fun E C r0 M0 hC hq hin => ?_)
  refine r_eqls (ls' := [(0, 29, x0), (1, 0, x1)]) rfl ?_
  unfold f_X11_head
  refine r_iload_n 0 hC 1 rfl rfl dX11_head_0 ?_
  refine r_iconst 1 hC (r32c rfl) dX11_head_1 ?_
  refine r_sipush 2 hC ks_999 dX11_head_2 ?_
  refine r_callSP 5 hC [(0, x1), (0, 0), (0, 999)] [] rfl sl_X11_132 rfl (by decide) (Nat.le_of_ble_eq_true rfl) (by decide) (by decide) dX11_head_5 (t_X11_isWithin x1 0 999 M) (fun v1 => ?_)
  refine r_if_ne 8 hC (tgt := 17) (by decide) dX11_head_8 ?_ ?_
  · refine r_aload_n 17 hC 0 rfl (Or.inl (by decide)) rfl dX11_head_17 ?_
    refine r_get 18 hC fd_9_2 fl_X11_26 dX11_head_18 (fun v2 => ?_)
    refine r_get 21 hC fd_8_2 fl_X11_206 dX11_head_21 (fun v3 => ?_)
    refine r_iload_n 24 hC 1 rfl rfl dX11_head_24 ?_
    refine r_put 25 hC fd_3_0 fl_X11_209 dX11_head_25 (fun M4 => ?_)
    refine r_aload_n 28 hC 0 rfl (Or.inl (by decide)) rfl dX11_head_28 ?_
    refine r_iconst 29 hC (r32c rfl) dX11_head_29 ?_
    refine r_callVI 30 hC [(0, 0)] [] rfl vl_X11_102 rfl h0 (by decide) (Nat.le_of_ble_eq_true rfl) (by decide) (by decide) dX11_head_30 (t_X11_settle x0 0 M4 h0) (fun v5 M6 => ?_)
    exact r_zreturn 33 hC hq (by decide) (by decide) dX11_head_33
  · refine r_aload_n 11 hC 0 rfl (Or.inl (by decide)) rfl dX11_head_11 ?_
    refine r_iconst 12 hC (r32c rfl) dX11_head_12 ?_
    refine r_callVI 13 hC [(0, 1)] [] rfl vl_X11_102 rfl h0 (by decide) (Nat.le_of_ble_eq_true rfl) (by decide) (by decide) dX11_head_13 (t_X11_settle x0 1 M h0) (fun v7 M8 => ?_)
    exact r_zreturn 16 hC hq (by decide) (by decide) dX11_head_16

/-! WaterTurns.lets(II)I -/
theorem dX11_lets_0 : decode cX11_lets 0 = .ok (.aload_n 0, 1) := by decide +kernel
theorem dX11_lets_1 : decode cX11_lets 1 = .ok (.iload_n 1, 1) := by decide +kernel
theorem dX11_lets_2 : decode cX11_lets 2 = .ok (.invokevirtual 222, 3) := by decide +kernel
theorem dX11_lets_5 : decode cX11_lets 5 = .ok (.ifCond .eq 11, 3) := by decide +kernel
theorem dX11_lets_8 : decode cX11_lets 8 = .ok (.aload_n 0, 1) := by decide +kernel
theorem dX11_lets_9 : decode cX11_lets 9 = .ok (.iload_n 2, 1) := by decide +kernel
theorem dX11_lets_10 : decode cX11_lets 10 = .ok (.invokevirtual 281, 3) := by decide +kernel
theorem dX11_lets_13 : decode cX11_lets 13 = .ok (.ifCond .ne 9, 3) := by decide +kernel
theorem dX11_lets_16 : decode cX11_lets 16 = .ok (.aload_n 0, 1) := by decide +kernel
theorem dX11_lets_17 : decode cX11_lets 17 = .ok (.iconst 1, 1) := by decide +kernel
theorem dX11_lets_18 : decode cX11_lets 18 = .ok (.invokevirtual 91, 3) := by decide +kernel
theorem dX11_lets_21 : decode cX11_lets 21 = .ok (.ireturn, 1) := by decide +kernel
theorem dX11_lets_22 : decode cX11_lets 22 = .ok (.aload_n 0, 1) := by decide +kernel
theorem dX11_lets_23 : decode cX11_lets 23 = .ok (.getfield 26, 3) := by decide +kernel
theorem dX11_lets_26 : decode cX11_lets 26 = .ok (.getfield 206, 3) := by decide +kernel
theorem dX11_lets_29 : decode cX11_lets 29 = .ok (.iload_n 1, 1) := by decide +kernel
theorem dX11_lets_30 : decode cX11_lets 30 = .ok (.invokevirtual 304, 3) := by decide +kernel
theorem dX11_lets_33 : decode cX11_lets 33 = .ok (.ifCond .ne 22, 3) := by decide +kernel
theorem dX11_lets_36 : decode cX11_lets 36 = .ok (.aload_n 0, 1) := by decide +kernel
theorem dX11_lets_37 : decode cX11_lets 37 = .ok (.getfield 26, 3) := by decide +kernel
theorem dX11_lets_40 : decode cX11_lets 40 = .ok (.getfield 111, 3) := by decide +kernel
theorem dX11_lets_43 : decode cX11_lets 43 = .ok (.iload_n 1, 1) := by decide +kernel
theorem dX11_lets_44 : decode cX11_lets 44 = .ok (.iload_n 2, 1) := by decide +kernel
theorem dX11_lets_45 : decode cX11_lets 45 = .ok (.invokevirtual 307, 3) := by decide +kernel
theorem dX11_lets_48 : decode cX11_lets 48 = .ok (.ifCond .ne 7, 3) := by decide +kernel
theorem dX11_lets_51 : decode cX11_lets 51 = .ok (.iconst 1, 1) := by decide +kernel
theorem dX11_lets_52 : decode cX11_lets 52 = .ok (.goto 4, 3) := by decide +kernel
theorem dX11_lets_55 : decode cX11_lets 55 = .ok (.iconst 0, 1) := by decide +kernel
theorem dX11_lets_56 : decode cX11_lets 56 = .ok (.istore_n 3, 1) := by decide +kernel
theorem dX11_lets_57 : decode cX11_lets 57 = .ok (.aload_n 0, 1) := by decide +kernel
theorem dX11_lets_58 : decode cX11_lets 58 = .ok (.iload_n 3, 1) := by decide +kernel
theorem dX11_lets_59 : decode cX11_lets 59 = .ok (.ifCond .eq 7, 3) := by decide +kernel
theorem dX11_lets_62 : decode cX11_lets 62 = .ok (.iconst 1, 1) := by decide +kernel
theorem dX11_lets_63 : decode cX11_lets 63 = .ok (.goto 4, 3) := by decide +kernel
theorem dX11_lets_66 : decode cX11_lets 66 = .ok (.iconst 0, 1) := by decide +kernel
theorem dX11_lets_67 : decode cX11_lets 67 = .ok (.invokevirtual 95, 3) := by decide +kernel
theorem dX11_lets_70 : decode cX11_lets 70 = .ok (.ireturn, 1) := by decide +kernel
set_option maxRecDepth 100000 in
theorem t_X11_lets (x0 x1 x2 : Int) (M : Mem) (h0 : x0 ≠ 0) : MtI yX11_lets cX11_lets 4 (some .int) 2 0 0 [(29, x0), (0, x1), (0, x2)] M 0 (f_X11_lets x0 x1 x2 M) := by
  refine mk_I (by decide +kernel) (Nat.le_of_ble_eq_true rfl) (fun E C r0 M0 hC hq hin => ?_)
  refine r_eqls (ls' := [(0, 29, x0), (1, 0, x1), (2, 0, x2)]) rfl ?_
  unfold f_X11_lets
  refine r_aload_n 0 hC 0 rfl (Or.inl (by decide)) rfl dX11_lets_0 ?_
  refine r_iload_n 1 hC 1 rfl rfl dX11_lets_1 ?_
  refine r_callVP 2 hC [(0, x1)] [] rfl vl_X11_222 rfl h0 (by decide) (Nat.le_of_ble_eq_true rfl) (by decide) (by decide) dX11_lets_2 (t_X11_isReach x0 x1 M h0) (fun v1 => ?_)
  refine r_jn (P := fun j16 => Bk E C 4 M (r0, M0) 16 [(0, 29, x0)] [] M 0 0 (j16)) ?_ (fun j16 hj16 => ?_)
  · refine r_aload_n 16 hC 0 rfl (Or.inl (by decide)) rfl dX11_lets_16 ?_
    refine r_iconst 17 hC (r32c rfl) dX11_lets_17 ?_
    refine r_callVI 18 hC [(0, 1)] [] rfl vl_X11_91 rfl h0 (by decide) (Nat.le_of_ble_eq_true rfl) (by decide) (by decide) dX11_lets_18 (t_X11_refuse x0 1 M h0) (fun v2 M3 => ?_)
    exact r_ireturn 21 hC hq (by decide) (by decide) dX11_lets_21
  refine r_if_eq 5 hC (tgt := 16) (by decide) dX11_lets_5 ?_ ?_
  · exact r_sub [0] rfl (hj16)
  · refine r_aload_n 8 hC 0 rfl (Or.inl (by decide)) rfl dX11_lets_8 ?_
    refine r_iload_n 9 hC 2 rfl rfl dX11_lets_9 ?_
    refine r_callVP 10 hC [(0, x2)] [] rfl vl_X11_281 rfl h0 (by decide) (Nat.le_of_ble_eq_true rfl) (by decide) (by decide) dX11_lets_10 (t_X11_isMinute x0 x2 M h0) (fun v4 => ?_)
    refine r_if_ne 13 hC (tgt := 22) (by decide) dX11_lets_13 ?_ ?_
    · refine r_aload_n 22 hC 0 rfl (Or.inl (by decide)) rfl dX11_lets_22 ?_
      refine r_get 23 hC fd_9_2 fl_X11_26 dX11_lets_23 (fun v5 => ?_)
      refine r_get 26 hC fd_8_2 fl_X11_206 dX11_lets_26 (fun v6 => ?_)
      refine r_iload_n 29 hC 1 rfl rfl dX11_lets_29 ?_
      refine r_nn (fun hn7 => ?_)
      refine r_callVP 30 hC [(0, x1)] [] rfl vl_X11_304 rfl hn7 (by decide) (Nat.le_of_ble_eq_true rfl) (by decide) (by decide) dX11_lets_30 (t_X4_isClosed v6 x1 M hn7) (fun v8 => ?_)
      refine r_jn (P := fun j56 => ∀ (q9 : Int), Bk E C 4 M (r0, M0) 56 [(0, 29, x0)] [(0, q9)] M 0 0 (j56 q9)) ?_ (fun j56 hj56 => ?_)
      · intro q9
        refine r_istore_n 56 hC rfl (by decide) dX11_lets_56 (r_eqls (ls' := [(3, 0, q9), (0, 29, x0)]) rfl ?_)
        refine r_aload_n 57 hC 1 rfl (Or.inl (by decide)) rfl dX11_lets_57 ?_
        refine r_iload_n 58 hC 0 rfl rfl dX11_lets_58 ?_
        refine r_jn (P := fun j67 => ∀ (q10 : Int), Bk E C 4 M (r0, M0) 67 [] [(0, q10), (29, x0)] M 0 0 (j67 q10)) ?_ (fun j67 hj67 => ?_)
        · intro q10
          refine r_callVI 67 hC [(0, q10)] [] rfl vl_X11_95 rfl h0 (by decide) (Nat.le_of_ble_eq_true rfl) (by decide) (by decide) dX11_lets_67 (t_X11_answer x0 q10 M h0) (fun v11 M12 => ?_)
          exact r_ireturn 70 hC hq (by decide) (by decide) dX11_lets_70
        refine r_if_eq 59 hC (tgt := 66) (by decide) dX11_lets_59 ?_ ?_
        · refine r_iconst 66 hC (r32c rfl) dX11_lets_66 ?_
          exact r_sub [] rfl (hj67 0)
        · refine r_iconst 62 hC (r32c rfl) dX11_lets_62 ?_
          refine r_goto 63 hC (tgt := 67) (by decide) dX11_lets_63 ?_
          exact r_sub [] rfl (hj67 1)
      refine r_jn (P := fun j55 => Bk E C 4 M (r0, M0) 55 [(0, 29, x0)] [] M 0 0 (j55)) ?_ (fun j55 hj55 => ?_)
      · refine r_iconst 55 hC (r32c rfl) dX11_lets_55 ?_
        exact hj56 0
      refine r_if_ne 33 hC (tgt := 55) (by decide) dX11_lets_33 ?_ ?_
      · exact r_sub [0] rfl (hj55)
      · refine r_aload_n 36 hC 0 rfl (Or.inl (by decide)) rfl dX11_lets_36 ?_
        refine r_get 37 hC fd_9_2 fl_X11_26 dX11_lets_37 (fun v13 => ?_)
        refine r_get 40 hC fd_8_0 fl_X11_111 dX11_lets_40 (fun v14 => ?_)
        refine r_iload_n 43 hC 1 rfl rfl dX11_lets_43 ?_
        refine r_iload_n 44 hC 2 rfl rfl dX11_lets_44 ?_
        refine r_nn (fun hn15 => ?_)
        refine r_callVP 45 hC [(0, x1), (0, x2)] [] rfl vl_X11_307 rfl hn15 (by decide) (Nat.le_of_ble_eq_true rfl) (by decide) (by decide) dX11_lets_45 (t_X8_isShut v14 x1 x2 M hn15) (fun v16 => ?_)
        refine r_if_ne 48 hC (tgt := 55) (by decide) dX11_lets_48 ?_ ?_
        · exact r_sub [0] rfl (hj55)
        · refine r_iconst 51 hC (r32c rfl) dX11_lets_51 ?_
          refine r_goto 52 hC (tgt := 56) (by decide) dX11_lets_52 ?_
          exact r_sub [0] rfl (hj56 1)
    · exact r_sub [0] rfl (hj16)

/-! WaterTurns.rate(I)Z -/
theorem dX11_rate_0 : decode cX11_rate 0 = .ok (.aload_n 0, 1) := by decide +kernel
theorem dX11_rate_1 : decode cX11_rate 1 = .ok (.iload_n 1, 1) := by decide +kernel
theorem dX11_rate_2 : decode cX11_rate 2 = .ok (.invokevirtual 123, 3) := by decide +kernel
theorem dX11_rate_5 : decode cX11_rate 5 = .ok (.ifCond .ne 9, 3) := by decide +kernel
theorem dX11_rate_8 : decode cX11_rate 8 = .ok (.aload_n 0, 1) := by decide +kernel
theorem dX11_rate_9 : decode cX11_rate 9 = .ok (.iconst 1, 1) := by decide +kernel
theorem dX11_rate_10 : decode cX11_rate 10 = .ok (.invokevirtual 102, 3) := by decide +kernel
theorem dX11_rate_13 : decode cX11_rate 13 = .ok (.ireturn, 1) := by decide +kernel
theorem dX11_rate_14 : decode cX11_rate 14 = .ok (.aload_n 0, 1) := by decide +kernel
theorem dX11_rate_15 : decode cX11_rate 15 = .ok (.aload_n 0, 1) := by decide +kernel
theorem dX11_rate_16 : decode cX11_rate 16 = .ok (.invokevirtual 284, 3) := by decide +kernel
theorem dX11_rate_19 : decode cX11_rate 19 = .ok (.aload_n 0, 1) := by decide +kernel
theorem dX11_rate_20 : decode cX11_rate 20 = .ok (.getfield 26, 3) := by decide +kernel
theorem dX11_rate_23 : decode cX11_rate 23 = .ok (.getfield 111, 3) := by decide +kernel
theorem dX11_rate_26 : decode cX11_rate 26 = .ok (.iload_n 1, 1) := by decide +kernel
theorem dX11_rate_27 : decode cX11_rate 27 = .ok (.invokevirtual 310, 3) := by decide +kernel
theorem dX11_rate_30 : decode cX11_rate 30 = .ok (.aload_n 0, 1) := by decide +kernel
theorem dX11_rate_31 : decode cX11_rate 31 = .ok (.getfield 26, 3) := by decide +kernel
theorem dX11_rate_34 : decode cX11_rate 34 = .ok (.getfield 111, 3) := by decide +kernel
theorem dX11_rate_37 : decode cX11_rate 37 = .ok (.getfield 314, 3) := by decide +kernel
theorem dX11_rate_40 : decode cX11_rate 40 = .ok (.invokevirtual 317, 3) := by decide +kernel
theorem dX11_rate_43 : decode cX11_rate 43 = .ok (.ireturn, 1) := by decide +kernel
set_option maxRecDepth 100000 in
theorem t_X11_rate (x0 x1 : Int) (M : Mem) (h0 : x0 ≠ 0) : MtI yX11_rate cX11_rate 2 (some .boolean) 6 0 0 [(29, x0), (0, x1)] M 0 (f_X11_rate x0 x1 M) := by
  refine mk_I (by decide +kernel) (Nat.le_of_ble_eq_true rfl) (fun E C r0 M0 hC hq hin => ?_)
  refine r_eqls (ls' := [(0, 29, x0), (1, 0, x1)]) rfl ?_
  unfold f_X11_rate
  refine r_aload_n 0 hC 0 rfl (Or.inl (by decide)) rfl dX11_rate_0 ?_
  refine r_iload_n 1 hC 1 rfl rfl dX11_rate_1 ?_
  refine r_callVP 2 hC [(0, x1)] [] rfl vl_X11_123 rfl h0 (by decide) (Nat.le_of_ble_eq_true rfl) (by decide) (by decide) dX11_rate_2 (t_X11_isField x0 x1 M h0) (fun v1 => ?_)
  refine r_if_ne 5 hC (tgt := 14) (by decide) dX11_rate_5 ?_ ?_
  · refine r_aload_n 14 hC 0 rfl (Or.inl (by decide)) rfl dX11_rate_14 ?_
    refine r_aload_n 15 hC 0 rfl (Or.inl (by decide)) rfl dX11_rate_15 ?_
    refine r_callVI 16 hC [] [(29, x0)] rfl vl_X11_284 rfl h0 (by decide) (Nat.le_of_ble_eq_true rfl) (by decide) (by decide) dX11_rate_16 (t_X11_sweptWorld x0 M h0) (fun v2 M3 => ?_)
    refine r_aload_n 19 hC 0 rfl (Or.inl (by decide)) rfl dX11_rate_19 ?_
    refine r_get 20 hC fd_9_2 fl_X11_26 dX11_rate_20 (fun v4 => ?_)
    refine r_get 23 hC fd_8_0 fl_X11_111 dX11_rate_23 (fun v5 => ?_)
    refine r_iload_n 26 hC 1 rfl rfl dX11_rate_26 ?_
    refine r_nn (fun hn6 => ?_)
    refine r_callVP 27 hC [(27, v5), (0, x1)] [(29, x0)] rfl vl_X11_310 rfl hn6 (by decide) (Nat.le_of_ble_eq_true rfl) (by decide) (by decide) dX11_rate_27 (t_X5_rateOf v2 v5 x1 M3 hn6) (fun v7 => ?_)
    refine r_aload_n 30 hC 0 rfl (Or.inl (by decide)) rfl dX11_rate_30 ?_
    refine r_get 31 hC fd_9_2 fl_X11_26 dX11_rate_31 (fun v8 => ?_)
    refine r_get 34 hC fd_8_0 fl_X11_111 dX11_rate_34 (fun v9 => ?_)
    refine r_get 37 hC fd_7_7 fl_X11_314 dX11_rate_37 (fun v10 => ?_)
    refine r_callVI 40 hC [(1, v7), (1, v10)] [] rfl vl_X11_317 rfl h0 (by decide) (Nat.le_of_ble_eq_true rfl) (by decide) (by decide) dX11_rate_40 (t_X11_tellFraction x0 v7 v10 M3 h0) (fun v11 M12 => ?_)
    exact r_zreturn 43 hC hq (by decide) (by decide) dX11_rate_43
  · refine r_aload_n 8 hC 0 rfl (Or.inl (by decide)) rfl dX11_rate_8 ?_
    refine r_iconst 9 hC (r32c rfl) dX11_rate_9 ?_
    refine r_callVI 10 hC [(0, 1)] [] rfl vl_X11_102 rfl h0 (by decide) (Nat.le_of_ble_eq_true rfl) (by decide) (by decide) dX11_rate_10 (t_X11_settle x0 1 M h0) (fun v13 M14 => ?_)
    exact r_zreturn 13 hC hq (by decide) (by decide) dX11_rate_13

/-! WaterTurns.water(I)Z -/
theorem dX11_water_0 : decode cX11_water 0 = .ok (.aload_n 0, 1) := by decide +kernel
theorem dX11_water_1 : decode cX11_water 1 = .ok (.iload_n 1, 1) := by decide +kernel
theorem dX11_water_2 : decode cX11_water 2 = .ok (.invokevirtual 123, 3) := by decide +kernel
theorem dX11_water_5 : decode cX11_water 5 = .ok (.ifCond .ne 9, 3) := by decide +kernel
theorem dX11_water_8 : decode cX11_water 8 = .ok (.aload_n 0, 1) := by decide +kernel
theorem dX11_water_9 : decode cX11_water 9 = .ok (.iconst 1, 1) := by decide +kernel
theorem dX11_water_10 : decode cX11_water 10 = .ok (.invokevirtual 102, 3) := by decide +kernel
theorem dX11_water_13 : decode cX11_water 13 = .ok (.ireturn, 1) := by decide +kernel
theorem dX11_water_14 : decode cX11_water 14 = .ok (.aload_n 0, 1) := by decide +kernel
theorem dX11_water_15 : decode cX11_water 15 = .ok (.aload_n 0, 1) := by decide +kernel
theorem dX11_water_16 : decode cX11_water 16 = .ok (.invokevirtual 284, 3) := by decide +kernel
theorem dX11_water_19 : decode cX11_water 19 = .ok (.aload_n 0, 1) := by decide +kernel
theorem dX11_water_20 : decode cX11_water 20 = .ok (.getfield 26, 3) := by decide +kernel
theorem dX11_water_23 : decode cX11_water 23 = .ok (.getfield 111, 3) := by decide +kernel
theorem dX11_water_26 : decode cX11_water 26 = .ok (.iload_n 1, 1) := by decide +kernel
theorem dX11_water_27 : decode cX11_water 27 = .ok (.invokevirtual 321, 3) := by decide +kernel
theorem dX11_water_30 : decode cX11_water 30 = .ok (.aload_n 0, 1) := by decide +kernel
theorem dX11_water_31 : decode cX11_water 31 = .ok (.getfield 26, 3) := by decide +kernel
theorem dX11_water_34 : decode cX11_water 34 = .ok (.getfield 111, 3) := by decide +kernel
theorem dX11_water_37 : decode cX11_water 37 = .ok (.getfield 314, 3) := by decide +kernel
theorem dX11_water_40 : decode cX11_water 40 = .ok (.invokevirtual 317, 3) := by decide +kernel
theorem dX11_water_43 : decode cX11_water 43 = .ok (.ireturn, 1) := by decide +kernel
set_option maxRecDepth 100000 in
theorem t_X11_water (x0 x1 : Int) (M : Mem) (h0 : x0 ≠ 0) : MtI yX11_water cX11_water 2 (some .boolean) 6 0 0 [(29, x0), (0, x1)] M 0 (f_X11_water x0 x1 M) := by
  refine mk_I (by decide +kernel) (Nat.le_of_ble_eq_true rfl) (fun E C r0 M0 hC hq hin => ?_)
  refine r_eqls (ls' := [(0, 29, x0), (1, 0, x1)]) rfl ?_
  unfold f_X11_water
  refine r_aload_n 0 hC 0 rfl (Or.inl (by decide)) rfl dX11_water_0 ?_
  refine r_iload_n 1 hC 1 rfl rfl dX11_water_1 ?_
  refine r_callVP 2 hC [(0, x1)] [] rfl vl_X11_123 rfl h0 (by decide) (Nat.le_of_ble_eq_true rfl) (by decide) (by decide) dX11_water_2 (t_X11_isField x0 x1 M h0) (fun v1 => ?_)
  refine r_if_ne 5 hC (tgt := 14) (by decide) dX11_water_5 ?_ ?_
  · refine r_aload_n 14 hC 0 rfl (Or.inl (by decide)) rfl dX11_water_14 ?_
    refine r_aload_n 15 hC 0 rfl (Or.inl (by decide)) rfl dX11_water_15 ?_
    refine r_callVI 16 hC [] [(29, x0)] rfl vl_X11_284 rfl h0 (by decide) (Nat.le_of_ble_eq_true rfl) (by decide) (by decide) dX11_water_16 (t_X11_sweptWorld x0 M h0) (fun v2 M3 => ?_)
    refine r_aload_n 19 hC 0 rfl (Or.inl (by decide)) rfl dX11_water_19 ?_
    refine r_get 20 hC fd_9_2 fl_X11_26 dX11_water_20 (fun v4 => ?_)
    refine r_get 23 hC fd_8_0 fl_X11_111 dX11_water_23 (fun v5 => ?_)
    refine r_iload_n 26 hC 1 rfl rfl dX11_water_26 ?_
    refine r_nn (fun hn6 => ?_)
    refine r_callVP 27 hC [(27, v5), (0, x1)] [(29, x0)] rfl vl_X11_321 rfl hn6 (by decide) (Nat.le_of_ble_eq_true rfl) (by decide) (by decide) dX11_water_27 (t_X5_gets v2 v5 x1 M3 hn6) (fun v7 => ?_)
    refine r_aload_n 30 hC 0 rfl (Or.inl (by decide)) rfl dX11_water_30 ?_
    refine r_get 31 hC fd_9_2 fl_X11_26 dX11_water_31 (fun v8 => ?_)
    refine r_get 34 hC fd_8_0 fl_X11_111 dX11_water_34 (fun v9 => ?_)
    refine r_get 37 hC fd_7_7 fl_X11_314 dX11_water_37 (fun v10 => ?_)
    refine r_callVI 40 hC [(1, v7), (1, v10)] [] rfl vl_X11_317 rfl h0 (by decide) (Nat.le_of_ble_eq_true rfl) (by decide) (by decide) dX11_water_40 (t_X11_tellFraction x0 v7 v10 M3 h0) (fun v11 M12 => ?_)
    exact r_zreturn 43 hC hq (by decide) (by decide) dX11_water_43
  · refine r_aload_n 8 hC 0 rfl (Or.inl (by decide)) rfl dX11_water_8 ?_
    refine r_iconst 9 hC (r32c rfl) dX11_water_9 ?_
    refine r_callVI 10 hC [(0, 1)] [] rfl vl_X11_102 rfl h0 (by decide) (Nat.le_of_ble_eq_true rfl) (by decide) (by decide) dX11_water_10 (t_X11_settle x0 1 M h0) (fun v13 M14 => ?_)
    exact r_zreturn 13 hC hq (by decide) (by decide) dX11_water_13

/-! WaterTurns.lost(I)Z -/
theorem dX11_lost_0 : decode cX11_lost 0 = .ok (.aload_n 0, 1) := by decide +kernel
theorem dX11_lost_1 : decode cX11_lost 1 = .ok (.iload_n 1, 1) := by decide +kernel
theorem dX11_lost_2 : decode cX11_lost 2 = .ok (.invokevirtual 222, 3) := by decide +kernel
theorem dX11_lost_5 : decode cX11_lost 5 = .ok (.ifCond .ne 9, 3) := by decide +kernel
theorem dX11_lost_8 : decode cX11_lost 8 = .ok (.aload_n 0, 1) := by decide +kernel
theorem dX11_lost_9 : decode cX11_lost 9 = .ok (.iconst 1, 1) := by decide +kernel
theorem dX11_lost_10 : decode cX11_lost 10 = .ok (.invokevirtual 102, 3) := by decide +kernel
theorem dX11_lost_13 : decode cX11_lost 13 = .ok (.ireturn, 1) := by decide +kernel
theorem dX11_lost_14 : decode cX11_lost 14 = .ok (.aload_n 0, 1) := by decide +kernel
theorem dX11_lost_15 : decode cX11_lost 15 = .ok (.aload_n 0, 1) := by decide +kernel
theorem dX11_lost_16 : decode cX11_lost 16 = .ok (.invokevirtual 284, 3) := by decide +kernel
theorem dX11_lost_19 : decode cX11_lost 19 = .ok (.iload_n 1, 1) := by decide +kernel
theorem dX11_lost_20 : decode cX11_lost 20 = .ok (.invokevirtual 324, 3) := by decide +kernel
theorem dX11_lost_23 : decode cX11_lost 23 = .ok (.aload_n 0, 1) := by decide +kernel
theorem dX11_lost_24 : decode cX11_lost 24 = .ok (.getfield 26, 3) := by decide +kernel
theorem dX11_lost_27 : decode cX11_lost 27 = .ok (.getfield 111, 3) := by decide +kernel
theorem dX11_lost_30 : decode cX11_lost 30 = .ok (.getfield 314, 3) := by decide +kernel
theorem dX11_lost_33 : decode cX11_lost 33 = .ok (.invokevirtual 317, 3) := by decide +kernel
theorem dX11_lost_36 : decode cX11_lost 36 = .ok (.ireturn, 1) := by decide +kernel
set_option maxRecDepth 100000 in
theorem t_X11_lost (x0 x1 : Int) (M : Mem) (h0 : x0 ≠ 0) : MtI yX11_lost cX11_lost 2 (some .boolean) 6 0 0 [(29, x0), (0, x1)] M 0 (f_X11_lost x0 x1 M) := by
  refine mk_I (by decide +kernel) (Nat.le_of_ble_eq_true rfl) (fun E C r0 M0 hC hq hin => ?_)
  refine r_eqls (ls' := [(0, 29, x0), (1, 0, x1)]) rfl ?_
  unfold f_X11_lost
  refine r_aload_n 0 hC 0 rfl (Or.inl (by decide)) rfl dX11_lost_0 ?_
  refine r_iload_n 1 hC 1 rfl rfl dX11_lost_1 ?_
  refine r_callVP 2 hC [(0, x1)] [] rfl vl_X11_222 rfl h0 (by decide) (Nat.le_of_ble_eq_true rfl) (by decide) (by decide) dX11_lost_2 (t_X11_isReach x0 x1 M h0) (fun v1 => ?_)
  refine r_if_ne 5 hC (tgt := 14) (by decide) dX11_lost_5 ?_ ?_
  · refine r_aload_n 14 hC 0 rfl (Or.inl (by decide)) rfl dX11_lost_14 ?_
    refine r_aload_n 15 hC 0 rfl (Or.inl (by decide)) rfl dX11_lost_15 ?_
    refine r_callVI 16 hC [] [(29, x0)] rfl vl_X11_284 rfl h0 (by decide) (Nat.le_of_ble_eq_true rfl) (by decide) (by decide) dX11_lost_16 (t_X11_sweptWorld x0 M h0) (fun v2 M3 => ?_)
    refine r_iload_n 19 hC 1 rfl rfl dX11_lost_19 ?_
    refine r_nn (fun hn4 => ?_)
    refine r_callVP 20 hC [(0, x1)] [(29, x0)] rfl vl_X11_324 rfl hn4 (by decide) (Nat.le_of_ble_eq_true rfl) (by decide) (by decide) dX11_lost_20 (t_X5_losesAt v2 x1 M3 hn4) (fun v5 => ?_)
    refine r_aload_n 23 hC 0 rfl (Or.inl (by decide)) rfl dX11_lost_23 ?_
    refine r_get 24 hC fd_9_2 fl_X11_26 dX11_lost_24 (fun v6 => ?_)
    refine r_get 27 hC fd_8_0 fl_X11_111 dX11_lost_27 (fun v7 => ?_)
    refine r_get 30 hC fd_7_7 fl_X11_314 dX11_lost_30 (fun v8 => ?_)
    refine r_callVI 33 hC [(1, v5), (1, v8)] [] rfl vl_X11_317 rfl h0 (by decide) (Nat.le_of_ble_eq_true rfl) (by decide) (by decide) dX11_lost_33 (t_X11_tellFraction x0 v5 v8 M3 h0) (fun v9 M10 => ?_)
    exact r_zreturn 36 hC hq (by decide) (by decide) dX11_lost_36
  · refine r_aload_n 8 hC 0 rfl (Or.inl (by decide)) rfl dX11_lost_8 ?_
    refine r_iconst 9 hC (r32c rfl) dX11_lost_9 ?_
    refine r_callVI 10 hC [(0, 1)] [] rfl vl_X11_102 rfl h0 (by decide) (Nat.le_of_ble_eq_true rfl) (by decide) (by decide) dX11_lost_10 (t_X11_settle x0 1 M h0) (fun v11 M12 => ?_)
    exact r_zreturn 13 hC hq (by decide) (by decide) dX11_lost_13

/-! WaterTurns.runsOut(I)Z -/
theorem dX11_runsOut_0 : decode cX11_runsOut 0 = .ok (.iload_n 1, 1) := by decide +kernel
theorem dX11_runsOut_1 : decode cX11_runsOut 1 = .ok (.iconst (-1), 1) := by decide +kernel
theorem dX11_runsOut_2 : decode cX11_runsOut 2 = .ok (.if_icmp .eq 17, 3) := by decide +kernel
theorem dX11_runsOut_5 : decode cX11_runsOut 5 = .ok (.aload_n 0, 1) := by decide +kernel
theorem dX11_runsOut_6 : decode cX11_runsOut 6 = .ok (.iload_n 1, 1) := by decide +kernel
theorem dX11_runsOut_7 : decode cX11_runsOut 7 = .ok (.invokevirtual 222, 3) := by decide +kernel
theorem dX11_runsOut_10 : decode cX11_runsOut 10 = .ok (.ifCond .ne 9, 3) := by decide +kernel
theorem dX11_runsOut_13 : decode cX11_runsOut 13 = .ok (.aload_n 0, 1) := by decide +kernel
theorem dX11_runsOut_14 : decode cX11_runsOut 14 = .ok (.iconst 1, 1) := by decide +kernel
theorem dX11_runsOut_15 : decode cX11_runsOut 15 = .ok (.invokevirtual 102, 3) := by decide +kernel
theorem dX11_runsOut_18 : decode cX11_runsOut 18 = .ok (.ireturn, 1) := by decide +kernel
theorem dX11_runsOut_19 : decode cX11_runsOut 19 = .ok (.iload_n 1, 1) := by decide +kernel
theorem dX11_runsOut_20 : decode cX11_runsOut 20 = .ok (.iconst (-1), 1) := by decide +kernel
theorem dX11_runsOut_21 : decode cX11_runsOut 21 = .ok (.if_icmp .ne 58, 3) := by decide +kernel
theorem dX11_runsOut_24 : decode cX11_runsOut 24 = .ok (.aload_n 0, 1) := by decide +kernel
theorem dX11_runsOut_25 : decode cX11_runsOut 25 = .ok (.getfield 26, 3) := by decide +kernel
theorem dX11_runsOut_28 : decode cX11_runsOut 28 = .ok (.getfield 111, 3) := by decide +kernel
theorem dX11_runsOut_31 : decode cX11_runsOut 31 = .ok (.getfield 120, 3) := by decide +kernel
theorem dX11_runsOut_34 : decode cX11_runsOut 34 = .ok (.ifCond .le 7, 3) := by decide +kernel
theorem dX11_runsOut_37 : decode cX11_runsOut 37 = .ok (.iconst 1, 1) := by decide +kernel
theorem dX11_runsOut_38 : decode cX11_runsOut 38 = .ok (.goto 4, 3) := by decide +kernel
theorem dX11_runsOut_41 : decode cX11_runsOut 41 = .ok (.iconst 0, 1) := by decide +kernel
theorem dX11_runsOut_42 : decode cX11_runsOut 42 = .ok (.istore_n 2, 1) := by decide +kernel
theorem dX11_runsOut_43 : decode cX11_runsOut 43 = .ok (.aload_n 0, 1) := by decide +kernel
theorem dX11_runsOut_44 : decode cX11_runsOut 44 = .ok (.iload_n 2, 1) := by decide +kernel
theorem dX11_runsOut_45 : decode cX11_runsOut 45 = .ok (.ifCond .eq 7, 3) := by decide +kernel
theorem dX11_runsOut_48 : decode cX11_runsOut 48 = .ok (.lconst 0, 1) := by decide +kernel
theorem dX11_runsOut_49 : decode cX11_runsOut 49 = .ok (.goto 25, 3) := by decide +kernel
theorem dX11_runsOut_52 : decode cX11_runsOut 52 = .ok (.aload_n 0, 1) := by decide +kernel
theorem dX11_runsOut_53 : decode cX11_runsOut 53 = .ok (.getfield 26, 3) := by decide +kernel
theorem dX11_runsOut_56 : decode cX11_runsOut 56 = .ok (.getfield 206, 3) := by decide +kernel
theorem dX11_runsOut_59 : decode cX11_runsOut 59 = .ok (.getfield 209, 3) := by decide +kernel
theorem dX11_runsOut_62 : decode cX11_runsOut 62 = .ok (.aload_n 0, 1) := by decide +kernel
theorem dX11_runsOut_63 : decode cX11_runsOut 63 = .ok (.getfield 26, 3) := by decide +kernel
theorem dX11_runsOut_66 : decode cX11_runsOut 66 = .ok (.getfield 111, 3) := by decide +kernel
theorem dX11_runsOut_69 : decode cX11_runsOut 69 = .ok (.getfield 126, 3) := by decide +kernel
theorem dX11_runsOut_72 : decode cX11_runsOut 72 = .ok (.imul, 1) := by decide +kernel
theorem dX11_runsOut_73 : decode cX11_runsOut 73 = .ok (.i2l, 1) := by decide +kernel
theorem dX11_runsOut_74 : decode cX11_runsOut 74 = .ok (.lconst 1, 1) := by decide +kernel
theorem dX11_runsOut_75 : decode cX11_runsOut 75 = .ok (.invokevirtual 317, 3) := by decide +kernel
theorem dX11_runsOut_78 : decode cX11_runsOut 78 = .ok (.ireturn, 1) := by decide +kernel
theorem dX11_runsOut_79 : decode cX11_runsOut 79 = .ok (.aload_n 0, 1) := by decide +kernel
theorem dX11_runsOut_80 : decode cX11_runsOut 80 = .ok (.aload_n 0, 1) := by decide +kernel
theorem dX11_runsOut_81 : decode cX11_runsOut 81 = .ok (.invokevirtual 284, 3) := by decide +kernel
theorem dX11_runsOut_84 : decode cX11_runsOut 84 = .ok (.iload_n 1, 1) := by decide +kernel
theorem dX11_runsOut_85 : decode cX11_runsOut 85 = .ok (.invokevirtual 328, 3) := by decide +kernel
theorem dX11_runsOut_88 : decode cX11_runsOut 88 = .ok (.aload_n 0, 1) := by decide +kernel
theorem dX11_runsOut_89 : decode cX11_runsOut 89 = .ok (.getfield 26, 3) := by decide +kernel
theorem dX11_runsOut_92 : decode cX11_runsOut 92 = .ok (.getfield 111, 3) := by decide +kernel
theorem dX11_runsOut_95 : decode cX11_runsOut 95 = .ok (.getfield 314, 3) := by decide +kernel
theorem dX11_runsOut_98 : decode cX11_runsOut 98 = .ok (.invokevirtual 317, 3) := by decide +kernel
theorem dX11_runsOut_101 : decode cX11_runsOut 101 = .ok (.ireturn, 1) := by decide +kernel
set_option maxRecDepth 100000 in
theorem t_X11_runsOut (x0 x1 : Int) (M : Mem) (h0 : x0 ≠ 0) : MtI yX11_runsOut cX11_runsOut 3 (some .boolean) 6 0 0 [(29, x0), (0, x1)] M 0 (f_X11_runsOut x0 x1 M) := by
  refine mk_I (by decide +kernel) (Nat.le_of_ble_eq_true rfl) (fun E C r0 M0 hC hq hin => ?_)
  refine r_eqls (ls' := [(0, 29, x0), (1, 0, x1)]) rfl ?_
  unfold f_X11_runsOut
  refine r_iload_n 0 hC 1 rfl rfl dX11_runsOut_0 ?_
  refine r_iconst 1 hC (r32c rfl) dX11_runsOut_1 ?_
  refine r_jn (P := fun j19 => Bk E C 3 M (r0, M0) 19 [(0, 29, x0), (1, 0, x1)] [] M 0 0 (j19)) ?_ (fun j19 hj19 => ?_)
  · refine r_iload_n 19 hC 1 rfl rfl dX11_runsOut_19 ?_
    refine r_iconst 20 hC (r32c rfl) dX11_runsOut_20 ?_
    refine r_icmp_ne 21 hC (tgt := 79) (by decide) dX11_runsOut_21 ?_ ?_
    · refine r_aload_n 79 hC 0 rfl (Or.inl (by decide)) rfl dX11_runsOut_79 ?_
      refine r_aload_n 80 hC 0 rfl (Or.inl (by decide)) rfl dX11_runsOut_80 ?_
      refine r_callVI 81 hC [] [(29, x0)] rfl vl_X11_284 rfl h0 (by decide) (Nat.le_of_ble_eq_true rfl) (by decide) (by decide) dX11_runsOut_81 (t_X11_sweptWorld x0 M h0) (fun v1 M2 => ?_)
      refine r_iload_n 84 hC 1 rfl rfl dX11_runsOut_84 ?_
      refine r_nn (fun hn3 => ?_)
      refine r_callVP 85 hC [(0, x1)] [(29, x0)] rfl vl_X11_328 rfl hn3 (by decide) (Nat.le_of_ble_eq_true rfl) (by decide) (by decide) dX11_runsOut_85 (t_X5_spillsAt v1 x1 M2 hn3) (fun v4 => ?_)
      refine r_aload_n 88 hC 0 rfl (Or.inl (by decide)) rfl dX11_runsOut_88 ?_
      refine r_get 89 hC fd_9_2 fl_X11_26 dX11_runsOut_89 (fun v5 => ?_)
      refine r_get 92 hC fd_8_0 fl_X11_111 dX11_runsOut_92 (fun v6 => ?_)
      refine r_get 95 hC fd_7_7 fl_X11_314 dX11_runsOut_95 (fun v7 => ?_)
      refine r_callVI 98 hC [(1, v4), (1, v7)] [] rfl vl_X11_317 rfl h0 (by decide) (Nat.le_of_ble_eq_true rfl) (by decide) (by decide) dX11_runsOut_98 (t_X11_tellFraction x0 v4 v7 M2 h0) (fun v8 M9 => ?_)
      exact r_zreturn 101 hC hq (by decide) (by decide) dX11_runsOut_101
    · refine r_aload_n 24 hC 0 rfl (Or.inl (by decide)) rfl dX11_runsOut_24 ?_
      refine r_get 25 hC fd_9_2 fl_X11_26 dX11_runsOut_25 (fun v10 => ?_)
      refine r_get 28 hC fd_8_0 fl_X11_111 dX11_runsOut_28 (fun v11 => ?_)
      refine r_get 31 hC fd_7_5 fl_X11_120 dX11_runsOut_31 (fun v12 => ?_)
      refine r_jn (P := fun j42 => ∀ (q13 : Int), Bk E C 3 M (r0, M0) 42 [(0, 29, x0)] [(0, q13)] M 0 0 (j42 q13)) ?_ (fun j42 hj42 => ?_)
      · intro q13
        refine r_istore_n 42 hC rfl (by decide) dX11_runsOut_42 (r_eqls (ls' := [(2, 0, q13), (0, 29, x0)]) rfl ?_)
        refine r_aload_n 43 hC 1 rfl (Or.inl (by decide)) rfl dX11_runsOut_43 ?_
        refine r_iload_n 44 hC 0 rfl rfl dX11_runsOut_44 ?_
        refine r_jn (P := fun j74 => ∀ (q14 : Int), Bk E C 3 M (r0, M0) 74 [] [(1, q14), (29, x0)] M 0 0 (j74 q14)) ?_ (fun j74 hj74 => ?_)
        · intro q14
          refine r_lconst 74 hC (x := 1) ⟨by decide +kernel, r64c rfl⟩ dX11_runsOut_74 ?_
          refine r_callVI 75 hC [(1, q14), (1, 1)] [] rfl vl_X11_317 rfl h0 (by decide) (Nat.le_of_ble_eq_true rfl) (by decide) (by decide) dX11_runsOut_75 (t_X11_tellFraction x0 q14 1 M h0) (fun v15 M16 => ?_)
          exact r_zreturn 78 hC hq (by decide) (by decide) dX11_runsOut_78
        refine r_if_eq 45 hC (tgt := 52) (by decide) dX11_runsOut_45 ?_ ?_
        · refine r_aload_n 52 hC 1 rfl (Or.inl (by decide)) rfl dX11_runsOut_52 ?_
          refine r_get 53 hC fd_9_2 fl_X11_26 dX11_runsOut_53 (fun v17 => ?_)
          refine r_get 56 hC fd_8_2 fl_X11_206 dX11_runsOut_56 (fun v18 => ?_)
          refine r_get 59 hC fd_3_0 fl_X11_209 dX11_runsOut_59 (fun v19 => ?_)
          refine r_aload_n 62 hC 1 rfl (Or.inl (by decide)) rfl dX11_runsOut_62 ?_
          refine r_get 63 hC fd_9_2 fl_X11_26 dX11_runsOut_63 (fun v20 => ?_)
          refine r_get 66 hC fd_8_0 fl_X11_111 dX11_runsOut_66 (fun v21 => ?_)
          refine r_get 69 hC fd_7_1 fl_X11_126 dX11_runsOut_69 (fun v22 => ?_)
          refine r_imul 72 hC dX11_runsOut_72 ?_
          refine r_i2l 73 hC dX11_runsOut_73 ?_
          exact r_sub [] rfl (hj74 (w32 (v19 * v22)))
        · refine r_lconst 48 hC (x := 0) ⟨by decide +kernel, r64c rfl⟩ dX11_runsOut_48 ?_
          refine r_goto 49 hC (tgt := 74) (by decide) dX11_runsOut_49 ?_
          exact r_sub [] rfl (hj74 0)
      refine r_if_le 34 hC (tgt := 41) (by decide) dX11_runsOut_34 ?_ ?_
      · refine r_iconst 41 hC (r32c rfl) dX11_runsOut_41 ?_
        exact r_sub [0] rfl (hj42 0)
      · refine r_iconst 37 hC (r32c rfl) dX11_runsOut_37 ?_
        refine r_goto 38 hC (tgt := 42) (by decide) dX11_runsOut_38 ?_
        exact r_sub [0] rfl (hj42 1)
  refine r_icmp_eq 2 hC (tgt := 19) (by decide) dX11_runsOut_2 ?_ ?_
  · exact hj19
  · refine r_aload_n 5 hC 0 rfl (Or.inl (by decide)) rfl dX11_runsOut_5 ?_
    refine r_iload_n 6 hC 1 rfl rfl dX11_runsOut_6 ?_
    refine r_callVP 7 hC [(0, x1)] [] rfl vl_X11_222 rfl h0 (by decide) (Nat.le_of_ble_eq_true rfl) (by decide) (by decide) dX11_runsOut_7 (t_X11_isReach x0 x1 M h0) (fun v23 => ?_)
    refine r_if_ne 10 hC (tgt := 19) (by decide) dX11_runsOut_10 ?_ ?_
    · exact hj19
    · refine r_aload_n 13 hC 0 rfl (Or.inl (by decide)) rfl dX11_runsOut_13 ?_
      refine r_iconst 14 hC (r32c rfl) dX11_runsOut_14 ?_
      refine r_callVI 15 hC [(0, 1)] [] rfl vl_X11_102 rfl h0 (by decide) (Nat.le_of_ble_eq_true rfl) (by decide) (by decide) dX11_runsOut_15 (t_X11_settle x0 1 M h0) (fun v24 M25 => ?_)
      exact r_zreturn 18 hC hq (by decide) (by decide) dX11_runsOut_18

/-! WaterTurns.waterOf(I)Z -/
theorem dX11_waterOf_0 : decode cX11_waterOf 0 = .ok (.iload_n 1, 1) := by decide +kernel
theorem dX11_waterOf_1 : decode cX11_waterOf 1 = .ok (.iconst (-1), 1) := by decide +kernel
theorem dX11_waterOf_2 : decode cX11_waterOf 2 = .ok (.if_icmp .eq 17, 3) := by decide +kernel
theorem dX11_waterOf_5 : decode cX11_waterOf 5 = .ok (.aload_n 0, 1) := by decide +kernel
theorem dX11_waterOf_6 : decode cX11_waterOf 6 = .ok (.iload_n 1, 1) := by decide +kernel
theorem dX11_waterOf_7 : decode cX11_waterOf 7 = .ok (.invokevirtual 331, 3) := by decide +kernel
theorem dX11_waterOf_10 : decode cX11_waterOf 10 = .ok (.ifCond .ne 9, 3) := by decide +kernel
theorem dX11_waterOf_13 : decode cX11_waterOf 13 = .ok (.aload_n 0, 1) := by decide +kernel
theorem dX11_waterOf_14 : decode cX11_waterOf 14 = .ok (.iconst 1, 1) := by decide +kernel
theorem dX11_waterOf_15 : decode cX11_waterOf 15 = .ok (.invokevirtual 102, 3) := by decide +kernel
theorem dX11_waterOf_18 : decode cX11_waterOf 18 = .ok (.ireturn, 1) := by decide +kernel
theorem dX11_waterOf_19 : decode cX11_waterOf 19 = .ok (.aload_n 0, 1) := by decide +kernel
theorem dX11_waterOf_20 : decode cX11_waterOf 20 = .ok (.invokevirtual 284, 3) := by decide +kernel
theorem dX11_waterOf_23 : decode cX11_waterOf 23 = .ok (.astore_n 2, 1) := by decide +kernel
theorem dX11_waterOf_24 : decode cX11_waterOf 24 = .ok (.lconst 0, 1) := by decide +kernel
theorem dX11_waterOf_25 : decode cX11_waterOf 25 = .ok (.lstore_n 3, 1) := by decide +kernel
theorem dX11_waterOf_26 : decode cX11_waterOf 26 = .ok (.iconst 0, 1) := by decide +kernel
theorem dX11_waterOf_27 : decode cX11_waterOf 27 = .ok (.istore 5, 2) := by decide +kernel
theorem dX11_waterOf_29 : decode cX11_waterOf 29 = .ok (.iload 5, 2) := by decide +kernel
theorem dX11_waterOf_31 : decode cX11_waterOf 31 = .ok (.aload_n 0, 1) := by decide +kernel
theorem dX11_waterOf_32 : decode cX11_waterOf 32 = .ok (.getfield 26, 3) := by decide +kernel
theorem dX11_waterOf_35 : decode cX11_waterOf 35 = .ok (.getfield 111, 3) := by decide +kernel
theorem dX11_waterOf_38 : decode cX11_waterOf 38 = .ok (.getfield 120, 3) := by decide +kernel
theorem dX11_waterOf_41 : decode cX11_waterOf 41 = .ok (.if_icmp .ge 44, 3) := by decide +kernel
theorem dX11_waterOf_44 : decode cX11_waterOf 44 = .ok (.aload_n 0, 1) := by decide +kernel
theorem dX11_waterOf_45 : decode cX11_waterOf 45 = .ok (.getfield 26, 3) := by decide +kernel
theorem dX11_waterOf_48 : decode cX11_waterOf 48 = .ok (.getfield 111, 3) := by decide +kernel
theorem dX11_waterOf_51 : decode cX11_waterOf 51 = .ok (.getfield 232, 3) := by decide +kernel
theorem dX11_waterOf_54 : decode cX11_waterOf 54 = .ok (.iload 5, 2) := by decide +kernel
theorem dX11_waterOf_56 : decode cX11_waterOf 56 = .ok (.aaload, 1) := by decide +kernel
theorem dX11_waterOf_57 : decode cX11_waterOf 57 = .ok (.iconst 3, 1) := by decide +kernel
theorem dX11_waterOf_58 : decode cX11_waterOf 58 = .ok (.iaload, 1) := by decide +kernel
theorem dX11_waterOf_59 : decode cX11_waterOf 59 = .ok (.iload_n 1, 1) := by decide +kernel
theorem dX11_waterOf_60 : decode cX11_waterOf 60 = .ok (.if_icmp .ne 19, 3) := by decide +kernel
theorem dX11_waterOf_63 : decode cX11_waterOf 63 = .ok (.lload_n 3, 1) := by decide +kernel
theorem dX11_waterOf_64 : decode cX11_waterOf 64 = .ok (.aload_n 2, 1) := by decide +kernel
theorem dX11_waterOf_65 : decode cX11_waterOf 65 = .ok (.aload_n 0, 1) := by decide +kernel
theorem dX11_waterOf_66 : decode cX11_waterOf 66 = .ok (.getfield 26, 3) := by decide +kernel
theorem dX11_waterOf_69 : decode cX11_waterOf 69 = .ok (.getfield 111, 3) := by decide +kernel
theorem dX11_waterOf_72 : decode cX11_waterOf 72 = .ok (.iload 5, 2) := by decide +kernel
theorem dX11_waterOf_74 : decode cX11_waterOf 74 = .ok (.invokevirtual 321, 3) := by decide +kernel
theorem dX11_waterOf_77 : decode cX11_waterOf 77 = .ok (.ladd, 1) := by decide +kernel
theorem dX11_waterOf_78 : decode cX11_waterOf 78 = .ok (.lstore_n 3, 1) := by decide +kernel
theorem dX11_waterOf_79 : decode cX11_waterOf 79 = .ok (.iinc 5 1, 3) := by decide +kernel
theorem dX11_waterOf_82 : decode cX11_waterOf 82 = .ok (.goto (-53), 3) := by decide +kernel
theorem dX11_waterOf_85 : decode cX11_waterOf 85 = .ok (.aload_n 0, 1) := by decide +kernel
theorem dX11_waterOf_86 : decode cX11_waterOf 86 = .ok (.lload_n 3, 1) := by decide +kernel
theorem dX11_waterOf_87 : decode cX11_waterOf 87 = .ok (.aload_n 0, 1) := by decide +kernel
theorem dX11_waterOf_88 : decode cX11_waterOf 88 = .ok (.getfield 26, 3) := by decide +kernel
theorem dX11_waterOf_91 : decode cX11_waterOf 91 = .ok (.getfield 111, 3) := by decide +kernel
theorem dX11_waterOf_94 : decode cX11_waterOf 94 = .ok (.getfield 314, 3) := by decide +kernel
theorem dX11_waterOf_97 : decode cX11_waterOf 97 = .ok (.invokevirtual 317, 3) := by decide +kernel
theorem dX11_waterOf_100 : decode cX11_waterOf 100 = .ok (.ireturn, 1) := by decide +kernel
set_option maxRecDepth 100000 in
theorem f_X11_waterOf_L29_ok {E : EnvT} {C : Cx} {Mi : Mem} {x0 : Int} (h0 : x0 ≠ 0) (hC : CxOK E C cX11_waterOf 6 yX11_waterOf.cls 6 0 0) {r0 : Int} {M0 : Mem} (hq : RQ E C 0 0 Mi (some .boolean) (some (0, r0)) M0) {M2 : Mem} {v1 x1 : Int} {k : Int → Option (Int × Mem)} (hk : ∀ q19, Bk E C 6 Mi (r0, M0) 85 [(0, 29, x0), (3, 1, q19)] [] M2 0 0 (k q19)) : ∀ (n : Nat) (p3 : Int) (p4 : Int), Bk E C 6 Mi (r0, M0) 29 [(0, 29, x0), (1, 0, x1), (2, 24, v1), (3, 1, p3), (5, 0, p4)] [] M2 0 0 (f_X11_waterOf_L29 M2 v1 x0 x1 k n p3 p4) := by
  intro n
  induction n with
  | zero =>
    intro p3 p4
    exact r_none
  | succ n ih =>
    intro p3 p4
    rw [f_X11_waterOf_L29]
    refine r_iload 29 hC 4 rfl dX11_waterOf_29 ?_
    refine r_aload_n 31 hC 0 rfl (Or.inl (by decide)) rfl dX11_waterOf_31 ?_
    refine r_get 32 hC fd_9_2 fl_X11_26 dX11_waterOf_32 (fun v5 => ?_)
    refine r_get 35 hC fd_8_0 fl_X11_111 dX11_waterOf_35 (fun v6 => ?_)
    refine r_get 38 hC fd_7_5 fl_X11_120 dX11_waterOf_38 (fun v7 => ?_)
    refine r_icmp_ge 41 hC (tgt := 85) (by decide) dX11_waterOf_41 ?_ ?_
    · exact r_sub [0, 3] rfl (hk p3)
    · refine r_aload_n 44 hC 0 rfl (Or.inl (by decide)) rfl dX11_waterOf_44 ?_
      refine r_get 45 hC fd_9_2 fl_X11_26 dX11_waterOf_45 (fun v8 => ?_)
      refine r_get 48 hC fd_8_0 fl_X11_111 dX11_waterOf_48 (fun v9 => ?_)
      refine r_get 51 hC fd_7_9 fl_X11_232 dX11_waterOf_51 (fun v10 => ?_)
      refine r_iload 54 hC 4 rfl dX11_waterOf_54 ?_
      refine r_aaloadI 56 hC dX11_waterOf_56 (fun v11 => ?_)
      refine r_iconst 57 hC (r32c rfl) dX11_waterOf_57 ?_
      refine r_iaload 58 hC dX11_waterOf_58 (fun v12 => ?_)
      refine r_iload_n 59 hC 1 rfl rfl dX11_waterOf_59 ?_
      refine r_jn (P := fun j79 => ∀ (q13 : Int), Bk E C 6 Mi (r0, M0) 79 [(0, 29, x0), (1, 0, x1), (2, 24, v1), (3, 1, q13), (5, 0, p4)] [] M2 0 0 (j79 q13)) ?_ (fun j79 hj79 => ?_)
      · intro q13
        refine r_iinc 79 hC 4 rfl (by decide) dX11_waterOf_79 (r_eqls (ls' := [(5, 0, w32 (p4 + 1)), (0, 29, x0), (1, 0, x1), (2, 24, v1), (3, 1, q13)]) rfl ?_)
        refine r_goto 82 hC (tgt := 29) (by decide) dX11_waterOf_82 ?_
        exact r_sub [1, 2, 3, 4, 0] rfl (ih q13 (w32 (p4 + 1)))
      refine r_icmp_ne 60 hC (tgt := 79) (by decide) dX11_waterOf_60 ?_ ?_
      · exact hj79 p3
      · refine r_lload_n 63 hC 3 rfl rfl dX11_waterOf_63 ?_
        refine r_aload_n 64 hC 2 rfl (Or.inl (by decide)) rfl dX11_waterOf_64 ?_
        refine r_aload_n 65 hC 0 rfl (Or.inl (by decide)) rfl dX11_waterOf_65 ?_
        refine r_get 66 hC fd_9_2 fl_X11_26 dX11_waterOf_66 (fun v14 => ?_)
        refine r_get 69 hC fd_8_0 fl_X11_111 dX11_waterOf_69 (fun v15 => ?_)
        refine r_iload 72 hC 4 rfl dX11_waterOf_72 ?_
        refine r_nn (fun hn16 => ?_)
        refine r_callVP 74 hC [(27, v15), (0, p4)] [(1, p3)] rfl vl_X11_321 rfl hn16 (by decide) (Nat.le_of_ble_eq_true rfl) (by decide) (by decide) dX11_waterOf_74 (t_X5_gets v1 v15 p4 M2 hn16) (fun v17 => ?_)
        refine r_ladd 77 hC dX11_waterOf_77 ?_
        refine r_lstore_nL 78 hC rfl (by decide) dX11_waterOf_78 (fun v18 => r_eqls (ls' := [(3, 1, v18), (0, 29, x0), (1, 0, x1), (2, 24, v1), (5, 0, p4)]) rfl ?_)
        exact r_sub [1, 2, 3, 0, 4] rfl (hj79 v18)
set_option maxRecDepth 100000 in
theorem t_X11_waterOf (x0 x1 : Int) (M : Mem) (h0 : x0 ≠ 0) : MtI yX11_waterOf cX11_waterOf 6 (some .boolean) 6 0 0 [(29, x0), (0, x1)] M 0 (f_X11_waterOf x0 x1 M) := by
  refine mk_I (by decide +kernel) (Nat.le_of_ble_eq_true rfl) (fun E C r0 M0 hC hq hin => ?_)
  refine r_eqls (ls' := [(0, 29, x0), (1, 0, x1)]) rfl ?_
  unfold f_X11_waterOf
  refine r_iload_n 0 hC 1 rfl rfl dX11_waterOf_0 ?_
  refine r_iconst 1 hC (r32c rfl) dX11_waterOf_1 ?_
  refine r_jn (P := fun j19 => Bk E C 6 M (r0, M0) 19 [(0, 29, x0), (1, 0, x1)] [] M 0 0 (j19)) ?_ (fun j19 hj19 => ?_)
  · refine r_aload_n 19 hC 0 rfl (Or.inl (by decide)) rfl dX11_waterOf_19 ?_
    refine r_callVI 20 hC [] [] rfl vl_X11_284 rfl h0 (by decide) (Nat.le_of_ble_eq_true rfl) (by decide) (by decide) dX11_waterOf_20 (t_X11_sweptWorld x0 M h0) (fun v1 M2 => ?_)
    refine r_astore_n 23 hC rfl (Or.inl (by decide)) (by decide) dX11_waterOf_23 (r_eqls (ls' := [(2, 24, v1), (0, 29, x0), (1, 0, x1)]) rfl ?_)
    refine r_lconst 24 hC (x := 0) ⟨by decide +kernel, r64c rfl⟩ dX11_waterOf_24 ?_
    refine r_lstore_n 25 hC rfl (by decide) dX11_waterOf_25 (r_eqls (ls' := [(3, 1, 0), (2, 24, v1), (0, 29, x0), (1, 0, x1)]) rfl ?_)
    refine r_iconst 26 hC (r32c rfl) dX11_waterOf_26 ?_
    refine r_istore 27 hC (by decide) dX11_waterOf_27 (r_eqls (ls' := [(5, 0, 0), (3, 1, 0), (2, 24, v1), (0, 29, x0), (1, 0, x1)]) rfl ?_)
    refine r_sub [3, 4, 2, 1, 0] rfl (f_X11_waterOf_L29_ok h0 hC hq (fun q20 => ?_) KF 0 0)
    · refine r_aload_n 85 hC 0 rfl (Or.inl (by decide)) rfl dX11_waterOf_85 ?_
      refine r_lload_n 86 hC 1 rfl rfl dX11_waterOf_86 ?_
      refine r_aload_n 87 hC 0 rfl (Or.inl (by decide)) rfl dX11_waterOf_87 ?_
      refine r_get 88 hC fd_9_2 fl_X11_26 dX11_waterOf_88 (fun v21 => ?_)
      refine r_get 91 hC fd_8_0 fl_X11_111 dX11_waterOf_91 (fun v22 => ?_)
      refine r_get 94 hC fd_7_7 fl_X11_314 dX11_waterOf_94 (fun v23 => ?_)
      refine r_callVI 97 hC [(1, q20), (1, v23)] [] rfl vl_X11_317 rfl h0 (by decide) (Nat.le_of_ble_eq_true rfl) (by decide) (by decide) dX11_waterOf_97 (t_X11_tellFraction x0 q20 v23 M2 h0) (fun v24 M25 => ?_)
      exact r_zreturn 100 hC hq (by decide) (by decide) dX11_waterOf_100
  refine r_icmp_eq 2 hC (tgt := 19) (by decide) dX11_waterOf_2 ?_ ?_
  · exact hj19
  · refine r_aload_n 5 hC 0 rfl (Or.inl (by decide)) rfl dX11_waterOf_5 ?_
    refine r_iload_n 6 hC 1 rfl rfl dX11_waterOf_6 ?_
    refine r_callVP 7 hC [(0, x1)] [] rfl vl_X11_331 rfl h0 (by decide) (Nat.le_of_ble_eq_true rfl) (by decide) (by decide) dX11_waterOf_7 (t_X11_isOwner x0 x1 M h0) (fun v26 => ?_)
    refine r_if_ne 10 hC (tgt := 19) (by decide) dX11_waterOf_10 ?_ ?_
    · exact hj19
    · refine r_aload_n 13 hC 0 rfl (Or.inl (by decide)) rfl dX11_waterOf_13 ?_
      refine r_iconst 14 hC (r32c rfl) dX11_waterOf_14 ?_
      refine r_callVI 15 hC [(0, 1)] [] rfl vl_X11_102 rfl h0 (by decide) (Nat.le_of_ble_eq_true rfl) (by decide) (by decide) dX11_waterOf_15 (t_X11_settle x0 1 M h0) (fun v27 M28 => ?_)
      exact r_zreturn 18 hC hq (by decide) (by decide) dX11_waterOf_18

/-! WaterTurns.lacking(I)I -/
theorem dX11_lacking_0 : decode cX11_lacking 0 = .ok (.aload_n 0, 1) := by decide +kernel
theorem dX11_lacking_1 : decode cX11_lacking 1 = .ok (.iload_n 1, 1) := by decide +kernel
theorem dX11_lacking_2 : decode cX11_lacking 2 = .ok (.invokevirtual 123, 3) := by decide +kernel
theorem dX11_lacking_5 : decode cX11_lacking 5 = .ok (.ifCond .ne 9, 3) := by decide +kernel
theorem dX11_lacking_8 : decode cX11_lacking 8 = .ok (.aload_n 0, 1) := by decide +kernel
theorem dX11_lacking_9 : decode cX11_lacking 9 = .ok (.iconst 1, 1) := by decide +kernel
theorem dX11_lacking_10 : decode cX11_lacking 10 = .ok (.invokevirtual 91, 3) := by decide +kernel
theorem dX11_lacking_13 : decode cX11_lacking 13 = .ok (.ireturn, 1) := by decide +kernel
theorem dX11_lacking_14 : decode cX11_lacking 14 = .ok (.aload_n 0, 1) := by decide +kernel
theorem dX11_lacking_15 : decode cX11_lacking 15 = .ok (.invokevirtual 284, 3) := by decide +kernel
theorem dX11_lacking_18 : decode cX11_lacking 18 = .ok (.aload_n 0, 1) := by decide +kernel
theorem dX11_lacking_19 : decode cX11_lacking 19 = .ok (.getfield 26, 3) := by decide +kernel
theorem dX11_lacking_22 : decode cX11_lacking 22 = .ok (.getfield 111, 3) := by decide +kernel
theorem dX11_lacking_25 : decode cX11_lacking 25 = .ok (.iload_n 1, 1) := by decide +kernel
theorem dX11_lacking_26 : decode cX11_lacking 26 = .ok (.invokevirtual 334, 3) := by decide +kernel
theorem dX11_lacking_29 : decode cX11_lacking 29 = .ok (.istore_n 2, 1) := by decide +kernel
theorem dX11_lacking_30 : decode cX11_lacking 30 = .ok (.iload_n 2, 1) := by decide +kernel
theorem dX11_lacking_31 : decode cX11_lacking 31 = .ok (.iconst (-1), 1) := by decide +kernel
theorem dX11_lacking_32 : decode cX11_lacking 32 = .ok (.if_icmp .ne 12, 3) := by decide +kernel
theorem dX11_lacking_35 : decode cX11_lacking 35 = .ok (.aload_n 0, 1) := by decide +kernel
theorem dX11_lacking_36 : decode cX11_lacking 36 = .ok (.bipush 7, 2) := by decide +kernel
theorem dX11_lacking_38 : decode cX11_lacking 38 = .ok (.invokevirtual 91, 3) := by decide +kernel
theorem dX11_lacking_41 : decode cX11_lacking 41 = .ok (.goto 8, 3) := by decide +kernel
theorem dX11_lacking_44 : decode cX11_lacking 44 = .ok (.aload_n 0, 1) := by decide +kernel
theorem dX11_lacking_45 : decode cX11_lacking 45 = .ok (.iload_n 2, 1) := by decide +kernel
theorem dX11_lacking_46 : decode cX11_lacking 46 = .ok (.invokevirtual 95, 3) := by decide +kernel
theorem dX11_lacking_49 : decode cX11_lacking 49 = .ok (.ireturn, 1) := by decide +kernel
set_option maxRecDepth 100000 in
theorem t_X11_lacking (x0 x1 : Int) (M : Mem) (h0 : x0 ≠ 0) : MtI yX11_lacking cX11_lacking 3 (some .int) 6 0 0 [(29, x0), (0, x1)] M 0 (f_X11_lacking x0 x1 M) := by
  refine mk_I (by decide +kernel) (Nat.le_of_ble_eq_true rfl) (fun E C r0 M0 hC hq hin => ?_)
  refine r_eqls (ls' := [(0, 29, x0), (1, 0, x1)]) rfl ?_
  unfold f_X11_lacking
  refine r_aload_n 0 hC 0 rfl (Or.inl (by decide)) rfl dX11_lacking_0 ?_
  refine r_iload_n 1 hC 1 rfl rfl dX11_lacking_1 ?_
  refine r_callVP 2 hC [(0, x1)] [] rfl vl_X11_123 rfl h0 (by decide) (Nat.le_of_ble_eq_true rfl) (by decide) (by decide) dX11_lacking_2 (t_X11_isField x0 x1 M h0) (fun v1 => ?_)
  refine r_if_ne 5 hC (tgt := 14) (by decide) dX11_lacking_5 ?_ ?_
  · refine r_aload_n 14 hC 0 rfl (Or.inl (by decide)) rfl dX11_lacking_14 ?_
    refine r_callVI 15 hC [] [] rfl vl_X11_284 rfl h0 (by decide) (Nat.le_of_ble_eq_true rfl) (by decide) (by decide) dX11_lacking_15 (t_X11_sweptWorld x0 M h0) (fun v2 M3 => ?_)
    refine r_aload_n 18 hC 0 rfl (Or.inl (by decide)) rfl dX11_lacking_18 ?_
    refine r_get 19 hC fd_9_2 fl_X11_26 dX11_lacking_19 (fun v4 => ?_)
    refine r_get 22 hC fd_8_0 fl_X11_111 dX11_lacking_22 (fun v5 => ?_)
    refine r_iload_n 25 hC 1 rfl rfl dX11_lacking_25 ?_
    refine r_nn (fun hn6 => ?_)
    refine r_callVP 26 hC [(27, v5), (0, x1)] [] rfl vl_X11_334 rfl hn6 (by decide) (Nat.le_of_ble_eq_true rfl) (by decide) (by decide) dX11_lacking_26 (t_X5_shortOf v2 v5 x1 M3 hn6) (fun v7 => ?_)
    refine r_istore_n 29 hC rfl (by decide) dX11_lacking_29 (r_eqls (ls' := [(2, 0, v7), (0, 29, x0), (1, 0, x1)]) rfl ?_)
    refine r_iload_n 30 hC 0 rfl rfl dX11_lacking_30 ?_
    refine r_iconst 31 hC (r32c rfl) dX11_lacking_31 ?_
    refine r_jn (P := fun j49 => ∀ (q8 : Int) (M9 : Mem), Bk E C 3 M (r0, M0) 49 [] [(0, q8)] M9 0 0 (j49 q8 M9)) ?_ (fun j49 hj49 => ?_)
    · intro q8 M9
      exact r_ireturn 49 hC hq (by decide) (by decide) dX11_lacking_49
    refine r_icmp_ne 32 hC (tgt := 44) (by decide) dX11_lacking_32 ?_ ?_
    · refine r_aload_n 44 hC 1 rfl (Or.inl (by decide)) rfl dX11_lacking_44 ?_
      refine r_iload_n 45 hC 0 rfl rfl dX11_lacking_45 ?_
      refine r_callVI 46 hC [(0, v7)] [] rfl vl_X11_95 rfl h0 (by decide) (Nat.le_of_ble_eq_true rfl) (by decide) (by decide) dX11_lacking_46 (t_X11_answer x0 v7 M3 h0) (fun v10 M11 => ?_)
      exact r_sub [] rfl (hj49 v10 M11)
    · refine r_aload_n 35 hC 1 rfl (Or.inl (by decide)) rfl dX11_lacking_35 ?_
      refine r_bipush 36 hC kb_7 dX11_lacking_36 ?_
      refine r_callVI 38 hC [(0, 7)] [] rfl vl_X11_91 rfl h0 (by decide) (Nat.le_of_ble_eq_true rfl) (by decide) (by decide) dX11_lacking_38 (t_X11_refuse x0 7 M3 h0) (fun v12 M13 => ?_)
      refine r_goto 41 hC (tgt := 49) (by decide) dX11_lacking_41 ?_
      exact r_sub [] rfl (hj49 v12 M13)
  · refine r_aload_n 8 hC 0 rfl (Or.inl (by decide)) rfl dX11_lacking_8 ?_
    refine r_iconst 9 hC (r32c rfl) dX11_lacking_9 ?_
    refine r_callVI 10 hC [(0, 1)] [] rfl vl_X11_91 rfl h0 (by decide) (Nat.le_of_ble_eq_true rfl) (by decide) (by decide) dX11_lacking_10 (t_X11_refuse x0 1 M h0) (fun v14 M15 => ?_)
    exact r_ireturn 13 hC hq (by decide) (by decide) dX11_lacking_13

/-! WaterTurns.spare(I)I -/
theorem dX11_spare_0 : decode cX11_spare 0 = .ok (.aload_n 0, 1) := by decide +kernel
theorem dX11_spare_1 : decode cX11_spare 1 = .ok (.iload_n 1, 1) := by decide +kernel
theorem dX11_spare_2 : decode cX11_spare 2 = .ok (.invokevirtual 123, 3) := by decide +kernel
theorem dX11_spare_5 : decode cX11_spare 5 = .ok (.ifCond .eq 25, 3) := by decide +kernel
theorem dX11_spare_8 : decode cX11_spare 8 = .ok (.aload_n 0, 1) := by decide +kernel
theorem dX11_spare_9 : decode cX11_spare 9 = .ok (.aload_n 0, 1) := by decide +kernel
theorem dX11_spare_10 : decode cX11_spare 10 = .ok (.invokevirtual 284, 3) := by decide +kernel
theorem dX11_spare_13 : decode cX11_spare 13 = .ok (.aload_n 0, 1) := by decide +kernel
theorem dX11_spare_14 : decode cX11_spare 14 = .ok (.getfield 26, 3) := by decide +kernel
theorem dX11_spare_17 : decode cX11_spare 17 = .ok (.getfield 111, 3) := by decide +kernel
theorem dX11_spare_20 : decode cX11_spare 20 = .ok (.iload_n 1, 1) := by decide +kernel
theorem dX11_spare_21 : decode cX11_spare 21 = .ok (.invokevirtual 338, 3) := by decide +kernel
theorem dX11_spare_24 : decode cX11_spare 24 = .ok (.invokevirtual 95, 3) := by decide +kernel
theorem dX11_spare_27 : decode cX11_spare 27 = .ok (.goto 8, 3) := by decide +kernel
theorem dX11_spare_30 : decode cX11_spare 30 = .ok (.aload_n 0, 1) := by decide +kernel
theorem dX11_spare_31 : decode cX11_spare 31 = .ok (.iconst 1, 1) := by decide +kernel
theorem dX11_spare_32 : decode cX11_spare 32 = .ok (.invokevirtual 91, 3) := by decide +kernel
theorem dX11_spare_35 : decode cX11_spare 35 = .ok (.ireturn, 1) := by decide +kernel
set_option maxRecDepth 100000 in
theorem t_X11_spare (x0 x1 : Int) (M : Mem) (h0 : x0 ≠ 0) : MtI yX11_spare cX11_spare 2 (some .int) 6 0 0 [(29, x0), (0, x1)] M 0 (f_X11_spare x0 x1 M) := by
  refine mk_I (by decide +kernel) (Nat.le_of_ble_eq_true rfl) (fun E C r0 M0 hC hq hin => ?_)
  refine r_eqls (ls' := [(0, 29, x0), (1, 0, x1)]) rfl ?_
  unfold f_X11_spare
  refine r_aload_n 0 hC 0 rfl (Or.inl (by decide)) rfl dX11_spare_0 ?_
  refine r_iload_n 1 hC 1 rfl rfl dX11_spare_1 ?_
  refine r_callVP 2 hC [(0, x1)] [] rfl vl_X11_123 rfl h0 (by decide) (Nat.le_of_ble_eq_true rfl) (by decide) (by decide) dX11_spare_2 (t_X11_isField x0 x1 M h0) (fun v1 => ?_)
  refine r_jn (P := fun j35 => ∀ (q2 : Int) (M3 : Mem), Bk E C 2 M (r0, M0) 35 [] [(0, q2)] M3 0 0 (j35 q2 M3)) ?_ (fun j35 hj35 => ?_)
  · intro q2 M3
    exact r_ireturn 35 hC hq (by decide) (by decide) dX11_spare_35
  refine r_if_eq 5 hC (tgt := 30) (by decide) dX11_spare_5 ?_ ?_
  · refine r_aload_n 30 hC 0 rfl (Or.inl (by decide)) rfl dX11_spare_30 ?_
    refine r_iconst 31 hC (r32c rfl) dX11_spare_31 ?_
    refine r_callVI 32 hC [(0, 1)] [] rfl vl_X11_91 rfl h0 (by decide) (Nat.le_of_ble_eq_true rfl) (by decide) (by decide) dX11_spare_32 (t_X11_refuse x0 1 M h0) (fun v4 M5 => ?_)
    exact r_sub [] rfl (hj35 v4 M5)
  · refine r_aload_n 8 hC 0 rfl (Or.inl (by decide)) rfl dX11_spare_8 ?_
    refine r_aload_n 9 hC 0 rfl (Or.inl (by decide)) rfl dX11_spare_9 ?_
    refine r_callVI 10 hC [] [(29, x0)] rfl vl_X11_284 rfl h0 (by decide) (Nat.le_of_ble_eq_true rfl) (by decide) (by decide) dX11_spare_10 (t_X11_sweptWorld x0 M h0) (fun v6 M7 => ?_)
    refine r_aload_n 13 hC 0 rfl (Or.inl (by decide)) rfl dX11_spare_13 ?_
    refine r_get 14 hC fd_9_2 fl_X11_26 dX11_spare_14 (fun v8 => ?_)
    refine r_get 17 hC fd_8_0 fl_X11_111 dX11_spare_17 (fun v9 => ?_)
    refine r_iload_n 20 hC 1 rfl rfl dX11_spare_20 ?_
    refine r_nn (fun hn10 => ?_)
    refine r_callVP 21 hC [(27, v9), (0, x1)] [(29, x0)] rfl vl_X11_338 rfl hn10 (by decide) (Nat.le_of_ble_eq_true rfl) (by decide) (by decide) dX11_spare_21 (t_X5_spareOf v6 v9 x1 M7 hn10) (fun v11 => ?_)
    refine r_callVI 24 hC [(0, v11)] [] rfl vl_X11_95 rfl h0 (by decide) (Nat.le_of_ble_eq_true rfl) (by decide) (by decide) dX11_spare_24 (t_X11_answer x0 v11 M7 h0) (fun v12 M13 => ?_)
    refine r_goto 27 hC (tgt := 35) (by decide) dX11_spare_27 ?_
    exact r_sub [] rfl (hj35 v12 M13)

/-! WaterTurns.fewest()I -/
theorem dX11_fewest_0 : decode cX11_fewest 0 = .ok (.aload_n 0, 1) := by decide +kernel
theorem dX11_fewest_1 : decode cX11_fewest 1 = .ok (.invokevirtual 284, 3) := by decide +kernel
theorem dX11_fewest_4 : decode cX11_fewest 4 = .ok (.astore_n 1, 1) := by decide +kernel
theorem dX11_fewest_5 : decode cX11_fewest 5 = .ok (.iconst 0, 1) := by decide +kernel
theorem dX11_fewest_6 : decode cX11_fewest 6 = .ok (.istore_n 2, 1) := by decide +kernel
theorem dX11_fewest_7 : decode cX11_fewest 7 = .ok (.iconst 0, 1) := by decide +kernel
theorem dX11_fewest_8 : decode cX11_fewest 8 = .ok (.istore_n 3, 1) := by decide +kernel
theorem dX11_fewest_9 : decode cX11_fewest 9 = .ok (.iconst 0, 1) := by decide +kernel
theorem dX11_fewest_10 : decode cX11_fewest 10 = .ok (.istore 4, 2) := by decide +kernel
theorem dX11_fewest_12 : decode cX11_fewest 12 = .ok (.iload 4, 2) := by decide +kernel
theorem dX11_fewest_14 : decode cX11_fewest 14 = .ok (.aload_n 0, 1) := by decide +kernel
theorem dX11_fewest_15 : decode cX11_fewest 15 = .ok (.getfield 26, 3) := by decide +kernel
theorem dX11_fewest_18 : decode cX11_fewest 18 = .ok (.getfield 111, 3) := by decide +kernel
theorem dX11_fewest_21 : decode cX11_fewest 21 = .ok (.getfield 120, 3) := by decide +kernel
theorem dX11_fewest_24 : decode cX11_fewest 24 = .ok (.if_icmp .ge 58, 3) := by decide +kernel
theorem dX11_fewest_27 : decode cX11_fewest 27 = .ok (.aload_n 1, 1) := by decide +kernel
theorem dX11_fewest_28 : decode cX11_fewest 28 = .ok (.aload_n 0, 1) := by decide +kernel
theorem dX11_fewest_29 : decode cX11_fewest 29 = .ok (.getfield 26, 3) := by decide +kernel
theorem dX11_fewest_32 : decode cX11_fewest 32 = .ok (.getfield 111, 3) := by decide +kernel
theorem dX11_fewest_35 : decode cX11_fewest 35 = .ok (.iload 4, 2) := by decide +kernel
theorem dX11_fewest_37 : decode cX11_fewest 37 = .ok (.invokevirtual 334, 3) := by decide +kernel
theorem dX11_fewest_40 : decode cX11_fewest 40 = .ok (.istore 5, 2) := by decide +kernel
theorem dX11_fewest_42 : decode cX11_fewest 42 = .ok (.iload 5, 2) := by decide +kernel
theorem dX11_fewest_44 : decode cX11_fewest 44 = .ok (.iconst (-1), 1) := by decide +kernel
theorem dX11_fewest_45 : decode cX11_fewest 45 = .ok (.if_icmp .ne 10, 3) := by decide +kernel
theorem dX11_fewest_48 : decode cX11_fewest 48 = .ok (.aload_n 0, 1) := by decide +kernel
theorem dX11_fewest_49 : decode cX11_fewest 49 = .ok (.bipush 7, 2) := by decide +kernel
theorem dX11_fewest_51 : decode cX11_fewest 51 = .ok (.invokevirtual 91, 3) := by decide +kernel
theorem dX11_fewest_54 : decode cX11_fewest 54 = .ok (.ireturn, 1) := by decide +kernel
theorem dX11_fewest_55 : decode cX11_fewest 55 = .ok (.iload_n 2, 1) := by decide +kernel
theorem dX11_fewest_56 : decode cX11_fewest 56 = .ok (.iload 5, 2) := by decide +kernel
theorem dX11_fewest_58 : decode cX11_fewest 58 = .ok (.iadd, 1) := by decide +kernel
theorem dX11_fewest_59 : decode cX11_fewest 59 = .ok (.istore_n 2, 1) := by decide +kernel
theorem dX11_fewest_60 : decode cX11_fewest 60 = .ok (.iload_n 3, 1) := by decide +kernel
theorem dX11_fewest_61 : decode cX11_fewest 61 = .ok (.aload_n 1, 1) := by decide +kernel
theorem dX11_fewest_62 : decode cX11_fewest 62 = .ok (.aload_n 0, 1) := by decide +kernel
theorem dX11_fewest_63 : decode cX11_fewest 63 = .ok (.getfield 26, 3) := by decide +kernel
theorem dX11_fewest_66 : decode cX11_fewest 66 = .ok (.getfield 111, 3) := by decide +kernel
theorem dX11_fewest_69 : decode cX11_fewest 69 = .ok (.iload 4, 2) := by decide +kernel
theorem dX11_fewest_71 : decode cX11_fewest 71 = .ok (.invokevirtual 338, 3) := by decide +kernel
theorem dX11_fewest_74 : decode cX11_fewest 74 = .ok (.iadd, 1) := by decide +kernel
theorem dX11_fewest_75 : decode cX11_fewest 75 = .ok (.istore_n 3, 1) := by decide +kernel
theorem dX11_fewest_76 : decode cX11_fewest 76 = .ok (.iinc 4 1, 3) := by decide +kernel
theorem dX11_fewest_79 : decode cX11_fewest 79 = .ok (.goto (-67), 3) := by decide +kernel
theorem dX11_fewest_82 : decode cX11_fewest 82 = .ok (.iload_n 3, 1) := by decide +kernel
theorem dX11_fewest_83 : decode cX11_fewest 83 = .ok (.iload_n 2, 1) := by decide +kernel
theorem dX11_fewest_84 : decode cX11_fewest 84 = .ok (.if_icmp .lt 11, 3) := by decide +kernel
theorem dX11_fewest_87 : decode cX11_fewest 87 = .ok (.aload_n 0, 1) := by decide +kernel
theorem dX11_fewest_88 : decode cX11_fewest 88 = .ok (.iload_n 2, 1) := by decide +kernel
theorem dX11_fewest_89 : decode cX11_fewest 89 = .ok (.invokevirtual 95, 3) := by decide +kernel
theorem dX11_fewest_92 : decode cX11_fewest 92 = .ok (.goto 9, 3) := by decide +kernel
theorem dX11_fewest_95 : decode cX11_fewest 95 = .ok (.aload_n 0, 1) := by decide +kernel
theorem dX11_fewest_96 : decode cX11_fewest 96 = .ok (.bipush 6, 2) := by decide +kernel
theorem dX11_fewest_98 : decode cX11_fewest 98 = .ok (.invokevirtual 91, 3) := by decide +kernel
theorem dX11_fewest_101 : decode cX11_fewest 101 = .ok (.ireturn, 1) := by decide +kernel
set_option maxRecDepth 100000 in
theorem f_X11_fewest_L12_ok {E : EnvT} {C : Cx} {Mi : Mem} {x0 : Int} (h0 : x0 ≠ 0) (hC : CxOK E C cX11_fewest 6 yX11_fewest.cls 6 0 0) {r0 : Int} {M0 : Mem} (hq : RQ E C 0 0 Mi (some .int) (some (0, r0)) M0) {M2 : Mem} {v1 : Int} {k : Int → Int → Option (Int × Mem)} (hk : ∀ q20 q21, Bk E C 6 Mi (r0, M0) 82 [(0, 29, x0), (2, 0, q20), (3, 0, q21)] [] M2 0 0 (k q20 q21)) : ∀ (n : Nat) (p3 : Int) (p4 : Int) (p5 : Int), Bk E C 6 Mi (r0, M0) 12 [(0, 29, x0), (1, 24, v1), (2, 0, p3), (3, 0, p4), (4, 0, p5)] [] M2 0 0 (f_X11_fewest_L12 M2 v1 x0 k n p3 p4 p5) := by
  intro n
  induction n with
  | zero =>
    intro p3 p4 p5
    exact r_none
  | succ n ih =>
    intro p3 p4 p5
    rw [f_X11_fewest_L12]
    refine r_iload 12 hC 4 rfl dX11_fewest_12 ?_
    refine r_aload_n 14 hC 0 rfl (Or.inl (by decide)) rfl dX11_fewest_14 ?_
    refine r_get 15 hC fd_9_2 fl_X11_26 dX11_fewest_15 (fun v6 => ?_)
    refine r_get 18 hC fd_8_0 fl_X11_111 dX11_fewest_18 (fun v7 => ?_)
    refine r_get 21 hC fd_7_5 fl_X11_120 dX11_fewest_21 (fun v8 => ?_)
    refine r_icmp_ge 24 hC (tgt := 82) (by decide) dX11_fewest_24 ?_ ?_
    · exact r_sub [0, 2, 3] rfl (hk p3 p4)
    · refine r_aload_n 27 hC 1 rfl (Or.inl (by decide)) rfl dX11_fewest_27 ?_
      refine r_aload_n 28 hC 0 rfl (Or.inl (by decide)) rfl dX11_fewest_28 ?_
      refine r_get 29 hC fd_9_2 fl_X11_26 dX11_fewest_29 (fun v9 => ?_)
      refine r_get 32 hC fd_8_0 fl_X11_111 dX11_fewest_32 (fun v10 => ?_)
      refine r_iload 35 hC 4 rfl dX11_fewest_35 ?_
      refine r_nn (fun hn11 => ?_)
      refine r_callVP 37 hC [(27, v10), (0, p5)] [] rfl vl_X11_334 rfl hn11 (by decide) (Nat.le_of_ble_eq_true rfl) (by decide) (by decide) dX11_fewest_37 (t_X5_shortOf v1 v10 p5 M2 hn11) (fun v12 => ?_)
      refine r_istore 40 hC (by decide) dX11_fewest_40 (r_eqls (ls' := [(5, 0, v12), (0, 29, x0), (1, 24, v1), (2, 0, p3), (3, 0, p4), (4, 0, p5)]) rfl ?_)
      refine r_iload 42 hC 0 rfl dX11_fewest_42 ?_
      refine r_iconst 44 hC (r32c rfl) dX11_fewest_44 ?_
      refine r_icmp_ne 45 hC (tgt := 55) (by decide) dX11_fewest_45 ?_ ?_
      · refine r_iload_n 55 hC 3 rfl rfl dX11_fewest_55 ?_
        refine r_iload 56 hC 0 rfl dX11_fewest_56 ?_
        refine r_iadd 58 hC dX11_fewest_58 ?_
        refine r_istore_nL 59 hC rfl (by decide) dX11_fewest_59 (fun v13 => r_eqls (ls' := [(2, 0, v13), (5, 0, v12), (0, 29, x0), (1, 24, v1), (3, 0, p4), (4, 0, p5)]) rfl ?_)
        refine r_iload_n 60 hC 4 rfl rfl dX11_fewest_60 ?_
        refine r_aload_n 61 hC 3 rfl (Or.inl (by decide)) rfl dX11_fewest_61 ?_
        refine r_aload_n 62 hC 2 rfl (Or.inl (by decide)) rfl dX11_fewest_62 ?_
        refine r_get 63 hC fd_9_2 fl_X11_26 dX11_fewest_63 (fun v14 => ?_)
        refine r_get 66 hC fd_8_0 fl_X11_111 dX11_fewest_66 (fun v15 => ?_)
        refine r_iload 69 hC 5 rfl dX11_fewest_69 ?_
        refine r_callVP 71 hC [(27, v15), (0, p5)] [(0, p4)] rfl vl_X11_338 rfl hn11 (by decide) (Nat.le_of_ble_eq_true rfl) (by decide) (by decide) dX11_fewest_71 (t_X5_spareOf v1 v15 p5 M2 hn11) (fun v16 => ?_)
        refine r_iadd 74 hC dX11_fewest_74 ?_
        refine r_istore_nL 75 hC rfl (by decide) dX11_fewest_75 (fun v17 => r_eqls (ls' := [(3, 0, v17), (2, 0, v13), (5, 0, v12), (0, 29, x0), (1, 24, v1), (4, 0, p5)]) rfl ?_)
        refine r_iinc 76 hC 5 rfl (by decide) dX11_fewest_76 (r_eqls (ls' := [(4, 0, w32 (p5 + 1)), (3, 0, v17), (2, 0, v13), (5, 0, v12), (0, 29, x0), (1, 24, v1)]) rfl ?_)
        refine r_goto 79 hC (tgt := 12) (by decide) dX11_fewest_79 ?_
        exact r_sub [4, 5, 2, 1, 0] rfl (ih v13 v17 (w32 (p5 + 1)))
      · refine r_aload_n 48 hC 1 rfl (Or.inl (by decide)) rfl dX11_fewest_48 ?_
        refine r_bipush 49 hC kb_7 dX11_fewest_49 ?_
        refine r_callVI 51 hC [(0, 7)] [] rfl vl_X11_91 rfl h0 (by decide) (Nat.le_of_ble_eq_true rfl) (by decide) (by decide) dX11_fewest_51 (t_X11_refuse x0 7 M2 h0) (fun v18 M19 => ?_)
        exact r_ireturn 54 hC hq (by decide) (by decide) dX11_fewest_54
set_option maxRecDepth 100000 in
theorem t_X11_fewest (x0 : Int) (M : Mem) (h0 : x0 ≠ 0) : MtI yX11_fewest cX11_fewest 6 (some .int) 6 0 0 [(29, x0)] M 0 (f_X11_fewest x0 M) := by
  refine mk_I (by decide +kernel) (Nat.le_of_ble_eq_true rfl) (fun E C r0 M0 hC hq hin => ?_)
  refine r_eqls (ls' := [(0, 29, x0)]) rfl ?_
  unfold f_X11_fewest
  refine r_aload_n 0 hC 0 rfl (Or.inl (by decide)) rfl dX11_fewest_0 ?_
  refine r_callVI 1 hC [] [] rfl vl_X11_284 rfl h0 (by decide) (Nat.le_of_ble_eq_true rfl) (by decide) (by decide) dX11_fewest_1 (t_X11_sweptWorld x0 M h0) (fun v1 M2 => ?_)
  refine r_astore_n 4 hC rfl (Or.inl (by decide)) (by decide) dX11_fewest_4 (r_eqls (ls' := [(1, 24, v1), (0, 29, x0)]) rfl ?_)
  refine r_iconst 5 hC (r32c rfl) dX11_fewest_5 ?_
  refine r_istore_n 6 hC rfl (by decide) dX11_fewest_6 (r_eqls (ls' := [(2, 0, 0), (1, 24, v1), (0, 29, x0)]) rfl ?_)
  refine r_iconst 7 hC (r32c rfl) dX11_fewest_7 ?_
  refine r_istore_n 8 hC rfl (by decide) dX11_fewest_8 (r_eqls (ls' := [(3, 0, 0), (2, 0, 0), (1, 24, v1), (0, 29, x0)]) rfl ?_)
  refine r_iconst 9 hC (r32c rfl) dX11_fewest_9 ?_
  refine r_istore 10 hC (by decide) dX11_fewest_10 (r_eqls (ls' := [(4, 0, 0), (3, 0, 0), (2, 0, 0), (1, 24, v1), (0, 29, x0)]) rfl ?_)
  refine r_sub [4, 3, 2, 1, 0] rfl (f_X11_fewest_L12_ok h0 hC hq (fun q22 q23 => ?_) KF 0 0 0)
  · refine r_iload_n 82 hC 2 rfl rfl dX11_fewest_82 ?_
    refine r_iload_n 83 hC 1 rfl rfl dX11_fewest_83 ?_
    refine r_jn (P := fun j101 => ∀ (q24 : Int) (M25 : Mem), Bk E C 6 M (r0, M0) 101 [] [(0, q24)] M25 0 0 (j101 q24 M25)) ?_ (fun j101 hj101 => ?_)
    · intro q24 M25
      exact r_ireturn 101 hC hq (by decide) (by decide) dX11_fewest_101
    refine r_icmp_lt 84 hC (tgt := 95) (by decide) dX11_fewest_84 ?_ ?_
    · refine r_aload_n 95 hC 0 rfl (Or.inl (by decide)) rfl dX11_fewest_95 ?_
      refine r_bipush 96 hC kb_6 dX11_fewest_96 ?_
      refine r_callVI 98 hC [(0, 6)] [] rfl vl_X11_91 rfl h0 (by decide) (Nat.le_of_ble_eq_true rfl) (by decide) (by decide) dX11_fewest_98 (t_X11_refuse x0 6 M2 h0) (fun v26 M27 => ?_)
      exact r_sub [] rfl (hj101 v26 M27)
    · refine r_aload_n 87 hC 0 rfl (Or.inl (by decide)) rfl dX11_fewest_87 ?_
      refine r_iload_n 88 hC 1 rfl rfl dX11_fewest_88 ?_
      refine r_callVI 89 hC [(0, q22)] [] rfl vl_X11_95 rfl h0 (by decide) (Nat.le_of_ble_eq_true rfl) (by decide) (by decide) dX11_fewest_89 (t_X11_answer x0 q22 M2 h0) (fun v28 M29 => ?_)
      refine r_goto 92 hC (tgt := 101) (by decide) dX11_fewest_92 ?_
      exact r_sub [] rfl (hj101 v28 M29)

/-! WaterTurns.neediest()I -/
theorem dX11_neediest_0 : decode cX11_neediest 0 = .ok (.aload_n 0, 1) := by decide +kernel
theorem dX11_neediest_1 : decode cX11_neediest 1 = .ok (.invokevirtual 284, 3) := by decide +kernel
theorem dX11_neediest_4 : decode cX11_neediest 4 = .ok (.astore_n 1, 1) := by decide +kernel
theorem dX11_neediest_5 : decode cX11_neediest 5 = .ok (.iconst 0, 1) := by decide +kernel
theorem dX11_neediest_6 : decode cX11_neediest 6 = .ok (.istore_n 2, 1) := by decide +kernel
theorem dX11_neediest_7 : decode cX11_neediest 7 = .ok (.iconst (-1), 1) := by decide +kernel
theorem dX11_neediest_8 : decode cX11_neediest 8 = .ok (.istore_n 3, 1) := by decide +kernel
theorem dX11_neediest_9 : decode cX11_neediest 9 = .ok (.iconst 0, 1) := by decide +kernel
theorem dX11_neediest_10 : decode cX11_neediest 10 = .ok (.istore 4, 2) := by decide +kernel
theorem dX11_neediest_12 : decode cX11_neediest 12 = .ok (.iload 4, 2) := by decide +kernel
theorem dX11_neediest_14 : decode cX11_neediest 14 = .ok (.aload_n 0, 1) := by decide +kernel
theorem dX11_neediest_15 : decode cX11_neediest 15 = .ok (.getfield 26, 3) := by decide +kernel
theorem dX11_neediest_18 : decode cX11_neediest 18 = .ok (.getfield 111, 3) := by decide +kernel
theorem dX11_neediest_21 : decode cX11_neediest 21 = .ok (.getfield 120, 3) := by decide +kernel
theorem dX11_neediest_24 : decode cX11_neediest 24 = .ok (.if_icmp .ge 49, 3) := by decide +kernel
theorem dX11_neediest_27 : decode cX11_neediest 27 = .ok (.aload_n 1, 1) := by decide +kernel
theorem dX11_neediest_28 : decode cX11_neediest 28 = .ok (.aload_n 0, 1) := by decide +kernel
theorem dX11_neediest_29 : decode cX11_neediest 29 = .ok (.getfield 26, 3) := by decide +kernel
theorem dX11_neediest_32 : decode cX11_neediest 32 = .ok (.getfield 111, 3) := by decide +kernel
theorem dX11_neediest_35 : decode cX11_neediest 35 = .ok (.iload 4, 2) := by decide +kernel
theorem dX11_neediest_37 : decode cX11_neediest 37 = .ok (.invokevirtual 334, 3) := by decide +kernel
theorem dX11_neediest_40 : decode cX11_neediest 40 = .ok (.istore 5, 2) := by decide +kernel
theorem dX11_neediest_42 : decode cX11_neediest 42 = .ok (.iload 5, 2) := by decide +kernel
theorem dX11_neediest_44 : decode cX11_neediest 44 = .ok (.iconst (-1), 1) := by decide +kernel
theorem dX11_neediest_45 : decode cX11_neediest 45 = .ok (.if_icmp .ne 10, 3) := by decide +kernel
theorem dX11_neediest_48 : decode cX11_neediest 48 = .ok (.aload_n 0, 1) := by decide +kernel
theorem dX11_neediest_49 : decode cX11_neediest 49 = .ok (.bipush 7, 2) := by decide +kernel
theorem dX11_neediest_51 : decode cX11_neediest 51 = .ok (.invokevirtual 91, 3) := by decide +kernel
theorem dX11_neediest_54 : decode cX11_neediest 54 = .ok (.ireturn, 1) := by decide +kernel
theorem dX11_neediest_55 : decode cX11_neediest 55 = .ok (.iload 5, 2) := by decide +kernel
theorem dX11_neediest_57 : decode cX11_neediest 57 = .ok (.iload_n 2, 1) := by decide +kernel
theorem dX11_neediest_58 : decode cX11_neediest 58 = .ok (.if_icmp .le 9, 3) := by decide +kernel
theorem dX11_neediest_61 : decode cX11_neediest 61 = .ok (.iload 5, 2) := by decide +kernel
theorem dX11_neediest_63 : decode cX11_neediest 63 = .ok (.istore_n 2, 1) := by decide +kernel
theorem dX11_neediest_64 : decode cX11_neediest 64 = .ok (.iload 4, 2) := by decide +kernel
theorem dX11_neediest_66 : decode cX11_neediest 66 = .ok (.istore_n 3, 1) := by decide +kernel
theorem dX11_neediest_67 : decode cX11_neediest 67 = .ok (.iinc 4 1, 3) := by decide +kernel
theorem dX11_neediest_70 : decode cX11_neediest 70 = .ok (.goto (-58), 3) := by decide +kernel
theorem dX11_neediest_73 : decode cX11_neediest 73 = .ok (.aload_n 0, 1) := by decide +kernel
theorem dX11_neediest_74 : decode cX11_neediest 74 = .ok (.iload_n 3, 1) := by decide +kernel
theorem dX11_neediest_75 : decode cX11_neediest 75 = .ok (.invokevirtual 229, 3) := by decide +kernel
theorem dX11_neediest_78 : decode cX11_neediest 78 = .ok (.ireturn, 1) := by decide +kernel
set_option maxRecDepth 100000 in
theorem f_X11_neediest_L12_ok {E : EnvT} {C : Cx} {Mi : Mem} {x0 : Int} (h0 : x0 ≠ 0) (hC : CxOK E C cX11_neediest 6 yX11_neediest.cls 6 0 0) {r0 : Int} {M0 : Mem} (hq : RQ E C 0 0 Mi (some .int) (some (0, r0)) M0) {M2 : Mem} {v1 : Int} {k : Int → Option (Int × Mem)} (hk : ∀ q17, Bk E C 6 Mi (r0, M0) 73 [(0, 29, x0), (3, 0, q17)] [] M2 0 0 (k q17)) : ∀ (n : Nat) (p3 : Int) (p4 : Int) (p5 : Int), Bk E C 6 Mi (r0, M0) 12 [(0, 29, x0), (1, 24, v1), (2, 0, p3), (3, 0, p4), (4, 0, p5)] [] M2 0 0 (f_X11_neediest_L12 M2 v1 x0 k n p3 p4 p5) := by
  intro n
  induction n with
  | zero =>
    intro p3 p4 p5
    exact r_none
  | succ n ih =>
    intro p3 p4 p5
    rw [f_X11_neediest_L12]
    refine r_iload 12 hC 4 rfl dX11_neediest_12 ?_
    refine r_aload_n 14 hC 0 rfl (Or.inl (by decide)) rfl dX11_neediest_14 ?_
    refine r_get 15 hC fd_9_2 fl_X11_26 dX11_neediest_15 (fun v6 => ?_)
    refine r_get 18 hC fd_8_0 fl_X11_111 dX11_neediest_18 (fun v7 => ?_)
    refine r_get 21 hC fd_7_5 fl_X11_120 dX11_neediest_21 (fun v8 => ?_)
    refine r_icmp_ge 24 hC (tgt := 73) (by decide) dX11_neediest_24 ?_ ?_
    · exact r_sub [0, 3] rfl (hk p4)
    · refine r_aload_n 27 hC 1 rfl (Or.inl (by decide)) rfl dX11_neediest_27 ?_
      refine r_aload_n 28 hC 0 rfl (Or.inl (by decide)) rfl dX11_neediest_28 ?_
      refine r_get 29 hC fd_9_2 fl_X11_26 dX11_neediest_29 (fun v9 => ?_)
      refine r_get 32 hC fd_8_0 fl_X11_111 dX11_neediest_32 (fun v10 => ?_)
      refine r_iload 35 hC 4 rfl dX11_neediest_35 ?_
      refine r_nn (fun hn11 => ?_)
      refine r_callVP 37 hC [(27, v10), (0, p5)] [] rfl vl_X11_334 rfl hn11 (by decide) (Nat.le_of_ble_eq_true rfl) (by decide) (by decide) dX11_neediest_37 (t_X5_shortOf v1 v10 p5 M2 hn11) (fun v12 => ?_)
      refine r_istore 40 hC (by decide) dX11_neediest_40 (r_eqls (ls' := [(5, 0, v12), (0, 29, x0), (1, 24, v1), (2, 0, p3), (3, 0, p4), (4, 0, p5)]) rfl ?_)
      refine r_iload 42 hC 0 rfl dX11_neediest_42 ?_
      refine r_iconst 44 hC (r32c rfl) dX11_neediest_44 ?_
      refine r_icmp_ne 45 hC (tgt := 55) (by decide) dX11_neediest_45 ?_ ?_
      · refine r_iload 55 hC 0 rfl dX11_neediest_55 ?_
        refine r_iload_n 57 hC 3 rfl rfl dX11_neediest_57 ?_
        refine r_jn (P := fun j67 => ∀ (q13 : Int) (q14 : Int), Bk E C 6 Mi (r0, M0) 67 [(0, 29, x0), (1, 24, v1), (2, 0, q13), (3, 0, q14), (4, 0, p5)] [] M2 0 0 (j67 q13 q14)) ?_ (fun j67 hj67 => ?_)
        · intro q13 q14
          refine r_iinc 67 hC 4 rfl (by decide) dX11_neediest_67 (r_eqls (ls' := [(4, 0, w32 (p5 + 1)), (0, 29, x0), (1, 24, v1), (2, 0, q13), (3, 0, q14)]) rfl ?_)
          refine r_goto 70 hC (tgt := 12) (by decide) dX11_neediest_70 ?_
          exact r_sub [1, 2, 3, 4, 0] rfl (ih q13 q14 (w32 (p5 + 1)))
        refine r_icmp_le 58 hC (tgt := 67) (by decide) dX11_neediest_58 ?_ ?_
        · exact r_sub [1, 2, 3, 4, 5] rfl (hj67 p3 p4)
        · refine r_iload 61 hC 0 rfl dX11_neediest_61 ?_
          refine r_istore_n 63 hC rfl (by decide) dX11_neediest_63 (r_eqls (ls' := [(2, 0, v12), (5, 0, v12), (0, 29, x0), (1, 24, v1), (3, 0, p4), (4, 0, p5)]) rfl ?_)
          refine r_iload 64 hC 5 rfl dX11_neediest_64 ?_
          refine r_istore_n 66 hC rfl (by decide) dX11_neediest_66 (r_eqls (ls' := [(3, 0, p5), (2, 0, v12), (5, 0, v12), (0, 29, x0), (1, 24, v1), (4, 0, p5)]) rfl ?_)
          exact r_sub [3, 4, 1, 0, 5] rfl (hj67 v12 p5)
      · refine r_aload_n 48 hC 1 rfl (Or.inl (by decide)) rfl dX11_neediest_48 ?_
        refine r_bipush 49 hC kb_7 dX11_neediest_49 ?_
        refine r_callVI 51 hC [(0, 7)] [] rfl vl_X11_91 rfl h0 (by decide) (Nat.le_of_ble_eq_true rfl) (by decide) (by decide) dX11_neediest_51 (t_X11_refuse x0 7 M2 h0) (fun v15 M16 => ?_)
        exact r_ireturn 54 hC hq (by decide) (by decide) dX11_neediest_54
set_option maxRecDepth 100000 in
theorem t_X11_neediest (x0 : Int) (M : Mem) (h0 : x0 ≠ 0) : MtI yX11_neediest cX11_neediest 6 (some .int) 6 0 0 [(29, x0)] M 0 (f_X11_neediest x0 M) := by
  refine mk_I (by decide +kernel) (Nat.le_of_ble_eq_true rfl) (fun E C r0 M0 hC hq hin => ?_)
  refine r_eqls (ls' := [(0, 29, x0)]) rfl ?_
  unfold f_X11_neediest
  refine r_aload_n 0 hC 0 rfl (Or.inl (by decide)) rfl dX11_neediest_0 ?_
  refine r_callVI 1 hC [] [] rfl vl_X11_284 rfl h0 (by decide) (Nat.le_of_ble_eq_true rfl) (by decide) (by decide) dX11_neediest_1 (t_X11_sweptWorld x0 M h0) (fun v1 M2 => ?_)
  refine r_astore_n 4 hC rfl (Or.inl (by decide)) (by decide) dX11_neediest_4 (r_eqls (ls' := [(1, 24, v1), (0, 29, x0)]) rfl ?_)
  refine r_iconst 5 hC (r32c rfl) dX11_neediest_5 ?_
  refine r_istore_n 6 hC rfl (by decide) dX11_neediest_6 (r_eqls (ls' := [(2, 0, 0), (1, 24, v1), (0, 29, x0)]) rfl ?_)
  refine r_iconst 7 hC (r32c rfl) dX11_neediest_7 ?_
  refine r_istore_n 8 hC rfl (by decide) dX11_neediest_8 (r_eqls (ls' := [(3, 0, (-1)), (2, 0, 0), (1, 24, v1), (0, 29, x0)]) rfl ?_)
  refine r_iconst 9 hC (r32c rfl) dX11_neediest_9 ?_
  refine r_istore 10 hC (by decide) dX11_neediest_10 (r_eqls (ls' := [(4, 0, 0), (3, 0, (-1)), (2, 0, 0), (1, 24, v1), (0, 29, x0)]) rfl ?_)
  refine r_sub [4, 3, 2, 1, 0] rfl (f_X11_neediest_L12_ok h0 hC hq (fun q18 => ?_) KF 0 (-1) 0)
  · refine r_aload_n 73 hC 0 rfl (Or.inl (by decide)) rfl dX11_neediest_73 ?_
    refine r_iload_n 74 hC 1 rfl rfl dX11_neediest_74 ?_
    refine r_callVI 75 hC [(0, q18)] [] rfl vl_X11_229 rfl h0 (by decide) (Nat.le_of_ble_eq_true rfl) (by decide) (by decide) dX11_neediest_75 (t_X11_answerOrNone x0 q18 M2 h0) (fun v19 M20 => ?_)
    exact r_ireturn 78 hC hq (by decide) (by decide) dX11_neediest_78

/-! WaterTurns.richest(Z)I -/
theorem dX11_richest_0 : decode cX11_richest 0 = .ok (.aload_n 0, 1) := by decide +kernel
theorem dX11_richest_1 : decode cX11_richest 1 = .ok (.invokevirtual 284, 3) := by decide +kernel
theorem dX11_richest_4 : decode cX11_richest 4 = .ok (.astore_n 2, 1) := by decide +kernel
theorem dX11_richest_5 : decode cX11_richest 5 = .ok (.iconst (-1), 1) := by decide +kernel
theorem dX11_richest_6 : decode cX11_richest 6 = .ok (.istore_n 3, 1) := by decide +kernel
theorem dX11_richest_7 : decode cX11_richest 7 = .ok (.iconst 0, 1) := by decide +kernel
theorem dX11_richest_8 : decode cX11_richest 8 = .ok (.istore 4, 2) := by decide +kernel
theorem dX11_richest_10 : decode cX11_richest 10 = .ok (.iload 4, 2) := by decide +kernel
theorem dX11_richest_12 : decode cX11_richest 12 = .ok (.aload_n 0, 1) := by decide +kernel
theorem dX11_richest_13 : decode cX11_richest 13 = .ok (.getfield 26, 3) := by decide +kernel
theorem dX11_richest_16 : decode cX11_richest 16 = .ok (.getfield 111, 3) := by decide +kernel
theorem dX11_richest_19 : decode cX11_richest 19 = .ok (.getfield 120, 3) := by decide +kernel
theorem dX11_richest_22 : decode cX11_richest 22 = .ok (.if_icmp .ge 59, 3) := by decide +kernel
theorem dX11_richest_25 : decode cX11_richest 25 = .ok (.iload_n 3, 1) := by decide +kernel
theorem dX11_richest_26 : decode cX11_richest 26 = .ok (.iconst (-1), 1) := by decide +kernel
theorem dX11_richest_27 : decode cX11_richest 27 = .ok (.if_icmp .ne 7, 3) := by decide +kernel
theorem dX11_richest_30 : decode cX11_richest 30 = .ok (.iconst 0, 1) := by decide +kernel
theorem dX11_richest_31 : decode cX11_richest 31 = .ok (.goto 17, 3) := by decide +kernel
theorem dX11_richest_34 : decode cX11_richest 34 = .ok (.aload_n 2, 1) := by decide +kernel
theorem dX11_richest_35 : decode cX11_richest 35 = .ok (.aload_n 0, 1) := by decide +kernel
theorem dX11_richest_36 : decode cX11_richest 36 = .ok (.getfield 26, 3) := by decide +kernel
theorem dX11_richest_39 : decode cX11_richest 39 = .ok (.getfield 111, 3) := by decide +kernel
theorem dX11_richest_42 : decode cX11_richest 42 = .ok (.iload 4, 2) := by decide +kernel
theorem dX11_richest_44 : decode cX11_richest 44 = .ok (.iload_n 3, 1) := by decide +kernel
theorem dX11_richest_45 : decode cX11_richest 45 = .ok (.invokevirtual 341, 3) := by decide +kernel
theorem dX11_richest_48 : decode cX11_richest 48 = .ok (.istore 5, 2) := by decide +kernel
theorem dX11_richest_50 : decode cX11_richest 50 = .ok (.iload_n 3, 1) := by decide +kernel
theorem dX11_richest_51 : decode cX11_richest 51 = .ok (.iconst (-1), 1) := by decide +kernel
theorem dX11_richest_52 : decode cX11_richest 52 = .ok (.if_icmp .eq 20, 3) := by decide +kernel
theorem dX11_richest_55 : decode cX11_richest 55 = .ok (.iload_n 1, 1) := by decide +kernel
theorem dX11_richest_56 : decode cX11_richest 56 = .ok (.ifCond .eq 11, 3) := by decide +kernel
theorem dX11_richest_59 : decode cX11_richest 59 = .ok (.iload 5, 2) := by decide +kernel
theorem dX11_richest_61 : decode cX11_richest 61 = .ok (.ifCond .le 14, 3) := by decide +kernel
theorem dX11_richest_64 : decode cX11_richest 64 = .ok (.goto 8, 3) := by decide +kernel
theorem dX11_richest_67 : decode cX11_richest 67 = .ok (.iload 5, 2) := by decide +kernel
theorem dX11_richest_69 : decode cX11_richest 69 = .ok (.ifCond .ge 6, 3) := by decide +kernel
theorem dX11_richest_72 : decode cX11_richest 72 = .ok (.iload 4, 2) := by decide +kernel
theorem dX11_richest_74 : decode cX11_richest 74 = .ok (.istore_n 3, 1) := by decide +kernel
theorem dX11_richest_75 : decode cX11_richest 75 = .ok (.iinc 4 1, 3) := by decide +kernel
theorem dX11_richest_78 : decode cX11_richest 78 = .ok (.goto (-68), 3) := by decide +kernel
theorem dX11_richest_81 : decode cX11_richest 81 = .ok (.aload_n 0, 1) := by decide +kernel
theorem dX11_richest_82 : decode cX11_richest 82 = .ok (.iload_n 3, 1) := by decide +kernel
theorem dX11_richest_83 : decode cX11_richest 83 = .ok (.invokevirtual 229, 3) := by decide +kernel
theorem dX11_richest_86 : decode cX11_richest 86 = .ok (.ireturn, 1) := by decide +kernel
set_option maxRecDepth 100000 in
theorem f_X11_richest_L10_ok {E : EnvT} {C : Cx} {Mi : Mem} {x0 : Int} (h0 : x0 ≠ 0) (hC : CxOK E C cX11_richest 6 yX11_richest.cls 6 0 0) {r0 : Int} {M0 : Mem} (hq : RQ E C 0 0 Mi (some .int) (some (0, r0)) M0) {M2 : Mem} {v1 x1 : Int} {k : Int → Option (Int × Mem)} (hk : ∀ q14, Bk E C 6 Mi (r0, M0) 81 [(0, 29, x0), (3, 0, q14)] [] M2 0 0 (k q14)) : ∀ (n : Nat) (p3 : Int) (p4 : Int), Bk E C 6 Mi (r0, M0) 10 [(0, 29, x0), (1, 0, x1), (2, 24, v1), (3, 0, p3), (4, 0, p4)] [] M2 0 0 (f_X11_richest_L10 M2 v1 x0 x1 k n p3 p4) := by
  intro n
  induction n with
  | zero =>
    intro p3 p4
    exact r_none
  | succ n ih =>
    intro p3 p4
    rw [f_X11_richest_L10]
    refine r_iload 10 hC 4 rfl dX11_richest_10 ?_
    refine r_aload_n 12 hC 0 rfl (Or.inl (by decide)) rfl dX11_richest_12 ?_
    refine r_get 13 hC fd_9_2 fl_X11_26 dX11_richest_13 (fun v5 => ?_)
    refine r_get 16 hC fd_8_0 fl_X11_111 dX11_richest_16 (fun v6 => ?_)
    refine r_get 19 hC fd_7_5 fl_X11_120 dX11_richest_19 (fun v7 => ?_)
    refine r_icmp_ge 22 hC (tgt := 81) (by decide) dX11_richest_22 ?_ ?_
    · exact r_sub [0, 3] rfl (hk p3)
    · refine r_iload_n 25 hC 3 rfl rfl dX11_richest_25 ?_
      refine r_iconst 26 hC (r32c rfl) dX11_richest_26 ?_
      refine r_jn (P := fun j48 => ∀ (q8 : Int), Bk E C 6 Mi (r0, M0) 48 [(0, 29, x0), (1, 0, x1), (2, 24, v1), (3, 0, p3), (4, 0, p4)] [(0, q8)] M2 0 0 (j48 q8)) ?_ (fun j48 hj48 => ?_)
      · intro q8
        refine r_istore 48 hC (by decide) dX11_richest_48 (r_eqls (ls' := [(5, 0, q8), (0, 29, x0), (1, 0, x1), (2, 24, v1), (3, 0, p3), (4, 0, p4)]) rfl ?_)
        refine r_iload_n 50 hC 4 rfl rfl dX11_richest_50 ?_
        refine r_iconst 51 hC (r32c rfl) dX11_richest_51 ?_
        refine r_jn (P := fun j75 => ∀ (q9 : Int), Bk E C 6 Mi (r0, M0) 75 [(0, 29, x0), (1, 0, x1), (2, 24, v1), (3, 0, q9), (4, 0, p4)] [] M2 0 0 (j75 q9)) ?_ (fun j75 hj75 => ?_)
        · intro q9
          refine r_iinc 75 hC 4 rfl (by decide) dX11_richest_75 (r_eqls (ls' := [(4, 0, w32 (p4 + 1)), (0, 29, x0), (1, 0, x1), (2, 24, v1), (3, 0, q9)]) rfl ?_)
          refine r_goto 78 hC (tgt := 10) (by decide) dX11_richest_78 ?_
          exact r_sub [1, 2, 3, 4, 0] rfl (ih q9 (w32 (p4 + 1)))
        refine r_jn (P := fun j72 => Bk E C 6 Mi (r0, M0) 72 [(0, 29, x0), (1, 0, x1), (2, 24, v1), (4, 0, p4)] [] M2 0 0 (j72)) ?_ (fun j72 hj72 => ?_)
        · refine r_iload 72 hC 3 rfl dX11_richest_72 ?_
          refine r_istore_n 74 hC rfl (by decide) dX11_richest_74 (r_eqls (ls' := [(3, 0, p4), (0, 29, x0), (1, 0, x1), (2, 24, v1), (4, 0, p4)]) rfl ?_)
          exact r_sub [1, 2, 3, 0, 4] rfl (hj75 p4)
        refine r_icmp_eq 52 hC (tgt := 72) (by decide) dX11_richest_52 ?_ ?_
        · exact r_sub [1, 2, 3, 5] rfl (hj72)
        · refine r_iload_n 55 hC 2 rfl rfl dX11_richest_55 ?_
          refine r_if_eq 56 hC (tgt := 67) (by decide) dX11_richest_56 ?_ ?_
          · refine r_iload 67 hC 0 rfl dX11_richest_67 ?_
            refine r_if_ge 69 hC (tgt := 75) (by decide) dX11_richest_69 ?_ ?_
            · exact r_sub [1, 2, 3, 4, 5] rfl (hj75 p3)
            · exact r_sub [1, 2, 3, 5] rfl (hj72)
          · refine r_iload 59 hC 0 rfl dX11_richest_59 ?_
            refine r_if_le 61 hC (tgt := 75) (by decide) dX11_richest_61 ?_ ?_
            · exact r_sub [1, 2, 3, 4, 5] rfl (hj75 p3)
            · refine r_goto 64 hC (tgt := 72) (by decide) dX11_richest_64 ?_
              exact r_sub [1, 2, 3, 5] rfl (hj72)
      refine r_icmp_ne 27 hC (tgt := 34) (by decide) dX11_richest_27 ?_ ?_
      · refine r_aload_n 34 hC 2 rfl (Or.inl (by decide)) rfl dX11_richest_34 ?_
        refine r_aload_n 35 hC 0 rfl (Or.inl (by decide)) rfl dX11_richest_35 ?_
        refine r_get 36 hC fd_9_2 fl_X11_26 dX11_richest_36 (fun v10 => ?_)
        refine r_get 39 hC fd_8_0 fl_X11_111 dX11_richest_39 (fun v11 => ?_)
        refine r_iload 42 hC 4 rfl dX11_richest_42 ?_
        refine r_iload_n 44 hC 3 rfl rfl dX11_richest_44 ?_
        refine r_nn (fun hn12 => ?_)
        refine r_callVP 45 hC [(27, v11), (0, p4), (0, p3)] [] rfl vl_X11_341 rfl hn12 (by decide) (Nat.le_of_ble_eq_true rfl) (by decide) (by decide) dX11_richest_45 (t_X5_compareWorth v1 v11 p4 p3 M2 hn12) (fun v13 => ?_)
        exact hj48 v13
      · refine r_iconst 30 hC (r32c rfl) dX11_richest_30 ?_
        refine r_goto 31 hC (tgt := 48) (by decide) dX11_richest_31 ?_
        exact hj48 0
set_option maxRecDepth 100000 in
theorem t_X11_richest (x0 x1 : Int) (M : Mem) (h0 : x0 ≠ 0) : MtI yX11_richest cX11_richest 6 (some .int) 6 0 0 [(29, x0), (0, x1)] M 0 (f_X11_richest x0 x1 M) := by
  refine mk_I (by decide +kernel) (Nat.le_of_ble_eq_true rfl) (fun E C r0 M0 hC hq hin => ?_)
  refine r_eqls (ls' := [(0, 29, x0), (1, 0, x1)]) rfl ?_
  unfold f_X11_richest
  refine r_aload_n 0 hC 0 rfl (Or.inl (by decide)) rfl dX11_richest_0 ?_
  refine r_callVI 1 hC [] [] rfl vl_X11_284 rfl h0 (by decide) (Nat.le_of_ble_eq_true rfl) (by decide) (by decide) dX11_richest_1 (t_X11_sweptWorld x0 M h0) (fun v1 M2 => ?_)
  refine r_astore_n 4 hC rfl (Or.inl (by decide)) (by decide) dX11_richest_4 (r_eqls (ls' := [(2, 24, v1), (0, 29, x0), (1, 0, x1)]) rfl ?_)
  refine r_iconst 5 hC (r32c rfl) dX11_richest_5 ?_
  refine r_istore_n 6 hC rfl (by decide) dX11_richest_6 (r_eqls (ls' := [(3, 0, (-1)), (2, 24, v1), (0, 29, x0), (1, 0, x1)]) rfl ?_)
  refine r_iconst 7 hC (r32c rfl) dX11_richest_7 ?_
  refine r_istore 8 hC (by decide) dX11_richest_8 (r_eqls (ls' := [(4, 0, 0), (3, 0, (-1)), (2, 24, v1), (0, 29, x0), (1, 0, x1)]) rfl ?_)
  refine r_sub [3, 4, 2, 1, 0] rfl (f_X11_richest_L10_ok h0 hC hq (fun q15 => ?_) KF (-1) 0)
  · refine r_aload_n 81 hC 0 rfl (Or.inl (by decide)) rfl dX11_richest_81 ?_
    refine r_iload_n 82 hC 1 rfl rfl dX11_richest_82 ?_
    refine r_callVI 83 hC [(0, q15)] [] rfl vl_X11_229 rfl h0 (by decide) (Nat.le_of_ble_eq_true rfl) (by decide) (by decide) dX11_richest_83 (t_X11_answerOrNone x0 q15 M2 h0) (fun v16 M17 => ?_)
    exact r_ireturn 86 hC hq (by decide) (by decide) dX11_richest_86

/-! WaterTurns.tellBest(IJ)I -/
theorem dX11_tellBest_0 : decode cX11_tellBest 0 = .ok (.iload_n 1, 1) := by decide +kernel
theorem dX11_tellBest_1 : decode cX11_tellBest 1 = .ok (.iconst (-1), 1) := by decide +kernel
theorem dX11_tellBest_2 : decode cX11_tellBest 2 = .ok (.if_icmp .ne 10, 3) := by decide +kernel
theorem dX11_tellBest_5 : decode cX11_tellBest 5 = .ok (.aload_n 0, 1) := by decide +kernel
theorem dX11_tellBest_6 : decode cX11_tellBest 6 = .ok (.bipush 6, 2) := by decide +kernel
theorem dX11_tellBest_8 : decode cX11_tellBest 8 = .ok (.invokevirtual 91, 3) := by decide +kernel
theorem dX11_tellBest_11 : decode cX11_tellBest 11 = .ok (.ireturn, 1) := by decide +kernel
theorem dX11_tellBest_12 : decode cX11_tellBest 12 = .ok (.aload_n 0, 1) := by decide +kernel
theorem dX11_tellBest_13 : decode cX11_tellBest 13 = .ok (.lload_n 2, 1) := by decide +kernel
theorem dX11_tellBest_14 : decode cX11_tellBest 14 = .ok (.aload_n 0, 1) := by decide +kernel
theorem dX11_tellBest_15 : decode cX11_tellBest 15 = .ok (.getfield 26, 3) := by decide +kernel
theorem dX11_tellBest_18 : decode cX11_tellBest 18 = .ok (.getfield 111, 3) := by decide +kernel
theorem dX11_tellBest_21 : decode cX11_tellBest 21 = .ok (.getfield 314, 3) := by decide +kernel
theorem dX11_tellBest_24 : decode cX11_tellBest 24 = .ok (.invokevirtual 317, 3) := by decide +kernel
theorem dX11_tellBest_27 : decode cX11_tellBest 27 = .ok (.pop, 1) := by decide +kernel
theorem dX11_tellBest_28 : decode cX11_tellBest 28 = .ok (.aload_n 0, 1) := by decide +kernel
theorem dX11_tellBest_29 : decode cX11_tellBest 29 = .ok (.iload_n 1, 1) := by decide +kernel
theorem dX11_tellBest_30 : decode cX11_tellBest 30 = .ok (.invokevirtual 95, 3) := by decide +kernel
theorem dX11_tellBest_33 : decode cX11_tellBest 33 = .ok (.ireturn, 1) := by decide +kernel
set_option maxRecDepth 100000 in
theorem t_X11_tellBest (x0 x1 x2 : Int) (M : Mem) (h0 : x0 ≠ 0) : MtI yX11_tellBest cX11_tellBest 4 (some .int) 4 0 0 [(29, x0), (0, x1), (1, x2)] M 0 (f_X11_tellBest x0 x1 x2 M) := by
  refine mk_I (by decide +kernel) (Nat.le_of_ble_eq_true rfl) (fun E C r0 M0 hC hq hin => ?_)
  refine r_eqls (ls' := [(0, 29, x0), (1, 0, x1), (2, 1, x2)]) rfl ?_
  unfold f_X11_tellBest
  refine r_iload_n 0 hC 1 rfl rfl dX11_tellBest_0 ?_
  refine r_iconst 1 hC (r32c rfl) dX11_tellBest_1 ?_
  refine r_icmp_ne 2 hC (tgt := 12) (by decide) dX11_tellBest_2 ?_ ?_
  · refine r_aload_n 12 hC 0 rfl (Or.inl (by decide)) rfl dX11_tellBest_12 ?_
    refine r_lload_n 13 hC 2 rfl rfl dX11_tellBest_13 ?_
    refine r_aload_n 14 hC 0 rfl (Or.inl (by decide)) rfl dX11_tellBest_14 ?_
    refine r_get 15 hC fd_9_2 fl_X11_26 dX11_tellBest_15 (fun v1 => ?_)
    refine r_get 18 hC fd_8_0 fl_X11_111 dX11_tellBest_18 (fun v2 => ?_)
    refine r_get 21 hC fd_7_7 fl_X11_314 dX11_tellBest_21 (fun v3 => ?_)
    refine r_callVI 24 hC [(1, x2), (1, v3)] [] rfl vl_X11_317 rfl h0 (by decide) (Nat.le_of_ble_eq_true rfl) (by decide) (by decide) dX11_tellBest_24 (t_X11_tellFraction x0 x2 v3 M h0) (fun v4 M5 => ?_)
    refine r_pop 27 hC (by decide) dX11_tellBest_27 ?_
    refine r_aload_n 28 hC 0 rfl (Or.inl (by decide)) rfl dX11_tellBest_28 ?_
    refine r_iload_n 29 hC 1 rfl rfl dX11_tellBest_29 ?_
    refine r_callVI 30 hC [(0, x1)] [] rfl vl_X11_95 rfl h0 (by decide) (Nat.le_of_ble_eq_true rfl) (by decide) (by decide) dX11_tellBest_30 (t_X11_answer x0 x1 M5 h0) (fun v6 M7 => ?_)
    exact r_ireturn 33 hC hq (by decide) (by decide) dX11_tellBest_33
  · refine r_aload_n 5 hC 0 rfl (Or.inl (by decide)) rfl dX11_tellBest_5 ?_
    refine r_bipush 6 hC kb_6 dX11_tellBest_6 ?_
    refine r_callVI 8 hC [(0, 6)] [] rfl vl_X11_91 rfl h0 (by decide) (Nat.le_of_ble_eq_true rfl) (by decide) (by decide) dX11_tellBest_8 (t_X11_refuse x0 6 M h0) (fun v8 M9 => ?_)
    exact r_ireturn 11 hC hq (by decide) (by decide) dX11_tellBest_11
