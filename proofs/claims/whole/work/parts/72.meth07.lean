/-! WaterTurns.mark()I -/
theorem dX11_mark_0 : decode cX11_mark 0 = .ok (.aload_n 0, 1) := by decide +kernel
theorem dX11_mark_1 : decode cX11_mark 1 = .ok (.getfield 77, 3) := by decide +kernel
theorem dX11_mark_4 : decode cX11_mark 4 = .ok (.iconst 3, 1) := by decide +kernel
theorem dX11_mark_5 : decode cX11_mark 5 = .ok (.if_icmp .lt 9, 3) := by decide +kernel
theorem dX11_mark_8 : decode cX11_mark 8 = .ok (.aload_n 0, 1) := by decide +kernel
theorem dX11_mark_9 : decode cX11_mark 9 = .ok (.iconst 4, 1) := by decide +kernel
theorem dX11_mark_10 : decode cX11_mark 10 = .ok (.invokevirtual 91, 3) := by decide +kernel
theorem dX11_mark_13 : decode cX11_mark 13 = .ok (.ireturn, 1) := by decide +kernel
theorem dX11_mark_14 : decode cX11_mark 14 = .ok (.aload_n 0, 1) := by decide +kernel
theorem dX11_mark_15 : decode cX11_mark 15 = .ok (.getfield 51, 3) := by decide +kernel
theorem dX11_mark_18 : decode cX11_mark 18 = .ok (.aload_n 0, 1) := by decide +kernel
theorem dX11_mark_19 : decode cX11_mark 19 = .ok (.getfield 77, 3) := by decide +kernel
theorem dX11_mark_22 : decode cX11_mark 22 = .ok (.aaload, 1) := by decide +kernel
theorem dX11_mark_23 : decode cX11_mark 23 = .ok (.ifnonnull 19, 3) := by decide +kernel
theorem dX11_mark_26 : decode cX11_mark 26 = .ok (.aload_n 0, 1) := by decide +kernel
theorem dX11_mark_27 : decode cX11_mark 27 = .ok (.getfield 51, 3) := by decide +kernel
theorem dX11_mark_30 : decode cX11_mark 30 = .ok (.aload_n 0, 1) := by decide +kernel
theorem dX11_mark_31 : decode cX11_mark 31 = .ok (.getfield 77, 3) := by decide +kernel
theorem dX11_mark_34 : decode cX11_mark 34 = .ok (.new 23, 3) := by decide +kernel
theorem dX11_mark_37 : decode cX11_mark 37 = .ok (.dup, 1) := by decide +kernel
theorem dX11_mark_38 : decode cX11_mark 38 = .ok (.invokespecial 25, 3) := by decide +kernel
theorem dX11_mark_41 : decode cX11_mark 41 = .ok (.aastore, 1) := by decide +kernel
theorem dX11_mark_42 : decode cX11_mark 42 = .ok (.aload_n 0, 1) := by decide +kernel
theorem dX11_mark_43 : decode cX11_mark 43 = .ok (.getfield 51, 3) := by decide +kernel
theorem dX11_mark_46 : decode cX11_mark 46 = .ok (.aload_n 0, 1) := by decide +kernel
theorem dX11_mark_47 : decode cX11_mark 47 = .ok (.getfield 77, 3) := by decide +kernel
theorem dX11_mark_50 : decode cX11_mark 50 = .ok (.aaload, 1) := by decide +kernel
theorem dX11_mark_51 : decode cX11_mark 51 = .ok (.aload_n 0, 1) := by decide +kernel
theorem dX11_mark_52 : decode cX11_mark 52 = .ok (.getfield 26, 3) := by decide +kernel
theorem dX11_mark_55 : decode cX11_mark 55 = .ok (.invokevirtual 435, 3) := by decide +kernel
theorem dX11_mark_58 : decode cX11_mark 58 = .ok (.aload_n 0, 1) := by decide +kernel
theorem dX11_mark_59 : decode cX11_mark 59 = .ok (.dup, 1) := by decide +kernel
theorem dX11_mark_60 : decode cX11_mark 60 = .ok (.getfield 77, 3) := by decide +kernel
theorem dX11_mark_63 : decode cX11_mark 63 = .ok (.iconst 1, 1) := by decide +kernel
theorem dX11_mark_64 : decode cX11_mark 64 = .ok (.iadd, 1) := by decide +kernel
theorem dX11_mark_65 : decode cX11_mark 65 = .ok (.putfield 77, 3) := by decide +kernel
theorem dX11_mark_68 : decode cX11_mark 68 = .ok (.aload_n 0, 1) := by decide +kernel
theorem dX11_mark_69 : decode cX11_mark 69 = .ok (.aload_n 0, 1) := by decide +kernel
theorem dX11_mark_70 : decode cX11_mark 70 = .ok (.getfield 77, 3) := by decide +kernel
theorem dX11_mark_73 : decode cX11_mark 73 = .ok (.invokevirtual 95, 3) := by decide +kernel
theorem dX11_mark_76 : decode cX11_mark 76 = .ok (.ireturn, 1) := by decide +kernel
set_option maxRecDepth 100000 in
theorem t_X11_mark (x0 : Int) (M : Mem) (h0 : x0 ≠ 0) : MtI yX11_mark cX11_mark 1 (some .int) 3 42 758 [(29, x0)] M 0 (f_X11_mark x0 M) := by
  refine mk_I (by decide +kernel) (Nat.le_of_ble_eq_true rfl) (fun E C r0 M0 hC hq hin => ?_)
  refine r_eqls (ls' := [(0, 29, x0)]) rfl ?_
  unfold f_X11_mark
  refine r_aload_n 0 hC 0 rfl (Or.inl (by decide)) rfl dX11_mark_0 ?_
  refine r_get 1 hC fd_9_11 fl_X11_77 dX11_mark_1 (fun v1 => ?_)
  refine r_iconst 4 hC (r32c rfl) dX11_mark_4 ?_
  refine r_icmp_lt 5 hC (tgt := 14) (by decide) dX11_mark_5 ?_ ?_
  · refine r_aload_n 14 hC 0 rfl (Or.inl (by decide)) rfl dX11_mark_14 ?_
    refine r_get 15 hC fd_9_6 fl_X11_51 dX11_mark_15 (fun v2 => ?_)
    refine r_aload_n 18 hC 0 rfl (Or.inl (by decide)) rfl dX11_mark_18 ?_
    refine r_get 19 hC fd_9_11 fl_X11_77 dX11_mark_19 (fun v3 => ?_)
    refine r_aaloadW 22 hC dX11_mark_22 (fun v4 => ?_)
    refine r_jn (P := fun j42 => ∀ (M5 : Mem), Bk E C 1 M (r0, M0) 42 [(0, 29, x0)] [] M5 42 758 (j42 M5)) ?_ (fun j42 hj42 => ?_)
    · intro M5
      refine r_aload_n 42 hC 0 rfl (Or.inl (by decide)) rfl dX11_mark_42 ?_
      refine r_get 43 hC fd_9_6 fl_X11_51 dX11_mark_43 (fun v6 => ?_)
      refine r_aload_n 46 hC 0 rfl (Or.inl (by decide)) rfl dX11_mark_46 ?_
      refine r_get 47 hC fd_9_11 fl_X11_77 dX11_mark_47 (fun v7 => ?_)
      refine r_aaloadW 50 hC dX11_mark_50 (fun v8 => ?_)
      refine r_aload_n 51 hC 0 rfl (Or.inl (by decide)) rfl dX11_mark_51 ?_
      refine r_get 52 hC fd_9_2 fl_X11_26 dX11_mark_52 (fun v9 => ?_)
      refine r_nn (fun hn10 => ?_)
      refine r_callVV 55 hC [(28, v9)] [] rfl vl_X11_435 rfl hn10 (by decide) (Nat.le_of_ble_eq_true rfl) (by decide) (by decide) dX11_mark_55 (t_X10_take v8 v9 M5 hn10) (fun M11 => ?_)
      refine r_aload_n 58 hC 0 rfl (Or.inl (by decide)) rfl dX11_mark_58 ?_
      refine r_dup 59 hC (by decide) dX11_mark_59 ?_
      refine r_get 60 hC fd_9_11 fl_X11_77 dX11_mark_60 (fun v12 => ?_)
      refine r_iconst 63 hC (r32c rfl) dX11_mark_63 ?_
      refine r_iadd 64 hC dX11_mark_64 ?_
      refine r_put 65 hC fd_9_11 fl_X11_77 dX11_mark_65 (fun M13 => ?_)
      refine r_aload_n 68 hC 0 rfl (Or.inl (by decide)) rfl dX11_mark_68 ?_
      refine r_aload_n 69 hC 0 rfl (Or.inl (by decide)) rfl dX11_mark_69 ?_
      refine r_get 70 hC fd_9_11 fl_X11_77 dX11_mark_70 (fun v14 => ?_)
      refine r_callVI 73 hC [(0, v14)] [] rfl vl_X11_95 rfl h0 (by decide) (Nat.le_of_ble_eq_true rfl) (by decide) (by decide) dX11_mark_73 (t_X11_answer x0 v14 M13 h0) (fun v15 M16 => ?_)
      exact r_ireturn 76 hC hq (by decide) (by decide) dX11_mark_76
    refine r_ifnn 23 (tgt := 42) hC (by decide) (by decide) dX11_mark_23 ?_ ?_
    · exact r_widen (by decide) (by decide) (hj42 M)
    · refine r_aload_n 26 hC 0 rfl (Or.inl (by decide)) rfl dX11_mark_26 ?_
      refine r_get 27 hC fd_9_6 fl_X11_51 dX11_mark_27 (fun v17 => ?_)
      refine r_aload_n 30 hC 0 rfl (Or.inl (by decide)) rfl dX11_mark_30 ?_
      refine r_get 31 hC fd_9_11 fl_X11_77 dX11_mark_31 (fun v18 => ?_)
      refine r_new 34 hC cl_8 rfl (by decide) cq_X11_23 in_X10 ini_X10 (by decide) (by decide) dX11_mark_34 (fun v19 M20 => ?_)
      refine r_dup 37 hC (by decide) dX11_mark_37 ?_
      refine r_nn (fun hn21 => ?_)
      refine r_ctor 38 hC il_X11_25 (by decide) hn21 (by decide) (Nat.le_of_ble_eq_true rfl) (by decide) (by decide) dX11_mark_38 (t_X10_init v19 M20 hn21) (fun M22 => ?_)
      refine r_aastore 41 hC cl_8 dX11_mark_41 (fun M23 => ?_)
      exact hj42 M23
  · refine r_aload_n 8 hC 0 rfl (Or.inl (by decide)) rfl dX11_mark_8 ?_
    refine r_iconst 9 hC (r32c rfl) dX11_mark_9 ?_
    refine r_callVI 10 hC [(0, 4)] [] rfl vl_X11_91 rfl h0 (by decide) (Nat.le_of_ble_eq_true rfl) (by decide) (by decide) dX11_mark_10 (t_X11_refuse x0 4 M h0) (fun v24 M25 => ?_)
    exact r_ireturn 13 hC hq (by decide) (by decide) dX11_mark_13

/-! WaterTurns.back()I -/
theorem dX11_back_0 : decode cX11_back 0 = .ok (.aload_n 0, 1) := by decide +kernel
theorem dX11_back_1 : decode cX11_back 1 = .ok (.getfield 77, 3) := by decide +kernel
theorem dX11_back_4 : decode cX11_back 4 = .ok (.iconst 1, 1) := by decide +kernel
theorem dX11_back_5 : decode cX11_back 5 = .ok (.if_icmp .lt 17, 3) := by decide +kernel
theorem dX11_back_8 : decode cX11_back 8 = .ok (.aload_n 0, 1) := by decide +kernel
theorem dX11_back_9 : decode cX11_back 9 = .ok (.getfield 51, 3) := by decide +kernel
theorem dX11_back_12 : decode cX11_back 12 = .ok (.aload_n 0, 1) := by decide +kernel
theorem dX11_back_13 : decode cX11_back 13 = .ok (.getfield 77, 3) := by decide +kernel
theorem dX11_back_16 : decode cX11_back 16 = .ok (.iconst 1, 1) := by decide +kernel
theorem dX11_back_17 : decode cX11_back 17 = .ok (.isub, 1) := by decide +kernel
theorem dX11_back_18 : decode cX11_back 18 = .ok (.aaload, 1) := by decide +kernel
theorem dX11_back_19 : decode cX11_back 19 = .ok (.ifnonnull 10, 3) := by decide +kernel
theorem dX11_back_22 : decode cX11_back 22 = .ok (.aload_n 0, 1) := by decide +kernel
theorem dX11_back_23 : decode cX11_back 23 = .ok (.bipush 6, 2) := by decide +kernel
theorem dX11_back_25 : decode cX11_back 25 = .ok (.invokevirtual 91, 3) := by decide +kernel
theorem dX11_back_28 : decode cX11_back 28 = .ok (.ireturn, 1) := by decide +kernel
theorem dX11_back_29 : decode cX11_back 29 = .ok (.aload_n 0, 1) := by decide +kernel
theorem dX11_back_30 : decode cX11_back 30 = .ok (.dup, 1) := by decide +kernel
theorem dX11_back_31 : decode cX11_back 31 = .ok (.getfield 77, 3) := by decide +kernel
theorem dX11_back_34 : decode cX11_back 34 = .ok (.iconst 1, 1) := by decide +kernel
theorem dX11_back_35 : decode cX11_back 35 = .ok (.isub, 1) := by decide +kernel
theorem dX11_back_36 : decode cX11_back 36 = .ok (.putfield 77, 3) := by decide +kernel
theorem dX11_back_39 : decode cX11_back 39 = .ok (.aload_n 0, 1) := by decide +kernel
theorem dX11_back_40 : decode cX11_back 40 = .ok (.getfield 26, 3) := by decide +kernel
theorem dX11_back_43 : decode cX11_back 43 = .ok (.aload_n 0, 1) := by decide +kernel
theorem dX11_back_44 : decode cX11_back 44 = .ok (.getfield 51, 3) := by decide +kernel
theorem dX11_back_47 : decode cX11_back 47 = .ok (.aload_n 0, 1) := by decide +kernel
theorem dX11_back_48 : decode cX11_back 48 = .ok (.getfield 77, 3) := by decide +kernel
theorem dX11_back_51 : decode cX11_back 51 = .ok (.aaload, 1) := by decide +kernel
theorem dX11_back_52 : decode cX11_back 52 = .ok (.invokevirtual 435, 3) := by decide +kernel
theorem dX11_back_55 : decode cX11_back 55 = .ok (.aload_n 0, 1) := by decide +kernel
theorem dX11_back_56 : decode cX11_back 56 = .ok (.aload_n 0, 1) := by decide +kernel
theorem dX11_back_57 : decode cX11_back 57 = .ok (.getfield 77, 3) := by decide +kernel
theorem dX11_back_60 : decode cX11_back 60 = .ok (.invokevirtual 95, 3) := by decide +kernel
theorem dX11_back_63 : decode cX11_back 63 = .ok (.ireturn, 1) := by decide +kernel
set_option maxRecDepth 100000 in
theorem t_X11_back (x0 : Int) (M : Mem) (h0 : x0 ≠ 0) : MtI yX11_back cX11_back 1 (some .int) 3 0 0 [(29, x0)] M 0 (f_X11_back x0 M) := by
  refine mk_I (by decide +kernel) (Nat.le_of_ble_eq_true rfl) (fun E C r0 M0 hC hq hin => ?_)
  refine r_eqls (ls' := [(0, 29, x0)]) rfl ?_
  unfold f_X11_back
  refine r_aload_n 0 hC 0 rfl (Or.inl (by decide)) rfl dX11_back_0 ?_
  refine r_get 1 hC fd_9_11 fl_X11_77 dX11_back_1 (fun v1 => ?_)
  refine r_iconst 4 hC (r32c rfl) dX11_back_4 ?_
  refine r_jn (P := fun j22 => Bk E C 1 M (r0, M0) 22 [(0, 29, x0)] [] M 0 0 (j22)) ?_ (fun j22 hj22 => ?_)
  · refine r_aload_n 22 hC 0 rfl (Or.inl (by decide)) rfl dX11_back_22 ?_
    refine r_bipush 23 hC kb_6 dX11_back_23 ?_
    refine r_callVI 25 hC [(0, 6)] [] rfl vl_X11_91 rfl h0 (by decide) (Nat.le_of_ble_eq_true rfl) (by decide) (by decide) dX11_back_25 (t_X11_refuse x0 6 M h0) (fun v2 M3 => ?_)
    exact r_ireturn 28 hC hq (by decide) (by decide) dX11_back_28
  refine r_icmp_lt 5 hC (tgt := 22) (by decide) dX11_back_5 ?_ ?_
  · exact hj22
  · refine r_aload_n 8 hC 0 rfl (Or.inl (by decide)) rfl dX11_back_8 ?_
    refine r_get 9 hC fd_9_6 fl_X11_51 dX11_back_9 (fun v4 => ?_)
    refine r_aload_n 12 hC 0 rfl (Or.inl (by decide)) rfl dX11_back_12 ?_
    refine r_get 13 hC fd_9_11 fl_X11_77 dX11_back_13 (fun v5 => ?_)
    refine r_iconst 16 hC (r32c rfl) dX11_back_16 ?_
    refine r_isub 17 hC dX11_back_17 ?_
    refine r_aaloadW 18 hC dX11_back_18 (fun v6 => ?_)
    refine r_ifnn 19 (tgt := 29) hC (by decide) (by decide) dX11_back_19 ?_ ?_
    · refine r_aload_n 29 hC 0 rfl (Or.inl (by decide)) rfl dX11_back_29 ?_
      refine r_dup 30 hC (by decide) dX11_back_30 ?_
      refine r_get 31 hC fd_9_11 fl_X11_77 dX11_back_31 (fun v7 => ?_)
      refine r_iconst 34 hC (r32c rfl) dX11_back_34 ?_
      refine r_isub 35 hC dX11_back_35 ?_
      refine r_put 36 hC fd_9_11 fl_X11_77 dX11_back_36 (fun M8 => ?_)
      refine r_aload_n 39 hC 0 rfl (Or.inl (by decide)) rfl dX11_back_39 ?_
      refine r_get 40 hC fd_9_2 fl_X11_26 dX11_back_40 (fun v9 => ?_)
      refine r_aload_n 43 hC 0 rfl (Or.inl (by decide)) rfl dX11_back_43 ?_
      refine r_get 44 hC fd_9_6 fl_X11_51 dX11_back_44 (fun v10 => ?_)
      refine r_aload_n 47 hC 0 rfl (Or.inl (by decide)) rfl dX11_back_47 ?_
      refine r_get 48 hC fd_9_11 fl_X11_77 dX11_back_48 (fun v11 => ?_)
      refine r_aaloadW 51 hC dX11_back_51 (fun v12 => ?_)
      refine r_nn (fun hn13 => ?_)
      refine r_callVV 52 hC [(28, v12)] [] rfl vl_X11_435 rfl hn13 (by decide) (Nat.le_of_ble_eq_true rfl) (by decide) (by decide) dX11_back_52 (t_X10_take v9 v12 M8 hn13) (fun M14 => ?_)
      refine r_aload_n 55 hC 0 rfl (Or.inl (by decide)) rfl dX11_back_55 ?_
      refine r_aload_n 56 hC 0 rfl (Or.inl (by decide)) rfl dX11_back_56 ?_
      refine r_get 57 hC fd_9_11 fl_X11_77 dX11_back_57 (fun v15 => ?_)
      refine r_callVI 60 hC [(0, v15)] [] rfl vl_X11_95 rfl h0 (by decide) (Nat.le_of_ble_eq_true rfl) (by decide) (by decide) dX11_back_60 (t_X11_answer x0 v15 M14 h0) (fun v16 M17 => ?_)
      exact r_ireturn 63 hC hq (by decide) (by decide) dX11_back_63
    · exact hj22

/-! WaterTurnsModel.plain(I)V -/
theorem dX12_plain_0 : decode cX12_plain 0 = .ok (.iconst 0, 1) := by decide +kernel
theorem dX12_plain_1 : decode cX12_plain 1 = .ok (.istore_n 2, 1) := by decide +kernel
theorem dX12_plain_2 : decode cX12_plain 2 = .ok (.iload_n 2, 1) := by decide +kernel
theorem dX12_plain_3 : decode cX12_plain 3 = .ok (.sipush 640, 3) := by decide +kernel
theorem dX12_plain_6 : decode cX12_plain 6 = .ok (.if_icmp .ge 18, 3) := by decide +kernel
theorem dX12_plain_9 : decode cX12_plain 9 = .ok (.aload_n 0, 1) := by decide +kernel
theorem dX12_plain_10 : decode cX12_plain 10 = .ok (.getfield 7, 3) := by decide +kernel
theorem dX12_plain_13 : decode cX12_plain 13 = .ok (.iload_n 1, 1) := by decide +kernel
theorem dX12_plain_14 : decode cX12_plain 14 = .ok (.iload_n 2, 1) := by decide +kernel
theorem dX12_plain_15 : decode cX12_plain 15 = .ok (.iadd, 1) := by decide +kernel
theorem dX12_plain_16 : decode cX12_plain 16 = .ok (.iconst 0, 1) := by decide +kernel
theorem dX12_plain_17 : decode cX12_plain 17 = .ok (.iastore, 1) := by decide +kernel
theorem dX12_plain_18 : decode cX12_plain 18 = .ok (.iinc 2 1, 3) := by decide +kernel
theorem dX12_plain_21 : decode cX12_plain 21 = .ok (.goto (-19), 3) := by decide +kernel
theorem dX12_plain_24 : decode cX12_plain 24 = .ok (.aload_n 0, 1) := by decide +kernel
theorem dX12_plain_25 : decode cX12_plain 25 = .ok (.getfield 7, 3) := by decide +kernel
theorem dX12_plain_28 : decode cX12_plain 28 = .ok (.iload_n 1, 1) := by decide +kernel
theorem dX12_plain_29 : decode cX12_plain 29 = .ok (.iconst 0, 1) := by decide +kernel
theorem dX12_plain_30 : decode cX12_plain 30 = .ok (.iadd, 1) := by decide +kernel
theorem dX12_plain_31 : decode cX12_plain 31 = .ok (.bipush 100, 2) := by decide +kernel
theorem dX12_plain_33 : decode cX12_plain 33 = .ok (.iastore, 1) := by decide +kernel
theorem dX12_plain_34 : decode cX12_plain 34 = .ok (.aload_n 0, 1) := by decide +kernel
theorem dX12_plain_35 : decode cX12_plain 35 = .ok (.getfield 7, 3) := by decide +kernel
theorem dX12_plain_38 : decode cX12_plain 38 = .ok (.iload_n 1, 1) := by decide +kernel
theorem dX12_plain_39 : decode cX12_plain 39 = .ok (.iconst 1, 1) := by decide +kernel
theorem dX12_plain_40 : decode cX12_plain 40 = .ok (.iadd, 1) := by decide +kernel
theorem dX12_plain_41 : decode cX12_plain 41 = .ok (.sipush 1440, 3) := by decide +kernel
theorem dX12_plain_44 : decode cX12_plain 44 = .ok (.iastore, 1) := by decide +kernel
theorem dX12_plain_45 : decode cX12_plain 45 = .ok (.aload_n 0, 1) := by decide +kernel
theorem dX12_plain_46 : decode cX12_plain 46 = .ok (.getfield 7, 3) := by decide +kernel
theorem dX12_plain_49 : decode cX12_plain 49 = .ok (.iload_n 1, 1) := by decide +kernel
theorem dX12_plain_50 : decode cX12_plain 50 = .ok (.bipush 9, 2) := by decide +kernel
theorem dX12_plain_52 : decode cX12_plain 52 = .ok (.iadd, 1) := by decide +kernel
theorem dX12_plain_53 : decode cX12_plain 53 = .ok (.iconst (-1), 1) := by decide +kernel
theorem dX12_plain_54 : decode cX12_plain 54 = .ok (.iastore, 1) := by decide +kernel
theorem dX12_plain_55 : decode cX12_plain 55 = .ok (.return_, 1) := by decide +kernel
set_option maxRecDepth 100000 in
theorem f_X12_plain_L2_ok {E : EnvT} {C : Cx} {Mi : Mem} {x0 : Int} (h0 : x0 ≠ 0) (hC : CxOK E C cX12_plain 3 yX12_plain.cls 1 0 0) {M0 : Mem} (hq : RQ E C 0 0 Mi none none M0) {x1 : Int} {k : Mem → Option (Mem)} (hk : ∀ M5, Bk E C 3 Mi M0 24 [(0, 30, x0), (1, 0, x1)] [] M5 0 0 (k M5)) : ∀ (n : Nat) (p1 : Int) (M2 : Mem), Bk E C 3 Mi M0 2 [(0, 30, x0), (1, 0, x1), (2, 0, p1)] [] M2 0 0 (f_X12_plain_L2 x0 x1 k n p1 M2) := by
  intro n
  induction n with
  | zero =>
    intro p1 M2
    exact r_none
  | succ n ih =>
    intro p1 M2
    rw [f_X12_plain_L2]
    refine r_iload_n 2 hC 2 rfl rfl dX12_plain_2 ?_
    refine r_sipush 3 hC ks_640 dX12_plain_3 ?_
    refine r_icmp_ge 6 hC (tgt := 24) (by decide) dX12_plain_6 ?_ ?_
    · exact r_sub [0, 1] rfl (hk M2)
    · refine r_aload_n 9 hC 0 rfl (Or.inl (by decide)) rfl dX12_plain_9 ?_
      refine r_get 10 hC fd_10_0 fl_X12_7 dX12_plain_10 (fun v3 => ?_)
      refine r_iload_n 13 hC 1 rfl rfl dX12_plain_13 ?_
      refine r_iload_n 14 hC 2 rfl rfl dX12_plain_14 ?_
      refine r_iadd 15 hC dX12_plain_15 ?_
      refine r_iconst 16 hC (r32c rfl) dX12_plain_16 ?_
      refine r_iastore 17 hC dX12_plain_17 (fun M4 => ?_)
      refine r_iinc 18 hC 2 rfl (by decide) dX12_plain_18 (r_eqls (ls' := [(2, 0, w32 (p1 + 1)), (0, 30, x0), (1, 0, x1)]) rfl ?_)
      refine r_goto 21 hC (tgt := 2) (by decide) dX12_plain_21 ?_
      exact r_sub [1, 2, 0] rfl (ih (w32 (p1 + 1)) M4)
set_option maxRecDepth 100000 in
theorem t_X12_plain (x0 x1 : Int) (M : Mem) (h0 : x0 ≠ 0) : MtV yX12_plain cX12_plain 3 none 1 0 0 [(30, x0), (0, x1)] M (f_X12_plain x0 x1 M) := by
  refine mk_V (by decide +kernel) (Nat.le_of_ble_eq_true rfl) (fun E C M0 hC hq hin => ?_)
  refine r_eqls (ls' := [(0, 30, x0), (1, 0, x1)]) rfl ?_
  unfold f_X12_plain
  refine r_iconst 0 hC (r32c rfl) dX12_plain_0 ?_
  refine r_istore_n 1 hC rfl (by decide) dX12_plain_1 (r_eqls (ls' := [(2, 0, 0), (0, 30, x0), (1, 0, x1)]) rfl ?_)
  refine r_sub [1, 2, 0] rfl (f_X12_plain_L2_ok h0 hC hq (fun M6 => ?_) KF 0 M)
  · refine r_aload_n 24 hC 0 rfl (Or.inl (by decide)) rfl dX12_plain_24 ?_
    refine r_get 25 hC fd_10_0 fl_X12_7 dX12_plain_25 (fun v7 => ?_)
    refine r_iload_n 28 hC 1 rfl rfl dX12_plain_28 ?_
    refine r_iconst 29 hC (r32c rfl) dX12_plain_29 ?_
    refine r_iadd 30 hC dX12_plain_30 ?_
    refine r_bipush 31 hC kb_100 dX12_plain_31 ?_
    refine r_iastore 33 hC dX12_plain_33 (fun M8 => ?_)
    refine r_aload_n 34 hC 0 rfl (Or.inl (by decide)) rfl dX12_plain_34 ?_
    refine r_get 35 hC fd_10_0 fl_X12_7 dX12_plain_35 (fun v9 => ?_)
    refine r_iload_n 38 hC 1 rfl rfl dX12_plain_38 ?_
    refine r_iconst 39 hC (r32c rfl) dX12_plain_39 ?_
    refine r_iadd 40 hC dX12_plain_40 ?_
    refine r_sipush 41 hC ks_1440 dX12_plain_41 ?_
    refine r_iastore 44 hC dX12_plain_44 (fun M10 => ?_)
    refine r_aload_n 45 hC 0 rfl (Or.inl (by decide)) rfl dX12_plain_45 ?_
    refine r_get 46 hC fd_10_0 fl_X12_7 dX12_plain_46 (fun v11 => ?_)
    refine r_iload_n 49 hC 1 rfl rfl dX12_plain_49 ?_
    refine r_bipush 50 hC kb_9 dX12_plain_50 ?_
    refine r_iadd 52 hC dX12_plain_52 ?_
    refine r_iconst 53 hC (r32c rfl) dX12_plain_53 ?_
    refine r_iastore 54 hC dX12_plain_54 (fun M12 => ?_)
    exact r_return 55 hC hq (by decide) (by decide) dX12_plain_55

/-! WaterTurnsModel.<init>()V -/
theorem dX12_init_0 : decode cX12_init 0 = .ok (.aload_n 0, 1) := by decide +kernel
theorem dX12_init_1 : decode cX12_init 1 = .ok (.invokespecial 1, 3) := by decide +kernel
theorem dX12_init_4 : decode cX12_init 4 = .ok (.aload_n 0, 1) := by decide +kernel
theorem dX12_init_5 : decode cX12_init 5 = .ok (.sipush 3840, 3) := by decide +kernel
theorem dX12_init_8 : decode cX12_init 8 = .ok (.newarray .int, 2) := by decide +kernel
theorem dX12_init_10 : decode cX12_init 10 = .ok (.putfield 7, 3) := by decide +kernel
theorem dX12_init_13 : decode cX12_init 13 = .ok (.aload_n 0, 1) := by decide +kernel
theorem dX12_init_14 : decode cX12_init 14 = .ok (.sipush 140, 3) := by decide +kernel
theorem dX12_init_17 : decode cX12_init 17 = .ok (.newarray .long, 2) := by decide +kernel
theorem dX12_init_19 : decode cX12_init 19 = .ok (.putfield 13, 3) := by decide +kernel
theorem dX12_init_22 : decode cX12_init 22 = .ok (.aload_n 0, 1) := by decide +kernel
theorem dX12_init_23 : decode cX12_init 23 = .ok (.lconst 1, 1) := by decide +kernel
theorem dX12_init_24 : decode cX12_init 24 = .ok (.putfield 17, 3) := by decide +kernel
theorem dX12_init_27 : decode cX12_init 27 = .ok (.aload_n 0, 1) := by decide +kernel
theorem dX12_init_28 : decode cX12_init 28 = .ok (.iconst 4, 1) := by decide +kernel
theorem dX12_init_29 : decode cX12_init 29 = .ok (.newarray .int, 2) := by decide +kernel
theorem dX12_init_31 : decode cX12_init 31 = .ok (.putfield 21, 3) := by decide +kernel
theorem dX12_init_34 : decode cX12_init 34 = .ok (.aload_n 0, 1) := by decide +kernel
theorem dX12_init_35 : decode cX12_init 35 = .ok (.iconst 4, 1) := by decide +kernel
theorem dX12_init_36 : decode cX12_init 36 = .ok (.newarray .int, 2) := by decide +kernel
theorem dX12_init_38 : decode cX12_init 38 = .ok (.dup, 1) := by decide +kernel
theorem dX12_init_39 : decode cX12_init 39 = .ok (.iconst 0, 1) := by decide +kernel
theorem dX12_init_40 : decode cX12_init 40 = .ok (.iconst (-1), 1) := by decide +kernel
theorem dX12_init_41 : decode cX12_init 41 = .ok (.iastore, 1) := by decide +kernel
theorem dX12_init_42 : decode cX12_init 42 = .ok (.dup, 1) := by decide +kernel
theorem dX12_init_43 : decode cX12_init 43 = .ok (.iconst 1, 1) := by decide +kernel
theorem dX12_init_44 : decode cX12_init 44 = .ok (.iconst (-1), 1) := by decide +kernel
theorem dX12_init_45 : decode cX12_init 45 = .ok (.iastore, 1) := by decide +kernel
theorem dX12_init_46 : decode cX12_init 46 = .ok (.dup, 1) := by decide +kernel
theorem dX12_init_47 : decode cX12_init 47 = .ok (.iconst 2, 1) := by decide +kernel
theorem dX12_init_48 : decode cX12_init 48 = .ok (.iconst (-1), 1) := by decide +kernel
theorem dX12_init_49 : decode cX12_init 49 = .ok (.iastore, 1) := by decide +kernel
theorem dX12_init_50 : decode cX12_init 50 = .ok (.dup, 1) := by decide +kernel
theorem dX12_init_51 : decode cX12_init 51 = .ok (.iconst 3, 1) := by decide +kernel
theorem dX12_init_52 : decode cX12_init 52 = .ok (.iconst (-1), 1) := by decide +kernel
theorem dX12_init_53 : decode cX12_init 53 = .ok (.iastore, 1) := by decide +kernel
theorem dX12_init_54 : decode cX12_init 54 = .ok (.putfield 24, 3) := by decide +kernel
theorem dX12_init_57 : decode cX12_init 57 = .ok (.aload_n 0, 1) := by decide +kernel
theorem dX12_init_58 : decode cX12_init 58 = .ok (.sipush 240, 3) := by decide +kernel
theorem dX12_init_61 : decode cX12_init 61 = .ok (.newarray .long, 2) := by decide +kernel
theorem dX12_init_63 : decode cX12_init 63 = .ok (.putfield 27, 3) := by decide +kernel
theorem dX12_init_66 : decode cX12_init 66 = .ok (.aload_n 0, 1) := by decide +kernel
theorem dX12_init_67 : decode cX12_init 67 = .ok (.sipush 900, 3) := by decide +kernel
theorem dX12_init_70 : decode cX12_init 70 = .ok (.newarray .byte, 2) := by decide +kernel
theorem dX12_init_72 : decode cX12_init 72 = .ok (.putfield 30, 3) := by decide +kernel
theorem dX12_init_75 : decode cX12_init 75 = .ok (.aload_n 0, 1) := by decide +kernel
theorem dX12_init_76 : decode cX12_init 76 = .ok (.sipush 900, 3) := by decide +kernel
theorem dX12_init_79 : decode cX12_init 79 = .ok (.newarray .byte, 2) := by decide +kernel
theorem dX12_init_81 : decode cX12_init 81 = .ok (.putfield 34, 3) := by decide +kernel
theorem dX12_init_84 : decode cX12_init 84 = .ok (.aload_n 0, 1) := by decide +kernel
theorem dX12_init_85 : decode cX12_init 85 = .ok (.iconst (-1), 1) := by decide +kernel
theorem dX12_init_86 : decode cX12_init 86 = .ok (.putfield 37, 3) := by decide +kernel
theorem dX12_init_89 : decode cX12_init 89 = .ok (.aload_n 0, 1) := by decide +kernel
theorem dX12_init_90 : decode cX12_init 90 = .ok (.iconst (-1), 1) := by decide +kernel
theorem dX12_init_91 : decode cX12_init 91 = .ok (.putfield 41, 3) := by decide +kernel
theorem dX12_init_94 : decode cX12_init 94 = .ok (.aload_n 0, 1) := by decide +kernel
theorem dX12_init_95 : decode cX12_init 95 = .ok (.bipush 12, 2) := by decide +kernel
theorem dX12_init_97 : decode cX12_init 97 = .ok (.newarray .int, 2) := by decide +kernel
theorem dX12_init_99 : decode cX12_init 99 = .ok (.putfield 44, 3) := by decide +kernel
theorem dX12_init_102 : decode cX12_init 102 = .ok (.aload_n 0, 1) := by decide +kernel
theorem dX12_init_103 : decode cX12_init 103 = .ok (.iconst 3, 1) := by decide +kernel
theorem dX12_init_104 : decode cX12_init 104 = .ok (.newarray .int, 2) := by decide +kernel
theorem dX12_init_106 : decode cX12_init 106 = .ok (.putfield 47, 3) := by decide +kernel
theorem dX12_init_109 : decode cX12_init 109 = .ok (.aload_n 0, 1) := by decide +kernel
theorem dX12_init_110 : decode cX12_init 110 = .ok (.bipush 10, 2) := by decide +kernel
theorem dX12_init_112 : decode cX12_init 112 = .ok (.newarray .int, 2) := by decide +kernel
theorem dX12_init_114 : decode cX12_init 114 = .ok (.putfield 50, 3) := by decide +kernel
theorem dX12_init_117 : decode cX12_init 117 = .ok (.aload_n 0, 1) := by decide +kernel
theorem dX12_init_118 : decode cX12_init 118 = .ok (.bipush 24, 2) := by decide +kernel
theorem dX12_init_120 : decode cX12_init 120 = .ok (.newarray .int, 2) := by decide +kernel
theorem dX12_init_122 : decode cX12_init 122 = .ok (.putfield 53, 3) := by decide +kernel
theorem dX12_init_125 : decode cX12_init 125 = .ok (.aload_n 0, 1) := by decide +kernel
theorem dX12_init_126 : decode cX12_init 126 = .ok (.bipush 24, 2) := by decide +kernel
theorem dX12_init_128 : decode cX12_init 128 = .ok (.newarray .int, 2) := by decide +kernel
theorem dX12_init_130 : decode cX12_init 130 = .ok (.putfield 56, 3) := by decide +kernel
theorem dX12_init_133 : decode cX12_init 133 = .ok (.aload_n 0, 1) := by decide +kernel
theorem dX12_init_134 : decode cX12_init 134 = .ok (.bipush 24, 2) := by decide +kernel
theorem dX12_init_136 : decode cX12_init 136 = .ok (.newarray .int, 2) := by decide +kernel
theorem dX12_init_138 : decode cX12_init 138 = .ok (.putfield 59, 3) := by decide +kernel
theorem dX12_init_141 : decode cX12_init 141 = .ok (.aload_n 0, 1) := by decide +kernel
theorem dX12_init_142 : decode cX12_init 142 = .ok (.iconst (-1), 1) := by decide +kernel
theorem dX12_init_143 : decode cX12_init 143 = .ok (.putfield 62, 3) := by decide +kernel
theorem dX12_init_146 : decode cX12_init 146 = .ok (.aload_n 0, 1) := by decide +kernel
theorem dX12_init_147 : decode cX12_init 147 = .ok (.sipush 1440, 3) := by decide +kernel
theorem dX12_init_150 : decode cX12_init 150 = .ok (.newarray .int, 2) := by decide +kernel
theorem dX12_init_152 : decode cX12_init 152 = .ok (.putfield 65, 3) := by decide +kernel
theorem dX12_init_155 : decode cX12_init 155 = .ok (.aload_n 0, 1) := by decide +kernel
theorem dX12_init_156 : decode cX12_init 156 = .ok (.bipush 80, 2) := by decide +kernel
theorem dX12_init_158 : decode cX12_init 158 = .ok (.newarray .int, 2) := by decide +kernel
theorem dX12_init_160 : decode cX12_init 160 = .ok (.putfield 68, 3) := by decide +kernel
theorem dX12_init_163 : decode cX12_init 163 = .ok (.aload_n 0, 1) := by decide +kernel
theorem dX12_init_164 : decode cX12_init 164 = .ok (.iconst 4, 1) := by decide +kernel
theorem dX12_init_165 : decode cX12_init 165 = .ok (.newarray .int, 2) := by decide +kernel
theorem dX12_init_167 : decode cX12_init 167 = .ok (.putfield 71, 3) := by decide +kernel
theorem dX12_init_170 : decode cX12_init 170 = .ok (.aload_n 0, 1) := by decide +kernel
theorem dX12_init_171 : decode cX12_init 171 = .ok (.iconst 4, 1) := by decide +kernel
theorem dX12_init_172 : decode cX12_init 172 = .ok (.newarray .int, 2) := by decide +kernel
theorem dX12_init_174 : decode cX12_init 174 = .ok (.putfield 74, 3) := by decide +kernel
theorem dX12_init_177 : decode cX12_init 177 = .ok (.aload_n 0, 1) := by decide +kernel
theorem dX12_init_178 : decode cX12_init 178 = .ok (.iconst 0, 1) := by decide +kernel
theorem dX12_init_179 : decode cX12_init 179 = .ok (.invokevirtual 77, 3) := by decide +kernel
theorem dX12_init_182 : decode cX12_init 182 = .ok (.return_, 1) := by decide +kernel
set_option maxRecDepth 100000 in
theorem t_X12_init (x0 : Int) (M : Mem) (h0 : x0 ≠ 0) : MtV yX12_init cX12_init 1 none 2 17 7653 [(30, x0)] M (f_X12_init x0 M) := by
  refine mk_V (by decide +kernel) (Nat.le_of_ble_eq_true rfl) (fun E C M0 hC hq hin => ?_)
  refine r_eqls (ls' := [(0, 30, x0)]) rfl ?_
  unfold f_X12_init
  refine r_aload_n 0 hC 0 rfl (Or.inl (by decide)) rfl dX12_init_0 ?_
  refine r_objinit 1 hC ob_X12_1 obj_i obj_c (by decide) h0 (by decide) (Nat.le_of_ble_eq_true rfl) dX12_init_1 ?_
  refine r_aload_n 4 hC 0 rfl (Or.inl (by decide)) rfl dX12_init_4 ?_
  refine r_sipush 5 hC ks_3840 dX12_init_5 ?_
  refine r_newa 8 hC (N := 3840) rfl (by decide) (by decide) (by decide) rfl (fun _ _ => Iff.rfl) nad_10 (fun _ => nao_10) (by decide) nac_10 (by decide) (by decide) dX12_init_8 (fun v1 M2 => ?_)
  refine r_putF 10 hC hin fd_10_0 fl_X12_7 dX12_init_10 (fun M3 => ?_)
  refine r_aload_n 13 hC 0 rfl (Or.inl (by decide)) rfl dX12_init_13 ?_
  refine r_sipush 14 hC ks_140 dX12_init_14 ?_
  refine r_newa 17 hC (N := 140) rfl (by decide) (by decide) (by decide) rfl (fun _ _ => Iff.rfl) nad_11 (fun _ => nao_11) (by decide) nac_11 (by decide) (by decide) dX12_init_17 (fun v4 M5 => ?_)
  refine r_putF 19 hC hin fd_10_1 fl_X12_13 dX12_init_19 (fun M6 => ?_)
  refine r_aload_n 22 hC 0 rfl (Or.inl (by decide)) rfl dX12_init_22 ?_
  refine r_lconst 23 hC (x := 1) ⟨by decide +kernel, r64c rfl⟩ dX12_init_23 ?_
  refine r_put 24 hC fd_10_4 fl_X12_17 dX12_init_24 (fun M7 => ?_)
  refine r_aload_n 27 hC 0 rfl (Or.inl (by decide)) rfl dX12_init_27 ?_
  refine r_iconst 28 hC (r32c rfl) dX12_init_28 ?_
  refine r_newa 29 hC (N := 4) rfl (by decide) (by decide) (by decide) rfl (fun _ _ => Iff.rfl) nad_10 (fun _ => nao_10) (by decide) nac_10 (by decide) (by decide) dX12_init_29 (fun v8 M9 => ?_)
  refine r_putF 31 hC hin fd_10_5 fl_X12_21 dX12_init_31 (fun M10 => ?_)
  refine r_aload_n 34 hC 0 rfl (Or.inl (by decide)) rfl dX12_init_34 ?_
  refine r_iconst 35 hC (r32c rfl) dX12_init_35 ?_
  refine r_newa 36 hC (N := 4) rfl (by decide) (by decide) (by decide) rfl (fun _ _ => Iff.rfl) nad_10 (fun _ => nao_10) (by decide) nac_10 (by decide) (by decide) dX12_init_36 (fun v11 M12 => ?_)
  refine r_dup 38 hC (by decide) dX12_init_38 ?_
  refine r_iconst 39 hC (r32c rfl) dX12_init_39 ?_
  refine r_iconst 40 hC (r32c rfl) dX12_init_40 ?_
  refine r_iastore 41 hC dX12_init_41 (fun M13 => ?_)
  refine r_dup 42 hC (by decide) dX12_init_42 ?_
  refine r_iconst 43 hC (r32c rfl) dX12_init_43 ?_
  refine r_iconst 44 hC (r32c rfl) dX12_init_44 ?_
  refine r_iastore 45 hC dX12_init_45 (fun M14 => ?_)
  refine r_dup 46 hC (by decide) dX12_init_46 ?_
  refine r_iconst 47 hC (r32c rfl) dX12_init_47 ?_
  refine r_iconst 48 hC (r32c rfl) dX12_init_48 ?_
  refine r_iastore 49 hC dX12_init_49 (fun M15 => ?_)
  refine r_dup 50 hC (by decide) dX12_init_50 ?_
  refine r_iconst 51 hC (r32c rfl) dX12_init_51 ?_
  refine r_iconst 52 hC (r32c rfl) dX12_init_52 ?_
  refine r_iastore 53 hC dX12_init_53 (fun M16 => ?_)
  refine r_putF 54 hC hin fd_10_6 fl_X12_24 dX12_init_54 (fun M17 => ?_)
  refine r_aload_n 57 hC 0 rfl (Or.inl (by decide)) rfl dX12_init_57 ?_
  refine r_sipush 58 hC ks_240 dX12_init_58 ?_
  refine r_newa 61 hC (N := 240) rfl (by decide) (by decide) (by decide) rfl (fun _ _ => Iff.rfl) nad_11 (fun _ => nao_11) (by decide) nac_11 (by decide) (by decide) dX12_init_61 (fun v18 M19 => ?_)
  refine r_putF 63 hC hin fd_10_7 fl_X12_27 dX12_init_63 (fun M20 => ?_)
  refine r_aload_n 66 hC 0 rfl (Or.inl (by decide)) rfl dX12_init_66 ?_
  refine r_sipush 67 hC ks_900 dX12_init_67 ?_
  refine r_newa 70 hC (N := 900) rfl (by decide) (by decide) (by decide) rfl (fun _ _ => Iff.rfl) nad_12 (fun _ => nao_12) (by decide) nac_12 (by decide) (by decide) dX12_init_70 (fun v21 M22 => ?_)
  refine r_putF 72 hC hin fd_10_8 fl_X12_30 dX12_init_72 (fun M23 => ?_)
  refine r_aload_n 75 hC 0 rfl (Or.inl (by decide)) rfl dX12_init_75 ?_
  refine r_sipush 76 hC ks_900 dX12_init_76 ?_
  refine r_newa 79 hC (N := 900) rfl (by decide) (by decide) (by decide) rfl (fun _ _ => Iff.rfl) nad_12 (fun _ => nao_12) (by decide) nac_12 (by decide) (by decide) dX12_init_79 (fun v24 M25 => ?_)
  refine r_putF 81 hC hin fd_10_9 fl_X12_34 dX12_init_81 (fun M26 => ?_)
  refine r_aload_n 84 hC 0 rfl (Or.inl (by decide)) rfl dX12_init_84 ?_
  refine r_iconst 85 hC (r32c rfl) dX12_init_85 ?_
  refine r_put 86 hC fd_10_16 fl_X12_37 dX12_init_86 (fun M27 => ?_)
  refine r_aload_n 89 hC 0 rfl (Or.inl (by decide)) rfl dX12_init_89 ?_
  refine r_iconst 90 hC (r32c rfl) dX12_init_90 ?_
  refine r_put 91 hC fd_10_17 fl_X12_41 dX12_init_91 (fun M28 => ?_)
  refine r_aload_n 94 hC 0 rfl (Or.inl (by decide)) rfl dX12_init_94 ?_
  refine r_bipush 95 hC kb_12 dX12_init_95 ?_
  refine r_newa 97 hC (N := 12) rfl (by decide) (by decide) (by decide) rfl (fun _ _ => Iff.rfl) nad_10 (fun _ => nao_10) (by decide) nac_10 (by decide) (by decide) dX12_init_97 (fun v29 M30 => ?_)
  refine r_putF 99 hC hin fd_10_21 fl_X12_44 dX12_init_99 (fun M31 => ?_)
  refine r_aload_n 102 hC 0 rfl (Or.inl (by decide)) rfl dX12_init_102 ?_
  refine r_iconst 103 hC (r32c rfl) dX12_init_103 ?_
  refine r_newa 104 hC (N := 3) rfl (by decide) (by decide) (by decide) rfl (fun _ _ => Iff.rfl) nad_10 (fun _ => nao_10) (by decide) nac_10 (by decide) (by decide) dX12_init_104 (fun v32 M33 => ?_)
  refine r_putF 106 hC hin fd_10_22 fl_X12_47 dX12_init_106 (fun M34 => ?_)
  refine r_aload_n 109 hC 0 rfl (Or.inl (by decide)) rfl dX12_init_109 ?_
  refine r_bipush 110 hC kb_10 dX12_init_110 ?_
  refine r_newa 112 hC (N := 10) rfl (by decide) (by decide) (by decide) rfl (fun _ _ => Iff.rfl) nad_10 (fun _ => nao_10) (by decide) nac_10 (by decide) (by decide) dX12_init_112 (fun v35 M36 => ?_)
  refine r_putF 114 hC hin fd_10_25 fl_X12_50 dX12_init_114 (fun M37 => ?_)
  refine r_aload_n 117 hC 0 rfl (Or.inl (by decide)) rfl dX12_init_117 ?_
  refine r_bipush 118 hC kb_24 dX12_init_118 ?_
  refine r_newa 120 hC (N := 24) rfl (by decide) (by decide) (by decide) rfl (fun _ _ => Iff.rfl) nad_10 (fun _ => nao_10) (by decide) nac_10 (by decide) (by decide) dX12_init_120 (fun v38 M39 => ?_)
  refine r_putF 122 hC hin fd_10_27 fl_X12_53 dX12_init_122 (fun M40 => ?_)
  refine r_aload_n 125 hC 0 rfl (Or.inl (by decide)) rfl dX12_init_125 ?_
  refine r_bipush 126 hC kb_24 dX12_init_126 ?_
  refine r_newa 128 hC (N := 24) rfl (by decide) (by decide) (by decide) rfl (fun _ _ => Iff.rfl) nad_10 (fun _ => nao_10) (by decide) nac_10 (by decide) (by decide) dX12_init_128 (fun v41 M42 => ?_)
  refine r_putF 130 hC hin fd_10_28 fl_X12_56 dX12_init_130 (fun M43 => ?_)
  refine r_aload_n 133 hC 0 rfl (Or.inl (by decide)) rfl dX12_init_133 ?_
  refine r_bipush 134 hC kb_24 dX12_init_134 ?_
  refine r_newa 136 hC (N := 24) rfl (by decide) (by decide) (by decide) rfl (fun _ _ => Iff.rfl) nad_10 (fun _ => nao_10) (by decide) nac_10 (by decide) (by decide) dX12_init_136 (fun v44 M45 => ?_)
  refine r_putF 138 hC hin fd_10_29 fl_X12_59 dX12_init_138 (fun M46 => ?_)
  refine r_aload_n 141 hC 0 rfl (Or.inl (by decide)) rfl dX12_init_141 ?_
  refine r_iconst 142 hC (r32c rfl) dX12_init_142 ?_
  refine r_put 143 hC fd_10_34 fl_X12_62 dX12_init_143 (fun M47 => ?_)
  refine r_aload_n 146 hC 0 rfl (Or.inl (by decide)) rfl dX12_init_146 ?_
  refine r_sipush 147 hC ks_1440 dX12_init_147 ?_
  refine r_newa 150 hC (N := 1440) rfl (by decide) (by decide) (by decide) rfl (fun _ _ => Iff.rfl) nad_10 (fun _ => nao_10) (by decide) nac_10 (by decide) (by decide) dX12_init_150 (fun v48 M49 => ?_)
  refine r_putF 152 hC hin fd_10_35 fl_X12_65 dX12_init_152 (fun M50 => ?_)
  refine r_aload_n 155 hC 0 rfl (Or.inl (by decide)) rfl dX12_init_155 ?_
  refine r_bipush 156 hC kb_80 dX12_init_156 ?_
  refine r_newa 158 hC (N := 80) rfl (by decide) (by decide) (by decide) rfl (fun _ _ => Iff.rfl) nad_10 (fun _ => nao_10) (by decide) nac_10 (by decide) (by decide) dX12_init_158 (fun v51 M52 => ?_)
  refine r_putF 160 hC hin fd_10_38 fl_X12_68 dX12_init_160 (fun M53 => ?_)
  refine r_aload_n 163 hC 0 rfl (Or.inl (by decide)) rfl dX12_init_163 ?_
  refine r_iconst 164 hC (r32c rfl) dX12_init_164 ?_
  refine r_newa 165 hC (N := 4) rfl (by decide) (by decide) (by decide) rfl (fun _ _ => Iff.rfl) nad_10 (fun _ => nao_10) (by decide) nac_10 (by decide) (by decide) dX12_init_165 (fun v54 M55 => ?_)
  refine r_putF 167 hC hin fd_10_39 fl_X12_71 dX12_init_167 (fun M56 => ?_)
  refine r_aload_n 170 hC 0 rfl (Or.inl (by decide)) rfl dX12_init_170 ?_
  refine r_iconst 171 hC (r32c rfl) dX12_init_171 ?_
  refine r_newa 172 hC (N := 4) rfl (by decide) (by decide) (by decide) rfl (fun _ _ => Iff.rfl) nad_10 (fun _ => nao_10) (by decide) nac_10 (by decide) (by decide) dX12_init_172 (fun v57 M58 => ?_)
  refine r_putF 174 hC hin fd_10_40 fl_X12_74 dX12_init_174 (fun M59 => ?_)
  refine r_aload_n 177 hC 0 rfl (Or.inl (by decide)) rfl dX12_init_177 ?_
  refine r_iconst 178 hC (r32c rfl) dX12_init_178 ?_
  refine r_callVV 179 hC [(0, 0)] [] rfl vl_X12_77 rfl h0 (by decide) (Nat.le_of_ble_eq_true rfl) (by decide) (by decide) dX12_init_179 (t_X12_plain x0 0 M59 h0) (fun M60 => ?_)
  exact r_return 182 hC hq (by decide) (by decide) dX12_init_182

/-! WaterTurnsModel.status()I -/
theorem dX12_status_0 : decode cX12_status 0 = .ok (.aload_n 0, 1) := by decide +kernel
theorem dX12_status_1 : decode cX12_status 1 = .ok (.getfield 81, 3) := by decide +kernel
theorem dX12_status_4 : decode cX12_status 4 = .ok (.ireturn, 1) := by decide +kernel
set_option maxRecDepth 100000 in
theorem t_X12_status (x0 : Int) (M : Mem) (h0 : x0 ≠ 0) : MtP yX12_status cX12_status 1 (some .int) 1 0 0 [(30, x0)] M 0 (f_X12_status x0 M) := by
  refine mk_P (by decide +kernel) (Nat.le_of_ble_eq_true rfl) (fun E C r0 hC hq hin => ?_)
  refine r_eqls (ls' := [(0, 30, x0)]) rfl ?_
  unfold f_X12_status
  refine r_aload_n 0 hC 0 rfl (Or.inl (by decide)) rfl dX12_status_0 ?_
  refine r_get 1 hC fd_10_2 fl_X12_81 dX12_status_1 (fun v1 => ?_)
  exact r_ireturnP 4 hC hq (by decide) (by decide) dX12_status_4

/-! WaterTurnsModel.top()J -/
theorem dX12_top_0 : decode cX12_top 0 = .ok (.aload_n 0, 1) := by decide +kernel
theorem dX12_top_1 : decode cX12_top 1 = .ok (.getfield 84, 3) := by decide +kernel
theorem dX12_top_4 : decode cX12_top 4 = .ok (.lreturn, 1) := by decide +kernel
set_option maxRecDepth 100000 in
theorem t_X12_top (x0 : Int) (M : Mem) (h0 : x0 ≠ 0) : MtP yX12_top cX12_top 1 (some .long) 1 0 0 [(30, x0)] M 1 (f_X12_top x0 M) := by
  refine mk_P (by decide +kernel) (Nat.le_of_ble_eq_true rfl) (fun E C r0 hC hq hin => ?_)
  refine r_eqls (ls' := [(0, 30, x0)]) rfl ?_
  unfold f_X12_top
  refine r_aload_n 0 hC 0 rfl (Or.inl (by decide)) rfl dX12_top_0 ?_
  refine r_get 1 hC fd_10_3 fl_X12_84 dX12_top_1 (fun v1 => ?_)
  exact r_lreturnP 4 hC hq (by decide) (by decide) dX12_top_4

/-! WaterTurnsModel.bottom()J -/
theorem dX12_bottom_0 : decode cX12_bottom 0 = .ok (.aload_n 0, 1) := by decide +kernel
theorem dX12_bottom_1 : decode cX12_bottom 1 = .ok (.getfield 17, 3) := by decide +kernel
theorem dX12_bottom_4 : decode cX12_bottom 4 = .ok (.lreturn, 1) := by decide +kernel
set_option maxRecDepth 100000 in
theorem t_X12_bottom (x0 : Int) (M : Mem) (h0 : x0 ≠ 0) : MtP yX12_bottom cX12_bottom 1 (some .long) 1 0 0 [(30, x0)] M 1 (f_X12_bottom x0 M) := by
  refine mk_P (by decide +kernel) (Nat.le_of_ble_eq_true rfl) (fun E C r0 hC hq hin => ?_)
  refine r_eqls (ls' := [(0, 30, x0)]) rfl ?_
  unfold f_X12_bottom
  refine r_aload_n 0 hC 0 rfl (Or.inl (by decide)) rfl dX12_bottom_0 ?_
  refine r_get 1 hC fd_10_4 fl_X12_17 dX12_bottom_1 (fun v1 => ?_)
  exact r_lreturnP 4 hC hq (by decide) (by decide) dX12_bottom_4

/-! WaterTurnsModel.is(I)Z -/
theorem dX12_is_0 : decode cX12_is 0 = .ok (.aload_n 0, 1) := by decide +kernel
theorem dX12_is_1 : decode cX12_is 1 = .ok (.iload_n 1, 1) := by decide +kernel
theorem dX12_is_2 : decode cX12_is 2 = .ok (.putfield 81, 3) := by decide +kernel
theorem dX12_is_5 : decode cX12_is 5 = .ok (.iload_n 1, 1) := by decide +kernel
theorem dX12_is_6 : decode cX12_is 6 = .ok (.ifCond .ne 7, 3) := by decide +kernel
theorem dX12_is_9 : decode cX12_is 9 = .ok (.iconst 1, 1) := by decide +kernel
theorem dX12_is_10 : decode cX12_is 10 = .ok (.goto 4, 3) := by decide +kernel
theorem dX12_is_13 : decode cX12_is 13 = .ok (.iconst 0, 1) := by decide +kernel
theorem dX12_is_14 : decode cX12_is 14 = .ok (.ireturn, 1) := by decide +kernel
set_option maxRecDepth 100000 in
theorem t_X12_is (x0 x1 : Int) (M : Mem) (h0 : x0 ≠ 0) : MtI yX12_is cX12_is 2 (some .boolean) 1 0 0 [(30, x0), (0, x1)] M 0 (f_X12_is x0 x1 M) := by
  refine mk_I (by decide +kernel) (Nat.le_of_ble_eq_true rfl) (fun E C r0 M0 hC hq hin => ?_)
  refine r_eqls (ls' := [(0, 30, x0), (1, 0, x1)]) rfl ?_
  unfold f_X12_is
  refine r_aload_n 0 hC 0 rfl (Or.inl (by decide)) rfl dX12_is_0 ?_
  refine r_iload_n 1 hC 1 rfl rfl dX12_is_1 ?_
  refine r_put 2 hC fd_10_2 fl_X12_81 dX12_is_2 (fun M1 => ?_)
  refine r_iload_n 5 hC 1 rfl rfl dX12_is_5 ?_
  refine r_jn (P := fun j14 => ∀ (q2 : Int), Bk E C 2 M (r0, M0) 14 [] [(0, q2)] M1 0 0 (j14 q2)) ?_ (fun j14 hj14 => ?_)
  · intro q2
    exact r_zreturn 14 hC hq (by decide) (by decide) dX12_is_14
  refine r_if_ne 6 hC (tgt := 13) (by decide) dX12_is_6 ?_ ?_
  · refine r_iconst 13 hC (r32c rfl) dX12_is_13 ?_
    exact r_sub [] rfl (hj14 0)
  · refine r_iconst 9 hC (r32c rfl) dX12_is_9 ?_
    refine r_goto 10 hC (tgt := 14) (by decide) dX12_is_10 ?_
    exact r_sub [] rfl (hj14 1)

/-! WaterTurnsModel.refuse(I)I -/
theorem dX12_refuse_0 : decode cX12_refuse 0 = .ok (.aload_n 0, 1) := by decide +kernel
theorem dX12_refuse_1 : decode cX12_refuse 1 = .ok (.iload_n 1, 1) := by decide +kernel
theorem dX12_refuse_2 : decode cX12_refuse 2 = .ok (.putfield 81, 3) := by decide +kernel
theorem dX12_refuse_5 : decode cX12_refuse 5 = .ok (.iconst (-1), 1) := by decide +kernel
theorem dX12_refuse_6 : decode cX12_refuse 6 = .ok (.ireturn, 1) := by decide +kernel
set_option maxRecDepth 100000 in
theorem t_X12_refuse (x0 x1 : Int) (M : Mem) (h0 : x0 ≠ 0) : MtI yX12_refuse cX12_refuse 2 (some .int) 1 0 0 [(30, x0), (0, x1)] M 0 (f_X12_refuse x0 x1 M) := by
  refine mk_I (by decide +kernel) (Nat.le_of_ble_eq_true rfl) (fun E C r0 M0 hC hq hin => ?_)
  refine r_eqls (ls' := [(0, 30, x0), (1, 0, x1)]) rfl ?_
  unfold f_X12_refuse
  refine r_aload_n 0 hC 0 rfl (Or.inl (by decide)) rfl dX12_refuse_0 ?_
  refine r_iload_n 1 hC 1 rfl rfl dX12_refuse_1 ?_
  refine r_put 2 hC fd_10_2 fl_X12_81 dX12_refuse_2 (fun M1 => ?_)
  refine r_iconst 5 hC (r32c rfl) dX12_refuse_5 ?_
  exact r_ireturn 6 hC hq (by decide) (by decide) dX12_refuse_6

/-! WaterTurnsModel.gives(I)I -/
theorem dX12_gives_0 : decode cX12_gives 0 = .ok (.aload_n 0, 1) := by decide +kernel
theorem dX12_gives_1 : decode cX12_gives 1 = .ok (.iconst 0, 1) := by decide +kernel
theorem dX12_gives_2 : decode cX12_gives 2 = .ok (.putfield 81, 3) := by decide +kernel
theorem dX12_gives_5 : decode cX12_gives 5 = .ok (.iload_n 1, 1) := by decide +kernel
theorem dX12_gives_6 : decode cX12_gives 6 = .ok (.ireturn, 1) := by decide +kernel
set_option maxRecDepth 100000 in
theorem t_X12_gives (x0 x1 : Int) (M : Mem) (h0 : x0 ≠ 0) : MtI yX12_gives cX12_gives 2 (some .int) 1 0 0 [(30, x0), (0, x1)] M 0 (f_X12_gives x0 x1 M) := by
  refine mk_I (by decide +kernel) (Nat.le_of_ble_eq_true rfl) (fun E C r0 M0 hC hq hin => ?_)
  refine r_eqls (ls' := [(0, 30, x0), (1, 0, x1)]) rfl ?_
  unfold f_X12_gives
  refine r_aload_n 0 hC 0 rfl (Or.inl (by decide)) rfl dX12_gives_0 ?_
  refine r_iconst 1 hC (r32c rfl) dX12_gives_1 ?_
  refine r_put 2 hC fd_10_2 fl_X12_81 dX12_gives_2 (fun M1 => ?_)
  refine r_iload_n 5 hC 1 rfl rfl dX12_gives_5 ?_
  exact r_ireturn 6 hC hq (by decide) (by decide) dX12_gives_6

/-! WaterTurnsModel.orNone(I)I -/
theorem dX12_orNone_0 : decode cX12_orNone 0 = .ok (.iload_n 1, 1) := by decide +kernel
theorem dX12_orNone_1 : decode cX12_orNone 1 = .ok (.iconst (-1), 1) := by decide +kernel
theorem dX12_orNone_2 : decode cX12_orNone 2 = .ok (.if_icmp .ne 12, 3) := by decide +kernel
theorem dX12_orNone_5 : decode cX12_orNone 5 = .ok (.aload_n 0, 1) := by decide +kernel
theorem dX12_orNone_6 : decode cX12_orNone 6 = .ok (.bipush 6, 2) := by decide +kernel
theorem dX12_orNone_8 : decode cX12_orNone 8 = .ok (.invokevirtual 87, 3) := by decide +kernel
theorem dX12_orNone_11 : decode cX12_orNone 11 = .ok (.goto 8, 3) := by decide +kernel
theorem dX12_orNone_14 : decode cX12_orNone 14 = .ok (.aload_n 0, 1) := by decide +kernel
theorem dX12_orNone_15 : decode cX12_orNone 15 = .ok (.iload_n 1, 1) := by decide +kernel
theorem dX12_orNone_16 : decode cX12_orNone 16 = .ok (.invokevirtual 91, 3) := by decide +kernel
theorem dX12_orNone_19 : decode cX12_orNone 19 = .ok (.ireturn, 1) := by decide +kernel
set_option maxRecDepth 100000 in
theorem t_X12_orNone (x0 x1 : Int) (M : Mem) (h0 : x0 ≠ 0) : MtI yX12_orNone cX12_orNone 2 (some .int) 2 0 0 [(30, x0), (0, x1)] M 0 (f_X12_orNone x0 x1 M) := by
  refine mk_I (by decide +kernel) (Nat.le_of_ble_eq_true rfl) (fun E C r0 M0 hC hq hin => ?_)
  refine r_eqls (ls' := [(0, 30, x0), (1, 0, x1)]) rfl ?_
  unfold f_X12_orNone
  refine r_iload_n 0 hC 1 rfl rfl dX12_orNone_0 ?_
  refine r_iconst 1 hC (r32c rfl) dX12_orNone_1 ?_
  refine r_jn (P := fun j19 => ∀ (q1 : Int) (M2 : Mem), Bk E C 2 M (r0, M0) 19 [] [(0, q1)] M2 0 0 (j19 q1 M2)) ?_ (fun j19 hj19 => ?_)
  · intro q1 M2
    exact r_ireturn 19 hC hq (by decide) (by decide) dX12_orNone_19
  refine r_icmp_ne 2 hC (tgt := 14) (by decide) dX12_orNone_2 ?_ ?_
  · refine r_aload_n 14 hC 0 rfl (Or.inl (by decide)) rfl dX12_orNone_14 ?_
    refine r_iload_n 15 hC 1 rfl rfl dX12_orNone_15 ?_
    refine r_callVI 16 hC [(0, x1)] [] rfl vl_X12_91 rfl h0 (by decide) (Nat.le_of_ble_eq_true rfl) (by decide) (by decide) dX12_orNone_16 (t_X12_gives x0 x1 M h0) (fun v3 M4 => ?_)
    exact r_sub [] rfl (hj19 v3 M4)
  · refine r_aload_n 5 hC 0 rfl (Or.inl (by decide)) rfl dX12_orNone_5 ?_
    refine r_bipush 6 hC kb_6 dX12_orNone_6 ?_
    refine r_callVI 8 hC [(0, 6)] [] rfl vl_X12_87 rfl h0 (by decide) (Nat.le_of_ble_eq_true rfl) (by decide) (by decide) dX12_orNone_8 (t_X12_refuse x0 6 M h0) (fun v5 M6 => ?_)
    refine r_goto 11 hC (tgt := 19) (by decide) dX12_orNone_11 ?_
    exact r_sub [] rfl (hj19 v5 M6)

/-! WaterTurnsModel.tellsBy(JJ)Z -/
theorem dX12_tellsBy_0 : decode cX12_tellsBy 0 = .ok (.lload_n 1, 1) := by decide +kernel
theorem dX12_tellsBy_1 : decode cX12_tellsBy 1 = .ok (.lstore 5, 2) := by decide +kernel
theorem dX12_tellsBy_3 : decode cX12_tellsBy 3 = .ok (.lload_n 3, 1) := by decide +kernel
theorem dX12_tellsBy_4 : decode cX12_tellsBy 4 = .ok (.lstore 7, 2) := by decide +kernel
theorem dX12_tellsBy_6 : decode cX12_tellsBy 6 = .ok (.lload 7, 2) := by decide +kernel
theorem dX12_tellsBy_8 : decode cX12_tellsBy 8 = .ok (.lconst 0, 1) := by decide +kernel
theorem dX12_tellsBy_9 : decode cX12_tellsBy 9 = .ok (.lcmp, 1) := by decide +kernel
theorem dX12_tellsBy_10 : decode cX12_tellsBy 10 = .ok (.ifCond .eq 21, 3) := by decide +kernel
theorem dX12_tellsBy_13 : decode cX12_tellsBy 13 = .ok (.lload 5, 2) := by decide +kernel
theorem dX12_tellsBy_15 : decode cX12_tellsBy 15 = .ok (.lload 7, 2) := by decide +kernel
theorem dX12_tellsBy_17 : decode cX12_tellsBy 17 = .ok (.lrem, 1) := by decide +kernel
theorem dX12_tellsBy_18 : decode cX12_tellsBy 18 = .ok (.lstore 9, 2) := by decide +kernel
theorem dX12_tellsBy_20 : decode cX12_tellsBy 20 = .ok (.lload 7, 2) := by decide +kernel
theorem dX12_tellsBy_22 : decode cX12_tellsBy 22 = .ok (.lstore 5, 2) := by decide +kernel
theorem dX12_tellsBy_24 : decode cX12_tellsBy 24 = .ok (.lload 9, 2) := by decide +kernel
theorem dX12_tellsBy_26 : decode cX12_tellsBy 26 = .ok (.lstore 7, 2) := by decide +kernel
theorem dX12_tellsBy_28 : decode cX12_tellsBy 28 = .ok (.goto (-22), 3) := by decide +kernel
theorem dX12_tellsBy_31 : decode cX12_tellsBy 31 = .ok (.aload_n 0, 1) := by decide +kernel
theorem dX12_tellsBy_32 : decode cX12_tellsBy 32 = .ok (.lload_n 1, 1) := by decide +kernel
theorem dX12_tellsBy_33 : decode cX12_tellsBy 33 = .ok (.lload 5, 2) := by decide +kernel
theorem dX12_tellsBy_35 : decode cX12_tellsBy 35 = .ok (.ldiv, 1) := by decide +kernel
theorem dX12_tellsBy_36 : decode cX12_tellsBy 36 = .ok (.putfield 84, 3) := by decide +kernel
theorem dX12_tellsBy_39 : decode cX12_tellsBy 39 = .ok (.aload_n 0, 1) := by decide +kernel
theorem dX12_tellsBy_40 : decode cX12_tellsBy 40 = .ok (.lload_n 3, 1) := by decide +kernel
theorem dX12_tellsBy_41 : decode cX12_tellsBy 41 = .ok (.lload 5, 2) := by decide +kernel
theorem dX12_tellsBy_43 : decode cX12_tellsBy 43 = .ok (.ldiv, 1) := by decide +kernel
theorem dX12_tellsBy_44 : decode cX12_tellsBy 44 = .ok (.putfield 17, 3) := by decide +kernel
theorem dX12_tellsBy_47 : decode cX12_tellsBy 47 = .ok (.aload_n 0, 1) := by decide +kernel
theorem dX12_tellsBy_48 : decode cX12_tellsBy 48 = .ok (.iconst 0, 1) := by decide +kernel
theorem dX12_tellsBy_49 : decode cX12_tellsBy 49 = .ok (.invokevirtual 94, 3) := by decide +kernel
theorem dX12_tellsBy_52 : decode cX12_tellsBy 52 = .ok (.ireturn, 1) := by decide +kernel
set_option maxRecDepth 100000 in
theorem f_X12_tellsBy_L6_ok {E : EnvT} {C : Cx} {Mi M : Mem} {x0 : Int} (h0 : x0 ≠ 0) (hC : CxOK E C cX12_tellsBy 11 yX12_tellsBy.cls 2 0 0) {r0 : Int} {M0 : Mem} (hq : RQ E C 0 0 Mi (some .boolean) (some (0, r0)) M0) {x1 x3 : Int} {k : Int → Option (Int × Mem)} (hk : ∀ q4, Bk E C 11 Mi (r0, M0) 31 [(0, 30, x0), (1, 1, x1), (3, 1, x3), (5, 1, q4)] [] M 0 0 (k q4)) : ∀ (n : Nat) (p1 : Int) (p2 : Int), Bk E C 11 Mi (r0, M0) 6 [(0, 30, x0), (1, 1, x1), (3, 1, x3), (5, 1, p1), (7, 1, p2)] [] M 0 0 (f_X12_tellsBy_L6 M x0 x1 x3 k n p1 p2) := by
  intro n
  induction n with
  | zero =>
    intro p1 p2
    exact r_none
  | succ n ih =>
    intro p1 p2
    rw [f_X12_tellsBy_L6]
    refine r_lload 6 hC 4 rfl dX12_tellsBy_6 ?_
    refine r_lconst 8 hC (x := 0) ⟨by decide +kernel, r64c rfl⟩ dX12_tellsBy_8 ?_
    refine r_lcmp_eq 9 hC (tgt := 31) (by decide) dX12_tellsBy_9 dX12_tellsBy_10 ?_ ?_
    · exact r_sub [0, 1, 2, 3] rfl (hk p1)
    · refine r_lload 13 hC 3 rfl dX12_tellsBy_13 ?_
      refine r_lload 15 hC 4 rfl dX12_tellsBy_15 ?_
      refine r_lrem 17 hC dX12_tellsBy_17 (fun v3 => ?_)
      refine r_lstore 18 hC (by decide) dX12_tellsBy_18 (r_eqls (ls' := [(9, 1, v3), (0, 30, x0), (1, 1, x1), (3, 1, x3), (5, 1, p1), (7, 1, p2)]) rfl ?_)
      refine r_lload 20 hC 5 rfl dX12_tellsBy_20 ?_
      refine r_lstore 22 hC (by decide) dX12_tellsBy_22 (r_eqls (ls' := [(5, 1, p2), (9, 1, v3), (0, 30, x0), (1, 1, x1), (3, 1, x3), (7, 1, p2)]) rfl ?_)
      refine r_lload 24 hC 1 rfl dX12_tellsBy_24 ?_
      refine r_lstore 26 hC (by decide) dX12_tellsBy_26 (r_eqls (ls' := [(7, 1, v3), (5, 1, p2), (9, 1, v3), (0, 30, x0), (1, 1, x1), (3, 1, x3)]) rfl ?_)
      refine r_goto 28 hC (tgt := 6) (by decide) dX12_tellsBy_28 ?_
      exact r_sub [3, 4, 5, 1, 0] rfl (ih p2 v3)
set_option maxRecDepth 100000 in
theorem t_X12_tellsBy (x0 x1 x3 : Int) (M : Mem) (h0 : x0 ≠ 0) : MtI yX12_tellsBy cX12_tellsBy 11 (some .boolean) 2 0 0 [(30, x0), (1, x1), (1, x3)] M 0 (f_X12_tellsBy x0 x1 x3 M) := by
  refine mk_I (by decide +kernel) (Nat.le_of_ble_eq_true rfl) (fun E C r0 M0 hC hq hin => ?_)
  refine r_eqls (ls' := [(0, 30, x0), (1, 1, x1), (3, 1, x3)]) rfl ?_
  unfold f_X12_tellsBy
  refine r_lload_n 0 hC 1 rfl rfl dX12_tellsBy_0 ?_
  refine r_lstore 1 hC (by decide) dX12_tellsBy_1 (r_eqls (ls' := [(5, 1, x1), (0, 30, x0), (1, 1, x1), (3, 1, x3)]) rfl ?_)
  refine r_lload_n 3 hC 3 rfl rfl dX12_tellsBy_3 ?_
  refine r_lstore 4 hC (by decide) dX12_tellsBy_4 (r_eqls (ls' := [(7, 1, x3), (5, 1, x1), (0, 30, x0), (1, 1, x1), (3, 1, x3)]) rfl ?_)
  refine r_sub [2, 3, 4, 1, 0] rfl (f_X12_tellsBy_L6_ok h0 hC hq (fun q5 => ?_) KF x1 x3)
  · refine r_aload_n 31 hC 0 rfl (Or.inl (by decide)) rfl dX12_tellsBy_31 ?_
    refine r_lload_n 32 hC 1 rfl rfl dX12_tellsBy_32 ?_
    refine r_lload 33 hC 3 rfl dX12_tellsBy_33 ?_
    refine r_ldiv 35 hC dX12_tellsBy_35 (fun v6 => ?_)
    refine r_put 36 hC fd_10_3 fl_X12_84 dX12_tellsBy_36 (fun M7 => ?_)
    refine r_aload_n 39 hC 0 rfl (Or.inl (by decide)) rfl dX12_tellsBy_39 ?_
    refine r_lload_n 40 hC 2 rfl rfl dX12_tellsBy_40 ?_
    refine r_lload 41 hC 3 rfl dX12_tellsBy_41 ?_
    refine r_ldiv 43 hC dX12_tellsBy_43 (fun v8 => ?_)
    refine r_put 44 hC fd_10_4 fl_X12_17 dX12_tellsBy_44 (fun M9 => ?_)
    refine r_aload_n 47 hC 0 rfl (Or.inl (by decide)) rfl dX12_tellsBy_47 ?_
    refine r_iconst 48 hC (r32c rfl) dX12_tellsBy_48 ?_
    refine r_callVI 49 hC [(0, 0)] [] rfl vl_X12_94 rfl h0 (by decide) (Nat.le_of_ble_eq_true rfl) (by decide) (by decide) dX12_tellsBy_49 (t_X12_is x0 0 M9 h0) (fun v10 M11 => ?_)
    exact r_zreturn 52 hC hq (by decide) (by decide) dX12_tellsBy_52

/-! WaterTurnsModel.isTray(I)Z -/
theorem dX12_isTray_0 : decode cX12_isTray 0 = .ok (.iload_n 0, 1) := by decide +kernel
theorem dX12_isTray_1 : decode cX12_isTray 1 = .ok (.ifCond .lt 12, 3) := by decide +kernel
theorem dX12_isTray_4 : decode cX12_isTray 4 = .ok (.iload_n 0, 1) := by decide +kernel
theorem dX12_isTray_5 : decode cX12_isTray 5 = .ok (.iconst 4, 1) := by decide +kernel
theorem dX12_isTray_6 : decode cX12_isTray 6 = .ok (.if_icmp .ge 7, 3) := by decide +kernel
theorem dX12_isTray_9 : decode cX12_isTray 9 = .ok (.iconst 1, 1) := by decide +kernel
theorem dX12_isTray_10 : decode cX12_isTray 10 = .ok (.goto 4, 3) := by decide +kernel
theorem dX12_isTray_13 : decode cX12_isTray 13 = .ok (.iconst 0, 1) := by decide +kernel
theorem dX12_isTray_14 : decode cX12_isTray 14 = .ok (.ireturn, 1) := by decide +kernel
set_option maxRecDepth 100000 in
theorem t_X12_isTray (x0 : Int) (M : Mem) : MtP yX12_isTray cX12_isTray 1 (some .boolean) 1 0 0 [(0, x0)] M 0 (f_X12_isTray x0 M) := by
  refine mk_P (by decide +kernel) (Nat.le_of_ble_eq_true rfl) (fun E C r0 hC hq hin => ?_)
  refine r_eqls (ls' := [(0, 0, x0)]) rfl ?_
  unfold f_X12_isTray
  refine r_iload_n 0 hC 0 rfl rfl dX12_isTray_0 ?_
  refine r_jn (P := fun j14 => ∀ (q1 : Int), Bk E C 1 M r0 14 [] [(0, q1)] M 0 0 (j14 q1)) ?_ (fun j14 hj14 => ?_)
  · intro q1
    exact r_zreturnP 14 hC hq (by decide) (by decide) dX12_isTray_14
  refine r_jn (P := fun j13 => Bk E C 1 M r0 13 [] [] M 0 0 (j13)) ?_ (fun j13 hj13 => ?_)
  · refine r_iconst 13 hC (r32c rfl) dX12_isTray_13 ?_
    exact hj14 0
  refine r_if_lt 1 hC (tgt := 13) (by decide) dX12_isTray_1 ?_ ?_
  · exact r_sub [] rfl (hj13)
  · refine r_iload_n 4 hC 0 rfl rfl dX12_isTray_4 ?_
    refine r_iconst 5 hC (r32c rfl) dX12_isTray_5 ?_
    refine r_icmp_ge 6 hC (tgt := 13) (by decide) dX12_isTray_6 ?_ ?_
    · exact r_sub [] rfl (hj13)
    · refine r_iconst 9 hC (r32c rfl) dX12_isTray_9 ?_
      refine r_goto 10 hC (tgt := 14) (by decide) dX12_isTray_10 ?_
      exact r_sub [] rfl (hj14 1)

/-! WaterTurnsModel.cut(JI)J -/
theorem dX12_cut_0 : decode cX12_cut 0 = .ok (.iload_n 2, 1) := by decide +kernel
theorem dX12_cut_1 : decode cX12_cut 1 = .ok (.ifCond .ne 10, 3) := by decide +kernel
theorem dX12_cut_4 : decode cX12_cut 4 = .ok (.lload_n 0, 1) := by decide +kernel
theorem dX12_cut_5 : decode cX12_cut 5 = .ok (.l2i, 1) := by decide +kernel
theorem dX12_cut_6 : decode cX12_cut 6 = .ok (.i2b, 1) := by decide +kernel
theorem dX12_cut_7 : decode cX12_cut 7 = .ok (.i2l, 1) := by decide +kernel
theorem dX12_cut_8 : decode cX12_cut 8 = .ok (.goto 27, 3) := by decide +kernel
theorem dX12_cut_11 : decode cX12_cut 11 = .ok (.iload_n 2, 1) := by decide +kernel
theorem dX12_cut_12 : decode cX12_cut 12 = .ok (.iconst 1, 1) := by decide +kernel
theorem dX12_cut_13 : decode cX12_cut 13 = .ok (.if_icmp .ne 10, 3) := by decide +kernel
theorem dX12_cut_16 : decode cX12_cut 16 = .ok (.lload_n 0, 1) := by decide +kernel
theorem dX12_cut_17 : decode cX12_cut 17 = .ok (.l2i, 1) := by decide +kernel
theorem dX12_cut_18 : decode cX12_cut 18 = .ok (.i2s, 1) := by decide +kernel
theorem dX12_cut_19 : decode cX12_cut 19 = .ok (.i2l, 1) := by decide +kernel
theorem dX12_cut_20 : decode cX12_cut 20 = .ok (.goto 15, 3) := by decide +kernel
theorem dX12_cut_23 : decode cX12_cut 23 = .ok (.iload_n 2, 1) := by decide +kernel
theorem dX12_cut_24 : decode cX12_cut 24 = .ok (.iconst 2, 1) := by decide +kernel
theorem dX12_cut_25 : decode cX12_cut 25 = .ok (.if_icmp .ne 9, 3) := by decide +kernel
theorem dX12_cut_28 : decode cX12_cut 28 = .ok (.lload_n 0, 1) := by decide +kernel
theorem dX12_cut_29 : decode cX12_cut 29 = .ok (.l2i, 1) := by decide +kernel
theorem dX12_cut_30 : decode cX12_cut 30 = .ok (.i2l, 1) := by decide +kernel
theorem dX12_cut_31 : decode cX12_cut 31 = .ok (.goto 4, 3) := by decide +kernel
theorem dX12_cut_34 : decode cX12_cut 34 = .ok (.lload_n 0, 1) := by decide +kernel
theorem dX12_cut_35 : decode cX12_cut 35 = .ok (.lreturn, 1) := by decide +kernel
set_option maxRecDepth 100000 in
theorem t_X12_cut (x0 x2 : Int) (M : Mem) : MtP yX12_cut cX12_cut 3 (some .long) 1 0 0 [(1, x0), (0, x2)] M 1 (f_X12_cut x0 x2 M) := by
  refine mk_P (by decide +kernel) (Nat.le_of_ble_eq_true rfl) (fun E C r0 hC hq hin => ?_)
  refine r_eqls (ls' := [(0, 1, x0), (2, 0, x2)]) rfl ?_
  unfold f_X12_cut
  refine r_iload_n 0 hC 1 rfl rfl dX12_cut_0 ?_
  refine r_jn (P := fun j35 => ∀ (q1 : Int), Bk E C 3 M r0 35 [] [(1, q1)] M 0 0 (j35 q1)) ?_ (fun j35 hj35 => ?_)
  · intro q1
    exact r_lreturnP 35 hC hq (by decide) (by decide) dX12_cut_35
  refine r_if_ne 1 hC (tgt := 11) (by decide) dX12_cut_1 ?_ ?_
  · refine r_iload_n 11 hC 1 rfl rfl dX12_cut_11 ?_
    refine r_iconst 12 hC (r32c rfl) dX12_cut_12 ?_
    refine r_icmp_ne 13 hC (tgt := 23) (by decide) dX12_cut_13 ?_ ?_
    · refine r_iload_n 23 hC 1 rfl rfl dX12_cut_23 ?_
      refine r_iconst 24 hC (r32c rfl) dX12_cut_24 ?_
      refine r_icmp_ne 25 hC (tgt := 34) (by decide) dX12_cut_25 ?_ ?_
      · refine r_lload_n 34 hC 0 rfl rfl dX12_cut_34 ?_
        exact r_sub [] rfl (hj35 x0)
      · refine r_lload_n 28 hC 0 rfl rfl dX12_cut_28 ?_
        refine r_l2i 29 hC dX12_cut_29 ?_
        refine r_i2l 30 hC dX12_cut_30 ?_
        refine r_goto 31 hC (tgt := 35) (by decide) dX12_cut_31 ?_
        exact r_sub [] rfl (hj35 (w32 x0))
    · refine r_lload_n 16 hC 0 rfl rfl dX12_cut_16 ?_
      refine r_l2i 17 hC dX12_cut_17 ?_
      refine r_i2s 18 hC dX12_cut_18 ?_
      refine r_i2l 19 hC dX12_cut_19 ?_
      refine r_goto 20 hC (tgt := 35) (by decide) dX12_cut_20 ?_
      exact r_sub [] rfl (hj35 (w16 (w32 x0)))
  · refine r_lload_n 4 hC 0 rfl rfl dX12_cut_4 ?_
    refine r_l2i 5 hC dX12_cut_5 ?_
    refine r_i2b 6 hC dX12_cut_6 ?_
    refine r_i2l 7 hC dX12_cut_7 ?_
    refine r_goto 8 hC (tgt := 35) (by decide) dX12_cut_8 ?_
    exact r_sub [] rfl (hj35 (w8 (w32 x0)))

/-! WaterTurnsModel.tray(III)Z -/
theorem dX12_tray_0 : decode cX12_tray 0 = .ok (.iload_n 1, 1) := by decide +kernel
theorem dX12_tray_1 : decode cX12_tray 1 = .ok (.invokestatic 98, 3) := by decide +kernel
theorem dX12_tray_4 : decode cX12_tray 4 = .ok (.ifCond .eq 22, 3) := by decide +kernel
theorem dX12_tray_7 : decode cX12_tray 7 = .ok (.iload_n 2, 1) := by decide +kernel
theorem dX12_tray_8 : decode cX12_tray 8 = .ok (.ifCond .lt 18, 3) := by decide +kernel
theorem dX12_tray_11 : decode cX12_tray 11 = .ok (.iload_n 2, 1) := by decide +kernel
theorem dX12_tray_12 : decode cX12_tray 12 = .ok (.iconst 3, 1) := by decide +kernel
theorem dX12_tray_13 : decode cX12_tray 13 = .ok (.if_icmp .gt 13, 3) := by decide +kernel
theorem dX12_tray_16 : decode cX12_tray 16 = .ok (.iload_n 3, 1) := by decide +kernel
theorem dX12_tray_17 : decode cX12_tray 17 = .ok (.ifCond .lt 9, 3) := by decide +kernel
theorem dX12_tray_20 : decode cX12_tray 20 = .ok (.iload_n 3, 1) := by decide +kernel
theorem dX12_tray_21 : decode cX12_tray 21 = .ok (.bipush 60, 2) := by decide +kernel
theorem dX12_tray_23 : decode cX12_tray 23 = .ok (.if_icmp .le 9, 3) := by decide +kernel
theorem dX12_tray_26 : decode cX12_tray 26 = .ok (.aload_n 0, 1) := by decide +kernel
theorem dX12_tray_27 : decode cX12_tray 27 = .ok (.iconst 1, 1) := by decide +kernel
theorem dX12_tray_28 : decode cX12_tray 28 = .ok (.invokevirtual 94, 3) := by decide +kernel
theorem dX12_tray_31 : decode cX12_tray 31 = .ok (.ireturn, 1) := by decide +kernel
theorem dX12_tray_32 : decode cX12_tray 32 = .ok (.aload_n 0, 1) := by decide +kernel
theorem dX12_tray_33 : decode cX12_tray 33 = .ok (.getfield 21, 3) := by decide +kernel
theorem dX12_tray_36 : decode cX12_tray 36 = .ok (.iload_n 1, 1) := by decide +kernel
theorem dX12_tray_37 : decode cX12_tray 37 = .ok (.iload_n 2, 1) := by decide +kernel
theorem dX12_tray_38 : decode cX12_tray 38 = .ok (.iastore, 1) := by decide +kernel
theorem dX12_tray_39 : decode cX12_tray 39 = .ok (.aload_n 0, 1) := by decide +kernel
theorem dX12_tray_40 : decode cX12_tray 40 = .ok (.getfield 24, 3) := by decide +kernel
theorem dX12_tray_43 : decode cX12_tray 43 = .ok (.iload_n 1, 1) := by decide +kernel
theorem dX12_tray_44 : decode cX12_tray 44 = .ok (.iload_n 3, 1) := by decide +kernel
theorem dX12_tray_45 : decode cX12_tray 45 = .ok (.iastore, 1) := by decide +kernel
theorem dX12_tray_46 : decode cX12_tray 46 = .ok (.iconst 0, 1) := by decide +kernel
theorem dX12_tray_47 : decode cX12_tray 47 = .ok (.istore 4, 2) := by decide +kernel
theorem dX12_tray_49 : decode cX12_tray 49 = .ok (.iload 4, 2) := by decide +kernel
theorem dX12_tray_51 : decode cX12_tray 51 = .ok (.iload_n 3, 1) := by decide +kernel
theorem dX12_tray_52 : decode cX12_tray 52 = .ok (.if_icmp .ge 22, 3) := by decide +kernel
theorem dX12_tray_55 : decode cX12_tray 55 = .ok (.aload_n 0, 1) := by decide +kernel
theorem dX12_tray_56 : decode cX12_tray 56 = .ok (.getfield 27, 3) := by decide +kernel
theorem dX12_tray_59 : decode cX12_tray 59 = .ok (.bipush 60, 2) := by decide +kernel
theorem dX12_tray_61 : decode cX12_tray 61 = .ok (.iload_n 1, 1) := by decide +kernel
theorem dX12_tray_62 : decode cX12_tray 62 = .ok (.imul, 1) := by decide +kernel
theorem dX12_tray_63 : decode cX12_tray 63 = .ok (.iload 4, 2) := by decide +kernel
theorem dX12_tray_65 : decode cX12_tray 65 = .ok (.iadd, 1) := by decide +kernel
theorem dX12_tray_66 : decode cX12_tray 66 = .ok (.lconst 0, 1) := by decide +kernel
theorem dX12_tray_67 : decode cX12_tray 67 = .ok (.lastore, 1) := by decide +kernel
theorem dX12_tray_68 : decode cX12_tray 68 = .ok (.iinc 4 1, 3) := by decide +kernel
theorem dX12_tray_71 : decode cX12_tray 71 = .ok (.goto (-22), 3) := by decide +kernel
theorem dX12_tray_74 : decode cX12_tray 74 = .ok (.aload_n 0, 1) := by decide +kernel
theorem dX12_tray_75 : decode cX12_tray 75 = .ok (.iconst 0, 1) := by decide +kernel
theorem dX12_tray_76 : decode cX12_tray 76 = .ok (.invokevirtual 94, 3) := by decide +kernel
theorem dX12_tray_79 : decode cX12_tray 79 = .ok (.ireturn, 1) := by decide +kernel
set_option maxRecDepth 100000 in
theorem f_X12_tray_L49_ok {E : EnvT} {C : Cx} {Mi : Mem} {x0 : Int} (h0 : x0 ≠ 0) (hC : CxOK E C cX12_tray 5 yX12_tray.cls 2 0 0) {r0 : Int} {M0 : Mem} (hq : RQ E C 0 0 Mi (some .boolean) (some (0, r0)) M0) {x1 x3 : Int} {k : Mem → Option (Int × Mem)} (hk : ∀ M12, Bk E C 5 Mi (r0, M0) 74 [(0, 30, x0)] [] M12 0 0 (k M12)) : ∀ (n : Nat) (p8 : Int) (M9 : Mem), Bk E C 5 Mi (r0, M0) 49 [(0, 30, x0), (1, 0, x1), (3, 0, x3), (4, 0, p8)] [] M9 0 0 (f_X12_tray_L49 x0 x1 x3 k n p8 M9) := by
  intro n
  induction n with
  | zero =>
    intro p8 M9
    exact r_none
  | succ n ih =>
    intro p8 M9
    rw [f_X12_tray_L49]
    refine r_iload 49 hC 3 rfl dX12_tray_49 ?_
    refine r_iload_n 51 hC 2 rfl rfl dX12_tray_51 ?_
    refine r_icmp_ge 52 hC (tgt := 74) (by decide) dX12_tray_52 ?_ ?_
    · exact r_sub [0] rfl (hk M9)
    · refine r_aload_n 55 hC 0 rfl (Or.inl (by decide)) rfl dX12_tray_55 ?_
      refine r_get 56 hC fd_10_7 fl_X12_27 dX12_tray_56 (fun v10 => ?_)
      refine r_bipush 59 hC kb_60 dX12_tray_59 ?_
      refine r_iload_n 61 hC 1 rfl rfl dX12_tray_61 ?_
      refine r_imul 62 hC dX12_tray_62 ?_
      refine r_iload 63 hC 3 rfl dX12_tray_63 ?_
      refine r_iadd 65 hC dX12_tray_65 ?_
      refine r_lconst 66 hC (x := 0) ⟨by decide +kernel, r64c rfl⟩ dX12_tray_66 ?_
      refine r_lastore 67 hC dX12_tray_67 (fun M11 => ?_)
      refine r_iinc 68 hC 3 rfl (by decide) dX12_tray_68 (r_eqls (ls' := [(4, 0, w32 (p8 + 1)), (0, 30, x0), (1, 0, x1), (3, 0, x3)]) rfl ?_)
      refine r_goto 71 hC (tgt := 49) (by decide) dX12_tray_71 ?_
      exact r_sub [1, 2, 3, 0] rfl (ih (w32 (p8 + 1)) M11)
set_option maxRecDepth 100000 in
theorem t_X12_tray (x0 x1 x2 x3 : Int) (M : Mem) (h0 : x0 ≠ 0) : MtI yX12_tray cX12_tray 5 (some .boolean) 2 0 0 [(30, x0), (0, x1), (0, x2), (0, x3)] M 0 (f_X12_tray x0 x1 x2 x3 M) := by
  refine mk_I (by decide +kernel) (Nat.le_of_ble_eq_true rfl) (fun E C r0 M0 hC hq hin => ?_)
  refine r_eqls (ls' := [(0, 30, x0), (1, 0, x1), (2, 0, x2), (3, 0, x3)]) rfl ?_
  unfold f_X12_tray
  refine r_iload_n 0 hC 1 rfl rfl dX12_tray_0 ?_
  refine r_callSP 1 hC [(0, x1)] [] rfl sl_X12_98 rfl (by decide) (Nat.le_of_ble_eq_true rfl) (by decide) (by decide) dX12_tray_1 (t_X12_isTray x1 M) (fun v1 => ?_)
  refine r_jn (P := fun j26 => Bk E C 5 M (r0, M0) 26 [(0, 30, x0)] [] M 0 0 (j26)) ?_ (fun j26 hj26 => ?_)
  · refine r_aload_n 26 hC 0 rfl (Or.inl (by decide)) rfl dX12_tray_26 ?_
    refine r_iconst 27 hC (r32c rfl) dX12_tray_27 ?_
    refine r_callVI 28 hC [(0, 1)] [] rfl vl_X12_94 rfl h0 (by decide) (Nat.le_of_ble_eq_true rfl) (by decide) (by decide) dX12_tray_28 (t_X12_is x0 1 M h0) (fun v2 M3 => ?_)
    exact r_zreturn 31 hC hq (by decide) (by decide) dX12_tray_31
  refine r_if_eq 4 hC (tgt := 26) (by decide) dX12_tray_4 ?_ ?_
  · exact r_sub [0] rfl (hj26)
  · refine r_iload_n 7 hC 2 rfl rfl dX12_tray_7 ?_
    refine r_if_lt 8 hC (tgt := 26) (by decide) dX12_tray_8 ?_ ?_
    · exact r_sub [0] rfl (hj26)
    · refine r_iload_n 11 hC 2 rfl rfl dX12_tray_11 ?_
      refine r_iconst 12 hC (r32c rfl) dX12_tray_12 ?_
      refine r_icmp_gt 13 hC (tgt := 26) (by decide) dX12_tray_13 ?_ ?_
      · exact r_sub [0] rfl (hj26)
      · refine r_iload_n 16 hC 3 rfl rfl dX12_tray_16 ?_
        refine r_if_lt 17 hC (tgt := 26) (by decide) dX12_tray_17 ?_ ?_
        · exact r_sub [0] rfl (hj26)
        · refine r_iload_n 20 hC 3 rfl rfl dX12_tray_20 ?_
          refine r_bipush 21 hC kb_60 dX12_tray_21 ?_
          refine r_icmp_le 23 hC (tgt := 32) (by decide) dX12_tray_23 ?_ ?_
          · refine r_aload_n 32 hC 0 rfl (Or.inl (by decide)) rfl dX12_tray_32 ?_
            refine r_get 33 hC fd_10_5 fl_X12_21 dX12_tray_33 (fun v4 => ?_)
            refine r_iload_n 36 hC 1 rfl rfl dX12_tray_36 ?_
            refine r_iload_n 37 hC 2 rfl rfl dX12_tray_37 ?_
            refine r_iastore 38 hC dX12_tray_38 (fun M5 => ?_)
            refine r_aload_n 39 hC 0 rfl (Or.inl (by decide)) rfl dX12_tray_39 ?_
            refine r_get 40 hC fd_10_6 fl_X12_24 dX12_tray_40 (fun v6 => ?_)
            refine r_iload_n 43 hC 1 rfl rfl dX12_tray_43 ?_
            refine r_iload_n 44 hC 3 rfl rfl dX12_tray_44 ?_
            refine r_iastore 45 hC dX12_tray_45 (fun M7 => ?_)
            refine r_iconst 46 hC (r32c rfl) dX12_tray_46 ?_
            refine r_istore 47 hC (by decide) dX12_tray_47 (r_eqls (ls' := [(4, 0, 0), (0, 30, x0), (1, 0, x1), (2, 0, x2), (3, 0, x3)]) rfl ?_)
            refine r_sub [1, 2, 4, 0] rfl (f_X12_tray_L49_ok h0 hC hq (fun M13 => ?_) KF 0 M7)
            · refine r_aload_n 74 hC 0 rfl (Or.inl (by decide)) rfl dX12_tray_74 ?_
              refine r_iconst 75 hC (r32c rfl) dX12_tray_75 ?_
              refine r_callVI 76 hC [(0, 0)] [] rfl vl_X12_94 rfl h0 (by decide) (Nat.le_of_ble_eq_true rfl) (by decide) (by decide) dX12_tray_76 (t_X12_is x0 0 M13 h0) (fun v14 M15 => ?_)
              exact r_zreturn 79 hC hq (by decide) (by decide) dX12_tray_79
          · exact r_sub [0] rfl (hj26)

/-! WaterTurnsModel.wrongPlace(II)I -/
theorem dX12_wrongPlace_0 : decode cX12_wrongPlace 0 = .ok (.iload_n 1, 1) := by decide +kernel
theorem dX12_wrongPlace_1 : decode cX12_wrongPlace 1 = .ok (.invokestatic 98, 3) := by decide +kernel
theorem dX12_wrongPlace_4 : decode cX12_wrongPlace 4 = .ok (.ifCond .ne 7, 3) := by decide +kernel
theorem dX12_wrongPlace_7 : decode cX12_wrongPlace 7 = .ok (.iconst 1, 1) := by decide +kernel
theorem dX12_wrongPlace_8 : decode cX12_wrongPlace 8 = .ok (.goto 36, 3) := by decide +kernel
theorem dX12_wrongPlace_11 : decode cX12_wrongPlace 11 = .ok (.aload_n 0, 1) := by decide +kernel
theorem dX12_wrongPlace_12 : decode cX12_wrongPlace 12 = .ok (.getfield 24, 3) := by decide +kernel
theorem dX12_wrongPlace_15 : decode cX12_wrongPlace 15 = .ok (.iload_n 1, 1) := by decide +kernel
theorem dX12_wrongPlace_16 : decode cX12_wrongPlace 16 = .ok (.iaload, 1) := by decide +kernel
theorem dX12_wrongPlace_17 : decode cX12_wrongPlace 17 = .ok (.iconst (-1), 1) := by decide +kernel
theorem dX12_wrongPlace_18 : decode cX12_wrongPlace 18 = .ok (.if_icmp .ne 7, 3) := by decide +kernel
theorem dX12_wrongPlace_21 : decode cX12_wrongPlace 21 = .ok (.iconst 2, 1) := by decide +kernel
theorem dX12_wrongPlace_22 : decode cX12_wrongPlace 22 = .ok (.goto 22, 3) := by decide +kernel
theorem dX12_wrongPlace_25 : decode cX12_wrongPlace 25 = .ok (.iload_n 2, 1) := by decide +kernel
theorem dX12_wrongPlace_26 : decode cX12_wrongPlace 26 = .ok (.ifCond .lt 13, 3) := by decide +kernel
theorem dX12_wrongPlace_29 : decode cX12_wrongPlace 29 = .ok (.iload_n 2, 1) := by decide +kernel
theorem dX12_wrongPlace_30 : decode cX12_wrongPlace 30 = .ok (.aload_n 0, 1) := by decide +kernel
theorem dX12_wrongPlace_31 : decode cX12_wrongPlace 31 = .ok (.getfield 24, 3) := by decide +kernel
theorem dX12_wrongPlace_34 : decode cX12_wrongPlace 34 = .ok (.iload_n 1, 1) := by decide +kernel
theorem dX12_wrongPlace_35 : decode cX12_wrongPlace 35 = .ok (.iaload, 1) := by decide +kernel
theorem dX12_wrongPlace_36 : decode cX12_wrongPlace 36 = .ok (.if_icmp .lt 7, 3) := by decide +kernel
theorem dX12_wrongPlace_39 : decode cX12_wrongPlace 39 = .ok (.iconst 3, 1) := by decide +kernel
theorem dX12_wrongPlace_40 : decode cX12_wrongPlace 40 = .ok (.goto 4, 3) := by decide +kernel
theorem dX12_wrongPlace_43 : decode cX12_wrongPlace 43 = .ok (.iconst 0, 1) := by decide +kernel
theorem dX12_wrongPlace_44 : decode cX12_wrongPlace 44 = .ok (.ireturn, 1) := by decide +kernel
set_option maxRecDepth 100000 in
theorem t_X12_wrongPlace (x0 x1 x2 : Int) (M : Mem) (h0 : x0 ≠ 0) : MtP yX12_wrongPlace cX12_wrongPlace 3 (some .int) 2 0 0 [(30, x0), (0, x1), (0, x2)] M 0 (f_X12_wrongPlace x0 x1 x2 M) := by
  refine mk_P (by decide +kernel) (Nat.le_of_ble_eq_true rfl) (fun E C r0 hC hq hin => ?_)
  refine r_eqls (ls' := [(0, 30, x0), (1, 0, x1), (2, 0, x2)]) rfl ?_
  unfold f_X12_wrongPlace
  refine r_iload_n 0 hC 1 rfl rfl dX12_wrongPlace_0 ?_
  refine r_callSP 1 hC [(0, x1)] [] rfl sl_X12_98 rfl (by decide) (Nat.le_of_ble_eq_true rfl) (by decide) (by decide) dX12_wrongPlace_1 (t_X12_isTray x1 M) (fun v1 => ?_)
  refine r_jn (P := fun j44 => ∀ (q2 : Int), Bk E C 3 M r0 44 [] [(0, q2)] M 0 0 (j44 q2)) ?_ (fun j44 hj44 => ?_)
  · intro q2
    exact r_ireturnP 44 hC hq (by decide) (by decide) dX12_wrongPlace_44
  refine r_if_ne 4 hC (tgt := 11) (by decide) dX12_wrongPlace_4 ?_ ?_
  · refine r_aload_n 11 hC 0 rfl (Or.inl (by decide)) rfl dX12_wrongPlace_11 ?_
    refine r_get 12 hC fd_10_6 fl_X12_24 dX12_wrongPlace_12 (fun v3 => ?_)
    refine r_iload_n 15 hC 1 rfl rfl dX12_wrongPlace_15 ?_
    refine r_iaload 16 hC dX12_wrongPlace_16 (fun v4 => ?_)
    refine r_iconst 17 hC (r32c rfl) dX12_wrongPlace_17 ?_
    refine r_icmp_ne 18 hC (tgt := 25) (by decide) dX12_wrongPlace_18 ?_ ?_
    · refine r_iload_n 25 hC 2 rfl rfl dX12_wrongPlace_25 ?_
      refine r_jn (P := fun j39 => Bk E C 3 M r0 39 [] [] M 0 0 (j39)) ?_ (fun j39 hj39 => ?_)
      · refine r_iconst 39 hC (r32c rfl) dX12_wrongPlace_39 ?_
        refine r_goto 40 hC (tgt := 44) (by decide) dX12_wrongPlace_40 ?_
        exact hj44 3
      refine r_if_lt 26 hC (tgt := 39) (by decide) dX12_wrongPlace_26 ?_ ?_
      · exact r_sub [] rfl (hj39)
      · refine r_iload_n 29 hC 2 rfl rfl dX12_wrongPlace_29 ?_
        refine r_aload_n 30 hC 0 rfl (Or.inl (by decide)) rfl dX12_wrongPlace_30 ?_
        refine r_get 31 hC fd_10_6 fl_X12_24 dX12_wrongPlace_31 (fun v5 => ?_)
        refine r_iload_n 34 hC 1 rfl rfl dX12_wrongPlace_34 ?_
        refine r_iaload 35 hC dX12_wrongPlace_35 (fun v6 => ?_)
        refine r_icmp_lt 36 hC (tgt := 43) (by decide) dX12_wrongPlace_36 ?_ ?_
        · refine r_iconst 43 hC (r32c rfl) dX12_wrongPlace_43 ?_
          exact r_sub [] rfl (hj44 0)
        · exact r_sub [] rfl (hj39)
    · refine r_iconst 21 hC (r32c rfl) dX12_wrongPlace_21 ?_
      refine r_goto 22 hC (tgt := 44) (by decide) dX12_wrongPlace_22 ?_
      exact r_sub [] rfl (hj44 2)
  · refine r_iconst 7 hC (r32c rfl) dX12_wrongPlace_7 ?_
    refine r_goto 8 hC (tgt := 44) (by decide) dX12_wrongPlace_8 ?_
    exact r_sub [] rfl (hj44 1)

/-! WaterTurnsModel.write(IIJ)Z -/
theorem dX12_write_0 : decode cX12_write 0 = .ok (.aload_n 0, 1) := by decide +kernel
theorem dX12_write_1 : decode cX12_write 1 = .ok (.iload_n 1, 1) := by decide +kernel
theorem dX12_write_2 : decode cX12_write 2 = .ok (.iload_n 2, 1) := by decide +kernel
theorem dX12_write_3 : decode cX12_write 3 = .ok (.invokevirtual 101, 3) := by decide +kernel
theorem dX12_write_6 : decode cX12_write 6 = .ok (.istore 5, 2) := by decide +kernel
theorem dX12_write_8 : decode cX12_write 8 = .ok (.iload 5, 2) := by decide +kernel
theorem dX12_write_10 : decode cX12_write 10 = .ok (.ifCond .ne 24, 3) := by decide +kernel
theorem dX12_write_13 : decode cX12_write 13 = .ok (.aload_n 0, 1) := by decide +kernel
theorem dX12_write_14 : decode cX12_write 14 = .ok (.getfield 27, 3) := by decide +kernel
theorem dX12_write_17 : decode cX12_write 17 = .ok (.bipush 60, 2) := by decide +kernel
theorem dX12_write_19 : decode cX12_write 19 = .ok (.iload_n 1, 1) := by decide +kernel
theorem dX12_write_20 : decode cX12_write 20 = .ok (.imul, 1) := by decide +kernel
theorem dX12_write_21 : decode cX12_write 21 = .ok (.iload_n 2, 1) := by decide +kernel
theorem dX12_write_22 : decode cX12_write 22 = .ok (.iadd, 1) := by decide +kernel
theorem dX12_write_23 : decode cX12_write 23 = .ok (.lload_n 3, 1) := by decide +kernel
theorem dX12_write_24 : decode cX12_write 24 = .ok (.aload_n 0, 1) := by decide +kernel
theorem dX12_write_25 : decode cX12_write 25 = .ok (.getfield 21, 3) := by decide +kernel
theorem dX12_write_28 : decode cX12_write 28 = .ok (.iload_n 1, 1) := by decide +kernel
theorem dX12_write_29 : decode cX12_write 29 = .ok (.iaload, 1) := by decide +kernel
theorem dX12_write_30 : decode cX12_write 30 = .ok (.invokestatic 105, 3) := by decide +kernel
theorem dX12_write_33 : decode cX12_write 33 = .ok (.lastore, 1) := by decide +kernel
theorem dX12_write_34 : decode cX12_write 34 = .ok (.aload_n 0, 1) := by decide +kernel
theorem dX12_write_35 : decode cX12_write 35 = .ok (.iload 5, 2) := by decide +kernel
theorem dX12_write_37 : decode cX12_write 37 = .ok (.invokevirtual 94, 3) := by decide +kernel
theorem dX12_write_40 : decode cX12_write 40 = .ok (.ireturn, 1) := by decide +kernel
set_option maxRecDepth 100000 in
theorem t_X12_write (x0 x1 x2 x3 : Int) (M : Mem) (h0 : x0 ≠ 0) : MtI yX12_write cX12_write 6 (some .boolean) 3 0 0 [(30, x0), (0, x1), (0, x2), (1, x3)] M 0 (f_X12_write x0 x1 x2 x3 M) := by
  refine mk_I (by decide +kernel) (Nat.le_of_ble_eq_true rfl) (fun E C r0 M0 hC hq hin => ?_)
  refine r_eqls (ls' := [(0, 30, x0), (1, 0, x1), (2, 0, x2), (3, 1, x3)]) rfl ?_
  unfold f_X12_write
  refine r_aload_n 0 hC 0 rfl (Or.inl (by decide)) rfl dX12_write_0 ?_
  refine r_iload_n 1 hC 1 rfl rfl dX12_write_1 ?_
  refine r_iload_n 2 hC 2 rfl rfl dX12_write_2 ?_
  refine r_callVP 3 hC [(0, x1), (0, x2)] [] rfl vl_X12_101 rfl h0 (by decide) (Nat.le_of_ble_eq_true rfl) (by decide) (by decide) dX12_write_3 (t_X12_wrongPlace x0 x1 x2 M h0) (fun v1 => ?_)
  refine r_istore 6 hC (by decide) dX12_write_6 (r_eqls (ls' := [(5, 0, v1), (0, 30, x0), (1, 0, x1), (2, 0, x2), (3, 1, x3)]) rfl ?_)
  refine r_iload 8 hC 0 rfl dX12_write_8 ?_
  refine r_jn (P := fun j34 => ∀ (M2 : Mem), Bk E C 6 M (r0, M0) 34 [(0, 30, x0), (5, 0, v1)] [] M2 0 0 (j34 M2)) ?_ (fun j34 hj34 => ?_)
  · intro M2
    refine r_aload_n 34 hC 0 rfl (Or.inl (by decide)) rfl dX12_write_34 ?_
    refine r_iload 35 hC 1 rfl dX12_write_35 ?_
    refine r_callVI 37 hC [(0, v1)] [] rfl vl_X12_94 rfl h0 (by decide) (Nat.le_of_ble_eq_true rfl) (by decide) (by decide) dX12_write_37 (t_X12_is x0 v1 M2 h0) (fun v3 M4 => ?_)
    exact r_zreturn 40 hC hq (by decide) (by decide) dX12_write_40
  refine r_if_ne 10 hC (tgt := 34) (by decide) dX12_write_10 ?_ ?_
  · exact r_sub [1, 0] rfl (hj34 M)
  · refine r_aload_n 13 hC 1 rfl (Or.inl (by decide)) rfl dX12_write_13 ?_
    refine r_get 14 hC fd_10_7 fl_X12_27 dX12_write_14 (fun v5 => ?_)
    refine r_bipush 17 hC kb_60 dX12_write_17 ?_
    refine r_iload_n 19 hC 2 rfl rfl dX12_write_19 ?_
    refine r_imul 20 hC dX12_write_20 ?_
    refine r_iload_n 21 hC 3 rfl rfl dX12_write_21 ?_
    refine r_iadd 22 hC dX12_write_22 ?_
    refine r_lload_n 23 hC 4 rfl rfl dX12_write_23 ?_
    refine r_aload_n 24 hC 1 rfl (Or.inl (by decide)) rfl dX12_write_24 ?_
    refine r_get 25 hC fd_10_5 fl_X12_21 dX12_write_25 (fun v6 => ?_)
    refine r_iload_n 28 hC 2 rfl rfl dX12_write_28 ?_
    refine r_iaload 29 hC dX12_write_29 (fun v7 => ?_)
    refine r_callSP 30 hC [(1, x3), (0, v7)] [(0, w32 ((w32 (60 * x1)) + x2)), (11, v5)] rfl sl_X12_105 rfl (by decide) (Nat.le_of_ble_eq_true rfl) (by decide) (by decide) dX12_write_30 (t_X12_cut x3 v7 M) (fun v8 => ?_)
    refine r_lastore 33 hC dX12_write_33 (fun M9 => ?_)
    exact r_sub [1, 0] rfl (hj34 M9)

/-! WaterTurnsModel.read(II)J -/
theorem dX12_read_0 : decode cX12_read 0 = .ok (.aload_n 0, 1) := by decide +kernel
theorem dX12_read_1 : decode cX12_read 1 = .ok (.aload_n 0, 1) := by decide +kernel
theorem dX12_read_2 : decode cX12_read 2 = .ok (.iload_n 1, 1) := by decide +kernel
theorem dX12_read_3 : decode cX12_read 3 = .ok (.iload_n 2, 1) := by decide +kernel
theorem dX12_read_4 : decode cX12_read 4 = .ok (.invokevirtual 101, 3) := by decide +kernel
theorem dX12_read_7 : decode cX12_read 7 = .ok (.putfield 81, 3) := by decide +kernel
theorem dX12_read_10 : decode cX12_read 10 = .ok (.aload_n 0, 1) := by decide +kernel
theorem dX12_read_11 : decode cX12_read 11 = .ok (.getfield 81, 3) := by decide +kernel
theorem dX12_read_14 : decode cX12_read 14 = .ok (.ifCond .le 9, 3) := by decide +kernel
theorem dX12_read_17 : decode cX12_read 17 = .ok (.ldc2_w 109, 3) := by decide +kernel
theorem dX12_read_20 : decode cX12_read 20 = .ok (.goto 14, 3) := by decide +kernel
theorem dX12_read_23 : decode cX12_read 23 = .ok (.aload_n 0, 1) := by decide +kernel
theorem dX12_read_24 : decode cX12_read 24 = .ok (.getfield 27, 3) := by decide +kernel
theorem dX12_read_27 : decode cX12_read 27 = .ok (.bipush 60, 2) := by decide +kernel
theorem dX12_read_29 : decode cX12_read 29 = .ok (.iload_n 1, 1) := by decide +kernel
theorem dX12_read_30 : decode cX12_read 30 = .ok (.imul, 1) := by decide +kernel
theorem dX12_read_31 : decode cX12_read 31 = .ok (.iload_n 2, 1) := by decide +kernel
theorem dX12_read_32 : decode cX12_read 32 = .ok (.iadd, 1) := by decide +kernel
theorem dX12_read_33 : decode cX12_read 33 = .ok (.laload, 1) := by decide +kernel
theorem dX12_read_34 : decode cX12_read 34 = .ok (.lreturn, 1) := by decide +kernel
set_option maxRecDepth 100000 in
theorem t_X12_read (x0 x1 x2 : Int) (M : Mem) (h0 : x0 ≠ 0) : MtI yX12_read cX12_read 3 (some .long) 3 0 0 [(30, x0), (0, x1), (0, x2)] M 1 (f_X12_read x0 x1 x2 M) := by
  refine mk_I (by decide +kernel) (Nat.le_of_ble_eq_true rfl) (fun E C r0 M0 hC hq hin => ?_)
  refine r_eqls (ls' := [(0, 30, x0), (1, 0, x1), (2, 0, x2)]) rfl ?_
  unfold f_X12_read
  refine r_aload_n 0 hC 0 rfl (Or.inl (by decide)) rfl dX12_read_0 ?_
  refine r_aload_n 1 hC 0 rfl (Or.inl (by decide)) rfl dX12_read_1 ?_
  refine r_iload_n 2 hC 1 rfl rfl dX12_read_2 ?_
  refine r_iload_n 3 hC 2 rfl rfl dX12_read_3 ?_
  refine r_callVP 4 hC [(0, x1), (0, x2)] [(30, x0)] rfl vl_X12_101 rfl h0 (by decide) (Nat.le_of_ble_eq_true rfl) (by decide) (by decide) dX12_read_4 (t_X12_wrongPlace x0 x1 x2 M h0) (fun v1 => ?_)
  refine r_put 7 hC fd_10_2 fl_X12_81 dX12_read_7 (fun M2 => ?_)
  refine r_aload_n 10 hC 0 rfl (Or.inl (by decide)) rfl dX12_read_10 ?_
  refine r_get 11 hC fd_10_2 fl_X12_81 dX12_read_11 (fun v3 => ?_)
  refine r_jn (P := fun j34 => ∀ (q4 : Int), Bk E C 3 M (r0, M0) 34 [] [(1, q4)] M2 0 0 (j34 q4)) ?_ (fun j34 hj34 => ?_)
  · intro q4
    exact r_lreturn 34 hC hq (by decide) (by decide) dX12_read_34
  refine r_if_le 14 hC (tgt := 23) (by decide) dX12_read_14 ?_ ?_
  · refine r_aload_n 23 hC 0 rfl (Or.inl (by decide)) rfl dX12_read_23 ?_
    refine r_get 24 hC fd_10_7 fl_X12_27 dX12_read_24 (fun v5 => ?_)
    refine r_bipush 27 hC kb_60 dX12_read_27 ?_
    refine r_iload_n 29 hC 1 rfl rfl dX12_read_29 ?_
    refine r_imul 30 hC dX12_read_30 ?_
    refine r_iload_n 31 hC 2 rfl rfl dX12_read_31 ?_
    refine r_iadd 32 hC dX12_read_32 ?_
    refine r_laload 33 hC dX12_read_33 (fun v6 => ?_)
    exact r_sub [] rfl (hj34 v6)
  · refine r_ldc2 17 hC (x := (-1)) kl_X12_109 ⟨by decide +kernel, r64c rfl⟩ dX12_read_17 ?_
    refine r_goto 20 hC (tgt := 34) (by decide) dX12_read_20 ?_
    exact r_sub [] rfl (hj34 (-1))

/-! WaterTurnsModel.pour(IIIII)Z -/
theorem dX12_pour_0 : decode cX12_pour 0 = .ok (.iload_n 1, 1) := by decide +kernel
theorem dX12_pour_1 : decode cX12_pour 1 = .ok (.invokestatic 98, 3) := by decide +kernel
theorem dX12_pour_4 : decode cX12_pour 4 = .ok (.ifCond .eq 24, 3) := by decide +kernel
theorem dX12_pour_7 : decode cX12_pour 7 = .ok (.iload_n 3, 1) := by decide +kernel
theorem dX12_pour_8 : decode cX12_pour 8 = .ok (.invokestatic 98, 3) := by decide +kernel
theorem dX12_pour_11 : decode cX12_pour 11 = .ok (.ifCond .eq 17, 3) := by decide +kernel
theorem dX12_pour_14 : decode cX12_pour 14 = .ok (.iload_n 2, 1) := by decide +kernel
theorem dX12_pour_15 : decode cX12_pour 15 = .ok (.ifCond .lt 13, 3) := by decide +kernel
theorem dX12_pour_18 : decode cX12_pour 18 = .ok (.iload 4, 2) := by decide +kernel
theorem dX12_pour_20 : decode cX12_pour 20 = .ok (.ifCond .lt 8, 3) := by decide +kernel
theorem dX12_pour_23 : decode cX12_pour 23 = .ok (.iload 5, 2) := by decide +kernel
theorem dX12_pour_25 : decode cX12_pour 25 = .ok (.ifCond .ge 9, 3) := by decide +kernel
theorem dX12_pour_28 : decode cX12_pour 28 = .ok (.aload_n 0, 1) := by decide +kernel
theorem dX12_pour_29 : decode cX12_pour 29 = .ok (.iconst 1, 1) := by decide +kernel
theorem dX12_pour_30 : decode cX12_pour 30 = .ok (.invokevirtual 94, 3) := by decide +kernel
theorem dX12_pour_33 : decode cX12_pour 33 = .ok (.ireturn, 1) := by decide +kernel
theorem dX12_pour_34 : decode cX12_pour 34 = .ok (.aload_n 0, 1) := by decide +kernel
theorem dX12_pour_35 : decode cX12_pour 35 = .ok (.getfield 24, 3) := by decide +kernel
theorem dX12_pour_38 : decode cX12_pour 38 = .ok (.iload_n 1, 1) := by decide +kernel
theorem dX12_pour_39 : decode cX12_pour 39 = .ok (.iaload, 1) := by decide +kernel
theorem dX12_pour_40 : decode cX12_pour 40 = .ok (.iconst (-1), 1) := by decide +kernel
theorem dX12_pour_41 : decode cX12_pour 41 = .ok (.if_icmp .eq 13, 3) := by decide +kernel
theorem dX12_pour_44 : decode cX12_pour 44 = .ok (.aload_n 0, 1) := by decide +kernel
theorem dX12_pour_45 : decode cX12_pour 45 = .ok (.getfield 24, 3) := by decide +kernel
theorem dX12_pour_48 : decode cX12_pour 48 = .ok (.iload_n 3, 1) := by decide +kernel
theorem dX12_pour_49 : decode cX12_pour 49 = .ok (.iaload, 1) := by decide +kernel
theorem dX12_pour_50 : decode cX12_pour 50 = .ok (.iconst (-1), 1) := by decide +kernel
theorem dX12_pour_51 : decode cX12_pour 51 = .ok (.if_icmp .ne 9, 3) := by decide +kernel
theorem dX12_pour_54 : decode cX12_pour 54 = .ok (.aload_n 0, 1) := by decide +kernel
theorem dX12_pour_55 : decode cX12_pour 55 = .ok (.iconst 2, 1) := by decide +kernel
theorem dX12_pour_56 : decode cX12_pour 56 = .ok (.invokevirtual 94, 3) := by decide +kernel
theorem dX12_pour_59 : decode cX12_pour 59 = .ok (.ireturn, 1) := by decide +kernel
theorem dX12_pour_60 : decode cX12_pour 60 = .ok (.aload_n 0, 1) := by decide +kernel
theorem dX12_pour_61 : decode cX12_pour 61 = .ok (.getfield 21, 3) := by decide +kernel
theorem dX12_pour_64 : decode cX12_pour 64 = .ok (.iload_n 1, 1) := by decide +kernel
theorem dX12_pour_65 : decode cX12_pour 65 = .ok (.iaload, 1) := by decide +kernel
theorem dX12_pour_66 : decode cX12_pour 66 = .ok (.aload_n 0, 1) := by decide +kernel
theorem dX12_pour_67 : decode cX12_pour 67 = .ok (.getfield 21, 3) := by decide +kernel
theorem dX12_pour_70 : decode cX12_pour 70 = .ok (.iload_n 3, 1) := by decide +kernel
theorem dX12_pour_71 : decode cX12_pour 71 = .ok (.iaload, 1) := by decide +kernel
theorem dX12_pour_72 : decode cX12_pour 72 = .ok (.if_icmp .eq 10, 3) := by decide +kernel
theorem dX12_pour_75 : decode cX12_pour 75 = .ok (.aload_n 0, 1) := by decide +kernel
theorem dX12_pour_76 : decode cX12_pour 76 = .ok (.bipush 8, 2) := by decide +kernel
theorem dX12_pour_78 : decode cX12_pour 78 = .ok (.invokevirtual 94, 3) := by decide +kernel
theorem dX12_pour_81 : decode cX12_pour 81 = .ok (.ireturn, 1) := by decide +kernel
theorem dX12_pour_82 : decode cX12_pour 82 = .ok (.iload 5, 2) := by decide +kernel
theorem dX12_pour_84 : decode cX12_pour 84 = .ok (.aload_n 0, 1) := by decide +kernel
theorem dX12_pour_85 : decode cX12_pour 85 = .ok (.getfield 24, 3) := by decide +kernel
theorem dX12_pour_88 : decode cX12_pour 88 = .ok (.iload_n 1, 1) := by decide +kernel
theorem dX12_pour_89 : decode cX12_pour 89 = .ok (.iaload, 1) := by decide +kernel
theorem dX12_pour_90 : decode cX12_pour 90 = .ok (.iload_n 2, 1) := by decide +kernel
theorem dX12_pour_91 : decode cX12_pour 91 = .ok (.isub, 1) := by decide +kernel
theorem dX12_pour_92 : decode cX12_pour 92 = .ok (.if_icmp .gt 17, 3) := by decide +kernel
theorem dX12_pour_95 : decode cX12_pour 95 = .ok (.iload 5, 2) := by decide +kernel
theorem dX12_pour_97 : decode cX12_pour 97 = .ok (.aload_n 0, 1) := by decide +kernel
theorem dX12_pour_98 : decode cX12_pour 98 = .ok (.getfield 24, 3) := by decide +kernel
theorem dX12_pour_101 : decode cX12_pour 101 = .ok (.iload_n 3, 1) := by decide +kernel
theorem dX12_pour_102 : decode cX12_pour 102 = .ok (.iaload, 1) := by decide +kernel
theorem dX12_pour_103 : decode cX12_pour 103 = .ok (.iload 4, 2) := by decide +kernel
theorem dX12_pour_105 : decode cX12_pour 105 = .ok (.isub, 1) := by decide +kernel
theorem dX12_pour_106 : decode cX12_pour 106 = .ok (.if_icmp .le 9, 3) := by decide +kernel
theorem dX12_pour_109 : decode cX12_pour 109 = .ok (.aload_n 0, 1) := by decide +kernel
theorem dX12_pour_110 : decode cX12_pour 110 = .ok (.iconst 3, 1) := by decide +kernel
theorem dX12_pour_111 : decode cX12_pour 111 = .ok (.invokevirtual 94, 3) := by decide +kernel
theorem dX12_pour_114 : decode cX12_pour 114 = .ok (.ireturn, 1) := by decide +kernel
theorem dX12_pour_115 : decode cX12_pour 115 = .ok (.iconst 0, 1) := by decide +kernel
theorem dX12_pour_116 : decode cX12_pour 116 = .ok (.istore 6, 2) := by decide +kernel
theorem dX12_pour_118 : decode cX12_pour 118 = .ok (.iload 6, 2) := by decide +kernel
theorem dX12_pour_120 : decode cX12_pour 120 = .ok (.iload 5, 2) := by decide +kernel
theorem dX12_pour_122 : decode cX12_pour 122 = .ok (.if_icmp .ge 58, 3) := by decide +kernel
theorem dX12_pour_125 : decode cX12_pour 125 = .ok (.iload_n 2, 1) := by decide +kernel
theorem dX12_pour_126 : decode cX12_pour 126 = .ok (.iload 4, 2) := by decide +kernel
theorem dX12_pour_128 : decode cX12_pour 128 = .ok (.if_icmp .ge 13, 3) := by decide +kernel
theorem dX12_pour_131 : decode cX12_pour 131 = .ok (.iload 5, 2) := by decide +kernel
theorem dX12_pour_133 : decode cX12_pour 133 = .ok (.iconst 1, 1) := by decide +kernel
theorem dX12_pour_134 : decode cX12_pour 134 = .ok (.isub, 1) := by decide +kernel
theorem dX12_pour_135 : decode cX12_pour 135 = .ok (.iload 6, 2) := by decide +kernel
theorem dX12_pour_137 : decode cX12_pour 137 = .ok (.isub, 1) := by decide +kernel
theorem dX12_pour_138 : decode cX12_pour 138 = .ok (.goto 5, 3) := by decide +kernel
theorem dX12_pour_141 : decode cX12_pour 141 = .ok (.iload 6, 2) := by decide +kernel
theorem dX12_pour_143 : decode cX12_pour 143 = .ok (.istore 7, 2) := by decide +kernel
theorem dX12_pour_145 : decode cX12_pour 145 = .ok (.aload_n 0, 1) := by decide +kernel
theorem dX12_pour_146 : decode cX12_pour 146 = .ok (.getfield 27, 3) := by decide +kernel
theorem dX12_pour_149 : decode cX12_pour 149 = .ok (.bipush 60, 2) := by decide +kernel
theorem dX12_pour_151 : decode cX12_pour 151 = .ok (.iload_n 3, 1) := by decide +kernel
theorem dX12_pour_152 : decode cX12_pour 152 = .ok (.imul, 1) := by decide +kernel
theorem dX12_pour_153 : decode cX12_pour 153 = .ok (.iload 4, 2) := by decide +kernel
theorem dX12_pour_155 : decode cX12_pour 155 = .ok (.iadd, 1) := by decide +kernel
theorem dX12_pour_156 : decode cX12_pour 156 = .ok (.iload 7, 2) := by decide +kernel
theorem dX12_pour_158 : decode cX12_pour 158 = .ok (.iadd, 1) := by decide +kernel
theorem dX12_pour_159 : decode cX12_pour 159 = .ok (.aload_n 0, 1) := by decide +kernel
theorem dX12_pour_160 : decode cX12_pour 160 = .ok (.getfield 27, 3) := by decide +kernel
theorem dX12_pour_163 : decode cX12_pour 163 = .ok (.bipush 60, 2) := by decide +kernel
theorem dX12_pour_165 : decode cX12_pour 165 = .ok (.iload_n 1, 1) := by decide +kernel
theorem dX12_pour_166 : decode cX12_pour 166 = .ok (.imul, 1) := by decide +kernel
theorem dX12_pour_167 : decode cX12_pour 167 = .ok (.iload_n 2, 1) := by decide +kernel
theorem dX12_pour_168 : decode cX12_pour 168 = .ok (.iadd, 1) := by decide +kernel
theorem dX12_pour_169 : decode cX12_pour 169 = .ok (.iload 7, 2) := by decide +kernel
theorem dX12_pour_171 : decode cX12_pour 171 = .ok (.iadd, 1) := by decide +kernel
theorem dX12_pour_172 : decode cX12_pour 172 = .ok (.laload, 1) := by decide +kernel
theorem dX12_pour_173 : decode cX12_pour 173 = .ok (.lastore, 1) := by decide +kernel
theorem dX12_pour_174 : decode cX12_pour 174 = .ok (.iinc 6 1, 3) := by decide +kernel
theorem dX12_pour_177 : decode cX12_pour 177 = .ok (.goto (-59), 3) := by decide +kernel
theorem dX12_pour_180 : decode cX12_pour 180 = .ok (.aload_n 0, 1) := by decide +kernel
theorem dX12_pour_181 : decode cX12_pour 181 = .ok (.iconst 0, 1) := by decide +kernel
theorem dX12_pour_182 : decode cX12_pour 182 = .ok (.invokevirtual 94, 3) := by decide +kernel
theorem dX12_pour_185 : decode cX12_pour 185 = .ok (.ireturn, 1) := by decide +kernel
set_option maxRecDepth 100000 in
theorem f_X12_pour_L118_ok {E : EnvT} {C : Cx} {Mi : Mem} {x0 : Int} (h0 : x0 ≠ 0) (hC : CxOK E C cX12_pour 8 yX12_pour.cls 2 0 0) {r0 : Int} {M0 : Mem} (hq : RQ E C 0 0 Mi (some .boolean) (some (0, r0)) M0) {x1 x2 x3 x4 x5 : Int} {k : Mem → Option (Int × Mem)} (hk : ∀ M28, Bk E C 8 Mi (r0, M0) 180 [(0, 30, x0)] [] M28 0 0 (k M28)) : ∀ (n : Nat) (p21 : Int) (M22 : Mem), Bk E C 8 Mi (r0, M0) 118 [(0, 30, x0), (1, 0, x1), (2, 0, x2), (3, 0, x3), (4, 0, x4), (5, 0, x5), (6, 0, p21)] [] M22 0 0 (f_X12_pour_L118 x0 x1 x2 x3 x4 x5 k n p21 M22) := by
  intro n
  induction n with
  | zero =>
    intro p21 M22
    exact r_none
  | succ n ih =>
    intro p21 M22
    rw [f_X12_pour_L118]
    refine r_iload 118 hC 6 rfl dX12_pour_118 ?_
    refine r_iload 120 hC 5 rfl dX12_pour_120 ?_
    refine r_icmp_ge 122 hC (tgt := 180) (by decide) dX12_pour_122 ?_ ?_
    · exact r_sub [0] rfl (hk M22)
    · refine r_iload_n 125 hC 2 rfl rfl dX12_pour_125 ?_
      refine r_iload 126 hC 4 rfl dX12_pour_126 ?_
      refine r_jn (P := fun j143 => ∀ (q23 : Int), Bk E C 8 Mi (r0, M0) 143 [(0, 30, x0), (1, 0, x1), (2, 0, x2), (3, 0, x3), (4, 0, x4), (5, 0, x5), (6, 0, p21)] [(0, q23)] M22 0 0 (j143 q23)) ?_ (fun j143 hj143 => ?_)
      · intro q23
        refine r_istore 143 hC (by decide) dX12_pour_143 (r_eqls (ls' := [(7, 0, q23), (0, 30, x0), (1, 0, x1), (2, 0, x2), (3, 0, x3), (4, 0, x4), (5, 0, x5), (6, 0, p21)]) rfl ?_)
        refine r_aload_n 145 hC 1 rfl (Or.inl (by decide)) rfl dX12_pour_145 ?_
        refine r_get 146 hC fd_10_7 fl_X12_27 dX12_pour_146 (fun v24 => ?_)
        refine r_bipush 149 hC kb_60 dX12_pour_149 ?_
        refine r_iload_n 151 hC 4 rfl rfl dX12_pour_151 ?_
        refine r_imul 152 hC dX12_pour_152 ?_
        refine r_iload 153 hC 5 rfl dX12_pour_153 ?_
        refine r_iadd 155 hC dX12_pour_155 ?_
        refine r_iload 156 hC 0 rfl dX12_pour_156 ?_
        refine r_iadd 158 hC dX12_pour_158 ?_
        refine r_aload_n 159 hC 1 rfl (Or.inl (by decide)) rfl dX12_pour_159 ?_
        refine r_get 160 hC fd_10_7 fl_X12_27 dX12_pour_160 (fun v25 => ?_)
        refine r_bipush 163 hC kb_60 dX12_pour_163 ?_
        refine r_iload_n 165 hC 2 rfl rfl dX12_pour_165 ?_
        refine r_imul 166 hC dX12_pour_166 ?_
        refine r_iload_n 167 hC 3 rfl rfl dX12_pour_167 ?_
        refine r_iadd 168 hC dX12_pour_168 ?_
        refine r_iload 169 hC 0 rfl dX12_pour_169 ?_
        refine r_iadd 171 hC dX12_pour_171 ?_
        refine r_laload 172 hC dX12_pour_172 (fun v26 => ?_)
        refine r_lastore 173 hC dX12_pour_173 (fun M27 => ?_)
        refine r_iinc 174 hC 7 rfl (by decide) dX12_pour_174 (r_eqls (ls' := [(6, 0, w32 (p21 + 1)), (7, 0, q23), (0, 30, x0), (1, 0, x1), (2, 0, x2), (3, 0, x3), (4, 0, x4), (5, 0, x5)]) rfl ?_)
        refine r_goto 177 hC (tgt := 118) (by decide) dX12_pour_177 ?_
        exact r_sub [2, 3, 4, 5, 6, 7, 0] rfl (ih (w32 (p21 + 1)) M27)
      refine r_icmp_ge 128 hC (tgt := 141) (by decide) dX12_pour_128 ?_ ?_
      · refine r_iload 141 hC 6 rfl dX12_pour_141 ?_
        exact hj143 p21
      · refine r_iload 131 hC 5 rfl dX12_pour_131 ?_
        refine r_iconst 133 hC (r32c rfl) dX12_pour_133 ?_
        refine r_isub 134 hC dX12_pour_134 ?_
        refine r_iload 135 hC 6 rfl dX12_pour_135 ?_
        refine r_isub 137 hC dX12_pour_137 ?_
        refine r_goto 138 hC (tgt := 143) (by decide) dX12_pour_138 ?_
        exact hj143 (w32 ((w32 (x5 - 1)) - p21))
set_option maxRecDepth 100000 in
theorem t_X12_pour (x0 x1 x2 x3 x4 x5 : Int) (M : Mem) (h0 : x0 ≠ 0) : MtI yX12_pour cX12_pour 8 (some .boolean) 2 0 0 [(30, x0), (0, x1), (0, x2), (0, x3), (0, x4), (0, x5)] M 0 (f_X12_pour x0 x1 x2 x3 x4 x5 M) := by
  refine mk_I (by decide +kernel) (Nat.le_of_ble_eq_true rfl) (fun E C r0 M0 hC hq hin => ?_)
  refine r_eqls (ls' := [(0, 30, x0), (1, 0, x1), (2, 0, x2), (3, 0, x3), (4, 0, x4), (5, 0, x5)]) rfl ?_
  unfold f_X12_pour
  refine r_iload_n 0 hC 1 rfl rfl dX12_pour_0 ?_
  refine r_callSP 1 hC [(0, x1)] [] rfl sl_X12_98 rfl (by decide) (Nat.le_of_ble_eq_true rfl) (by decide) (by decide) dX12_pour_1 (t_X12_isTray x1 M) (fun v1 => ?_)
  refine r_jn (P := fun j28 => Bk E C 8 M (r0, M0) 28 [(0, 30, x0)] [] M 0 0 (j28)) ?_ (fun j28 hj28 => ?_)
  · refine r_aload_n 28 hC 0 rfl (Or.inl (by decide)) rfl dX12_pour_28 ?_
    refine r_iconst 29 hC (r32c rfl) dX12_pour_29 ?_
    refine r_callVI 30 hC [(0, 1)] [] rfl vl_X12_94 rfl h0 (by decide) (Nat.le_of_ble_eq_true rfl) (by decide) (by decide) dX12_pour_30 (t_X12_is x0 1 M h0) (fun v2 M3 => ?_)
    exact r_zreturn 33 hC hq (by decide) (by decide) dX12_pour_33
  refine r_if_eq 4 hC (tgt := 28) (by decide) dX12_pour_4 ?_ ?_
  · exact r_sub [0] rfl (hj28)
  · refine r_iload_n 7 hC 3 rfl rfl dX12_pour_7 ?_
    refine r_callSP 8 hC [(0, x3)] [] rfl sl_X12_98 rfl (by decide) (Nat.le_of_ble_eq_true rfl) (by decide) (by decide) dX12_pour_8 (t_X12_isTray x3 M) (fun v4 => ?_)
    refine r_if_eq 11 hC (tgt := 28) (by decide) dX12_pour_11 ?_ ?_
    · exact r_sub [0] rfl (hj28)
    · refine r_iload_n 14 hC 2 rfl rfl dX12_pour_14 ?_
      refine r_if_lt 15 hC (tgt := 28) (by decide) dX12_pour_15 ?_ ?_
      · exact r_sub [0] rfl (hj28)
      · refine r_iload 18 hC 4 rfl dX12_pour_18 ?_
        refine r_if_lt 20 hC (tgt := 28) (by decide) dX12_pour_20 ?_ ?_
        · exact r_sub [0] rfl (hj28)
        · refine r_iload 23 hC 5 rfl dX12_pour_23 ?_
          refine r_if_ge 25 hC (tgt := 34) (by decide) dX12_pour_25 ?_ ?_
          · refine r_aload_n 34 hC 0 rfl (Or.inl (by decide)) rfl dX12_pour_34 ?_
            refine r_get 35 hC fd_10_6 fl_X12_24 dX12_pour_35 (fun v5 => ?_)
            refine r_iload_n 38 hC 1 rfl rfl dX12_pour_38 ?_
            refine r_iaload 39 hC dX12_pour_39 (fun v6 => ?_)
            refine r_iconst 40 hC (r32c rfl) dX12_pour_40 ?_
            refine r_jn (P := fun j54 => Bk E C 8 M (r0, M0) 54 [(0, 30, x0)] [] M 0 0 (j54)) ?_ (fun j54 hj54 => ?_)
            · refine r_aload_n 54 hC 0 rfl (Or.inl (by decide)) rfl dX12_pour_54 ?_
              refine r_iconst 55 hC (r32c rfl) dX12_pour_55 ?_
              refine r_callVI 56 hC [(0, 2)] [] rfl vl_X12_94 rfl h0 (by decide) (Nat.le_of_ble_eq_true rfl) (by decide) (by decide) dX12_pour_56 (t_X12_is x0 2 M h0) (fun v7 M8 => ?_)
              exact r_zreturn 59 hC hq (by decide) (by decide) dX12_pour_59
            refine r_icmp_eq 41 hC (tgt := 54) (by decide) dX12_pour_41 ?_ ?_
            · exact r_sub [0] rfl (hj54)
            · refine r_aload_n 44 hC 0 rfl (Or.inl (by decide)) rfl dX12_pour_44 ?_
              refine r_get 45 hC fd_10_6 fl_X12_24 dX12_pour_45 (fun v9 => ?_)
              refine r_iload_n 48 hC 3 rfl rfl dX12_pour_48 ?_
              refine r_iaload 49 hC dX12_pour_49 (fun v10 => ?_)
              refine r_iconst 50 hC (r32c rfl) dX12_pour_50 ?_
              refine r_icmp_ne 51 hC (tgt := 60) (by decide) dX12_pour_51 ?_ ?_
              · refine r_aload_n 60 hC 0 rfl (Or.inl (by decide)) rfl dX12_pour_60 ?_
                refine r_get 61 hC fd_10_5 fl_X12_21 dX12_pour_61 (fun v11 => ?_)
                refine r_iload_n 64 hC 1 rfl rfl dX12_pour_64 ?_
                refine r_iaload 65 hC dX12_pour_65 (fun v12 => ?_)
                refine r_aload_n 66 hC 0 rfl (Or.inl (by decide)) rfl dX12_pour_66 ?_
                refine r_get 67 hC fd_10_5 fl_X12_21 dX12_pour_67 (fun v13 => ?_)
                refine r_iload_n 70 hC 3 rfl rfl dX12_pour_70 ?_
                refine r_iaload 71 hC dX12_pour_71 (fun v14 => ?_)
                refine r_icmp_eq 72 hC (tgt := 82) (by decide) dX12_pour_72 ?_ ?_
                · refine r_iload 82 hC 5 rfl dX12_pour_82 ?_
                  refine r_aload_n 84 hC 0 rfl (Or.inl (by decide)) rfl dX12_pour_84 ?_
                  refine r_get 85 hC fd_10_6 fl_X12_24 dX12_pour_85 (fun v15 => ?_)
                  refine r_iload_n 88 hC 1 rfl rfl dX12_pour_88 ?_
                  refine r_iaload 89 hC dX12_pour_89 (fun v16 => ?_)
                  refine r_iload_n 90 hC 2 rfl rfl dX12_pour_90 ?_
                  refine r_isub 91 hC dX12_pour_91 ?_
                  refine r_jn (P := fun j109 => Bk E C 8 M (r0, M0) 109 [(0, 30, x0)] [] M 0 0 (j109)) ?_ (fun j109 hj109 => ?_)
                  · refine r_aload_n 109 hC 0 rfl (Or.inl (by decide)) rfl dX12_pour_109 ?_
                    refine r_iconst 110 hC (r32c rfl) dX12_pour_110 ?_
                    refine r_callVI 111 hC [(0, 3)] [] rfl vl_X12_94 rfl h0 (by decide) (Nat.le_of_ble_eq_true rfl) (by decide) (by decide) dX12_pour_111 (t_X12_is x0 3 M h0) (fun v17 M18 => ?_)
                    exact r_zreturn 114 hC hq (by decide) (by decide) dX12_pour_114
                  refine r_icmp_gt 92 hC (tgt := 109) (by decide) dX12_pour_92 ?_ ?_
                  · exact r_sub [0] rfl (hj109)
                  · refine r_iload 95 hC 5 rfl dX12_pour_95 ?_
                    refine r_aload_n 97 hC 0 rfl (Or.inl (by decide)) rfl dX12_pour_97 ?_
                    refine r_get 98 hC fd_10_6 fl_X12_24 dX12_pour_98 (fun v19 => ?_)
                    refine r_iload_n 101 hC 3 rfl rfl dX12_pour_101 ?_
                    refine r_iaload 102 hC dX12_pour_102 (fun v20 => ?_)
                    refine r_iload 103 hC 4 rfl dX12_pour_103 ?_
                    refine r_isub 105 hC dX12_pour_105 ?_
                    refine r_icmp_le 106 hC (tgt := 115) (by decide) dX12_pour_106 ?_ ?_
                    · refine r_iconst 115 hC (r32c rfl) dX12_pour_115 ?_
                      refine r_istore 116 hC (by decide) dX12_pour_116 (r_eqls (ls' := [(6, 0, 0), (0, 30, x0), (1, 0, x1), (2, 0, x2), (3, 0, x3), (4, 0, x4), (5, 0, x5)]) rfl ?_)
                      refine r_sub [1, 2, 3, 4, 5, 6, 0] rfl (f_X12_pour_L118_ok h0 hC hq (fun M29 => ?_) KF 0 M)
                      · refine r_aload_n 180 hC 0 rfl (Or.inl (by decide)) rfl dX12_pour_180 ?_
                        refine r_iconst 181 hC (r32c rfl) dX12_pour_181 ?_
                        refine r_callVI 182 hC [(0, 0)] [] rfl vl_X12_94 rfl h0 (by decide) (Nat.le_of_ble_eq_true rfl) (by decide) (by decide) dX12_pour_182 (t_X12_is x0 0 M29 h0) (fun v30 M31 => ?_)
                        exact r_zreturn 185 hC hq (by decide) (by decide) dX12_pour_185
                    · exact r_sub [0] rfl (hj109)
                · refine r_aload_n 75 hC 0 rfl (Or.inl (by decide)) rfl dX12_pour_75 ?_
                  refine r_bipush 76 hC kb_8 dX12_pour_76 ?_
                  refine r_callVI 78 hC [(0, 8)] [] rfl vl_X12_94 rfl h0 (by decide) (Nat.le_of_ble_eq_true rfl) (by decide) (by decide) dX12_pour_78 (t_X12_is x0 8 M h0) (fun v32 M33 => ?_)
                  exact r_zreturn 81 hC hq (by decide) (by decide) dX12_pour_81
              · exact r_sub [0] rfl (hj54)
          · exact r_sub [0] rfl (hj28)

/-! WaterTurnsModel.isFrom(JJJ)Z -/
theorem dX12_isFrom_0 : decode cX12_isFrom 0 = .ok (.lload_n 0, 1) := by decide +kernel
theorem dX12_isFrom_1 : decode cX12_isFrom 1 = .ok (.lload_n 2, 1) := by decide +kernel
theorem dX12_isFrom_2 : decode cX12_isFrom 2 = .ok (.lcmp, 1) := by decide +kernel
theorem dX12_isFrom_3 : decode cX12_isFrom 3 = .ok (.ifCond .lt 14, 3) := by decide +kernel
theorem dX12_isFrom_6 : decode cX12_isFrom 6 = .ok (.lload_n 0, 1) := by decide +kernel
theorem dX12_isFrom_7 : decode cX12_isFrom 7 = .ok (.lload 4, 2) := by decide +kernel
theorem dX12_isFrom_9 : decode cX12_isFrom 9 = .ok (.lcmp, 1) := by decide +kernel
theorem dX12_isFrom_10 : decode cX12_isFrom 10 = .ok (.ifCond .gt 7, 3) := by decide +kernel
theorem dX12_isFrom_13 : decode cX12_isFrom 13 = .ok (.iconst 1, 1) := by decide +kernel
theorem dX12_isFrom_14 : decode cX12_isFrom 14 = .ok (.goto 4, 3) := by decide +kernel
theorem dX12_isFrom_17 : decode cX12_isFrom 17 = .ok (.iconst 0, 1) := by decide +kernel
theorem dX12_isFrom_18 : decode cX12_isFrom 18 = .ok (.ireturn, 1) := by decide +kernel
set_option maxRecDepth 100000 in
theorem t_X12_isFrom (x0 x2 x4 : Int) (M : Mem) : MtP yX12_isFrom cX12_isFrom 6 (some .boolean) 1 0 0 [(1, x0), (1, x2), (1, x4)] M 0 (f_X12_isFrom x0 x2 x4 M) := by
  refine mk_P (by decide +kernel) (Nat.le_of_ble_eq_true rfl) (fun E C r0 hC hq hin => ?_)
  refine r_eqls (ls' := [(0, 1, x0), (2, 1, x2), (4, 1, x4)]) rfl ?_
  unfold f_X12_isFrom
  refine r_lload_n 0 hC 0 rfl rfl dX12_isFrom_0 ?_
  refine r_lload_n 1 hC 1 rfl rfl dX12_isFrom_1 ?_
  refine r_jn (P := fun j18 => ∀ (q1 : Int), Bk E C 6 M r0 18 [] [(0, q1)] M 0 0 (j18 q1)) ?_ (fun j18 hj18 => ?_)
  · intro q1
    exact r_zreturnP 18 hC hq (by decide) (by decide) dX12_isFrom_18
  refine r_jn (P := fun j17 => Bk E C 6 M r0 17 [] [] M 0 0 (j17)) ?_ (fun j17 hj17 => ?_)
  · refine r_iconst 17 hC (r32c rfl) dX12_isFrom_17 ?_
    exact hj18 0
  refine r_lcmp_lt 2 hC (tgt := 17) (by decide) dX12_isFrom_2 dX12_isFrom_3 ?_ ?_
  · exact r_sub [] rfl (hj17)
  · refine r_lload_n 6 hC 0 rfl rfl dX12_isFrom_6 ?_
    refine r_lload 7 hC 2 rfl dX12_isFrom_7 ?_
    refine r_lcmp_gt 9 hC (tgt := 17) (by decide) dX12_isFrom_9 dX12_isFrom_10 ?_ ?_
    · exact r_sub [] rfl (hj17)
    · refine r_iconst 13 hC (r32c rfl) dX12_isFrom_13 ?_
      refine r_goto 14 hC (tgt := 18) (by decide) dX12_isFrom_14 ?_
      exact r_sub [] rfl (hj18 1)

/-! WaterTurnsModel.four(I)V -/
theorem dX12_four_0 : decode cX12_four 0 = .ok (.bipush 24, 2) := by decide +kernel
theorem dX12_four_2 : decode cX12_four 2 = .ok (.istore_n 2, 1) := by decide +kernel
theorem dX12_four_3 : decode cX12_four 3 = .ok (.iload_n 2, 1) := by decide +kernel
theorem dX12_four_4 : decode cX12_four 4 = .ok (.ifCond .lt 32, 3) := by decide +kernel
theorem dX12_four_7 : decode cX12_four 7 = .ok (.aload_n 0, 1) := by decide +kernel
theorem dX12_four_8 : decode cX12_four 8 = .ok (.getfield 30, 3) := by decide +kernel
theorem dX12_four_11 : decode cX12_four 11 = .ok (.aload_n 0, 1) := by decide +kernel
theorem dX12_four_12 : decode cX12_four 12 = .ok (.getfield 111, 3) := by decide +kernel
theorem dX12_four_15 : decode cX12_four 15 = .ok (.iload_n 1, 1) := by decide +kernel
theorem dX12_four_16 : decode cX12_four 16 = .ok (.iload_n 2, 1) := by decide +kernel
theorem dX12_four_17 : decode cX12_four 17 = .ok (.ishr, 1) := by decide +kernel
theorem dX12_four_18 : decode cX12_four 18 = .ok (.i2b, 1) := by decide +kernel
theorem dX12_four_19 : decode cX12_four 19 = .ok (.bastore, 1) := by decide +kernel
theorem dX12_four_20 : decode cX12_four 20 = .ok (.aload_n 0, 1) := by decide +kernel
theorem dX12_four_21 : decode cX12_four 21 = .ok (.dup, 1) := by decide +kernel
theorem dX12_four_22 : decode cX12_four 22 = .ok (.getfield 111, 3) := by decide +kernel
theorem dX12_four_25 : decode cX12_four 25 = .ok (.iconst 1, 1) := by decide +kernel
theorem dX12_four_26 : decode cX12_four 26 = .ok (.iadd, 1) := by decide +kernel
theorem dX12_four_27 : decode cX12_four 27 = .ok (.putfield 111, 3) := by decide +kernel
theorem dX12_four_30 : decode cX12_four 30 = .ok (.iinc 2 (-8), 3) := by decide +kernel
theorem dX12_four_33 : decode cX12_four 33 = .ok (.goto (-30), 3) := by decide +kernel
theorem dX12_four_36 : decode cX12_four 36 = .ok (.return_, 1) := by decide +kernel
set_option maxRecDepth 100000 in
theorem f_X12_four_L3_ok {E : EnvT} {C : Cx} {Mi : Mem} {x0 : Int} (h0 : x0 ≠ 0) (hC : CxOK E C cX12_four 3 yX12_four.cls 1 0 0) {M0 : Mem} (hq : RQ E C 0 0 Mi none none M0) {x1 : Int} {k : Mem → Option (Mem)} (hk : ∀ M8, Bk E C 3 Mi M0 36 [] [] M8 0 0 (k M8)) : ∀ (n : Nat) (p1 : Int) (M2 : Mem), Bk E C 3 Mi M0 3 [(0, 30, x0), (1, 0, x1), (2, 0, p1)] [] M2 0 0 (f_X12_four_L3 x0 x1 k n p1 M2) := by
  intro n
  induction n with
  | zero =>
    intro p1 M2
    exact r_none
  | succ n ih =>
    intro p1 M2
    rw [f_X12_four_L3]
    refine r_iload_n 3 hC 2 rfl rfl dX12_four_3 ?_
    refine r_if_lt 4 hC (tgt := 36) (by decide) dX12_four_4 ?_ ?_
    · exact r_sub [] rfl (hk M2)
    · refine r_aload_n 7 hC 0 rfl (Or.inl (by decide)) rfl dX12_four_7 ?_
      refine r_get 8 hC fd_10_8 fl_X12_30 dX12_four_8 (fun v3 => ?_)
      refine r_aload_n 11 hC 0 rfl (Or.inl (by decide)) rfl dX12_four_11 ?_
      refine r_get 12 hC fd_10_10 fl_X12_111 dX12_four_12 (fun v4 => ?_)
      refine r_iload_n 15 hC 1 rfl rfl dX12_four_15 ?_
      refine r_iload_n 16 hC 2 rfl rfl dX12_four_16 ?_
      refine r_ishr 17 hC dX12_four_17 ?_
      refine r_i2b 18 hC dX12_four_18 ?_
      refine r_bastore 19 hC dX12_four_19 (fun M5 => ?_)
      refine r_aload_n 20 hC 0 rfl (Or.inl (by decide)) rfl dX12_four_20 ?_
      refine r_dup 21 hC (by decide) dX12_four_21 ?_
      refine r_get 22 hC fd_10_10 fl_X12_111 dX12_four_22 (fun v6 => ?_)
      refine r_iconst 25 hC (r32c rfl) dX12_four_25 ?_
      refine r_iadd 26 hC dX12_four_26 ?_
      refine r_put 27 hC fd_10_10 fl_X12_111 dX12_four_27 (fun M7 => ?_)
      refine r_iinc 30 hC 2 rfl (by decide) dX12_four_30 (r_eqls (ls' := [(2, 0, w32 (p1 + (-8))), (0, 30, x0), (1, 0, x1)]) rfl ?_)
      refine r_goto 33 hC (tgt := 3) (by decide) dX12_four_33 ?_
      exact r_sub [1, 2, 0] rfl (ih (w32 (p1 + (-8))) M7)
set_option maxRecDepth 100000 in
theorem t_X12_four (x0 x1 : Int) (M : Mem) (h0 : x0 ≠ 0) : MtV yX12_four cX12_four 3 none 1 0 0 [(30, x0), (0, x1)] M (f_X12_four x0 x1 M) := by
  refine mk_V (by decide +kernel) (Nat.le_of_ble_eq_true rfl) (fun E C M0 hC hq hin => ?_)
  refine r_eqls (ls' := [(0, 30, x0), (1, 0, x1)]) rfl ?_
  unfold f_X12_four
  refine r_bipush 0 hC kb_24 dX12_four_0 ?_
  refine r_istore_n 2 hC rfl (by decide) dX12_four_2 (r_eqls (ls' := [(2, 0, 24), (0, 30, x0), (1, 0, x1)]) rfl ?_)
  refine r_sub [1, 2, 0] rfl (f_X12_four_L3_ok h0 hC hq (fun M9 => ?_) KF 24 M)
  · exact r_return 36 hC hq (by decide) (by decide) dX12_four_36

/-! WaterTurnsModel.feed(IIIII)I -/
theorem dX12_feed_0 : decode cX12_feed 0 = .ok (.aload_n 0, 1) := by decide +kernel
theorem dX12_feed_1 : decode cX12_feed 1 = .ok (.getfield 111, 3) := by decide +kernel
theorem dX12_feed_4 : decode cX12_feed 4 = .ok (.bipush 20, 2) := by decide +kernel
theorem dX12_feed_6 : decode cX12_feed 6 = .ok (.iadd, 1) := by decide +kernel
theorem dX12_feed_7 : decode cX12_feed 7 = .ok (.sipush 900, 3) := by decide +kernel
theorem dX12_feed_10 : decode cX12_feed 10 = .ok (.if_icmp .le 5, 3) := by decide +kernel
theorem dX12_feed_13 : decode cX12_feed 13 = .ok (.iconst (-1), 1) := by decide +kernel
theorem dX12_feed_14 : decode cX12_feed 14 = .ok (.ireturn, 1) := by decide +kernel
theorem dX12_feed_15 : decode cX12_feed 15 = .ok (.aload_n 0, 1) := by decide +kernel
theorem dX12_feed_16 : decode cX12_feed 16 = .ok (.iload_n 1, 1) := by decide +kernel
theorem dX12_feed_17 : decode cX12_feed 17 = .ok (.invokevirtual 114, 3) := by decide +kernel
theorem dX12_feed_20 : decode cX12_feed 20 = .ok (.aload_n 0, 1) := by decide +kernel
theorem dX12_feed_21 : decode cX12_feed 21 = .ok (.iload_n 2, 1) := by decide +kernel
theorem dX12_feed_22 : decode cX12_feed 22 = .ok (.invokevirtual 114, 3) := by decide +kernel
theorem dX12_feed_25 : decode cX12_feed 25 = .ok (.aload_n 0, 1) := by decide +kernel
theorem dX12_feed_26 : decode cX12_feed 26 = .ok (.iload_n 3, 1) := by decide +kernel
theorem dX12_feed_27 : decode cX12_feed 27 = .ok (.invokevirtual 114, 3) := by decide +kernel
theorem dX12_feed_30 : decode cX12_feed 30 = .ok (.aload_n 0, 1) := by decide +kernel
theorem dX12_feed_31 : decode cX12_feed 31 = .ok (.iload 4, 2) := by decide +kernel
theorem dX12_feed_33 : decode cX12_feed 33 = .ok (.invokevirtual 114, 3) := by decide +kernel
theorem dX12_feed_36 : decode cX12_feed 36 = .ok (.aload_n 0, 1) := by decide +kernel
theorem dX12_feed_37 : decode cX12_feed 37 = .ok (.iload 5, 2) := by decide +kernel
theorem dX12_feed_39 : decode cX12_feed 39 = .ok (.invokevirtual 114, 3) := by decide +kernel
theorem dX12_feed_42 : decode cX12_feed 42 = .ok (.aload_n 0, 1) := by decide +kernel
theorem dX12_feed_43 : decode cX12_feed 43 = .ok (.getfield 111, 3) := by decide +kernel
theorem dX12_feed_46 : decode cX12_feed 46 = .ok (.ireturn, 1) := by decide +kernel
set_option maxRecDepth 100000 in
theorem t_X12_feed (x0 x1 x2 x3 x4 x5 : Int) (M : Mem) (h0 : x0 ≠ 0) : MtI yX12_feed cX12_feed 6 (some .int) 2 0 0 [(30, x0), (0, x1), (0, x2), (0, x3), (0, x4), (0, x5)] M 0 (f_X12_feed x0 x1 x2 x3 x4 x5 M) := by
  refine mk_I (by decide +kernel) (Nat.le_of_ble_eq_true rfl) (fun E C r0 M0 hC hq hin => ?_)
  refine r_eqls (ls' := [(0, 30, x0), (1, 0, x1), (2, 0, x2), (3, 0, x3), (4, 0, x4), (5, 0, x5)]) rfl ?_
  unfold f_X12_feed
  refine r_aload_n 0 hC 0 rfl (Or.inl (by decide)) rfl dX12_feed_0 ?_
  refine r_get 1 hC fd_10_10 fl_X12_111 dX12_feed_1 (fun v1 => ?_)
  refine r_bipush 4 hC kb_20 dX12_feed_4 ?_
  refine r_iadd 6 hC dX12_feed_6 ?_
  refine r_sipush 7 hC ks_900 dX12_feed_7 ?_
  refine r_icmp_le 10 hC (tgt := 15) (by decide) dX12_feed_10 ?_ ?_
  · refine r_aload_n 15 hC 0 rfl (Or.inl (by decide)) rfl dX12_feed_15 ?_
    refine r_iload_n 16 hC 1 rfl rfl dX12_feed_16 ?_
    refine r_callVV 17 hC [(0, x1)] [] rfl vl_X12_114 rfl h0 (by decide) (Nat.le_of_ble_eq_true rfl) (by decide) (by decide) dX12_feed_17 (t_X12_four x0 x1 M h0) (fun M2 => ?_)
    refine r_aload_n 20 hC 0 rfl (Or.inl (by decide)) rfl dX12_feed_20 ?_
    refine r_iload_n 21 hC 2 rfl rfl dX12_feed_21 ?_
    refine r_callVV 22 hC [(0, x2)] [] rfl vl_X12_114 rfl h0 (by decide) (Nat.le_of_ble_eq_true rfl) (by decide) (by decide) dX12_feed_22 (t_X12_four x0 x2 M2 h0) (fun M3 => ?_)
    refine r_aload_n 25 hC 0 rfl (Or.inl (by decide)) rfl dX12_feed_25 ?_
    refine r_iload_n 26 hC 3 rfl rfl dX12_feed_26 ?_
    refine r_callVV 27 hC [(0, x3)] [] rfl vl_X12_114 rfl h0 (by decide) (Nat.le_of_ble_eq_true rfl) (by decide) (by decide) dX12_feed_27 (t_X12_four x0 x3 M3 h0) (fun M4 => ?_)
    refine r_aload_n 30 hC 0 rfl (Or.inl (by decide)) rfl dX12_feed_30 ?_
    refine r_iload 31 hC 4 rfl dX12_feed_31 ?_
    refine r_callVV 33 hC [(0, x4)] [] rfl vl_X12_114 rfl h0 (by decide) (Nat.le_of_ble_eq_true rfl) (by decide) (by decide) dX12_feed_33 (t_X12_four x0 x4 M4 h0) (fun M5 => ?_)
    refine r_aload_n 36 hC 0 rfl (Or.inl (by decide)) rfl dX12_feed_36 ?_
    refine r_iload 37 hC 5 rfl dX12_feed_37 ?_
    refine r_callVV 39 hC [(0, x5)] [] rfl vl_X12_114 rfl h0 (by decide) (Nat.le_of_ble_eq_true rfl) (by decide) (by decide) dX12_feed_39 (t_X12_four x0 x5 M5 h0) (fun M6 => ?_)
    refine r_aload_n 42 hC 0 rfl (Or.inl (by decide)) rfl dX12_feed_42 ?_
    refine r_get 43 hC fd_10_10 fl_X12_111 dX12_feed_43 (fun v7 => ?_)
    exact r_ireturn 46 hC hq (by decide) (by decide) dX12_feed_46
  · refine r_iconst 13 hC (r32c rfl) dX12_feed_13 ?_
    exact r_ireturn 14 hC hq (by decide) (by decide) dX12_feed_14

/-! WaterTurnsModel.byteAt(I)I -/
theorem dX12_byteAt_0 : decode cX12_byteAt 0 = .ok (.iload_n 1, 1) := by decide +kernel
theorem dX12_byteAt_1 : decode cX12_byteAt 1 = .ok (.aload_n 0, 1) := by decide +kernel
theorem dX12_byteAt_2 : decode cX12_byteAt 2 = .ok (.getfield 117, 3) := by decide +kernel
theorem dX12_byteAt_5 : decode cX12_byteAt 5 = .ok (.if_icmp .ge 16, 3) := by decide +kernel
theorem dX12_byteAt_8 : decode cX12_byteAt 8 = .ok (.aload_n 0, 1) := by decide +kernel
theorem dX12_byteAt_9 : decode cX12_byteAt 9 = .ok (.getfield 34, 3) := by decide +kernel
theorem dX12_byteAt_12 : decode cX12_byteAt 12 = .ok (.iload_n 1, 1) := by decide +kernel
theorem dX12_byteAt_13 : decode cX12_byteAt 13 = .ok (.baload, 1) := by decide +kernel
theorem dX12_byteAt_14 : decode cX12_byteAt 14 = .ok (.sipush 255, 3) := by decide +kernel
theorem dX12_byteAt_17 : decode cX12_byteAt 17 = .ok (.iand, 1) := by decide +kernel
theorem dX12_byteAt_18 : decode cX12_byteAt 18 = .ok (.goto 4, 3) := by decide +kernel
theorem dX12_byteAt_21 : decode cX12_byteAt 21 = .ok (.iconst (-1), 1) := by decide +kernel
theorem dX12_byteAt_22 : decode cX12_byteAt 22 = .ok (.ireturn, 1) := by decide +kernel
set_option maxRecDepth 100000 in
theorem t_X12_byteAt (x0 x1 : Int) (M : Mem) (h0 : x0 ≠ 0) : MtP yX12_byteAt cX12_byteAt 2 (some .int) 1 0 0 [(30, x0), (0, x1)] M 0 (f_X12_byteAt x0 x1 M) := by
  refine mk_P (by decide +kernel) (Nat.le_of_ble_eq_true rfl) (fun E C r0 hC hq hin => ?_)
  refine r_eqls (ls' := [(0, 30, x0), (1, 0, x1)]) rfl ?_
  unfold f_X12_byteAt
  refine r_iload_n 0 hC 1 rfl rfl dX12_byteAt_0 ?_
  refine r_aload_n 1 hC 0 rfl (Or.inl (by decide)) rfl dX12_byteAt_1 ?_
  refine r_get 2 hC fd_10_11 fl_X12_117 dX12_byteAt_2 (fun v1 => ?_)
  refine r_jn (P := fun j22 => ∀ (q2 : Int), Bk E C 2 M r0 22 [] [(0, q2)] M 0 0 (j22 q2)) ?_ (fun j22 hj22 => ?_)
  · intro q2
    exact r_ireturnP 22 hC hq (by decide) (by decide) dX12_byteAt_22
  refine r_icmp_ge 5 hC (tgt := 21) (by decide) dX12_byteAt_5 ?_ ?_
  · refine r_iconst 21 hC (r32c rfl) dX12_byteAt_21 ?_
    exact r_sub [] rfl (hj22 (-1))
  · refine r_aload_n 8 hC 0 rfl (Or.inl (by decide)) rfl dX12_byteAt_8 ?_
    refine r_get 9 hC fd_10_9 fl_X12_34 dX12_byteAt_9 (fun v3 => ?_)
    refine r_iload_n 12 hC 1 rfl rfl dX12_byteAt_12 ?_
    refine r_baload 13 hC dX12_byteAt_13 (fun v4 => ?_)
    refine r_sipush 14 hC ks_255 dX12_byteAt_14 ?_
    refine r_iand 17 hC dX12_byteAt_17 ?_
    refine r_goto 18 hC (tgt := 22) (by decide) dX12_byteAt_18 ?_
    exact r_sub [] rfl (hj22 (iandv v4 255))

/-! WaterTurnsModel.isSmall(I)Z -/
theorem dX12_isSmall_0 : decode cX12_isSmall 0 = .ok (.iload_n 0, 1) := by decide +kernel
theorem dX12_isSmall_1 : decode cX12_isSmall 1 = .ok (.bipush 97, 2) := by decide +kernel
theorem dX12_isSmall_3 : decode cX12_isSmall 3 = .ok (.if_icmp .lt 13, 3) := by decide +kernel
theorem dX12_isSmall_6 : decode cX12_isSmall 6 = .ok (.iload_n 0, 1) := by decide +kernel
theorem dX12_isSmall_7 : decode cX12_isSmall 7 = .ok (.bipush 122, 2) := by decide +kernel
theorem dX12_isSmall_9 : decode cX12_isSmall 9 = .ok (.if_icmp .gt 7, 3) := by decide +kernel
theorem dX12_isSmall_12 : decode cX12_isSmall 12 = .ok (.iconst 1, 1) := by decide +kernel
theorem dX12_isSmall_13 : decode cX12_isSmall 13 = .ok (.goto 4, 3) := by decide +kernel
theorem dX12_isSmall_16 : decode cX12_isSmall 16 = .ok (.iconst 0, 1) := by decide +kernel
theorem dX12_isSmall_17 : decode cX12_isSmall 17 = .ok (.ireturn, 1) := by decide +kernel
set_option maxRecDepth 100000 in
theorem t_X12_isSmall (x0 : Int) (M : Mem) : MtP yX12_isSmall cX12_isSmall 1 (some .boolean) 1 0 0 [(0, x0)] M 0 (f_X12_isSmall x0 M) := by
  refine mk_P (by decide +kernel) (Nat.le_of_ble_eq_true rfl) (fun E C r0 hC hq hin => ?_)
  refine r_eqls (ls' := [(0, 0, x0)]) rfl ?_
  unfold f_X12_isSmall
  refine r_iload_n 0 hC 0 rfl rfl dX12_isSmall_0 ?_
  refine r_bipush 1 hC kb_97 dX12_isSmall_1 ?_
  refine r_jn (P := fun j17 => ∀ (q1 : Int), Bk E C 1 M r0 17 [] [(0, q1)] M 0 0 (j17 q1)) ?_ (fun j17 hj17 => ?_)
  · intro q1
    exact r_zreturnP 17 hC hq (by decide) (by decide) dX12_isSmall_17
  refine r_jn (P := fun j16 => Bk E C 1 M r0 16 [] [] M 0 0 (j16)) ?_ (fun j16 hj16 => ?_)
  · refine r_iconst 16 hC (r32c rfl) dX12_isSmall_16 ?_
    exact hj17 0
  refine r_icmp_lt 3 hC (tgt := 16) (by decide) dX12_isSmall_3 ?_ ?_
  · exact r_sub [] rfl (hj16)
  · refine r_iload_n 6 hC 0 rfl rfl dX12_isSmall_6 ?_
    refine r_bipush 7 hC kb_122 dX12_isSmall_7 ?_
    refine r_icmp_gt 9 hC (tgt := 16) (by decide) dX12_isSmall_9 ?_ ?_
    · exact r_sub [] rfl (hj16)
    · refine r_iconst 12 hC (r32c rfl) dX12_isSmall_12 ?_
      refine r_goto 13 hC (tgt := 17) (by decide) dX12_isSmall_13 ?_
      exact r_sub [] rfl (hj17 1)

/-! WaterTurnsModel.isDigit(I)Z -/
theorem dX12_isDigit_0 : decode cX12_isDigit 0 = .ok (.iload_n 0, 1) := by decide +kernel
theorem dX12_isDigit_1 : decode cX12_isDigit 1 = .ok (.bipush 48, 2) := by decide +kernel
theorem dX12_isDigit_3 : decode cX12_isDigit 3 = .ok (.if_icmp .lt 13, 3) := by decide +kernel
theorem dX12_isDigit_6 : decode cX12_isDigit 6 = .ok (.iload_n 0, 1) := by decide +kernel
theorem dX12_isDigit_7 : decode cX12_isDigit 7 = .ok (.bipush 57, 2) := by decide +kernel
theorem dX12_isDigit_9 : decode cX12_isDigit 9 = .ok (.if_icmp .gt 7, 3) := by decide +kernel
theorem dX12_isDigit_12 : decode cX12_isDigit 12 = .ok (.iconst 1, 1) := by decide +kernel
theorem dX12_isDigit_13 : decode cX12_isDigit 13 = .ok (.goto 4, 3) := by decide +kernel
theorem dX12_isDigit_16 : decode cX12_isDigit 16 = .ok (.iconst 0, 1) := by decide +kernel
theorem dX12_isDigit_17 : decode cX12_isDigit 17 = .ok (.ireturn, 1) := by decide +kernel
set_option maxRecDepth 100000 in
theorem t_X12_isDigit (x0 : Int) (M : Mem) : MtP yX12_isDigit cX12_isDigit 1 (some .boolean) 1 0 0 [(0, x0)] M 0 (f_X12_isDigit x0 M) := by
  refine mk_P (by decide +kernel) (Nat.le_of_ble_eq_true rfl) (fun E C r0 hC hq hin => ?_)
  refine r_eqls (ls' := [(0, 0, x0)]) rfl ?_
  unfold f_X12_isDigit
  refine r_iload_n 0 hC 0 rfl rfl dX12_isDigit_0 ?_
  refine r_bipush 1 hC kb_48 dX12_isDigit_1 ?_
  refine r_jn (P := fun j17 => ∀ (q1 : Int), Bk E C 1 M r0 17 [] [(0, q1)] M 0 0 (j17 q1)) ?_ (fun j17 hj17 => ?_)
  · intro q1
    exact r_zreturnP 17 hC hq (by decide) (by decide) dX12_isDigit_17
  refine r_jn (P := fun j16 => Bk E C 1 M r0 16 [] [] M 0 0 (j16)) ?_ (fun j16 hj16 => ?_)
  · refine r_iconst 16 hC (r32c rfl) dX12_isDigit_16 ?_
    exact hj17 0
  refine r_icmp_lt 3 hC (tgt := 16) (by decide) dX12_isDigit_3 ?_ ?_
  · exact r_sub [] rfl (hj16)
  · refine r_iload_n 6 hC 0 rfl rfl dX12_isDigit_6 ?_
    refine r_bipush 7 hC kb_57 dX12_isDigit_7 ?_
    refine r_icmp_gt 9 hC (tgt := 16) (by decide) dX12_isDigit_9 ?_ ?_
    · exact r_sub [] rfl (hj16)
    · refine r_iconst 12 hC (r32c rfl) dX12_isDigit_12 ?_
      refine r_goto 13 hC (tgt := 17) (by decide) dX12_isDigit_13 ?_
      exact r_sub [] rfl (hj17 1)

/-! WaterTurnsModel.ahead()V -/
theorem dX12_ahead_0 : decode cX12_ahead 0 = .ok (.aload_n 0, 1) := by decide +kernel
theorem dX12_ahead_1 : decode cX12_ahead 1 = .ok (.aload_n 0, 1) := by decide +kernel
theorem dX12_ahead_2 : decode cX12_ahead 2 = .ok (.getfield 120, 3) := by decide +kernel
theorem dX12_ahead_5 : decode cX12_ahead 5 = .ok (.invokevirtual 123, 3) := by decide +kernel
theorem dX12_ahead_8 : decode cX12_ahead 8 = .ok (.bipush 32, 2) := by decide +kernel
theorem dX12_ahead_10 : decode cX12_ahead 10 = .ok (.if_icmp .eq 16, 3) := by decide +kernel
theorem dX12_ahead_13 : decode cX12_ahead 13 = .ok (.aload_n 0, 1) := by decide +kernel
theorem dX12_ahead_14 : decode cX12_ahead 14 = .ok (.aload_n 0, 1) := by decide +kernel
theorem dX12_ahead_15 : decode cX12_ahead 15 = .ok (.getfield 120, 3) := by decide +kernel
theorem dX12_ahead_18 : decode cX12_ahead 18 = .ok (.invokevirtual 123, 3) := by decide +kernel
theorem dX12_ahead_21 : decode cX12_ahead 21 = .ok (.bipush 10, 2) := by decide +kernel
theorem dX12_ahead_23 : decode cX12_ahead 23 = .ok (.if_icmp .ne 16, 3) := by decide +kernel
theorem dX12_ahead_26 : decode cX12_ahead 26 = .ok (.aload_n 0, 1) := by decide +kernel
theorem dX12_ahead_27 : decode cX12_ahead 27 = .ok (.dup, 1) := by decide +kernel
theorem dX12_ahead_28 : decode cX12_ahead 28 = .ok (.getfield 120, 3) := by decide +kernel
theorem dX12_ahead_31 : decode cX12_ahead 31 = .ok (.iconst 1, 1) := by decide +kernel
theorem dX12_ahead_32 : decode cX12_ahead 32 = .ok (.iadd, 1) := by decide +kernel
theorem dX12_ahead_33 : decode cX12_ahead 33 = .ok (.putfield 120, 3) := by decide +kernel
theorem dX12_ahead_36 : decode cX12_ahead 36 = .ok (.goto (-36), 3) := by decide +kernel
theorem dX12_ahead_39 : decode cX12_ahead 39 = .ok (.aload_n 0, 1) := by decide +kernel
theorem dX12_ahead_40 : decode cX12_ahead 40 = .ok (.aload_n 0, 1) := by decide +kernel
theorem dX12_ahead_41 : decode cX12_ahead 41 = .ok (.getfield 120, 3) := by decide +kernel
theorem dX12_ahead_44 : decode cX12_ahead 44 = .ok (.putfield 126, 3) := by decide +kernel
theorem dX12_ahead_47 : decode cX12_ahead 47 = .ok (.aload_n 0, 1) := by decide +kernel
theorem dX12_ahead_48 : decode cX12_ahead 48 = .ok (.aload_n 0, 1) := by decide +kernel
theorem dX12_ahead_49 : decode cX12_ahead 49 = .ok (.getfield 120, 3) := by decide +kernel
theorem dX12_ahead_52 : decode cX12_ahead 52 = .ok (.invokevirtual 123, 3) := by decide +kernel
theorem dX12_ahead_55 : decode cX12_ahead 55 = .ok (.istore_n 1, 1) := by decide +kernel
theorem dX12_ahead_56 : decode cX12_ahead 56 = .ok (.aload_n 0, 1) := by decide +kernel
theorem dX12_ahead_57 : decode cX12_ahead 57 = .ok (.iload_n 1, 1) := by decide +kernel
theorem dX12_ahead_58 : decode cX12_ahead 58 = .ok (.putfield 129, 3) := by decide +kernel
theorem dX12_ahead_61 : decode cX12_ahead 61 = .ok (.iload_n 1, 1) := by decide +kernel
theorem dX12_ahead_62 : decode cX12_ahead 62 = .ok (.iconst (-1), 1) := by decide +kernel
theorem dX12_ahead_63 : decode cX12_ahead 63 = .ok (.if_icmp .ne 11, 3) := by decide +kernel
theorem dX12_ahead_66 : decode cX12_ahead 66 = .ok (.aload_n 0, 1) := by decide +kernel
theorem dX12_ahead_67 : decode cX12_ahead 67 = .ok (.iconst 0, 1) := by decide +kernel
theorem dX12_ahead_68 : decode cX12_ahead 68 = .ok (.putfield 132, 3) := by decide +kernel
theorem dX12_ahead_71 : decode cX12_ahead 71 = .ok (.goto 180, 3) := by decide +kernel
theorem dX12_ahead_74 : decode cX12_ahead 74 = .ok (.iload_n 1, 1) := by decide +kernel
theorem dX12_ahead_75 : decode cX12_ahead 75 = .ok (.invokestatic 135, 3) := by decide +kernel
theorem dX12_ahead_78 : decode cX12_ahead 78 = .ok (.ifCond .eq 38, 3) := by decide +kernel
theorem dX12_ahead_81 : decode cX12_ahead 81 = .ok (.aload_n 0, 1) := by decide +kernel
theorem dX12_ahead_82 : decode cX12_ahead 82 = .ok (.aload_n 0, 1) := by decide +kernel
theorem dX12_ahead_83 : decode cX12_ahead 83 = .ok (.getfield 120, 3) := by decide +kernel
theorem dX12_ahead_86 : decode cX12_ahead 86 = .ok (.invokevirtual 123, 3) := by decide +kernel
theorem dX12_ahead_89 : decode cX12_ahead 89 = .ok (.invokestatic 135, 3) := by decide +kernel
theorem dX12_ahead_92 : decode cX12_ahead 92 = .ok (.ifCond .eq 16, 3) := by decide +kernel
theorem dX12_ahead_95 : decode cX12_ahead 95 = .ok (.aload_n 0, 1) := by decide +kernel
theorem dX12_ahead_96 : decode cX12_ahead 96 = .ok (.dup, 1) := by decide +kernel
theorem dX12_ahead_97 : decode cX12_ahead 97 = .ok (.getfield 120, 3) := by decide +kernel
theorem dX12_ahead_100 : decode cX12_ahead 100 = .ok (.iconst 1, 1) := by decide +kernel
theorem dX12_ahead_101 : decode cX12_ahead 101 = .ok (.iadd, 1) := by decide +kernel
theorem dX12_ahead_102 : decode cX12_ahead 102 = .ok (.putfield 120, 3) := by decide +kernel
theorem dX12_ahead_105 : decode cX12_ahead 105 = .ok (.goto (-24), 3) := by decide +kernel
theorem dX12_ahead_108 : decode cX12_ahead 108 = .ok (.aload_n 0, 1) := by decide +kernel
theorem dX12_ahead_109 : decode cX12_ahead 109 = .ok (.iconst 2, 1) := by decide +kernel
theorem dX12_ahead_110 : decode cX12_ahead 110 = .ok (.putfield 132, 3) := by decide +kernel
theorem dX12_ahead_113 : decode cX12_ahead 113 = .ok (.goto 138, 3) := by decide +kernel
theorem dX12_ahead_116 : decode cX12_ahead 116 = .ok (.iload_n 1, 1) := by decide +kernel
theorem dX12_ahead_117 : decode cX12_ahead 117 = .ok (.invokestatic 138, 3) := by decide +kernel
theorem dX12_ahead_120 : decode cX12_ahead 120 = .ok (.ifCond .eq 88, 3) := by decide +kernel
theorem dX12_ahead_123 : decode cX12_ahead 123 = .ok (.aload_n 0, 1) := by decide +kernel
theorem dX12_ahead_124 : decode cX12_ahead 124 = .ok (.iconst 0, 1) := by decide +kernel
theorem dX12_ahead_125 : decode cX12_ahead 125 = .ok (.putfield 129, 3) := by decide +kernel
theorem dX12_ahead_128 : decode cX12_ahead 128 = .ok (.aload_n 0, 1) := by decide +kernel
theorem dX12_ahead_129 : decode cX12_ahead 129 = .ok (.aload_n 0, 1) := by decide +kernel
theorem dX12_ahead_130 : decode cX12_ahead 130 = .ok (.getfield 120, 3) := by decide +kernel
theorem dX12_ahead_133 : decode cX12_ahead 133 = .ok (.invokevirtual 123, 3) := by decide +kernel
theorem dX12_ahead_136 : decode cX12_ahead 136 = .ok (.invokestatic 138, 3) := by decide +kernel
theorem dX12_ahead_139 : decode cX12_ahead 139 = .ok (.ifCond .eq 44, 3) := by decide +kernel
theorem dX12_ahead_142 : decode cX12_ahead 142 = .ok (.aload_n 0, 1) := by decide +kernel
theorem dX12_ahead_143 : decode cX12_ahead 143 = .ok (.ldc 141, 2) := by decide +kernel
theorem dX12_ahead_145 : decode cX12_ahead 145 = .ok (.bipush 10, 2) := by decide +kernel
theorem dX12_ahead_147 : decode cX12_ahead 147 = .ok (.aload_n 0, 1) := by decide +kernel
theorem dX12_ahead_148 : decode cX12_ahead 148 = .ok (.getfield 129, 3) := by decide +kernel
theorem dX12_ahead_151 : decode cX12_ahead 151 = .ok (.imul, 1) := by decide +kernel
theorem dX12_ahead_152 : decode cX12_ahead 152 = .ok (.aload_n 0, 1) := by decide +kernel
theorem dX12_ahead_153 : decode cX12_ahead 153 = .ok (.aload_n 0, 1) := by decide +kernel
theorem dX12_ahead_154 : decode cX12_ahead 154 = .ok (.getfield 120, 3) := by decide +kernel
theorem dX12_ahead_157 : decode cX12_ahead 157 = .ok (.invokevirtual 123, 3) := by decide +kernel
theorem dX12_ahead_160 : decode cX12_ahead 160 = .ok (.iadd, 1) := by decide +kernel
theorem dX12_ahead_161 : decode cX12_ahead 161 = .ok (.bipush 48, 2) := by decide +kernel
theorem dX12_ahead_163 : decode cX12_ahead 163 = .ok (.isub, 1) := by decide +kernel
theorem dX12_ahead_164 : decode cX12_ahead 164 = .ok (.invokestatic 142, 3) := by decide +kernel
theorem dX12_ahead_167 : decode cX12_ahead 167 = .ok (.putfield 129, 3) := by decide +kernel
theorem dX12_ahead_170 : decode cX12_ahead 170 = .ok (.aload_n 0, 1) := by decide +kernel
theorem dX12_ahead_171 : decode cX12_ahead 171 = .ok (.dup, 1) := by decide +kernel
theorem dX12_ahead_172 : decode cX12_ahead 172 = .ok (.getfield 120, 3) := by decide +kernel
theorem dX12_ahead_175 : decode cX12_ahead 175 = .ok (.iconst 1, 1) := by decide +kernel
theorem dX12_ahead_176 : decode cX12_ahead 176 = .ok (.iadd, 1) := by decide +kernel
theorem dX12_ahead_177 : decode cX12_ahead 177 = .ok (.putfield 120, 3) := by decide +kernel
theorem dX12_ahead_180 : decode cX12_ahead 180 = .ok (.goto (-52), 3) := by decide +kernel
theorem dX12_ahead_183 : decode cX12_ahead 183 = .ok (.aload_n 0, 1) := by decide +kernel
theorem dX12_ahead_184 : decode cX12_ahead 184 = .ok (.aload_n 0, 1) := by decide +kernel
theorem dX12_ahead_185 : decode cX12_ahead 185 = .ok (.getfield 120, 3) := by decide +kernel
theorem dX12_ahead_188 : decode cX12_ahead 188 = .ok (.aload_n 0, 1) := by decide +kernel
theorem dX12_ahead_189 : decode cX12_ahead 189 = .ok (.getfield 126, 3) := by decide +kernel
theorem dX12_ahead_192 : decode cX12_ahead 192 = .ok (.isub, 1) := by decide +kernel
theorem dX12_ahead_193 : decode cX12_ahead 193 = .ok (.iconst 4, 1) := by decide +kernel
theorem dX12_ahead_194 : decode cX12_ahead 194 = .ok (.if_icmp .le 7, 3) := by decide +kernel
theorem dX12_ahead_197 : decode cX12_ahead 197 = .ok (.iconst 1, 1) := by decide +kernel
theorem dX12_ahead_198 : decode cX12_ahead 198 = .ok (.goto 4, 3) := by decide +kernel
theorem dX12_ahead_201 : decode cX12_ahead 201 = .ok (.iconst 3, 1) := by decide +kernel
theorem dX12_ahead_202 : decode cX12_ahead 202 = .ok (.putfield 132, 3) := by decide +kernel
theorem dX12_ahead_205 : decode cX12_ahead 205 = .ok (.goto 46, 3) := by decide +kernel
theorem dX12_ahead_208 : decode cX12_ahead 208 = .ok (.aload_n 0, 1) := by decide +kernel
theorem dX12_ahead_209 : decode cX12_ahead 209 = .ok (.dup, 1) := by decide +kernel
theorem dX12_ahead_210 : decode cX12_ahead 210 = .ok (.getfield 120, 3) := by decide +kernel
theorem dX12_ahead_213 : decode cX12_ahead 213 = .ok (.iconst 1, 1) := by decide +kernel
theorem dX12_ahead_214 : decode cX12_ahead 214 = .ok (.iadd, 1) := by decide +kernel
theorem dX12_ahead_215 : decode cX12_ahead 215 = .ok (.putfield 120, 3) := by decide +kernel
theorem dX12_ahead_218 : decode cX12_ahead 218 = .ok (.aload_n 0, 1) := by decide +kernel
theorem dX12_ahead_219 : decode cX12_ahead 219 = .ok (.iload_n 1, 1) := by decide +kernel
theorem dX12_ahead_220 : decode cX12_ahead 220 = .ok (.bipush 59, 2) := by decide +kernel
theorem dX12_ahead_222 : decode cX12_ahead 222 = .ok (.if_icmp .eq 21, 3) := by decide +kernel
theorem dX12_ahead_225 : decode cX12_ahead 225 = .ok (.iload_n 1, 1) := by decide +kernel
theorem dX12_ahead_226 : decode cX12_ahead 226 = .ok (.bipush 60, 2) := by decide +kernel
theorem dX12_ahead_228 : decode cX12_ahead 228 = .ok (.if_icmp .eq 15, 3) := by decide +kernel
theorem dX12_ahead_231 : decode cX12_ahead 231 = .ok (.iload_n 1, 1) := by decide +kernel
theorem dX12_ahead_232 : decode cX12_ahead 232 = .ok (.bipush 62, 2) := by decide +kernel
theorem dX12_ahead_234 : decode cX12_ahead 234 = .ok (.if_icmp .eq 9, 3) := by decide +kernel
theorem dX12_ahead_237 : decode cX12_ahead 237 = .ok (.iload_n 1, 1) := by decide +kernel
theorem dX12_ahead_238 : decode cX12_ahead 238 = .ok (.bipush 61, 2) := by decide +kernel
theorem dX12_ahead_240 : decode cX12_ahead 240 = .ok (.if_icmp .ne 7, 3) := by decide +kernel
theorem dX12_ahead_243 : decode cX12_ahead 243 = .ok (.iconst 4, 1) := by decide +kernel
theorem dX12_ahead_244 : decode cX12_ahead 244 = .ok (.goto 4, 3) := by decide +kernel
theorem dX12_ahead_247 : decode cX12_ahead 247 = .ok (.iconst 1, 1) := by decide +kernel
theorem dX12_ahead_248 : decode cX12_ahead 248 = .ok (.putfield 132, 3) := by decide +kernel
theorem dX12_ahead_251 : decode cX12_ahead 251 = .ok (.return_, 1) := by decide +kernel
set_option maxRecDepth 100000 in
theorem f_X12_ahead_L0_ok {E : EnvT} {C : Cx} {Mi : Mem} {x0 : Int} (h0 : x0 ≠ 0) (hC : CxOK E C cX12_ahead 2 yX12_ahead.cls 2 0 0) {M0 : Mem} (hq : RQ E C 0 0 Mi none none M0) {k : Int → Mem → Option (Mem)} (hk : ∀ q10 M11, Bk E C 2 Mi M0 39 [(0, 30, q10)] [] M11 0 0 (k q10 M11)) : ∀ (n : Nat) (p1 : Int) (M2 : Mem), Bk E C 2 Mi M0 0 [(0, 30, p1)] [] M2 0 0 (f_X12_ahead_L0 k n p1 M2) := by
  intro n
  induction n with
  | zero =>
    intro p1 M2
    exact r_none
  | succ n ih =>
    intro p1 M2
    rw [f_X12_ahead_L0]
    refine r_aload_n 0 hC 0 rfl (Or.inl (by decide)) rfl dX12_ahead_0 ?_
    refine r_aload_n 1 hC 0 rfl (Or.inl (by decide)) rfl dX12_ahead_1 ?_
    refine r_get 2 hC fd_10_14 fl_X12_120 dX12_ahead_2 (fun v3 => ?_)
    refine r_nn (fun hn4 => ?_)
    refine r_callVP 5 hC [(0, v3)] [] rfl vl_X12_123 rfl hn4 (by decide) (Nat.le_of_ble_eq_true rfl) (by decide) (by decide) dX12_ahead_5 (t_X12_byteAt p1 v3 M2 hn4) (fun v5 => ?_)
    refine r_bipush 8 hC kb_32 dX12_ahead_8 ?_
    refine r_jn (P := fun j26 => Bk E C 2 Mi M0 26 [(0, 30, p1)] [] M2 0 0 (j26)) ?_ (fun j26 hj26 => ?_)
    · refine r_aload_n 26 hC 0 rfl (Or.inl (by decide)) rfl dX12_ahead_26 ?_
      refine r_dup 27 hC (by decide) dX12_ahead_27 ?_
      refine r_get 28 hC fd_10_14 fl_X12_120 dX12_ahead_28 (fun v6 => ?_)
      refine r_iconst 31 hC (r32c rfl) dX12_ahead_31 ?_
      refine r_iadd 32 hC dX12_ahead_32 ?_
      refine r_put 33 hC fd_10_14 fl_X12_120 dX12_ahead_33 (fun M7 => ?_)
      refine r_goto 36 hC (tgt := 0) (by decide) dX12_ahead_36 ?_
      exact ih p1 M7
    refine r_icmp_eq 10 hC (tgt := 26) (by decide) dX12_ahead_10 ?_ ?_
    · exact hj26
    · refine r_aload_n 13 hC 0 rfl (Or.inl (by decide)) rfl dX12_ahead_13 ?_
      refine r_aload_n 14 hC 0 rfl (Or.inl (by decide)) rfl dX12_ahead_14 ?_
      refine r_get 15 hC fd_10_14 fl_X12_120 dX12_ahead_15 (fun v8 => ?_)
      refine r_callVP 18 hC [(0, v8)] [] rfl vl_X12_123 rfl hn4 (by decide) (Nat.le_of_ble_eq_true rfl) (by decide) (by decide) dX12_ahead_18 (t_X12_byteAt p1 v8 M2 hn4) (fun v9 => ?_)
      refine r_bipush 21 hC kb_10 dX12_ahead_21 ?_
      refine r_icmp_ne 23 hC (tgt := 39) (by decide) dX12_ahead_23 ?_ ?_
      · exact hk p1 M2
      · exact hj26
set_option maxRecDepth 100000 in
theorem f_X12_ahead_L128_ok {E : EnvT} {C : Cx} {Mi : Mem} {x0 : Int} (h0 : x0 ≠ 0) (hC : CxOK E C cX12_ahead 2 yX12_ahead.cls 2 0 0) {M0 : Mem} (hq : RQ E C 0 0 Mi none none M0) {q12 : Int} {k : Mem → Option (Mem)} (hk : ∀ M40, Bk E C 2 Mi M0 183 [(0, 30, q12)] [] M40 0 0 (k M40)) : ∀ (n : Nat) (M28 : Mem), Bk E C 2 Mi M0 128 [(0, 30, q12)] [] M28 0 0 (f_X12_ahead_L128 q12 k n M28) := by
  intro n
  induction n with
  | zero =>
    intro M28
    exact r_none
  | succ n ih =>
    intro M28
    rw [f_X12_ahead_L128]
    refine r_aload_n 128 hC 0 rfl (Or.inl (by decide)) rfl dX12_ahead_128 ?_
    refine r_aload_n 129 hC 0 rfl (Or.inl (by decide)) rfl dX12_ahead_129 ?_
    refine r_get 130 hC fd_10_14 fl_X12_120 dX12_ahead_130 (fun v29 => ?_)
    refine r_nn (fun hn30 => ?_)
    refine r_callVP 133 hC [(0, v29)] [] rfl vl_X12_123 rfl hn30 (by decide) (Nat.le_of_ble_eq_true rfl) (by decide) (by decide) dX12_ahead_133 (t_X12_byteAt q12 v29 M28 hn30) (fun v31 => ?_)
    refine r_callSP 136 hC [(0, v31)] [] rfl sl_X12_138 rfl (by decide) (Nat.le_of_ble_eq_true rfl) (by decide) (by decide) dX12_ahead_136 (t_X12_isDigit v31 M28) (fun v32 => ?_)
    refine r_if_eq 139 hC (tgt := 183) (by decide) dX12_ahead_139 ?_ ?_
    · exact hk M28
    · refine r_aload_n 142 hC 0 rfl (Or.inl (by decide)) rfl dX12_ahead_142 ?_
      refine r_ldc 143 hC (x := 100000) kc_X12_141 ⟨by decide +kernel, r32c rfl⟩ dX12_ahead_143 ?_
      refine r_bipush 145 hC kb_10 dX12_ahead_145 ?_
      refine r_aload_n 147 hC 0 rfl (Or.inl (by decide)) rfl dX12_ahead_147 ?_
      refine r_get 148 hC fd_10_15 fl_X12_129 dX12_ahead_148 (fun v33 => ?_)
      refine r_imul 151 hC dX12_ahead_151 ?_
      refine r_aload_n 152 hC 0 rfl (Or.inl (by decide)) rfl dX12_ahead_152 ?_
      refine r_aload_n 153 hC 0 rfl (Or.inl (by decide)) rfl dX12_ahead_153 ?_
      refine r_get 154 hC fd_10_14 fl_X12_120 dX12_ahead_154 (fun v34 => ?_)
      refine r_callVP 157 hC [(0, v34)] [(0, w32 (10 * v33)), (0, 100000), (30, q12)] rfl vl_X12_123 rfl hn30 (by decide) (Nat.le_of_ble_eq_true rfl) (by decide) (by decide) dX12_ahead_157 (t_X12_byteAt q12 v34 M28 hn30) (fun v35 => ?_)
      refine r_iadd 160 hC dX12_ahead_160 ?_
      refine r_bipush 161 hC kb_48 dX12_ahead_161 ?_
      refine r_isub 163 hC dX12_ahead_163 ?_
      refine r_callSP 164 hC [(0, 100000), (0, w32 ((w32 ((w32 (10 * v33)) + v35)) - 48))] [(30, q12)] rfl sl_X12_142 rfl (by decide) (Nat.le_of_ble_eq_true rfl) (by decide) (by decide) dX12_ahead_164 (t_J9_min_7cf53 100000 (w32 ((w32 ((w32 (10 * v33)) + v35)) - 48)) M28) (fun v36 => ?_)
      refine r_put 167 hC fd_10_15 fl_X12_129 dX12_ahead_167 (fun M37 => ?_)
      refine r_aload_n 170 hC 0 rfl (Or.inl (by decide)) rfl dX12_ahead_170 ?_
      refine r_dup 171 hC (by decide) dX12_ahead_171 ?_
      refine r_get 172 hC fd_10_14 fl_X12_120 dX12_ahead_172 (fun v38 => ?_)
      refine r_iconst 175 hC (r32c rfl) dX12_ahead_175 ?_
      refine r_iadd 176 hC dX12_ahead_176 ?_
      refine r_put 177 hC fd_10_14 fl_X12_120 dX12_ahead_177 (fun M39 => ?_)
      refine r_goto 180 hC (tgt := 128) (by decide) dX12_ahead_180 ?_
      exact ih M39
set_option maxRecDepth 100000 in
theorem f_X12_ahead_L81_ok {E : EnvT} {C : Cx} {Mi : Mem} {x0 : Int} (h0 : x0 ≠ 0) (hC : CxOK E C cX12_ahead 2 yX12_ahead.cls 2 0 0) {M0 : Mem} (hq : RQ E C 0 0 Mi none none M0) {q12 : Int} {k : Mem → Option (Mem)} (hk : ∀ M53, Bk E C 2 Mi M0 108 [(0, 30, q12)] [] M53 0 0 (k M53)) : ∀ (n : Nat) (M46 : Mem), Bk E C 2 Mi M0 81 [(0, 30, q12)] [] M46 0 0 (f_X12_ahead_L81 q12 k n M46) := by
  intro n
  induction n with
  | zero =>
    intro M46
    exact r_none
  | succ n ih =>
    intro M46
    rw [f_X12_ahead_L81]
    refine r_aload_n 81 hC 0 rfl (Or.inl (by decide)) rfl dX12_ahead_81 ?_
    refine r_aload_n 82 hC 0 rfl (Or.inl (by decide)) rfl dX12_ahead_82 ?_
    refine r_get 83 hC fd_10_14 fl_X12_120 dX12_ahead_83 (fun v47 => ?_)
    refine r_nn (fun hn48 => ?_)
    refine r_callVP 86 hC [(0, v47)] [] rfl vl_X12_123 rfl hn48 (by decide) (Nat.le_of_ble_eq_true rfl) (by decide) (by decide) dX12_ahead_86 (t_X12_byteAt q12 v47 M46 hn48) (fun v49 => ?_)
    refine r_callSP 89 hC [(0, v49)] [] rfl sl_X12_135 rfl (by decide) (Nat.le_of_ble_eq_true rfl) (by decide) (by decide) dX12_ahead_89 (t_X12_isSmall v49 M46) (fun v50 => ?_)
    refine r_if_eq 92 hC (tgt := 108) (by decide) dX12_ahead_92 ?_ ?_
    · exact hk M46
    · refine r_aload_n 95 hC 0 rfl (Or.inl (by decide)) rfl dX12_ahead_95 ?_
      refine r_dup 96 hC (by decide) dX12_ahead_96 ?_
      refine r_get 97 hC fd_10_14 fl_X12_120 dX12_ahead_97 (fun v51 => ?_)
      refine r_iconst 100 hC (r32c rfl) dX12_ahead_100 ?_
      refine r_iadd 101 hC dX12_ahead_101 ?_
      refine r_put 102 hC fd_10_14 fl_X12_120 dX12_ahead_102 (fun M52 => ?_)
      refine r_goto 105 hC (tgt := 81) (by decide) dX12_ahead_105 ?_
      exact ih M52
set_option maxRecDepth 100000 in
theorem t_X12_ahead (x0 : Int) (M : Mem) (h0 : x0 ≠ 0) : MtV yX12_ahead cX12_ahead 2 none 2 0 0 [(30, x0)] M (f_X12_ahead x0 M) := by
  refine mk_V (by decide +kernel) (Nat.le_of_ble_eq_true rfl) (fun E C M0 hC hq hin => ?_)
  refine r_eqls (ls' := [(0, 30, x0)]) rfl ?_
  unfold f_X12_ahead
  refine f_X12_ahead_L0_ok h0 hC hq (fun q12 M13 => ?_) KF x0 M
  · refine r_aload_n 39 hC 0 rfl (Or.inl (by decide)) rfl dX12_ahead_39 ?_
    refine r_aload_n 40 hC 0 rfl (Or.inl (by decide)) rfl dX12_ahead_40 ?_
    refine r_get 41 hC fd_10_14 fl_X12_120 dX12_ahead_41 (fun v14 => ?_)
    refine r_put 44 hC fd_10_13 fl_X12_126 dX12_ahead_44 (fun M15 => ?_)
    refine r_aload_n 47 hC 0 rfl (Or.inl (by decide)) rfl dX12_ahead_47 ?_
    refine r_aload_n 48 hC 0 rfl (Or.inl (by decide)) rfl dX12_ahead_48 ?_
    refine r_get 49 hC fd_10_14 fl_X12_120 dX12_ahead_49 (fun v16 => ?_)
    refine r_nn (fun hn17 => ?_)
    refine r_callVP 52 hC [(0, v16)] [] rfl vl_X12_123 rfl hn17 (by decide) (Nat.le_of_ble_eq_true rfl) (by decide) (by decide) dX12_ahead_52 (t_X12_byteAt q12 v16 M15 hn17) (fun v18 => ?_)
    refine r_istore_n 55 hC rfl (by decide) dX12_ahead_55 (r_eqls (ls' := [(1, 0, v18), (0, 30, q12)]) rfl ?_)
    refine r_aload_n 56 hC 1 rfl (Or.inl (by decide)) rfl dX12_ahead_56 ?_
    refine r_iload_n 57 hC 0 rfl rfl dX12_ahead_57 ?_
    refine r_put 58 hC fd_10_15 fl_X12_129 dX12_ahead_58 (fun M19 => ?_)
    refine r_iload_n 61 hC 0 rfl rfl dX12_ahead_61 ?_
    refine r_iconst 62 hC (r32c rfl) dX12_ahead_62 ?_
    refine r_jn (P := fun j251 => ∀ (M20 : Mem), Bk E C 2 M M0 251 [] [] M20 0 0 (j251 M20)) ?_ (fun j251 hj251 => ?_)
    · intro M20
      exact r_return 251 hC hq (by decide) (by decide) dX12_ahead_251
    refine r_icmp_ne 63 hC (tgt := 74) (by decide) dX12_ahead_63 ?_ ?_
    · refine r_iload_n 74 hC 0 rfl rfl dX12_ahead_74 ?_
      refine r_callSP 75 hC [(0, v18)] [] rfl sl_X12_135 rfl (by decide) (Nat.le_of_ble_eq_true rfl) (by decide) (by decide) dX12_ahead_75 (t_X12_isSmall v18 M19) (fun v21 => ?_)
      refine r_if_eq 78 hC (tgt := 116) (by decide) dX12_ahead_78 ?_ ?_
      · refine r_iload_n 116 hC 0 rfl rfl dX12_ahead_116 ?_
        refine r_callSP 117 hC [(0, v18)] [] rfl sl_X12_138 rfl (by decide) (Nat.le_of_ble_eq_true rfl) (by decide) (by decide) dX12_ahead_117 (t_X12_isDigit v18 M19) (fun v22 => ?_)
        refine r_if_eq 120 hC (tgt := 208) (by decide) dX12_ahead_120 ?_ ?_
        · refine r_aload_n 208 hC 1 rfl (Or.inl (by decide)) rfl dX12_ahead_208 ?_
          refine r_dup 209 hC (by decide) dX12_ahead_209 ?_
          refine r_get 210 hC fd_10_14 fl_X12_120 dX12_ahead_210 (fun v23 => ?_)
          refine r_iconst 213 hC (r32c rfl) dX12_ahead_213 ?_
          refine r_iadd 214 hC dX12_ahead_214 ?_
          refine r_put 215 hC fd_10_14 fl_X12_120 dX12_ahead_215 (fun M24 => ?_)
          refine r_aload_n 218 hC 1 rfl (Or.inl (by decide)) rfl dX12_ahead_218 ?_
          refine r_iload_n 219 hC 0 rfl rfl dX12_ahead_219 ?_
          refine r_bipush 220 hC kb_59 dX12_ahead_220 ?_
          refine r_jn (P := fun j248 => ∀ (q25 : Int), Bk E C 2 M M0 248 [] [(0, q25), (30, q12)] M24 0 0 (j248 q25)) ?_ (fun j248 hj248 => ?_)
          · intro q25
            refine r_put 248 hC fd_10_12 fl_X12_132 dX12_ahead_248 (fun M26 => ?_)
            exact hj251 M26
          refine r_jn (P := fun j243 => Bk E C 2 M M0 243 [] [(30, q12)] M24 0 0 (j243)) ?_ (fun j243 hj243 => ?_)
          · refine r_iconst 243 hC (r32c rfl) dX12_ahead_243 ?_
            refine r_goto 244 hC (tgt := 248) (by decide) dX12_ahead_244 ?_
            exact hj248 4
          refine r_icmp_eq 222 hC (tgt := 243) (by decide) dX12_ahead_222 ?_ ?_
          · exact r_sub [] rfl (hj243)
          · refine r_iload_n 225 hC 0 rfl rfl dX12_ahead_225 ?_
            refine r_bipush 226 hC kb_60 dX12_ahead_226 ?_
            refine r_icmp_eq 228 hC (tgt := 243) (by decide) dX12_ahead_228 ?_ ?_
            · exact r_sub [] rfl (hj243)
            · refine r_iload_n 231 hC 0 rfl rfl dX12_ahead_231 ?_
              refine r_bipush 232 hC kb_62 dX12_ahead_232 ?_
              refine r_icmp_eq 234 hC (tgt := 243) (by decide) dX12_ahead_234 ?_ ?_
              · exact r_sub [] rfl (hj243)
              · refine r_iload_n 237 hC 0 rfl rfl dX12_ahead_237 ?_
                refine r_bipush 238 hC kb_61 dX12_ahead_238 ?_
                refine r_icmp_ne 240 hC (tgt := 247) (by decide) dX12_ahead_240 ?_ ?_
                · refine r_iconst 247 hC (r32c rfl) dX12_ahead_247 ?_
                  exact r_sub [] rfl (hj248 1)
                · exact r_sub [] rfl (hj243)
        · refine r_aload_n 123 hC 1 rfl (Or.inl (by decide)) rfl dX12_ahead_123 ?_
          refine r_iconst 124 hC (r32c rfl) dX12_ahead_124 ?_
          refine r_put 125 hC fd_10_15 fl_X12_129 dX12_ahead_125 (fun M27 => ?_)
          refine r_sub [1] rfl (f_X12_ahead_L128_ok h0 hC hq (fun M41 => ?_) KF M27)
          · refine r_aload_n 183 hC 0 rfl (Or.inl (by decide)) rfl dX12_ahead_183 ?_
            refine r_aload_n 184 hC 0 rfl (Or.inl (by decide)) rfl dX12_ahead_184 ?_
            refine r_get 185 hC fd_10_14 fl_X12_120 dX12_ahead_185 (fun v42 => ?_)
            refine r_aload_n 188 hC 0 rfl (Or.inl (by decide)) rfl dX12_ahead_188 ?_
            refine r_get 189 hC fd_10_13 fl_X12_126 dX12_ahead_189 (fun v43 => ?_)
            refine r_isub 192 hC dX12_ahead_192 ?_
            refine r_iconst 193 hC (r32c rfl) dX12_ahead_193 ?_
            refine r_jn (P := fun j202 => ∀ (q44 : Int), Bk E C 2 M M0 202 [] [(0, q44), (30, q12)] M41 0 0 (j202 q44)) ?_ (fun j202 hj202 => ?_)
            · intro q44
              refine r_put 202 hC fd_10_12 fl_X12_132 dX12_ahead_202 (fun M45 => ?_)
              refine r_goto 205 hC (tgt := 251) (by decide) dX12_ahead_205 ?_
              exact hj251 M45
            refine r_icmp_le 194 hC (tgt := 201) (by decide) dX12_ahead_194 ?_ ?_
            · refine r_iconst 201 hC (r32c rfl) dX12_ahead_201 ?_
              exact r_sub [] rfl (hj202 3)
            · refine r_iconst 197 hC (r32c rfl) dX12_ahead_197 ?_
              refine r_goto 198 hC (tgt := 202) (by decide) dX12_ahead_198 ?_
              exact r_sub [] rfl (hj202 1)
      · refine r_sub [1] rfl (f_X12_ahead_L81_ok h0 hC hq (fun M54 => ?_) KF M19)
        · refine r_aload_n 108 hC 0 rfl (Or.inl (by decide)) rfl dX12_ahead_108 ?_
          refine r_iconst 109 hC (r32c rfl) dX12_ahead_109 ?_
          refine r_put 110 hC fd_10_12 fl_X12_132 dX12_ahead_110 (fun M55 => ?_)
          refine r_goto 113 hC (tgt := 251) (by decide) dX12_ahead_113 ?_
          exact r_sub [] rfl (hj251 M55)
    · refine r_aload_n 66 hC 1 rfl (Or.inl (by decide)) rfl dX12_ahead_66 ?_
      refine r_iconst 67 hC (r32c rfl) dX12_ahead_67 ?_
      refine r_put 68 hC fd_10_12 fl_X12_132 dX12_ahead_68 (fun M56 => ?_)
      refine r_goto 71 hC (tgt := 251) (by decide) dX12_ahead_71 ?_
      exact r_sub [] rfl (hj251 M56)

/-! WaterTurnsModel.isSign(I)Z -/
theorem dX12_isSign_0 : decode cX12_isSign 0 = .ok (.aload_n 0, 1) := by decide +kernel
theorem dX12_isSign_1 : decode cX12_isSign 1 = .ok (.getfield 132, 3) := by decide +kernel
theorem dX12_isSign_4 : decode cX12_isSign 4 = .ok (.iconst 4, 1) := by decide +kernel
theorem dX12_isSign_5 : decode cX12_isSign 5 = .ok (.if_icmp .ne 15, 3) := by decide +kernel
theorem dX12_isSign_8 : decode cX12_isSign 8 = .ok (.aload_n 0, 1) := by decide +kernel
theorem dX12_isSign_9 : decode cX12_isSign 9 = .ok (.getfield 129, 3) := by decide +kernel
theorem dX12_isSign_12 : decode cX12_isSign 12 = .ok (.iload_n 1, 1) := by decide +kernel
theorem dX12_isSign_13 : decode cX12_isSign 13 = .ok (.if_icmp .ne 7, 3) := by decide +kernel
theorem dX12_isSign_16 : decode cX12_isSign 16 = .ok (.iconst 1, 1) := by decide +kernel
theorem dX12_isSign_17 : decode cX12_isSign 17 = .ok (.goto 4, 3) := by decide +kernel
theorem dX12_isSign_20 : decode cX12_isSign 20 = .ok (.iconst 0, 1) := by decide +kernel
theorem dX12_isSign_21 : decode cX12_isSign 21 = .ok (.ireturn, 1) := by decide +kernel
set_option maxRecDepth 100000 in
theorem t_X12_isSign (x0 x1 : Int) (M : Mem) (h0 : x0 ≠ 0) : MtP yX12_isSign cX12_isSign 2 (some .boolean) 1 0 0 [(30, x0), (0, x1)] M 0 (f_X12_isSign x0 x1 M) := by
  refine mk_P (by decide +kernel) (Nat.le_of_ble_eq_true rfl) (fun E C r0 hC hq hin => ?_)
  refine r_eqls (ls' := [(0, 30, x0), (1, 0, x1)]) rfl ?_
  unfold f_X12_isSign
  refine r_aload_n 0 hC 0 rfl (Or.inl (by decide)) rfl dX12_isSign_0 ?_
  refine r_get 1 hC fd_10_12 fl_X12_132 dX12_isSign_1 (fun v1 => ?_)
  refine r_iconst 4 hC (r32c rfl) dX12_isSign_4 ?_
  refine r_jn (P := fun j21 => ∀ (q2 : Int), Bk E C 2 M r0 21 [] [(0, q2)] M 0 0 (j21 q2)) ?_ (fun j21 hj21 => ?_)
  · intro q2
    exact r_zreturnP 21 hC hq (by decide) (by decide) dX12_isSign_21
  refine r_jn (P := fun j20 => Bk E C 2 M r0 20 [] [] M 0 0 (j20)) ?_ (fun j20 hj20 => ?_)
  · refine r_iconst 20 hC (r32c rfl) dX12_isSign_20 ?_
    exact hj21 0
  refine r_icmp_ne 5 hC (tgt := 20) (by decide) dX12_isSign_5 ?_ ?_
  · exact r_sub [] rfl (hj20)
  · refine r_aload_n 8 hC 0 rfl (Or.inl (by decide)) rfl dX12_isSign_8 ?_
    refine r_get 9 hC fd_10_15 fl_X12_129 dX12_isSign_9 (fun v3 => ?_)
    refine r_iload_n 12 hC 1 rfl rfl dX12_isSign_12 ?_
    refine r_icmp_ne 13 hC (tgt := 20) (by decide) dX12_isSign_13 ?_ ?_
    · exact r_sub [] rfl (hj20)
    · refine r_iconst 16 hC (r32c rfl) dX12_isSign_16 ?_
      refine r_goto 17 hC (tgt := 21) (by decide) dX12_isSign_17 ?_
      exact r_sub [] rfl (hj21 1)

/-! WaterTurnsModel.inWords(Ljava/lang/String;)I -/
theorem dX12_inWords_0 : decode cX12_inWords 0 = .ok (.aload_n 0, 1) := by decide +kernel
theorem dX12_inWords_1 : decode cX12_inWords 1 = .ok (.getfield 132, 3) := by decide +kernel
theorem dX12_inWords_4 : decode cX12_inWords 4 = .ok (.iconst 2, 1) := by decide +kernel
theorem dX12_inWords_5 : decode cX12_inWords 5 = .ok (.if_icmp .eq 5, 3) := by decide +kernel
theorem dX12_inWords_8 : decode cX12_inWords 8 = .ok (.iconst (-1), 1) := by decide +kernel
theorem dX12_inWords_9 : decode cX12_inWords 9 = .ok (.ireturn, 1) := by decide +kernel
theorem dX12_inWords_10 : decode cX12_inWords 10 = .ok (.iconst 0, 1) := by decide +kernel
theorem dX12_inWords_11 : decode cX12_inWords 11 = .ok (.istore_n 2, 1) := by decide +kernel
theorem dX12_inWords_12 : decode cX12_inWords 12 = .ok (.iconst 1, 1) := by decide +kernel
theorem dX12_inWords_13 : decode cX12_inWords 13 = .ok (.istore_n 3, 1) := by decide +kernel
theorem dX12_inWords_14 : decode cX12_inWords 14 = .ok (.iload_n 3, 1) := by decide +kernel
theorem dX12_inWords_15 : decode cX12_inWords 15 = .ok (.aload_n 1, 1) := by decide +kernel
theorem dX12_inWords_16 : decode cX12_inWords 16 = .ok (.invokevirtual 147, 3) := by decide +kernel
theorem dX12_inWords_19 : decode cX12_inWords 19 = .ok (.if_icmp .ge 114, 3) := by decide +kernel
theorem dX12_inWords_22 : decode cX12_inWords 22 = .ok (.iload_n 3, 1) := by decide +kernel
theorem dX12_inWords_23 : decode cX12_inWords 23 = .ok (.istore 4, 2) := by decide +kernel
theorem dX12_inWords_25 : decode cX12_inWords 25 = .ok (.aload_n 1, 1) := by decide +kernel
theorem dX12_inWords_26 : decode cX12_inWords 26 = .ok (.iload 4, 2) := by decide +kernel
theorem dX12_inWords_28 : decode cX12_inWords 28 = .ok (.invokevirtual 153, 3) := by decide +kernel
theorem dX12_inWords_31 : decode cX12_inWords 31 = .ok (.bipush 32, 2) := by decide +kernel
theorem dX12_inWords_33 : decode cX12_inWords 33 = .ok (.if_icmp .eq 9, 3) := by decide +kernel
theorem dX12_inWords_36 : decode cX12_inWords 36 = .ok (.iinc 4 1, 3) := by decide +kernel
theorem dX12_inWords_39 : decode cX12_inWords 39 = .ok (.goto (-14), 3) := by decide +kernel
theorem dX12_inWords_42 : decode cX12_inWords 42 = .ok (.iload 4, 2) := by decide +kernel
theorem dX12_inWords_44 : decode cX12_inWords 44 = .ok (.iload_n 3, 1) := by decide +kernel
theorem dX12_inWords_45 : decode cX12_inWords 45 = .ok (.isub, 1) := by decide +kernel
theorem dX12_inWords_46 : decode cX12_inWords 46 = .ok (.aload_n 0, 1) := by decide +kernel
theorem dX12_inWords_47 : decode cX12_inWords 47 = .ok (.getfield 120, 3) := by decide +kernel
theorem dX12_inWords_50 : decode cX12_inWords 50 = .ok (.aload_n 0, 1) := by decide +kernel
theorem dX12_inWords_51 : decode cX12_inWords 51 = .ok (.getfield 126, 3) := by decide +kernel
theorem dX12_inWords_54 : decode cX12_inWords 54 = .ok (.isub, 1) := by decide +kernel
theorem dX12_inWords_55 : decode cX12_inWords 55 = .ok (.if_icmp .ne 7, 3) := by decide +kernel
theorem dX12_inWords_58 : decode cX12_inWords 58 = .ok (.iconst 1, 1) := by decide +kernel
theorem dX12_inWords_59 : decode cX12_inWords 59 = .ok (.goto 4, 3) := by decide +kernel
theorem dX12_inWords_62 : decode cX12_inWords 62 = .ok (.iconst 0, 1) := by decide +kernel
theorem dX12_inWords_63 : decode cX12_inWords 63 = .ok (.istore 5, 2) := by decide +kernel
theorem dX12_inWords_65 : decode cX12_inWords 65 = .ok (.iload_n 3, 1) := by decide +kernel
theorem dX12_inWords_66 : decode cX12_inWords 66 = .ok (.istore 6, 2) := by decide +kernel
theorem dX12_inWords_68 : decode cX12_inWords 68 = .ok (.iload 6, 2) := by decide +kernel
theorem dX12_inWords_70 : decode cX12_inWords 70 = .ok (.iload 4, 2) := by decide +kernel
theorem dX12_inWords_72 : decode cX12_inWords 72 = .ok (.if_icmp .ge 43, 3) := by decide +kernel
theorem dX12_inWords_75 : decode cX12_inWords 75 = .ok (.iload 5, 2) := by decide +kernel
theorem dX12_inWords_77 : decode cX12_inWords 77 = .ok (.ifCond .eq 38, 3) := by decide +kernel
theorem dX12_inWords_80 : decode cX12_inWords 80 = .ok (.aload_n 1, 1) := by decide +kernel
theorem dX12_inWords_81 : decode cX12_inWords 81 = .ok (.iload 6, 2) := by decide +kernel
theorem dX12_inWords_83 : decode cX12_inWords 83 = .ok (.invokevirtual 153, 3) := by decide +kernel
theorem dX12_inWords_86 : decode cX12_inWords 86 = .ok (.aload_n 0, 1) := by decide +kernel
theorem dX12_inWords_87 : decode cX12_inWords 87 = .ok (.aload_n 0, 1) := by decide +kernel
theorem dX12_inWords_88 : decode cX12_inWords 88 = .ok (.getfield 126, 3) := by decide +kernel
theorem dX12_inWords_91 : decode cX12_inWords 91 = .ok (.iload 6, 2) := by decide +kernel
theorem dX12_inWords_93 : decode cX12_inWords 93 = .ok (.iadd, 1) := by decide +kernel
theorem dX12_inWords_94 : decode cX12_inWords 94 = .ok (.iload_n 3, 1) := by decide +kernel
theorem dX12_inWords_95 : decode cX12_inWords 95 = .ok (.isub, 1) := by decide +kernel
theorem dX12_inWords_96 : decode cX12_inWords 96 = .ok (.invokevirtual 123, 3) := by decide +kernel
theorem dX12_inWords_99 : decode cX12_inWords 99 = .ok (.if_icmp .ne 7, 3) := by decide +kernel
theorem dX12_inWords_102 : decode cX12_inWords 102 = .ok (.iconst 1, 1) := by decide +kernel
theorem dX12_inWords_103 : decode cX12_inWords 103 = .ok (.goto 4, 3) := by decide +kernel
theorem dX12_inWords_106 : decode cX12_inWords 106 = .ok (.iconst 0, 1) := by decide +kernel
theorem dX12_inWords_107 : decode cX12_inWords 107 = .ok (.istore 5, 2) := by decide +kernel
theorem dX12_inWords_109 : decode cX12_inWords 109 = .ok (.iinc 6 1, 3) := by decide +kernel
theorem dX12_inWords_112 : decode cX12_inWords 112 = .ok (.goto (-44), 3) := by decide +kernel
theorem dX12_inWords_115 : decode cX12_inWords 115 = .ok (.iload 5, 2) := by decide +kernel
theorem dX12_inWords_117 : decode cX12_inWords 117 = .ok (.ifCond .eq 5, 3) := by decide +kernel
theorem dX12_inWords_120 : decode cX12_inWords 120 = .ok (.iload_n 2, 1) := by decide +kernel
theorem dX12_inWords_121 : decode cX12_inWords 121 = .ok (.ireturn, 1) := by decide +kernel
theorem dX12_inWords_122 : decode cX12_inWords 122 = .ok (.iinc 2 1, 3) := by decide +kernel
theorem dX12_inWords_125 : decode cX12_inWords 125 = .ok (.iload 4, 2) := by decide +kernel
theorem dX12_inWords_127 : decode cX12_inWords 127 = .ok (.iconst 1, 1) := by decide +kernel
theorem dX12_inWords_128 : decode cX12_inWords 128 = .ok (.iadd, 1) := by decide +kernel
theorem dX12_inWords_129 : decode cX12_inWords 129 = .ok (.istore_n 3, 1) := by decide +kernel
theorem dX12_inWords_130 : decode cX12_inWords 130 = .ok (.goto (-116), 3) := by decide +kernel
theorem dX12_inWords_133 : decode cX12_inWords 133 = .ok (.iconst (-1), 1) := by decide +kernel
theorem dX12_inWords_134 : decode cX12_inWords 134 = .ok (.ireturn, 1) := by decide +kernel
set_option maxRecDepth 100000 in
theorem f_X12_inWords_L25_ok {E : EnvT} {C : Cx} {Mi M : Mem} {x0 : Int} (h0 : x0 ≠ 0) (hC : CxOK E C cX12_inWords 7 yX12_inWords.cls 6 0 0) {r0 : Int} (hq : RQ E C 0 0 Mi (some .int) (some (0, r0)) M) {p2 p3 x1 : Int} {k : Int → Option (Int)} (hk : ∀ q7, Bk E C 7 Mi r0 42 [(0, 30, x0), (1, 2, x1), (2, 0, p2), (3, 0, p3), (4, 0, q7)] [] M 0 0 (k q7)) : ∀ (n : Nat) (p5 : Int), Bk E C 7 Mi r0 25 [(0, 30, x0), (1, 2, x1), (2, 0, p2), (3, 0, p3), (4, 0, p5)] [] M 0 0 (f_X12_inWords_L25 M p2 p3 x0 x1 k n p5) := by
  intro n
  induction n with
  | zero =>
    intro p5
    exact r_none
  | succ n ih =>
    intro p5
    rw [f_X12_inWords_L25]
    refine r_aload_n 25 hC 1 rfl (Or.inr rfl) rfl dX12_inWords_25 ?_
    refine r_iload 26 hC 4 rfl dX12_inWords_26 ?_
    refine r_schr 28 hC ss_X12_153 (by decide) (Nat.le_of_ble_eq_true rfl) (by decide) (by decide) dX12_inWords_28 (fun v6 => ?_)
    refine r_bipush 31 hC kb_32 dX12_inWords_31 ?_
    refine r_icmp_eq 33 hC (tgt := 42) (by decide) dX12_inWords_33 ?_ ?_
    · exact hk p5
    · refine r_iinc 36 hC 4 rfl (by decide) dX12_inWords_36 (r_eqls (ls' := [(4, 0, w32 (p5 + 1)), (0, 30, x0), (1, 2, x1), (2, 0, p2), (3, 0, p3)]) rfl ?_)
      refine r_goto 39 hC (tgt := 25) (by decide) dX12_inWords_39 ?_
      exact r_sub [1, 2, 3, 4, 0] rfl (ih (w32 (p5 + 1)))
set_option maxRecDepth 100000 in
theorem f_X12_inWords_L68_ok {E : EnvT} {C : Cx} {Mi M : Mem} {x0 : Int} (h0 : x0 ≠ 0) (hC : CxOK E C cX12_inWords 7 yX12_inWords.cls 6 0 0) {r0 : Int} (hq : RQ E C 0 0 Mi (some .int) (some (0, r0)) M) {p2 p3 q8 x1 : Int} {k : Int → Option (Int)} (hk : ∀ q18, Bk E C 7 Mi r0 115 [(0, 30, x0), (1, 2, x1), (2, 0, p2), (4, 0, q8), (5, 0, q18)] [] M 0 0 (k q18)) : ∀ (n : Nat) (p12 : Int) (p13 : Int), Bk E C 7 Mi r0 68 [(0, 30, x0), (1, 2, x1), (2, 0, p2), (3, 0, p3), (4, 0, q8), (5, 0, p12), (6, 0, p13)] [] M 0 0 (f_X12_inWords_L68 M p2 p3 q8 x0 x1 k n p12 p13) := by
  intro n
  induction n with
  | zero =>
    intro p12 p13
    exact r_none
  | succ n ih =>
    intro p12 p13
    rw [f_X12_inWords_L68]
    refine r_iload 68 hC 6 rfl dX12_inWords_68 ?_
    refine r_iload 70 hC 4 rfl dX12_inWords_70 ?_
    refine r_icmp_ge 72 hC (tgt := 115) (by decide) dX12_inWords_72 ?_ ?_
    · exact r_sub [0, 1, 2, 4, 5] rfl (hk p12)
    · refine r_iload 75 hC 5 rfl dX12_inWords_75 ?_
      refine r_if_eq 77 hC (tgt := 115) (by decide) dX12_inWords_77 ?_ ?_
      · exact r_sub [0, 1, 2, 4, 5] rfl (hk p12)
      · refine r_aload_n 80 hC 1 rfl (Or.inr rfl) rfl dX12_inWords_80 ?_
        refine r_iload 81 hC 6 rfl dX12_inWords_81 ?_
        refine r_schr 83 hC ss_X12_153 (by decide) (Nat.le_of_ble_eq_true rfl) (by decide) (by decide) dX12_inWords_83 (fun v14 => ?_)
        refine r_aload_n 86 hC 0 rfl (Or.inl (by decide)) rfl dX12_inWords_86 ?_
        refine r_aload_n 87 hC 0 rfl (Or.inl (by decide)) rfl dX12_inWords_87 ?_
        refine r_get 88 hC fd_10_13 fl_X12_126 dX12_inWords_88 (fun v15 => ?_)
        refine r_iload 91 hC 6 rfl dX12_inWords_91 ?_
        refine r_iadd 93 hC dX12_inWords_93 ?_
        refine r_iload_n 94 hC 3 rfl rfl dX12_inWords_94 ?_
        refine r_isub 95 hC dX12_inWords_95 ?_
        refine r_callVP 96 hC [(0, w32 ((w32 (v15 + p13)) - p3))] [(0, v14)] rfl vl_X12_123 rfl h0 (by decide) (Nat.le_of_ble_eq_true rfl) (by decide) (by decide) dX12_inWords_96 (t_X12_byteAt x0 (w32 ((w32 (v15 + p13)) - p3)) M h0) (fun v16 => ?_)
        refine r_jn (P := fun j107 => ∀ (q17 : Int), Bk E C 7 Mi r0 107 [(0, 30, x0), (1, 2, x1), (2, 0, p2), (3, 0, p3), (4, 0, q8), (6, 0, p13)] [(0, q17)] M 0 0 (j107 q17)) ?_ (fun j107 hj107 => ?_)
        · intro q17
          refine r_istore 107 hC (by decide) dX12_inWords_107 (r_eqls (ls' := [(5, 0, q17), (0, 30, x0), (1, 2, x1), (2, 0, p2), (3, 0, p3), (4, 0, q8), (6, 0, p13)]) rfl ?_)
          refine r_iinc 109 hC 6 rfl (by decide) dX12_inWords_109 (r_eqls (ls' := [(6, 0, w32 (p13 + 1)), (5, 0, q17), (0, 30, x0), (1, 2, x1), (2, 0, p2), (3, 0, p3), (4, 0, q8)]) rfl ?_)
          refine r_goto 112 hC (tgt := 68) (by decide) dX12_inWords_112 ?_
          exact r_sub [2, 3, 4, 5, 6, 1, 0] rfl (ih q17 (w32 (p13 + 1)))
        refine r_icmp_ne 99 hC (tgt := 106) (by decide) dX12_inWords_99 ?_ ?_
        · refine r_iconst 106 hC (r32c rfl) dX12_inWords_106 ?_
          exact r_sub [0, 1, 2, 3, 4, 6] rfl (hj107 0)
        · refine r_iconst 102 hC (r32c rfl) dX12_inWords_102 ?_
          refine r_goto 103 hC (tgt := 107) (by decide) dX12_inWords_103 ?_
          exact r_sub [0, 1, 2, 3, 4, 6] rfl (hj107 1)
set_option maxRecDepth 100000 in
theorem f_X12_inWords_L14_ok {E : EnvT} {C : Cx} {Mi M : Mem} {x0 : Int} (h0 : x0 ≠ 0) (hC : CxOK E C cX12_inWords 7 yX12_inWords.cls 6 0 0) {r0 : Int} (hq : RQ E C 0 0 Mi (some .int) (some (0, r0)) M) {x1 : Int} {k : Option (Int)} (hk : Bk E C 7 Mi r0 133 [] [] M 0 0 (k)) : ∀ (n : Nat) (p2 : Int) (p3 : Int), Bk E C 7 Mi r0 14 [(0, 30, x0), (1, 2, x1), (2, 0, p2), (3, 0, p3)] [] M 0 0 (f_X12_inWords_L14 M x0 x1 k n p2 p3) := by
  intro n
  induction n with
  | zero =>
    intro p2 p3
    exact r_none
  | succ n ih =>
    intro p2 p3
    rw [f_X12_inWords_L14]
    refine r_iload_n 14 hC 3 rfl rfl dX12_inWords_14 ?_
    refine r_aload_n 15 hC 1 rfl (Or.inr rfl) rfl dX12_inWords_15 ?_
    refine r_slen 16 hC ss_X12_147 (by decide) (Nat.le_of_ble_eq_true rfl) (by decide) (by decide) dX12_inWords_16 (fun v4 => ?_)
    refine r_icmp_ge 19 hC (tgt := 133) (by decide) dX12_inWords_19 ?_ ?_
    · exact r_sub [] rfl (hk)
    · refine r_iload_n 22 hC 3 rfl rfl dX12_inWords_22 ?_
      refine r_istore 23 hC (by decide) dX12_inWords_23 (r_eqls (ls' := [(4, 0, p3), (0, 30, x0), (1, 2, x1), (2, 0, p2), (3, 0, p3)]) rfl ?_)
      refine r_sub [1, 2, 3, 4, 0] rfl (f_X12_inWords_L25_ok h0 hC hq (fun q8 => ?_) KF p3)
      · refine r_iload 42 hC 4 rfl dX12_inWords_42 ?_
        refine r_iload_n 44 hC 3 rfl rfl dX12_inWords_44 ?_
        refine r_isub 45 hC dX12_inWords_45 ?_
        refine r_aload_n 46 hC 0 rfl (Or.inl (by decide)) rfl dX12_inWords_46 ?_
        refine r_get 47 hC fd_10_14 fl_X12_120 dX12_inWords_47 (fun v9 => ?_)
        refine r_aload_n 50 hC 0 rfl (Or.inl (by decide)) rfl dX12_inWords_50 ?_
        refine r_get 51 hC fd_10_13 fl_X12_126 dX12_inWords_51 (fun v10 => ?_)
        refine r_isub 54 hC dX12_inWords_54 ?_
        refine r_jn (P := fun j63 => ∀ (q11 : Int), Bk E C 7 Mi r0 63 [(0, 30, x0), (1, 2, x1), (2, 0, p2), (3, 0, p3), (4, 0, q8)] [(0, q11)] M 0 0 (j63 q11)) ?_ (fun j63 hj63 => ?_)
        · intro q11
          refine r_istore 63 hC (by decide) dX12_inWords_63 (r_eqls (ls' := [(5, 0, q11), (0, 30, x0), (1, 2, x1), (2, 0, p2), (3, 0, p3), (4, 0, q8)]) rfl ?_)
          refine r_iload_n 65 hC 4 rfl rfl dX12_inWords_65 ?_
          refine r_istore 66 hC (by decide) dX12_inWords_66 (r_eqls (ls' := [(6, 0, p3), (5, 0, q11), (0, 30, x0), (1, 2, x1), (2, 0, p2), (3, 0, p3), (4, 0, q8)]) rfl ?_)
          refine r_sub [2, 3, 4, 5, 6, 1, 0] rfl (f_X12_inWords_L68_ok h0 hC hq (fun q19 => ?_) KF q11 p3)
          · refine r_iload 115 hC 4 rfl dX12_inWords_115 ?_
            refine r_if_eq 117 hC (tgt := 122) (by decide) dX12_inWords_117 ?_ ?_
            · refine r_iinc 122 hC 2 rfl (by decide) dX12_inWords_122 (r_eqls (ls' := [(2, 0, w32 (p2 + 1)), (0, 30, x0), (1, 2, x1), (4, 0, q8), (5, 0, q19)]) rfl ?_)
              refine r_iload 125 hC 3 rfl dX12_inWords_125 ?_
              refine r_iconst 127 hC (r32c rfl) dX12_inWords_127 ?_
              refine r_iadd 128 hC dX12_inWords_128 ?_
              refine r_istore_nL 129 hC rfl (by decide) dX12_inWords_129 (fun v20 => r_eqls (ls' := [(3, 0, v20), (2, 0, w32 (p2 + 1)), (0, 30, x0), (1, 2, x1), (4, 0, q8), (5, 0, q19)]) rfl ?_)
              refine r_goto 130 hC (tgt := 14) (by decide) dX12_inWords_130 ?_
              exact r_sub [2, 3, 1, 0] rfl (ih (w32 (p2 + 1)) v20)
            · refine r_iload_n 120 hC 2 rfl rfl dX12_inWords_120 ?_
              exact r_ireturnP 121 hC hq (by decide) (by decide) dX12_inWords_121
        refine r_icmp_ne 55 hC (tgt := 62) (by decide) dX12_inWords_55 ?_ ?_
        · refine r_iconst 62 hC (r32c rfl) dX12_inWords_62 ?_
          exact hj63 0
        · refine r_iconst 58 hC (r32c rfl) dX12_inWords_58 ?_
          refine r_goto 59 hC (tgt := 63) (by decide) dX12_inWords_59 ?_
          exact hj63 1
set_option maxRecDepth 100000 in
theorem t_X12_inWords (x0 x1 : Int) (M : Mem) (h0 : x0 ≠ 0) : MtP yX12_inWords cX12_inWords 7 (some .int) 6 0 0 [(30, x0), (2, x1)] M 0 (f_X12_inWords x0 x1 M) := by
  refine mk_P (by decide +kernel) (Nat.le_of_ble_eq_true rfl) (fun E C r0 hC hq hin => ?_)
  refine r_eqls (ls' := [(0, 30, x0), (1, 2, x1)]) rfl ?_
  unfold f_X12_inWords
  refine r_aload_n 0 hC 0 rfl (Or.inl (by decide)) rfl dX12_inWords_0 ?_
  refine r_get 1 hC fd_10_12 fl_X12_132 dX12_inWords_1 (fun v1 => ?_)
  refine r_iconst 4 hC (r32c rfl) dX12_inWords_4 ?_
  refine r_icmp_eq 5 hC (tgt := 10) (by decide) dX12_inWords_5 ?_ ?_
  · refine r_iconst 10 hC (r32c rfl) dX12_inWords_10 ?_
    refine r_istore_n 11 hC rfl (by decide) dX12_inWords_11 (r_eqls (ls' := [(2, 0, 0), (0, 30, x0), (1, 2, x1)]) rfl ?_)
    refine r_iconst 12 hC (r32c rfl) dX12_inWords_12 ?_
    refine r_istore_n 13 hC rfl (by decide) dX12_inWords_13 (r_eqls (ls' := [(3, 0, 1), (2, 0, 0), (0, 30, x0), (1, 2, x1)]) rfl ?_)
    refine r_sub [2, 3, 1, 0] rfl (f_X12_inWords_L14_ok h0 hC hq ?_ KF 0 1)
    · refine r_iconst 133 hC (r32c rfl) dX12_inWords_133 ?_
      exact r_ireturnP 134 hC hq (by decide) (by decide) dX12_inWords_134
  · refine r_iconst 8 hC (r32c rfl) dX12_inWords_8 ?_
    exact r_ireturnP 9 hC hq (by decide) (by decide) dX12_inWords_9

/-! WaterTurnsModel.fails(I)Z -/
theorem dX12_fails_0 : decode cX12_fails 0 = .ok (.aload_n 0, 1) := by decide +kernel
theorem dX12_fails_1 : decode cX12_fails 1 = .ok (.getfield 157, 3) := by decide +kernel
theorem dX12_fails_4 : decode cX12_fails 4 = .ok (.ifCond .ne 28, 3) := by decide +kernel
theorem dX12_fails_7 : decode cX12_fails 7 = .ok (.aload_n 0, 1) := by decide +kernel
theorem dX12_fails_8 : decode cX12_fails 8 = .ok (.aload_n 0, 1) := by decide +kernel
theorem dX12_fails_9 : decode cX12_fails 9 = .ok (.getfield 132, 3) := by decide +kernel
theorem dX12_fails_12 : decode cX12_fails 12 = .ok (.iconst 1, 1) := by decide +kernel
theorem dX12_fails_13 : decode cX12_fails 13 = .ok (.if_icmp .ne 7, 3) := by decide +kernel
theorem dX12_fails_16 : decode cX12_fails 16 = .ok (.iconst 1, 1) := by decide +kernel
theorem dX12_fails_17 : decode cX12_fails 17 = .ok (.goto 4, 3) := by decide +kernel
theorem dX12_fails_20 : decode cX12_fails 20 = .ok (.iload_n 1, 1) := by decide +kernel
theorem dX12_fails_21 : decode cX12_fails 21 = .ok (.putfield 157, 3) := by decide +kernel
theorem dX12_fails_24 : decode cX12_fails 24 = .ok (.aload_n 0, 1) := by decide +kernel
theorem dX12_fails_25 : decode cX12_fails 25 = .ok (.aload_n 0, 1) := by decide +kernel
theorem dX12_fails_26 : decode cX12_fails 26 = .ok (.getfield 126, 3) := by decide +kernel
theorem dX12_fails_29 : decode cX12_fails 29 = .ok (.putfield 41, 3) := by decide +kernel
theorem dX12_fails_32 : decode cX12_fails 32 = .ok (.iconst 0, 1) := by decide +kernel
theorem dX12_fails_33 : decode cX12_fails 33 = .ok (.ireturn, 1) := by decide +kernel
set_option maxRecDepth 100000 in
theorem t_X12_fails (x0 x1 : Int) (M : Mem) (h0 : x0 ≠ 0) : MtI yX12_fails cX12_fails 2 (some .boolean) 1 0 0 [(30, x0), (0, x1)] M 0 (f_X12_fails x0 x1 M) := by
  refine mk_I (by decide +kernel) (Nat.le_of_ble_eq_true rfl) (fun E C r0 M0 hC hq hin => ?_)
  refine r_eqls (ls' := [(0, 30, x0), (1, 0, x1)]) rfl ?_
  unfold f_X12_fails
  refine r_aload_n 0 hC 0 rfl (Or.inl (by decide)) rfl dX12_fails_0 ?_
  refine r_get 1 hC fd_10_18 fl_X12_157 dX12_fails_1 (fun v1 => ?_)
  refine r_jn (P := fun j32 => ∀ (M2 : Mem), Bk E C 2 M (r0, M0) 32 [] [] M2 0 0 (j32 M2)) ?_ (fun j32 hj32 => ?_)
  · intro M2
    refine r_iconst 32 hC (r32c rfl) dX12_fails_32 ?_
    exact r_zreturn 33 hC hq (by decide) (by decide) dX12_fails_33
  refine r_if_ne 4 hC (tgt := 32) (by decide) dX12_fails_4 ?_ ?_
  · exact r_sub [] rfl (hj32 M)
  · refine r_aload_n 7 hC 0 rfl (Or.inl (by decide)) rfl dX12_fails_7 ?_
    refine r_aload_n 8 hC 0 rfl (Or.inl (by decide)) rfl dX12_fails_8 ?_
    refine r_get 9 hC fd_10_12 fl_X12_132 dX12_fails_9 (fun v3 => ?_)
    refine r_iconst 12 hC (r32c rfl) dX12_fails_12 ?_
    refine r_jn (P := fun j21 => ∀ (q4 : Int), Bk E C 2 M (r0, M0) 21 [(0, 30, x0)] [(0, q4), (30, x0)] M 0 0 (j21 q4)) ?_ (fun j21 hj21 => ?_)
    · intro q4
      refine r_put 21 hC fd_10_18 fl_X12_157 dX12_fails_21 (fun M5 => ?_)
      refine r_aload_n 24 hC 0 rfl (Or.inl (by decide)) rfl dX12_fails_24 ?_
      refine r_aload_n 25 hC 0 rfl (Or.inl (by decide)) rfl dX12_fails_25 ?_
      refine r_get 26 hC fd_10_13 fl_X12_126 dX12_fails_26 (fun v6 => ?_)
      refine r_put 29 hC fd_10_17 fl_X12_41 dX12_fails_29 (fun M7 => ?_)
      exact r_sub [] rfl (hj32 M7)
    refine r_icmp_ne 13 hC (tgt := 20) (by decide) dX12_fails_13 ?_ ?_
    · refine r_iload_n 20 hC 1 rfl rfl dX12_fails_20 ?_
      exact r_sub [0] rfl (hj21 x1)
    · refine r_iconst 16 hC (r32c rfl) dX12_fails_16 ?_
      refine r_goto 17 hC (tgt := 21) (by decide) dX12_fails_17 ?_
      exact r_sub [0] rfl (hj21 1)

/-! WaterTurnsModel.begins(II)Z -/
theorem dX12_begins_0 : decode cX12_begins 0 = .ok (.iload_n 1, 1) := by decide +kernel
theorem dX12_begins_1 : decode cX12_begins 1 = .ok (.ifCond .lt 16, 3) := by decide +kernel
theorem dX12_begins_4 : decode cX12_begins 4 = .ok (.iload_n 1, 1) := by decide +kernel
theorem dX12_begins_5 : decode cX12_begins 5 = .ok (.aload_n 0, 1) := by decide +kernel
theorem dX12_begins_6 : decode cX12_begins 6 = .ok (.getfield 111, 3) := by decide +kernel
theorem dX12_begins_9 : decode cX12_begins 9 = .ok (.if_icmp .gt 8, 3) := by decide +kernel
theorem dX12_begins_12 : decode cX12_begins 12 = .ok (.iload_n 1, 1) := by decide +kernel
theorem dX12_begins_13 : decode cX12_begins 13 = .ok (.iload_n 2, 1) := by decide +kernel
theorem dX12_begins_14 : decode cX12_begins 14 = .ok (.if_icmp .le 5, 3) := by decide +kernel
theorem dX12_begins_17 : decode cX12_begins 17 = .ok (.iconst 0, 1) := by decide +kernel
theorem dX12_begins_18 : decode cX12_begins 18 = .ok (.ireturn, 1) := by decide +kernel
theorem dX12_begins_19 : decode cX12_begins 19 = .ok (.aload_n 0, 1) := by decide +kernel
theorem dX12_begins_20 : decode cX12_begins 20 = .ok (.iload_n 1, 1) := by decide +kernel
theorem dX12_begins_21 : decode cX12_begins 21 = .ok (.putfield 117, 3) := by decide +kernel
theorem dX12_begins_24 : decode cX12_begins 24 = .ok (.iconst 0, 1) := by decide +kernel
theorem dX12_begins_25 : decode cX12_begins 25 = .ok (.istore_n 3, 1) := by decide +kernel
theorem dX12_begins_26 : decode cX12_begins 26 = .ok (.iload_n 3, 1) := by decide +kernel
theorem dX12_begins_27 : decode cX12_begins 27 = .ok (.iload_n 1, 1) := by decide +kernel
theorem dX12_begins_28 : decode cX12_begins 28 = .ok (.if_icmp .ge 21, 3) := by decide +kernel
theorem dX12_begins_31 : decode cX12_begins 31 = .ok (.aload_n 0, 1) := by decide +kernel
theorem dX12_begins_32 : decode cX12_begins 32 = .ok (.getfield 34, 3) := by decide +kernel
theorem dX12_begins_35 : decode cX12_begins 35 = .ok (.iload_n 3, 1) := by decide +kernel
theorem dX12_begins_36 : decode cX12_begins 36 = .ok (.aload_n 0, 1) := by decide +kernel
theorem dX12_begins_37 : decode cX12_begins 37 = .ok (.getfield 30, 3) := by decide +kernel
theorem dX12_begins_40 : decode cX12_begins 40 = .ok (.iload_n 3, 1) := by decide +kernel
theorem dX12_begins_41 : decode cX12_begins 41 = .ok (.baload, 1) := by decide +kernel
theorem dX12_begins_42 : decode cX12_begins 42 = .ok (.bastore, 1) := by decide +kernel
theorem dX12_begins_43 : decode cX12_begins 43 = .ok (.iinc 3 1, 3) := by decide +kernel
theorem dX12_begins_46 : decode cX12_begins 46 = .ok (.goto (-20), 3) := by decide +kernel
theorem dX12_begins_49 : decode cX12_begins 49 = .ok (.aload_n 0, 1) := by decide +kernel
theorem dX12_begins_50 : decode cX12_begins 50 = .ok (.iconst 0, 1) := by decide +kernel
theorem dX12_begins_51 : decode cX12_begins 51 = .ok (.putfield 111, 3) := by decide +kernel
theorem dX12_begins_54 : decode cX12_begins 54 = .ok (.aload_n 0, 1) := by decide +kernel
theorem dX12_begins_55 : decode cX12_begins 55 = .ok (.iconst 0, 1) := by decide +kernel
theorem dX12_begins_56 : decode cX12_begins 56 = .ok (.putfield 157, 3) := by decide +kernel
theorem dX12_begins_59 : decode cX12_begins 59 = .ok (.aload_n 0, 1) := by decide +kernel
theorem dX12_begins_60 : decode cX12_begins 60 = .ok (.iconst (-1), 1) := by decide +kernel
theorem dX12_begins_61 : decode cX12_begins 61 = .ok (.putfield 41, 3) := by decide +kernel
theorem dX12_begins_64 : decode cX12_begins 64 = .ok (.aload_n 0, 1) := by decide +kernel
theorem dX12_begins_65 : decode cX12_begins 65 = .ok (.iconst 0, 1) := by decide +kernel
theorem dX12_begins_66 : decode cX12_begins 66 = .ok (.putfield 120, 3) := by decide +kernel
theorem dX12_begins_69 : decode cX12_begins 69 = .ok (.aload_n 0, 1) := by decide +kernel
theorem dX12_begins_70 : decode cX12_begins 70 = .ok (.iconst 0, 1) := by decide +kernel
theorem dX12_begins_71 : decode cX12_begins 71 = .ok (.putfield 160, 3) := by decide +kernel
theorem dX12_begins_74 : decode cX12_begins 74 = .ok (.aload_n 0, 1) := by decide +kernel
theorem dX12_begins_75 : decode cX12_begins 75 = .ok (.invokevirtual 163, 3) := by decide +kernel
theorem dX12_begins_78 : decode cX12_begins 78 = .ok (.iconst 1, 1) := by decide +kernel
theorem dX12_begins_79 : decode cX12_begins 79 = .ok (.ireturn, 1) := by decide +kernel
set_option maxRecDepth 100000 in
theorem f_X12_begins_L26_ok {E : EnvT} {C : Cx} {Mi : Mem} {x0 : Int} (h0 : x0 ≠ 0) (hC : CxOK E C cX12_begins 4 yX12_begins.cls 3 0 0) {r0 : Int} {M0 : Mem} (hq : RQ E C 0 0 Mi (some .boolean) (some (0, r0)) M0) {x1 : Int} {k : Mem → Option (Int × Mem)} (hk : ∀ M9, Bk E C 4 Mi (r0, M0) 49 [(0, 30, x0)] [] M9 0 0 (k M9)) : ∀ (n : Nat) (p3 : Int) (M4 : Mem), Bk E C 4 Mi (r0, M0) 26 [(0, 30, x0), (1, 0, x1), (3, 0, p3)] [] M4 0 0 (f_X12_begins_L26 x0 x1 k n p3 M4) := by
  intro n
  induction n with
  | zero =>
    intro p3 M4
    exact r_none
  | succ n ih =>
    intro p3 M4
    rw [f_X12_begins_L26]
    refine r_iload_n 26 hC 2 rfl rfl dX12_begins_26 ?_
    refine r_iload_n 27 hC 1 rfl rfl dX12_begins_27 ?_
    refine r_icmp_ge 28 hC (tgt := 49) (by decide) dX12_begins_28 ?_ ?_
    · exact r_sub [0] rfl (hk M4)
    · refine r_aload_n 31 hC 0 rfl (Or.inl (by decide)) rfl dX12_begins_31 ?_
      refine r_get 32 hC fd_10_9 fl_X12_34 dX12_begins_32 (fun v5 => ?_)
      refine r_iload_n 35 hC 2 rfl rfl dX12_begins_35 ?_
      refine r_aload_n 36 hC 0 rfl (Or.inl (by decide)) rfl dX12_begins_36 ?_
      refine r_get 37 hC fd_10_8 fl_X12_30 dX12_begins_37 (fun v6 => ?_)
      refine r_iload_n 40 hC 2 rfl rfl dX12_begins_40 ?_
      refine r_baload 41 hC dX12_begins_41 (fun v7 => ?_)
      refine r_bastore 42 hC dX12_begins_42 (fun M8 => ?_)
      refine r_iinc 43 hC 2 rfl (by decide) dX12_begins_43 (r_eqls (ls' := [(3, 0, w32 (p3 + 1)), (0, 30, x0), (1, 0, x1)]) rfl ?_)
      refine r_goto 46 hC (tgt := 26) (by decide) dX12_begins_46 ?_
      exact r_sub [1, 2, 0] rfl (ih (w32 (p3 + 1)) M8)
set_option maxRecDepth 100000 in
theorem t_X12_begins (x0 x1 x2 : Int) (M : Mem) (h0 : x0 ≠ 0) : MtI yX12_begins cX12_begins 4 (some .boolean) 3 0 0 [(30, x0), (0, x1), (0, x2)] M 0 (f_X12_begins x0 x1 x2 M) := by
  refine mk_I (by decide +kernel) (Nat.le_of_ble_eq_true rfl) (fun E C r0 M0 hC hq hin => ?_)
  refine r_eqls (ls' := [(0, 30, x0), (1, 0, x1), (2, 0, x2)]) rfl ?_
  unfold f_X12_begins
  refine r_iload_n 0 hC 1 rfl rfl dX12_begins_0 ?_
  refine r_jn (P := fun j17 => Bk E C 4 M (r0, M0) 17 [] [] M 0 0 (j17)) ?_ (fun j17 hj17 => ?_)
  · refine r_iconst 17 hC (r32c rfl) dX12_begins_17 ?_
    exact r_zreturn 18 hC hq (by decide) (by decide) dX12_begins_18
  refine r_if_lt 1 hC (tgt := 17) (by decide) dX12_begins_1 ?_ ?_
  · exact r_sub [] rfl (hj17)
  · refine r_iload_n 4 hC 1 rfl rfl dX12_begins_4 ?_
    refine r_aload_n 5 hC 0 rfl (Or.inl (by decide)) rfl dX12_begins_5 ?_
    refine r_get 6 hC fd_10_10 fl_X12_111 dX12_begins_6 (fun v1 => ?_)
    refine r_icmp_gt 9 hC (tgt := 17) (by decide) dX12_begins_9 ?_ ?_
    · exact r_sub [] rfl (hj17)
    · refine r_iload_n 12 hC 1 rfl rfl dX12_begins_12 ?_
      refine r_iload_n 13 hC 2 rfl rfl dX12_begins_13 ?_
      refine r_icmp_le 14 hC (tgt := 19) (by decide) dX12_begins_14 ?_ ?_
      · refine r_aload_n 19 hC 0 rfl (Or.inl (by decide)) rfl dX12_begins_19 ?_
        refine r_iload_n 20 hC 1 rfl rfl dX12_begins_20 ?_
        refine r_put 21 hC fd_10_11 fl_X12_117 dX12_begins_21 (fun M2 => ?_)
        refine r_iconst 24 hC (r32c rfl) dX12_begins_24 ?_
        refine r_istore_n 25 hC rfl (by decide) dX12_begins_25 (r_eqls (ls' := [(3, 0, 0), (0, 30, x0), (1, 0, x1), (2, 0, x2)]) rfl ?_)
        refine r_sub [1, 2, 0] rfl (f_X12_begins_L26_ok h0 hC hq (fun M10 => ?_) KF 0 M2)
        · refine r_aload_n 49 hC 0 rfl (Or.inl (by decide)) rfl dX12_begins_49 ?_
          refine r_iconst 50 hC (r32c rfl) dX12_begins_50 ?_
          refine r_put 51 hC fd_10_10 fl_X12_111 dX12_begins_51 (fun M11 => ?_)
          refine r_aload_n 54 hC 0 rfl (Or.inl (by decide)) rfl dX12_begins_54 ?_
          refine r_iconst 55 hC (r32c rfl) dX12_begins_55 ?_
          refine r_put 56 hC fd_10_18 fl_X12_157 dX12_begins_56 (fun M12 => ?_)
          refine r_aload_n 59 hC 0 rfl (Or.inl (by decide)) rfl dX12_begins_59 ?_
          refine r_iconst 60 hC (r32c rfl) dX12_begins_60 ?_
          refine r_put 61 hC fd_10_17 fl_X12_41 dX12_begins_61 (fun M13 => ?_)
          refine r_aload_n 64 hC 0 rfl (Or.inl (by decide)) rfl dX12_begins_64 ?_
          refine r_iconst 65 hC (r32c rfl) dX12_begins_65 ?_
          refine r_put 66 hC fd_10_14 fl_X12_120 dX12_begins_66 (fun M14 => ?_)
          refine r_aload_n 69 hC 0 rfl (Or.inl (by decide)) rfl dX12_begins_69 ?_
          refine r_iconst 70 hC (r32c rfl) dX12_begins_70 ?_
          refine r_put 71 hC fd_10_19 fl_X12_160 dX12_begins_71 (fun M15 => ?_)
          refine r_aload_n 74 hC 0 rfl (Or.inl (by decide)) rfl dX12_begins_74 ?_
          refine r_callVV 75 hC [] [] rfl vl_X12_163 rfl h0 (by decide) (Nat.le_of_ble_eq_true rfl) (by decide) (by decide) dX12_begins_75 (t_X12_ahead x0 M15 h0) (fun M16 => ?_)
          refine r_iconst 78 hC (r32c rfl) dX12_begins_78 ?_
          exact r_zreturn 79 hC hq (by decide) (by decide) dX12_begins_79
      · exact r_sub [] rfl (hj17)
