/-! WaterTurns$ValleyReader.readCarries(LWaterTurns$Tape;[I)Z -/
theorem dX9_readCarries_0 : decode cX9_readCarries 0 = .ok (.aload_n 0, 1) := by decide +kernel
theorem dX9_readCarries_1 : decode cX9_readCarries 1 = .ok (.bipush 7, 2) := by decide +kernel
theorem dX9_readCarries_3 : decode cX9_readCarries 3 = .ok (.invokevirtual 33, 3) := by decide +kernel
theorem dX9_readCarries_6 : decode cX9_readCarries 6 = .ok (.ifCond .ne 5, 3) := by decide +kernel
theorem dX9_readCarries_9 : decode cX9_readCarries 9 = .ok (.iconst 1, 1) := by decide +kernel
theorem dX9_readCarries_10 : decode cX9_readCarries 10 = .ok (.ireturn, 1) := by decide +kernel
theorem dX9_readCarries_11 : decode cX9_readCarries 11 = .ok (.aload_n 0, 1) := by decide +kernel
theorem dX9_readCarries_12 : decode cX9_readCarries 12 = .ok (.invokevirtual 59, 3) := by decide +kernel
theorem dX9_readCarries_15 : decode cX9_readCarries 15 = .ok (.aload_n 1, 1) := by decide +kernel
theorem dX9_readCarries_16 : decode cX9_readCarries 16 = .ok (.iconst 3, 1) := by decide +kernel
theorem dX9_readCarries_17 : decode cX9_readCarries 17 = .ok (.aload_n 0, 1) := by decide +kernel
theorem dX9_readCarries_18 : decode cX9_readCarries 18 = .ok (.iconst 1, 1) := by decide +kernel
theorem dX9_readCarries_19 : decode cX9_readCarries 19 = .ok (.sipush 999, 3) := by decide +kernel
theorem dX9_readCarries_22 : decode cX9_readCarries 22 = .ok (.invokevirtual 62, 3) := by decide +kernel
theorem dX9_readCarries_25 : decode cX9_readCarries 25 = .ok (.iastore, 1) := by decide +kernel
theorem dX9_readCarries_26 : decode cX9_readCarries 26 = .ok (.aload_n 1, 1) := by decide +kernel
theorem dX9_readCarries_27 : decode cX9_readCarries 27 = .ok (.iconst 3, 1) := by decide +kernel
theorem dX9_readCarries_28 : decode cX9_readCarries 28 = .ok (.iaload, 1) := by decide +kernel
theorem dX9_readCarries_29 : decode cX9_readCarries 29 = .ok (.iconst (-1), 1) := by decide +kernel
theorem dX9_readCarries_30 : decode cX9_readCarries 30 = .ok (.if_icmp .eq 7, 3) := by decide +kernel
theorem dX9_readCarries_33 : decode cX9_readCarries 33 = .ok (.iconst 1, 1) := by decide +kernel
theorem dX9_readCarries_34 : decode cX9_readCarries 34 = .ok (.goto 4, 3) := by decide +kernel
theorem dX9_readCarries_37 : decode cX9_readCarries 37 = .ok (.iconst 0, 1) := by decide +kernel
theorem dX9_readCarries_38 : decode cX9_readCarries 38 = .ok (.ireturn, 1) := by decide +kernel
set_option maxRecDepth 100000 in
theorem t_X9_readCarries (x0 x1 : Int) (M : Mem) : MtI yX9_readCarries cX9_readCarries 2 (some .boolean) 4 0 0 [(25, x0), (10, x1)] M 0 (f_X9_readCarries x0 x1 M) := by
  refine mk_I (by decide +kernel) (Nat.le_of_ble_eq_true rfl) (fun E C r0 M0 hC hq hin => ?_)
  refine r_eqls (ls' := [(0, 25, x0), (1, 10, x1)]) rfl ?_
  unfold f_X9_readCarries
  refine r_aload_n 0 hC 0 rfl (Or.inl (by decide)) rfl dX9_readCarries_0 ?_
  refine r_bipush 1 hC kb_7 dX9_readCarries_1 ?_
  refine r_nn (fun hn1 => ?_)
  refine r_callVP 3 hC [(0, 7)] [] rfl vl_X9_33 rfl hn1 (by decide) (Nat.le_of_ble_eq_true rfl) (by decide) (by decide) dX9_readCarries_3 (t_X6_isAt x0 7 M hn1) (fun v2 => ?_)
  refine r_if_ne 6 hC (tgt := 11) (by decide) dX9_readCarries_6 ?_ ?_
  · refine r_aload_n 11 hC 0 rfl (Or.inl (by decide)) rfl dX9_readCarries_11 ?_
    refine r_callVV 12 hC [] [] rfl vl_X9_59 rfl hn1 (by decide) (Nat.le_of_ble_eq_true rfl) (by decide) (by decide) dX9_readCarries_12 (t_X6_step x0 M hn1) (fun M3 => ?_)
    refine r_aload_n 15 hC 1 rfl (Or.inl (by decide)) rfl dX9_readCarries_15 ?_
    refine r_iconst 16 hC (r32c rfl) dX9_readCarries_16 ?_
    refine r_aload_n 17 hC 0 rfl (Or.inl (by decide)) rfl dX9_readCarries_17 ?_
    refine r_iconst 18 hC (r32c rfl) dX9_readCarries_18 ?_
    refine r_sipush 19 hC ks_999 dX9_readCarries_19 ?_
    refine r_callVI 22 hC [(0, 1), (0, 999)] [(0, 3), (10, x1)] rfl vl_X9_62 rfl hn1 (by decide) (Nat.le_of_ble_eq_true rfl) (by decide) (by decide) dX9_readCarries_22 (t_X6_takeNumber x0 1 999 M3 hn1) (fun v4 M5 => ?_)
    refine r_iastore 25 hC dX9_readCarries_25 (fun M6 => ?_)
    refine r_aload_n 26 hC 1 rfl (Or.inl (by decide)) rfl dX9_readCarries_26 ?_
    refine r_iconst 27 hC (r32c rfl) dX9_readCarries_27 ?_
    refine r_iaload 28 hC dX9_readCarries_28 (fun v7 => ?_)
    refine r_iconst 29 hC (r32c rfl) dX9_readCarries_29 ?_
    refine r_jn (P := fun j38 => ∀ (q8 : Int), Bk E C 2 M (r0, M0) 38 [] [(0, q8)] M6 0 0 (j38 q8)) ?_ (fun j38 hj38 => ?_)
    · intro q8
      exact r_zreturn 38 hC hq (by decide) (by decide) dX9_readCarries_38
    refine r_icmp_eq 30 hC (tgt := 37) (by decide) dX9_readCarries_30 ?_ ?_
    · refine r_iconst 37 hC (r32c rfl) dX9_readCarries_37 ?_
      exact r_sub [] rfl (hj38 0)
    · refine r_iconst 33 hC (r32c rfl) dX9_readCarries_33 ?_
      refine r_goto 34 hC (tgt := 38) (by decide) dX9_readCarries_34 ?_
      exact r_sub [] rfl (hj38 1)
  · refine r_iconst 9 hC (r32c rfl) dX9_readCarries_9 ?_
    exact r_zreturn 10 hC hq (by decide) (by decide) dX9_readCarries_10

/-! WaterTurns$ValleyReader.readShut(LWaterTurns$Tape;[I)Z -/
theorem dX9_readShut_0 : decode cX9_readShut 0 = .ok (.aload_n 0, 1) := by decide +kernel
theorem dX9_readShut_1 : decode cX9_readShut 1 = .ok (.bipush 8, 2) := by decide +kernel
theorem dX9_readShut_3 : decode cX9_readShut 3 = .ok (.invokevirtual 33, 3) := by decide +kernel
theorem dX9_readShut_6 : decode cX9_readShut 6 = .ok (.ifCond .ne 5, 3) := by decide +kernel
theorem dX9_readShut_9 : decode cX9_readShut 9 = .ok (.iconst 1, 1) := by decide +kernel
theorem dX9_readShut_10 : decode cX9_readShut 10 = .ok (.ireturn, 1) := by decide +kernel
theorem dX9_readShut_11 : decode cX9_readShut 11 = .ok (.aload_n 0, 1) := by decide +kernel
theorem dX9_readShut_12 : decode cX9_readShut 12 = .ok (.invokevirtual 59, 3) := by decide +kernel
theorem dX9_readShut_15 : decode cX9_readShut 15 = .ok (.aload_n 1, 1) := by decide +kernel
theorem dX9_readShut_16 : decode cX9_readShut 16 = .ok (.iconst 4, 1) := by decide +kernel
theorem dX9_readShut_17 : decode cX9_readShut 17 = .ok (.aload_n 0, 1) := by decide +kernel
theorem dX9_readShut_18 : decode cX9_readShut 18 = .ok (.iconst 0, 1) := by decide +kernel
theorem dX9_readShut_19 : decode cX9_readShut 19 = .ok (.sipush 1439, 3) := by decide +kernel
theorem dX9_readShut_22 : decode cX9_readShut 22 = .ok (.invokevirtual 62, 3) := by decide +kernel
theorem dX9_readShut_25 : decode cX9_readShut 25 = .ok (.iastore, 1) := by decide +kernel
theorem dX9_readShut_26 : decode cX9_readShut 26 = .ok (.aload_n 1, 1) := by decide +kernel
theorem dX9_readShut_27 : decode cX9_readShut 27 = .ok (.iconst 4, 1) := by decide +kernel
theorem dX9_readShut_28 : decode cX9_readShut 28 = .ok (.iaload, 1) := by decide +kernel
theorem dX9_readShut_29 : decode cX9_readShut 29 = .ok (.iconst (-1), 1) := by decide +kernel
theorem dX9_readShut_30 : decode cX9_readShut 30 = .ok (.if_icmp .eq 12, 3) := by decide +kernel
theorem dX9_readShut_33 : decode cX9_readShut 33 = .ok (.aload_n 0, 1) := by decide +kernel
theorem dX9_readShut_34 : decode cX9_readShut 34 = .ok (.bipush 9, 2) := by decide +kernel
theorem dX9_readShut_36 : decode cX9_readShut 36 = .ok (.invokevirtual 72, 3) := by decide +kernel
theorem dX9_readShut_39 : decode cX9_readShut 39 = .ok (.ifCond .ne 5, 3) := by decide +kernel
theorem dX9_readShut_42 : decode cX9_readShut 42 = .ok (.iconst 0, 1) := by decide +kernel
theorem dX9_readShut_43 : decode cX9_readShut 43 = .ok (.ireturn, 1) := by decide +kernel
theorem dX9_readShut_44 : decode cX9_readShut 44 = .ok (.aload_n 1, 1) := by decide +kernel
theorem dX9_readShut_45 : decode cX9_readShut 45 = .ok (.iconst 5, 1) := by decide +kernel
theorem dX9_readShut_46 : decode cX9_readShut 46 = .ok (.aload_n 0, 1) := by decide +kernel
theorem dX9_readShut_47 : decode cX9_readShut 47 = .ok (.aload_n 1, 1) := by decide +kernel
theorem dX9_readShut_48 : decode cX9_readShut 48 = .ok (.iconst 4, 1) := by decide +kernel
theorem dX9_readShut_49 : decode cX9_readShut 49 = .ok (.iaload, 1) := by decide +kernel
theorem dX9_readShut_50 : decode cX9_readShut 50 = .ok (.iconst 1, 1) := by decide +kernel
theorem dX9_readShut_51 : decode cX9_readShut 51 = .ok (.iadd, 1) := by decide +kernel
theorem dX9_readShut_52 : decode cX9_readShut 52 = .ok (.sipush 1440, 3) := by decide +kernel
theorem dX9_readShut_55 : decode cX9_readShut 55 = .ok (.invokevirtual 62, 3) := by decide +kernel
theorem dX9_readShut_58 : decode cX9_readShut 58 = .ok (.iastore, 1) := by decide +kernel
theorem dX9_readShut_59 : decode cX9_readShut 59 = .ok (.aload_n 1, 1) := by decide +kernel
theorem dX9_readShut_60 : decode cX9_readShut 60 = .ok (.iconst 5, 1) := by decide +kernel
theorem dX9_readShut_61 : decode cX9_readShut 61 = .ok (.iaload, 1) := by decide +kernel
theorem dX9_readShut_62 : decode cX9_readShut 62 = .ok (.iconst (-1), 1) := by decide +kernel
theorem dX9_readShut_63 : decode cX9_readShut 63 = .ok (.if_icmp .eq 7, 3) := by decide +kernel
theorem dX9_readShut_66 : decode cX9_readShut 66 = .ok (.iconst 1, 1) := by decide +kernel
theorem dX9_readShut_67 : decode cX9_readShut 67 = .ok (.goto 4, 3) := by decide +kernel
theorem dX9_readShut_70 : decode cX9_readShut 70 = .ok (.iconst 0, 1) := by decide +kernel
theorem dX9_readShut_71 : decode cX9_readShut 71 = .ok (.ireturn, 1) := by decide +kernel
set_option maxRecDepth 100000 in
theorem t_X9_readShut (x0 x1 : Int) (M : Mem) : MtI yX9_readShut cX9_readShut 2 (some .boolean) 4 0 0 [(25, x0), (10, x1)] M 0 (f_X9_readShut x0 x1 M) := by
  refine mk_I (by decide +kernel) (Nat.le_of_ble_eq_true rfl) (fun E C r0 M0 hC hq hin => ?_)
  refine r_eqls (ls' := [(0, 25, x0), (1, 10, x1)]) rfl ?_
  unfold f_X9_readShut
  refine r_aload_n 0 hC 0 rfl (Or.inl (by decide)) rfl dX9_readShut_0 ?_
  refine r_bipush 1 hC kb_8 dX9_readShut_1 ?_
  refine r_nn (fun hn1 => ?_)
  refine r_callVP 3 hC [(0, 8)] [] rfl vl_X9_33 rfl hn1 (by decide) (Nat.le_of_ble_eq_true rfl) (by decide) (by decide) dX9_readShut_3 (t_X6_isAt x0 8 M hn1) (fun v2 => ?_)
  refine r_if_ne 6 hC (tgt := 11) (by decide) dX9_readShut_6 ?_ ?_
  · refine r_aload_n 11 hC 0 rfl (Or.inl (by decide)) rfl dX9_readShut_11 ?_
    refine r_callVV 12 hC [] [] rfl vl_X9_59 rfl hn1 (by decide) (Nat.le_of_ble_eq_true rfl) (by decide) (by decide) dX9_readShut_12 (t_X6_step x0 M hn1) (fun M3 => ?_)
    refine r_aload_n 15 hC 1 rfl (Or.inl (by decide)) rfl dX9_readShut_15 ?_
    refine r_iconst 16 hC (r32c rfl) dX9_readShut_16 ?_
    refine r_aload_n 17 hC 0 rfl (Or.inl (by decide)) rfl dX9_readShut_17 ?_
    refine r_iconst 18 hC (r32c rfl) dX9_readShut_18 ?_
    refine r_sipush 19 hC ks_1439 dX9_readShut_19 ?_
    refine r_callVI 22 hC [(0, 0), (0, 1439)] [(0, 4), (10, x1)] rfl vl_X9_62 rfl hn1 (by decide) (Nat.le_of_ble_eq_true rfl) (by decide) (by decide) dX9_readShut_22 (t_X6_takeNumber x0 0 1439 M3 hn1) (fun v4 M5 => ?_)
    refine r_iastore 25 hC dX9_readShut_25 (fun M6 => ?_)
    refine r_aload_n 26 hC 1 rfl (Or.inl (by decide)) rfl dX9_readShut_26 ?_
    refine r_iconst 27 hC (r32c rfl) dX9_readShut_27 ?_
    refine r_iaload 28 hC dX9_readShut_28 (fun v7 => ?_)
    refine r_iconst 29 hC (r32c rfl) dX9_readShut_29 ?_
    refine r_jn (P := fun j42 => ∀ (M8 : Mem), Bk E C 2 M (r0, M0) 42 [] [] M8 0 0 (j42 M8)) ?_ (fun j42 hj42 => ?_)
    · intro M8
      refine r_iconst 42 hC (r32c rfl) dX9_readShut_42 ?_
      exact r_zreturn 43 hC hq (by decide) (by decide) dX9_readShut_43
    refine r_icmp_eq 30 hC (tgt := 42) (by decide) dX9_readShut_30 ?_ ?_
    · exact r_sub [] rfl (hj42 M6)
    · refine r_aload_n 33 hC 0 rfl (Or.inl (by decide)) rfl dX9_readShut_33 ?_
      refine r_bipush 34 hC kb_9 dX9_readShut_34 ?_
      refine r_callVI 36 hC [(0, 9)] [] rfl vl_X9_72 rfl hn1 (by decide) (Nat.le_of_ble_eq_true rfl) (by decide) (by decide) dX9_readShut_36 (t_X6_skip x0 9 M6 hn1) (fun v9 M10 => ?_)
      refine r_if_ne 39 hC (tgt := 44) (by decide) dX9_readShut_39 ?_ ?_
      · refine r_aload_n 44 hC 1 rfl (Or.inl (by decide)) rfl dX9_readShut_44 ?_
        refine r_iconst 45 hC (r32c rfl) dX9_readShut_45 ?_
        refine r_aload_n 46 hC 0 rfl (Or.inl (by decide)) rfl dX9_readShut_46 ?_
        refine r_aload_n 47 hC 1 rfl (Or.inl (by decide)) rfl dX9_readShut_47 ?_
        refine r_iconst 48 hC (r32c rfl) dX9_readShut_48 ?_
        refine r_iaload 49 hC dX9_readShut_49 (fun v11 => ?_)
        refine r_iconst 50 hC (r32c rfl) dX9_readShut_50 ?_
        refine r_iadd 51 hC dX9_readShut_51 ?_
        refine r_sipush 52 hC ks_1440 dX9_readShut_52 ?_
        refine r_callVI 55 hC [(0, w32 (v11 + 1)), (0, 1440)] [(0, 5), (10, x1)] rfl vl_X9_62 rfl hn1 (by decide) (Nat.le_of_ble_eq_true rfl) (by decide) (by decide) dX9_readShut_55 (t_X6_takeNumber x0 (w32 (v11 + 1)) 1440 M10 hn1) (fun v12 M13 => ?_)
        refine r_iastore 58 hC dX9_readShut_58 (fun M14 => ?_)
        refine r_aload_n 59 hC 1 rfl (Or.inl (by decide)) rfl dX9_readShut_59 ?_
        refine r_iconst 60 hC (r32c rfl) dX9_readShut_60 ?_
        refine r_iaload 61 hC dX9_readShut_61 (fun v15 => ?_)
        refine r_iconst 62 hC (r32c rfl) dX9_readShut_62 ?_
        refine r_jn (P := fun j71 => ∀ (q16 : Int), Bk E C 2 M (r0, M0) 71 [] [(0, q16)] M14 0 0 (j71 q16)) ?_ (fun j71 hj71 => ?_)
        · intro q16
          exact r_zreturn 71 hC hq (by decide) (by decide) dX9_readShut_71
        refine r_icmp_eq 63 hC (tgt := 70) (by decide) dX9_readShut_63 ?_ ?_
        · refine r_iconst 70 hC (r32c rfl) dX9_readShut_70 ?_
          exact r_sub [] rfl (hj71 0)
        · refine r_iconst 66 hC (r32c rfl) dX9_readShut_66 ?_
          refine r_goto 67 hC (tgt := 71) (by decide) dX9_readShut_67 ?_
          exact r_sub [] rfl (hj71 1)
      · exact r_sub [] rfl (hj42 M10)
  · refine r_iconst 9 hC (r32c rfl) dX9_readShut_9 ?_
    exact r_zreturn 10 hC hq (by decide) (by decide) dX9_readShut_10

/-! WaterTurns$ValleyReader.readReach(LWaterTurns$Tape;LWaterTurns$Valley;)Z -/
theorem dX9_readReach_0 : decode cX9_readReach 0 = .ok (.aload_n 1, 1) := by decide +kernel
theorem dX9_readReach_1 : decode cX9_readReach 1 = .ok (.getfield 100, 3) := by decide +kernel
theorem dX9_readReach_4 : decode cX9_readReach 4 = .ok (.bipush 10, 2) := by decide +kernel
theorem dX9_readReach_6 : decode cX9_readReach 6 = .ok (.if_icmp .lt 10, 3) := by decide +kernel
theorem dX9_readReach_9 : decode cX9_readReach 9 = .ok (.aload_n 0, 1) := by decide +kernel
theorem dX9_readReach_10 : decode cX9_readReach 10 = .ok (.bipush 6, 2) := by decide +kernel
theorem dX9_readReach_12 : decode cX9_readReach 12 = .ok (.invokevirtual 52, 3) := by decide +kernel
theorem dX9_readReach_15 : decode cX9_readReach 15 = .ok (.ireturn, 1) := by decide +kernel
theorem dX9_readReach_16 : decode cX9_readReach 16 = .ok (.aload_n 0, 1) := by decide +kernel
theorem dX9_readReach_17 : decode cX9_readReach 17 = .ok (.invokevirtual 59, 3) := by decide +kernel
theorem dX9_readReach_20 : decode cX9_readReach 20 = .ok (.aload_n 0, 1) := by decide +kernel
theorem dX9_readReach_21 : decode cX9_readReach 21 = .ok (.aload_n 1, 1) := by decide +kernel
theorem dX9_readReach_22 : decode cX9_readReach 22 = .ok (.invokestatic 92, 3) := by decide +kernel
theorem dX9_readReach_25 : decode cX9_readReach 25 = .ok (.lstore_n 2, 1) := by decide +kernel
theorem dX9_readReach_26 : decode cX9_readReach 26 = .ok (.aload_n 1, 1) := by decide +kernel
theorem dX9_readReach_27 : decode cX9_readReach 27 = .ok (.getfield 103, 3) := by decide +kernel
theorem dX9_readReach_30 : decode cX9_readReach 30 = .ok (.aload_n 1, 1) := by decide +kernel
theorem dX9_readReach_31 : decode cX9_readReach 31 = .ok (.getfield 100, 3) := by decide +kernel
theorem dX9_readReach_34 : decode cX9_readReach 34 = .ok (.aaload, 1) := by decide +kernel
theorem dX9_readReach_35 : decode cX9_readReach 35 = .ok (.astore 4, 2) := by decide +kernel
theorem dX9_readReach_37 : decode cX9_readReach 37 = .ok (.aload 4, 2) := by decide +kernel
theorem dX9_readReach_39 : decode cX9_readReach 39 = .ok (.iconst (-1), 1) := by decide +kernel
theorem dX9_readReach_40 : decode cX9_readReach 40 = .ok (.invokestatic 107, 3) := by decide +kernel
theorem dX9_readReach_43 : decode cX9_readReach 43 = .ok (.lload_n 2, 1) := by decide +kernel
theorem dX9_readReach_44 : decode cX9_readReach 44 = .ok (.lconst 0, 1) := by decide +kernel
theorem dX9_readReach_45 : decode cX9_readReach 45 = .ok (.lcmp, 1) := by decide +kernel
theorem dX9_readReach_46 : decode cX9_readReach 46 = .ok (.ifCond .eq 47, 3) := by decide +kernel
theorem dX9_readReach_49 : decode cX9_readReach 49 = .ok (.aload_n 0, 1) := by decide +kernel
theorem dX9_readReach_50 : decode cX9_readReach 50 = .ok (.aload_n 1, 1) := by decide +kernel
theorem dX9_readReach_51 : decode cX9_readReach 51 = .ok (.aload 4, 2) := by decide +kernel
theorem dX9_readReach_53 : decode cX9_readReach 53 = .ok (.invokestatic 113, 3) := by decide +kernel
theorem dX9_readReach_56 : decode cX9_readReach 56 = .ok (.ifCond .eq 37, 3) := by decide +kernel
theorem dX9_readReach_59 : decode cX9_readReach 59 = .ok (.aload_n 0, 1) := by decide +kernel
theorem dX9_readReach_60 : decode cX9_readReach 60 = .ok (.aload 4, 2) := by decide +kernel
theorem dX9_readReach_62 : decode cX9_readReach 62 = .ok (.invokestatic 117, 3) := by decide +kernel
theorem dX9_readReach_65 : decode cX9_readReach 65 = .ok (.ifCond .eq 28, 3) := by decide +kernel
theorem dX9_readReach_68 : decode cX9_readReach 68 = .ok (.aload_n 0, 1) := by decide +kernel
theorem dX9_readReach_69 : decode cX9_readReach 69 = .ok (.aload 4, 2) := by decide +kernel
theorem dX9_readReach_71 : decode cX9_readReach 71 = .ok (.invokestatic 121, 3) := by decide +kernel
theorem dX9_readReach_74 : decode cX9_readReach 74 = .ok (.ifCond .eq 19, 3) := by decide +kernel
theorem dX9_readReach_77 : decode cX9_readReach 77 = .ok (.aload_n 0, 1) := by decide +kernel
theorem dX9_readReach_78 : decode cX9_readReach 78 = .ok (.aload 4, 2) := by decide +kernel
theorem dX9_readReach_80 : decode cX9_readReach 80 = .ok (.invokestatic 124, 3) := by decide +kernel
theorem dX9_readReach_83 : decode cX9_readReach 83 = .ok (.ifCond .eq 10, 3) := by decide +kernel
theorem dX9_readReach_86 : decode cX9_readReach 86 = .ok (.aload_n 0, 1) := by decide +kernel
theorem dX9_readReach_87 : decode cX9_readReach 87 = .ok (.invokevirtual 66, 3) := by decide +kernel
theorem dX9_readReach_90 : decode cX9_readReach 90 = .ok (.ifCond .ne 5, 3) := by decide +kernel
theorem dX9_readReach_93 : decode cX9_readReach 93 = .ok (.iconst 0, 1) := by decide +kernel
theorem dX9_readReach_94 : decode cX9_readReach 94 = .ok (.ireturn, 1) := by decide +kernel
theorem dX9_readReach_95 : decode cX9_readReach 95 = .ok (.aload_n 1, 1) := by decide +kernel
theorem dX9_readReach_96 : decode cX9_readReach 96 = .ok (.getfield 127, 3) := by decide +kernel
theorem dX9_readReach_99 : decode cX9_readReach 99 = .ok (.aload_n 1, 1) := by decide +kernel
theorem dX9_readReach_100 : decode cX9_readReach 100 = .ok (.getfield 100, 3) := by decide +kernel
theorem dX9_readReach_103 : decode cX9_readReach 103 = .ok (.lload_n 2, 1) := by decide +kernel
theorem dX9_readReach_104 : decode cX9_readReach 104 = .ok (.lastore, 1) := by decide +kernel
theorem dX9_readReach_105 : decode cX9_readReach 105 = .ok (.aload_n 1, 1) := by decide +kernel
theorem dX9_readReach_106 : decode cX9_readReach 106 = .ok (.dup, 1) := by decide +kernel
theorem dX9_readReach_107 : decode cX9_readReach 107 = .ok (.getfield 100, 3) := by decide +kernel
theorem dX9_readReach_110 : decode cX9_readReach 110 = .ok (.iconst 1, 1) := by decide +kernel
theorem dX9_readReach_111 : decode cX9_readReach 111 = .ok (.iadd, 1) := by decide +kernel
theorem dX9_readReach_112 : decode cX9_readReach 112 = .ok (.putfield 100, 3) := by decide +kernel
theorem dX9_readReach_115 : decode cX9_readReach 115 = .ok (.iconst 1, 1) := by decide +kernel
theorem dX9_readReach_116 : decode cX9_readReach 116 = .ok (.ireturn, 1) := by decide +kernel
set_option maxRecDepth 100000 in
theorem t_X9_readReach (x0 x1 : Int) (M : Mem) : MtI yX9_readReach cX9_readReach 5 (some .boolean) 5 0 0 [(25, x0), (27, x1)] M 0 (f_X9_readReach x0 x1 M) := by
  refine mk_I (by decide +kernel) (Nat.le_of_ble_eq_true rfl) (fun E C r0 M0 hC hq hin => ?_)
  refine r_eqls (ls' := [(0, 25, x0), (1, 27, x1)]) rfl ?_
  unfold f_X9_readReach
  refine r_aload_n 0 hC 1 rfl (Or.inl (by decide)) rfl dX9_readReach_0 ?_
  refine r_get 1 hC fd_7_3 fl_X9_100 dX9_readReach_1 (fun v1 => ?_)
  refine r_bipush 4 hC kb_10 dX9_readReach_4 ?_
  refine r_icmp_lt 6 hC (tgt := 16) (by decide) dX9_readReach_6 ?_ ?_
  · refine r_aload_n 16 hC 0 rfl (Or.inl (by decide)) rfl dX9_readReach_16 ?_
    refine r_nn (fun hn2 => ?_)
    refine r_callVV 17 hC [] [] rfl vl_X9_59 rfl hn2 (by decide) (Nat.le_of_ble_eq_true rfl) (by decide) (by decide) dX9_readReach_17 (t_X6_step x0 M hn2) (fun M3 => ?_)
    refine r_aload_n 20 hC 0 rfl (Or.inl (by decide)) rfl dX9_readReach_20 ?_
    refine r_aload_n 21 hC 1 rfl (Or.inl (by decide)) rfl dX9_readReach_21 ?_
    refine r_callSI 22 hC [(25, x0), (27, x1)] [] rfl sl_X9_92 rfl (by decide) (Nat.le_of_ble_eq_true rfl) (by decide) (by decide) dX9_readReach_22 (t_X9_takeNew x0 x1 M3) (fun v4 M5 => ?_)
    refine r_lstore_n 25 hC rfl (by decide) dX9_readReach_25 (r_eqls (ls' := [(2, 1, v4), (0, 25, x0), (1, 27, x1)]) rfl ?_)
    refine r_aload_n 26 hC 2 rfl (Or.inl (by decide)) rfl dX9_readReach_26 ?_
    refine r_get 27 hC fd_7_8 fl_X9_103 dX9_readReach_27 (fun v6 => ?_)
    refine r_aload_n 30 hC 2 rfl (Or.inl (by decide)) rfl dX9_readReach_30 ?_
    refine r_get 31 hC fd_7_3 fl_X9_100 dX9_readReach_31 (fun v7 => ?_)
    refine r_aaloadI 34 hC dX9_readReach_34 (fun v8 => ?_)
    refine r_astore 35 hC (Or.inl (by decide)) (by decide) dX9_readReach_35 (r_eqls (ls' := [(4, 10, v8), (2, 1, v4), (0, 25, x0), (1, 27, x1)]) rfl ?_)
    refine r_aload 37 hC 0 (Or.inl (by decide)) rfl dX9_readReach_37 ?_
    refine r_iconst 39 hC (r32c rfl) dX9_readReach_39 ?_
    refine r_callSV 40 hC [(10, v8), (0, (-1))] [] rfl sl_X9_107 rfl (by decide) (Nat.le_of_ble_eq_true rfl) (by decide) (by decide) dX9_readReach_40 (t_J7_fill_53178 v8 (-1) M5) (fun M9 => ?_)
    refine r_lload_n 43 hC 1 rfl rfl dX9_readReach_43 ?_
    refine r_lconst 44 hC (x := 0) ⟨by decide +kernel, r64c rfl⟩ dX9_readReach_44 ?_
    refine r_jn (P := fun j93 => ∀ (M10 : Mem), Bk E C 5 M (r0, M0) 93 [] [] M10 0 0 (j93 M10)) ?_ (fun j93 hj93 => ?_)
    · intro M10
      refine r_iconst 93 hC (r32c rfl) dX9_readReach_93 ?_
      exact r_zreturn 94 hC hq (by decide) (by decide) dX9_readReach_94
    refine r_lcmp_eq 45 hC (tgt := 93) (by decide) dX9_readReach_45 dX9_readReach_46 ?_ ?_
    · exact r_sub [] rfl (hj93 M9)
    · refine r_aload_n 49 hC 2 rfl (Or.inl (by decide)) rfl dX9_readReach_49 ?_
      refine r_aload_n 50 hC 3 rfl (Or.inl (by decide)) rfl dX9_readReach_50 ?_
      refine r_aload 51 hC 0 (Or.inl (by decide)) rfl dX9_readReach_51 ?_
      refine r_callSI 53 hC [(25, x0), (27, x1), (10, v8)] [] rfl sl_X9_113 rfl (by decide) (Nat.le_of_ble_eq_true rfl) (by decide) (by decide) dX9_readReach_53 (t_X9_readAbove x0 x1 v8 M9) (fun v11 M12 => ?_)
      refine r_if_eq 56 hC (tgt := 93) (by decide) dX9_readReach_56 ?_ ?_
      · exact r_sub [] rfl (hj93 M12)
      · refine r_aload_n 59 hC 2 rfl (Or.inl (by decide)) rfl dX9_readReach_59 ?_
        refine r_aload 60 hC 0 (Or.inl (by decide)) rfl dX9_readReach_60 ?_
        refine r_callSI 62 hC [(25, x0), (10, v8)] [] rfl sl_X9_117 rfl (by decide) (Nat.le_of_ble_eq_true rfl) (by decide) (by decide) dX9_readReach_62 (t_X9_readLoss x0 v8 M12) (fun v13 M14 => ?_)
        refine r_if_eq 65 hC (tgt := 93) (by decide) dX9_readReach_65 ?_ ?_
        · exact r_sub [] rfl (hj93 M14)
        · refine r_aload_n 68 hC 2 rfl (Or.inl (by decide)) rfl dX9_readReach_68 ?_
          refine r_aload 69 hC 0 (Or.inl (by decide)) rfl dX9_readReach_69 ?_
          refine r_callSI 71 hC [(25, x0), (10, v8)] [] rfl sl_X9_121 rfl (by decide) (Nat.le_of_ble_eq_true rfl) (by decide) (by decide) dX9_readReach_71 (t_X9_readCarries x0 v8 M14) (fun v15 M16 => ?_)
          refine r_if_eq 74 hC (tgt := 93) (by decide) dX9_readReach_74 ?_ ?_
          · exact r_sub [] rfl (hj93 M16)
          · refine r_aload_n 77 hC 2 rfl (Or.inl (by decide)) rfl dX9_readReach_77 ?_
            refine r_aload 78 hC 0 (Or.inl (by decide)) rfl dX9_readReach_78 ?_
            refine r_callSI 80 hC [(25, x0), (10, v8)] [] rfl sl_X9_124 rfl (by decide) (Nat.le_of_ble_eq_true rfl) (by decide) (by decide) dX9_readReach_80 (t_X9_readShut x0 v8 M16) (fun v17 M18 => ?_)
            refine r_if_eq 83 hC (tgt := 93) (by decide) dX9_readReach_83 ?_ ?_
            · exact r_sub [] rfl (hj93 M18)
            · refine r_aload_n 86 hC 2 rfl (Or.inl (by decide)) rfl dX9_readReach_86 ?_
              refine r_callVI 87 hC [] [] rfl vl_X9_66 rfl hn2 (by decide) (Nat.le_of_ble_eq_true rfl) (by decide) (by decide) dX9_readReach_87 (t_X6_skipSemicolon x0 M18 hn2) (fun v19 M20 => ?_)
              refine r_if_ne 90 hC (tgt := 95) (by decide) dX9_readReach_90 ?_ ?_
              · refine r_aload_n 95 hC 3 rfl (Or.inl (by decide)) rfl dX9_readReach_95 ?_
                refine r_get 96 hC fd_7_10 fl_X9_127 dX9_readReach_96 (fun v21 => ?_)
                refine r_aload_n 99 hC 3 rfl (Or.inl (by decide)) rfl dX9_readReach_99 ?_
                refine r_get 100 hC fd_7_3 fl_X9_100 dX9_readReach_100 (fun v22 => ?_)
                refine r_lload_n 103 hC 1 rfl rfl dX9_readReach_103 ?_
                refine r_lastore 104 hC dX9_readReach_104 (fun M23 => ?_)
                refine r_aload_n 105 hC 3 rfl (Or.inl (by decide)) rfl dX9_readReach_105 ?_
                refine r_dup 106 hC (by decide) dX9_readReach_106 ?_
                refine r_get 107 hC fd_7_3 fl_X9_100 dX9_readReach_107 (fun v24 => ?_)
                refine r_iconst 110 hC (r32c rfl) dX9_readReach_110 ?_
                refine r_iadd 111 hC dX9_readReach_111 ?_
                refine r_put 112 hC fd_7_3 fl_X9_100 dX9_readReach_112 (fun M25 => ?_)
                refine r_iconst 115 hC (r32c rfl) dX9_readReach_115 ?_
                exact r_zreturn 116 hC hq (by decide) (by decide) dX9_readReach_116
              · exact r_sub [] rfl (hj93 M20)
  · refine r_aload_n 9 hC 0 rfl (Or.inl (by decide)) rfl dX9_readReach_9 ?_
    refine r_bipush 10 hC kb_6 dX9_readReach_10 ?_
    refine r_nn (fun hn26 => ?_)
    refine r_callVI 12 hC [(0, 6)] [] rfl vl_X9_52 rfl hn26 (by decide) (Nat.le_of_ble_eq_true rfl) (by decide) (by decide) dX9_readReach_12 (t_X6_blame x0 6 M hn26) (fun v27 M28 => ?_)
    exact r_zreturn 15 hC hq (by decide) (by decide) dX9_readReach_15

/-! WaterTurns$ValleyReader.readOwner(LWaterTurns$Tape;LWaterTurns$Valley;)Z -/
theorem dX9_readOwner_0 : decode cX9_readOwner 0 = .ok (.aload_n 1, 1) := by decide +kernel
theorem dX9_readOwner_1 : decode cX9_readOwner 1 = .ok (.getfield 89, 3) := by decide +kernel
theorem dX9_readOwner_4 : decode cX9_readOwner 4 = .ok (.bipush 6, 2) := by decide +kernel
theorem dX9_readOwner_6 : decode cX9_readOwner 6 = .ok (.if_icmp .lt 10, 3) := by decide +kernel
theorem dX9_readOwner_9 : decode cX9_readOwner 9 = .ok (.aload_n 0, 1) := by decide +kernel
theorem dX9_readOwner_10 : decode cX9_readOwner 10 = .ok (.bipush 6, 2) := by decide +kernel
theorem dX9_readOwner_12 : decode cX9_readOwner 12 = .ok (.invokevirtual 52, 3) := by decide +kernel
theorem dX9_readOwner_15 : decode cX9_readOwner 15 = .ok (.ireturn, 1) := by decide +kernel
theorem dX9_readOwner_16 : decode cX9_readOwner 16 = .ok (.aload_n 0, 1) := by decide +kernel
theorem dX9_readOwner_17 : decode cX9_readOwner 17 = .ok (.invokevirtual 59, 3) := by decide +kernel
theorem dX9_readOwner_20 : decode cX9_readOwner 20 = .ok (.aload_n 0, 1) := by decide +kernel
theorem dX9_readOwner_21 : decode cX9_readOwner 21 = .ok (.aload_n 1, 1) := by decide +kernel
theorem dX9_readOwner_22 : decode cX9_readOwner 22 = .ok (.invokestatic 92, 3) := by decide +kernel
theorem dX9_readOwner_25 : decode cX9_readOwner 25 = .ok (.lstore_n 2, 1) := by decide +kernel
theorem dX9_readOwner_26 : decode cX9_readOwner 26 = .ok (.lload_n 2, 1) := by decide +kernel
theorem dX9_readOwner_27 : decode cX9_readOwner 27 = .ok (.lconst 0, 1) := by decide +kernel
theorem dX9_readOwner_28 : decode cX9_readOwner 28 = .ok (.lcmp, 1) := by decide +kernel
theorem dX9_readOwner_29 : decode cX9_readOwner 29 = .ok (.ifCond .eq 10, 3) := by decide +kernel
theorem dX9_readOwner_32 : decode cX9_readOwner 32 = .ok (.aload_n 0, 1) := by decide +kernel
theorem dX9_readOwner_33 : decode cX9_readOwner 33 = .ok (.invokevirtual 66, 3) := by decide +kernel
theorem dX9_readOwner_36 : decode cX9_readOwner 36 = .ok (.ifCond .ne 5, 3) := by decide +kernel
theorem dX9_readOwner_39 : decode cX9_readOwner 39 = .ok (.iconst 0, 1) := by decide +kernel
theorem dX9_readOwner_40 : decode cX9_readOwner 40 = .ok (.ireturn, 1) := by decide +kernel
theorem dX9_readOwner_41 : decode cX9_readOwner 41 = .ok (.aload_n 1, 1) := by decide +kernel
theorem dX9_readOwner_42 : decode cX9_readOwner 42 = .ok (.getfield 96, 3) := by decide +kernel
theorem dX9_readOwner_45 : decode cX9_readOwner 45 = .ok (.aload_n 1, 1) := by decide +kernel
theorem dX9_readOwner_46 : decode cX9_readOwner 46 = .ok (.getfield 89, 3) := by decide +kernel
theorem dX9_readOwner_49 : decode cX9_readOwner 49 = .ok (.lload_n 2, 1) := by decide +kernel
theorem dX9_readOwner_50 : decode cX9_readOwner 50 = .ok (.lastore, 1) := by decide +kernel
theorem dX9_readOwner_51 : decode cX9_readOwner 51 = .ok (.aload_n 1, 1) := by decide +kernel
theorem dX9_readOwner_52 : decode cX9_readOwner 52 = .ok (.dup, 1) := by decide +kernel
theorem dX9_readOwner_53 : decode cX9_readOwner 53 = .ok (.getfield 89, 3) := by decide +kernel
theorem dX9_readOwner_56 : decode cX9_readOwner 56 = .ok (.iconst 1, 1) := by decide +kernel
theorem dX9_readOwner_57 : decode cX9_readOwner 57 = .ok (.iadd, 1) := by decide +kernel
theorem dX9_readOwner_58 : decode cX9_readOwner 58 = .ok (.putfield 89, 3) := by decide +kernel
theorem dX9_readOwner_61 : decode cX9_readOwner 61 = .ok (.iconst 1, 1) := by decide +kernel
theorem dX9_readOwner_62 : decode cX9_readOwner 62 = .ok (.ireturn, 1) := by decide +kernel
set_option maxRecDepth 100000 in
theorem t_X9_readOwner (x0 x1 : Int) (M : Mem) : MtI yX9_readOwner cX9_readOwner 4 (some .boolean) 4 0 0 [(25, x0), (27, x1)] M 0 (f_X9_readOwner x0 x1 M) := by
  refine mk_I (by decide +kernel) (Nat.le_of_ble_eq_true rfl) (fun E C r0 M0 hC hq hin => ?_)
  refine r_eqls (ls' := [(0, 25, x0), (1, 27, x1)]) rfl ?_
  unfold f_X9_readOwner
  refine r_aload_n 0 hC 1 rfl (Or.inl (by decide)) rfl dX9_readOwner_0 ?_
  refine r_get 1 hC fd_7_4 fl_X9_89 dX9_readOwner_1 (fun v1 => ?_)
  refine r_bipush 4 hC kb_6 dX9_readOwner_4 ?_
  refine r_icmp_lt 6 hC (tgt := 16) (by decide) dX9_readOwner_6 ?_ ?_
  · refine r_aload_n 16 hC 0 rfl (Or.inl (by decide)) rfl dX9_readOwner_16 ?_
    refine r_nn (fun hn2 => ?_)
    refine r_callVV 17 hC [] [] rfl vl_X9_59 rfl hn2 (by decide) (Nat.le_of_ble_eq_true rfl) (by decide) (by decide) dX9_readOwner_17 (t_X6_step x0 M hn2) (fun M3 => ?_)
    refine r_aload_n 20 hC 0 rfl (Or.inl (by decide)) rfl dX9_readOwner_20 ?_
    refine r_aload_n 21 hC 1 rfl (Or.inl (by decide)) rfl dX9_readOwner_21 ?_
    refine r_callSI 22 hC [(25, x0), (27, x1)] [] rfl sl_X9_92 rfl (by decide) (Nat.le_of_ble_eq_true rfl) (by decide) (by decide) dX9_readOwner_22 (t_X9_takeNew x0 x1 M3) (fun v4 M5 => ?_)
    refine r_lstore_n 25 hC rfl (by decide) dX9_readOwner_25 (r_eqls (ls' := [(2, 1, v4), (0, 25, x0), (1, 27, x1)]) rfl ?_)
    refine r_lload_n 26 hC 0 rfl rfl dX9_readOwner_26 ?_
    refine r_lconst 27 hC (x := 0) ⟨by decide +kernel, r64c rfl⟩ dX9_readOwner_27 ?_
    refine r_jn (P := fun j39 => ∀ (M6 : Mem), Bk E C 4 M (r0, M0) 39 [] [] M6 0 0 (j39 M6)) ?_ (fun j39 hj39 => ?_)
    · intro M6
      refine r_iconst 39 hC (r32c rfl) dX9_readOwner_39 ?_
      exact r_zreturn 40 hC hq (by decide) (by decide) dX9_readOwner_40
    refine r_lcmp_eq 28 hC (tgt := 39) (by decide) dX9_readOwner_28 dX9_readOwner_29 ?_ ?_
    · exact r_sub [] rfl (hj39 M5)
    · refine r_aload_n 32 hC 1 rfl (Or.inl (by decide)) rfl dX9_readOwner_32 ?_
      refine r_callVI 33 hC [] [] rfl vl_X9_66 rfl hn2 (by decide) (Nat.le_of_ble_eq_true rfl) (by decide) (by decide) dX9_readOwner_33 (t_X6_skipSemicolon x0 M5 hn2) (fun v7 M8 => ?_)
      refine r_if_ne 36 hC (tgt := 41) (by decide) dX9_readOwner_36 ?_ ?_
      · refine r_aload_n 41 hC 2 rfl (Or.inl (by decide)) rfl dX9_readOwner_41 ?_
        refine r_get 42 hC fd_7_11 fl_X9_96 dX9_readOwner_42 (fun v9 => ?_)
        refine r_aload_n 45 hC 2 rfl (Or.inl (by decide)) rfl dX9_readOwner_45 ?_
        refine r_get 46 hC fd_7_4 fl_X9_89 dX9_readOwner_46 (fun v10 => ?_)
        refine r_lload_n 49 hC 0 rfl rfl dX9_readOwner_49 ?_
        refine r_lastore 50 hC dX9_readOwner_50 (fun M11 => ?_)
        refine r_aload_n 51 hC 2 rfl (Or.inl (by decide)) rfl dX9_readOwner_51 ?_
        refine r_dup 52 hC (by decide) dX9_readOwner_52 ?_
        refine r_get 53 hC fd_7_4 fl_X9_89 dX9_readOwner_53 (fun v12 => ?_)
        refine r_iconst 56 hC (r32c rfl) dX9_readOwner_56 ?_
        refine r_iadd 57 hC dX9_readOwner_57 ?_
        refine r_put 58 hC fd_7_4 fl_X9_89 dX9_readOwner_58 (fun M13 => ?_)
        refine r_iconst 61 hC (r32c rfl) dX9_readOwner_61 ?_
        exact r_zreturn 62 hC hq (by decide) (by decide) dX9_readOwner_62
      · exact r_sub [] rfl (hj39 M8)
  · refine r_aload_n 9 hC 0 rfl (Or.inl (by decide)) rfl dX9_readOwner_9 ?_
    refine r_bipush 10 hC kb_6 dX9_readOwner_10 ?_
    refine r_nn (fun hn14 => ?_)
    refine r_callVI 12 hC [(0, 6)] [] rfl vl_X9_52 rfl hn14 (by decide) (Nat.le_of_ble_eq_true rfl) (by decide) (by decide) dX9_readOwner_12 (t_X6_blame x0 6 M hn14) (fun v15 M16 => ?_)
    exact r_zreturn 15 hC hq (by decide) (by decide) dX9_readOwner_15

/-! WaterTurns$ValleyReader.readOn(LWaterTurns$Tape;LWaterTurns$Valley;[I)Z -/
theorem dX9_readOn_0 : decode cX9_readOn 0 = .ok (.aload_n 0, 1) := by decide +kernel
theorem dX9_readOn_1 : decode cX9_readOn 1 = .ok (.bipush 12, 2) := by decide +kernel
theorem dX9_readOn_3 : decode cX9_readOn 3 = .ok (.invokevirtual 72, 3) := by decide +kernel
theorem dX9_readOn_6 : decode cX9_readOn 6 = .ok (.ifCond .ne 5, 3) := by decide +kernel
theorem dX9_readOn_9 : decode cX9_readOn 9 = .ok (.iconst 0, 1) := by decide +kernel
theorem dX9_readOn_10 : decode cX9_readOn 10 = .ok (.ireturn, 1) := by decide +kernel
theorem dX9_readOn_11 : decode cX9_readOn 11 = .ok (.aload_n 2, 1) := by decide +kernel
theorem dX9_readOn_12 : decode cX9_readOn 12 = .ok (.iconst 0, 1) := by decide +kernel
theorem dX9_readOn_13 : decode cX9_readOn 13 = .ok (.aload_n 0, 1) := by decide +kernel
theorem dX9_readOn_14 : decode cX9_readOn 14 = .ok (.aload_n 1, 1) := by decide +kernel
theorem dX9_readOn_15 : decode cX9_readOn 15 = .ok (.getfield 127, 3) := by decide +kernel
theorem dX9_readOn_18 : decode cX9_readOn 18 = .ok (.aload_n 1, 1) := by decide +kernel
theorem dX9_readOn_19 : decode cX9_readOn 19 = .ok (.getfield 100, 3) := by decide +kernel
theorem dX9_readOn_22 : decode cX9_readOn 22 = .ok (.invokevirtual 130, 3) := by decide +kernel
theorem dX9_readOn_25 : decode cX9_readOn 25 = .ok (.iastore, 1) := by decide +kernel
theorem dX9_readOn_26 : decode cX9_readOn 26 = .ok (.aload_n 2, 1) := by decide +kernel
theorem dX9_readOn_27 : decode cX9_readOn 27 = .ok (.iconst 0, 1) := by decide +kernel
theorem dX9_readOn_28 : decode cX9_readOn 28 = .ok (.iaload, 1) := by decide +kernel
theorem dX9_readOn_29 : decode cX9_readOn 29 = .ok (.iconst (-1), 1) := by decide +kernel
theorem dX9_readOn_30 : decode cX9_readOn 30 = .ok (.if_icmp .eq 7, 3) := by decide +kernel
theorem dX9_readOn_33 : decode cX9_readOn 33 = .ok (.iconst 1, 1) := by decide +kernel
theorem dX9_readOn_34 : decode cX9_readOn 34 = .ok (.goto 4, 3) := by decide +kernel
theorem dX9_readOn_37 : decode cX9_readOn 37 = .ok (.iconst 0, 1) := by decide +kernel
theorem dX9_readOn_38 : decode cX9_readOn 38 = .ok (.ireturn, 1) := by decide +kernel
set_option maxRecDepth 100000 in
theorem t_X9_readOn (x0 x1 x2 : Int) (M : Mem) : MtI yX9_readOn cX9_readOn 3 (some .boolean) 4 0 0 [(25, x0), (27, x1), (10, x2)] M 0 (f_X9_readOn x0 x1 x2 M) := by
  refine mk_I (by decide +kernel) (Nat.le_of_ble_eq_true rfl) (fun E C r0 M0 hC hq hin => ?_)
  refine r_eqls (ls' := [(0, 25, x0), (1, 27, x1), (2, 10, x2)]) rfl ?_
  unfold f_X9_readOn
  refine r_aload_n 0 hC 0 rfl (Or.inl (by decide)) rfl dX9_readOn_0 ?_
  refine r_bipush 1 hC kb_12 dX9_readOn_1 ?_
  refine r_nn (fun hn1 => ?_)
  refine r_callVI 3 hC [(0, 12)] [] rfl vl_X9_72 rfl hn1 (by decide) (Nat.le_of_ble_eq_true rfl) (by decide) (by decide) dX9_readOn_3 (t_X6_skip x0 12 M hn1) (fun v2 M3 => ?_)
  refine r_if_ne 6 hC (tgt := 11) (by decide) dX9_readOn_6 ?_ ?_
  · refine r_aload_n 11 hC 2 rfl (Or.inl (by decide)) rfl dX9_readOn_11 ?_
    refine r_iconst 12 hC (r32c rfl) dX9_readOn_12 ?_
    refine r_aload_n 13 hC 0 rfl (Or.inl (by decide)) rfl dX9_readOn_13 ?_
    refine r_aload_n 14 hC 1 rfl (Or.inl (by decide)) rfl dX9_readOn_14 ?_
    refine r_get 15 hC fd_7_10 fl_X9_127 dX9_readOn_15 (fun v4 => ?_)
    refine r_aload_n 18 hC 1 rfl (Or.inl (by decide)) rfl dX9_readOn_18 ?_
    refine r_get 19 hC fd_7_3 fl_X9_100 dX9_readOn_19 (fun v5 => ?_)
    refine r_callVI 22 hC [(11, v4), (0, v5)] [(0, 0), (10, x2)] rfl vl_X9_130 rfl hn1 (by decide) (Nat.le_of_ble_eq_true rfl) (by decide) (by decide) dX9_readOn_22 (t_X6_takeKnown x0 v4 v5 M3 hn1) (fun v6 M7 => ?_)
    refine r_iastore 25 hC dX9_readOn_25 (fun M8 => ?_)
    refine r_aload_n 26 hC 2 rfl (Or.inl (by decide)) rfl dX9_readOn_26 ?_
    refine r_iconst 27 hC (r32c rfl) dX9_readOn_27 ?_
    refine r_iaload 28 hC dX9_readOn_28 (fun v9 => ?_)
    refine r_iconst 29 hC (r32c rfl) dX9_readOn_29 ?_
    refine r_jn (P := fun j38 => ∀ (q10 : Int), Bk E C 3 M (r0, M0) 38 [] [(0, q10)] M8 0 0 (j38 q10)) ?_ (fun j38 hj38 => ?_)
    · intro q10
      exact r_zreturn 38 hC hq (by decide) (by decide) dX9_readOn_38
    refine r_icmp_eq 30 hC (tgt := 37) (by decide) dX9_readOn_30 ?_ ?_
    · refine r_iconst 37 hC (r32c rfl) dX9_readOn_37 ?_
      exact r_sub [] rfl (hj38 0)
    · refine r_iconst 33 hC (r32c rfl) dX9_readOn_33 ?_
      refine r_goto 34 hC (tgt := 38) (by decide) dX9_readOn_34 ?_
      exact r_sub [] rfl (hj38 1)
  · refine r_iconst 9 hC (r32c rfl) dX9_readOn_9 ?_
    exact r_zreturn 10 hC hq (by decide) (by decide) dX9_readOn_10

/-! WaterTurns$ValleyReader.readClaims(LWaterTurns$Tape;[I)Z -/
theorem dX9_readClaims_0 : decode cX9_readClaims 0 = .ok (.aload_n 0, 1) := by decide +kernel
theorem dX9_readClaims_1 : decode cX9_readClaims 1 = .ok (.bipush 13, 2) := by decide +kernel
theorem dX9_readClaims_3 : decode cX9_readClaims 3 = .ok (.invokevirtual 72, 3) := by decide +kernel
theorem dX9_readClaims_6 : decode cX9_readClaims 6 = .ok (.ifCond .ne 5, 3) := by decide +kernel
theorem dX9_readClaims_9 : decode cX9_readClaims 9 = .ok (.iconst 0, 1) := by decide +kernel
theorem dX9_readClaims_10 : decode cX9_readClaims 10 = .ok (.ireturn, 1) := by decide +kernel
theorem dX9_readClaims_11 : decode cX9_readClaims 11 = .ok (.aload_n 1, 1) := by decide +kernel
theorem dX9_readClaims_12 : decode cX9_readClaims 12 = .ok (.iconst 1, 1) := by decide +kernel
theorem dX9_readClaims_13 : decode cX9_readClaims 13 = .ok (.aload_n 0, 1) := by decide +kernel
theorem dX9_readClaims_14 : decode cX9_readClaims 14 = .ok (.iconst 1, 1) := by decide +kernel
theorem dX9_readClaims_15 : decode cX9_readClaims 15 = .ok (.bipush 99, 2) := by decide +kernel
theorem dX9_readClaims_17 : decode cX9_readClaims 17 = .ok (.invokevirtual 62, 3) := by decide +kernel
theorem dX9_readClaims_20 : decode cX9_readClaims 20 = .ok (.iastore, 1) := by decide +kernel
theorem dX9_readClaims_21 : decode cX9_readClaims 21 = .ok (.aload_n 1, 1) := by decide +kernel
theorem dX9_readClaims_22 : decode cX9_readClaims 22 = .ok (.iconst 1, 1) := by decide +kernel
theorem dX9_readClaims_23 : decode cX9_readClaims 23 = .ok (.iaload, 1) := by decide +kernel
theorem dX9_readClaims_24 : decode cX9_readClaims 24 = .ok (.iconst (-1), 1) := by decide +kernel
theorem dX9_readClaims_25 : decode cX9_readClaims 25 = .ok (.if_icmp .eq 12, 3) := by decide +kernel
theorem dX9_readClaims_28 : decode cX9_readClaims 28 = .ok (.aload_n 0, 1) := by decide +kernel
theorem dX9_readClaims_29 : decode cX9_readClaims 29 = .ok (.bipush 14, 2) := by decide +kernel
theorem dX9_readClaims_31 : decode cX9_readClaims 31 = .ok (.invokevirtual 72, 3) := by decide +kernel
theorem dX9_readClaims_34 : decode cX9_readClaims 34 = .ok (.ifCond .ne 5, 3) := by decide +kernel
theorem dX9_readClaims_37 : decode cX9_readClaims 37 = .ok (.iconst 0, 1) := by decide +kernel
theorem dX9_readClaims_38 : decode cX9_readClaims 38 = .ok (.ireturn, 1) := by decide +kernel
theorem dX9_readClaims_39 : decode cX9_readClaims 39 = .ok (.aload_n 1, 1) := by decide +kernel
theorem dX9_readClaims_40 : decode cX9_readClaims 40 = .ok (.iconst 2, 1) := by decide +kernel
theorem dX9_readClaims_41 : decode cX9_readClaims 41 = .ok (.aload_n 0, 1) := by decide +kernel
theorem dX9_readClaims_42 : decode cX9_readClaims 42 = .ok (.iconst 0, 1) := by decide +kernel
theorem dX9_readClaims_43 : decode cX9_readClaims 43 = .ok (.sipush 9999, 3) := by decide +kernel
theorem dX9_readClaims_46 : decode cX9_readClaims 46 = .ok (.invokevirtual 62, 3) := by decide +kernel
theorem dX9_readClaims_49 : decode cX9_readClaims 49 = .ok (.iastore, 1) := by decide +kernel
theorem dX9_readClaims_50 : decode cX9_readClaims 50 = .ok (.aload_n 1, 1) := by decide +kernel
theorem dX9_readClaims_51 : decode cX9_readClaims 51 = .ok (.iconst 2, 1) := by decide +kernel
theorem dX9_readClaims_52 : decode cX9_readClaims 52 = .ok (.iaload, 1) := by decide +kernel
theorem dX9_readClaims_53 : decode cX9_readClaims 53 = .ok (.iconst (-1), 1) := by decide +kernel
theorem dX9_readClaims_54 : decode cX9_readClaims 54 = .ok (.if_icmp .eq 7, 3) := by decide +kernel
theorem dX9_readClaims_57 : decode cX9_readClaims 57 = .ok (.iconst 1, 1) := by decide +kernel
theorem dX9_readClaims_58 : decode cX9_readClaims 58 = .ok (.goto 4, 3) := by decide +kernel
theorem dX9_readClaims_61 : decode cX9_readClaims 61 = .ok (.iconst 0, 1) := by decide +kernel
theorem dX9_readClaims_62 : decode cX9_readClaims 62 = .ok (.ireturn, 1) := by decide +kernel
set_option maxRecDepth 100000 in
theorem t_X9_readClaims (x0 x1 : Int) (M : Mem) : MtI yX9_readClaims cX9_readClaims 2 (some .boolean) 4 0 0 [(25, x0), (10, x1)] M 0 (f_X9_readClaims x0 x1 M) := by
  refine mk_I (by decide +kernel) (Nat.le_of_ble_eq_true rfl) (fun E C r0 M0 hC hq hin => ?_)
  refine r_eqls (ls' := [(0, 25, x0), (1, 10, x1)]) rfl ?_
  unfold f_X9_readClaims
  refine r_aload_n 0 hC 0 rfl (Or.inl (by decide)) rfl dX9_readClaims_0 ?_
  refine r_bipush 1 hC kb_13 dX9_readClaims_1 ?_
  refine r_nn (fun hn1 => ?_)
  refine r_callVI 3 hC [(0, 13)] [] rfl vl_X9_72 rfl hn1 (by decide) (Nat.le_of_ble_eq_true rfl) (by decide) (by decide) dX9_readClaims_3 (t_X6_skip x0 13 M hn1) (fun v2 M3 => ?_)
  refine r_if_ne 6 hC (tgt := 11) (by decide) dX9_readClaims_6 ?_ ?_
  · refine r_aload_n 11 hC 1 rfl (Or.inl (by decide)) rfl dX9_readClaims_11 ?_
    refine r_iconst 12 hC (r32c rfl) dX9_readClaims_12 ?_
    refine r_aload_n 13 hC 0 rfl (Or.inl (by decide)) rfl dX9_readClaims_13 ?_
    refine r_iconst 14 hC (r32c rfl) dX9_readClaims_14 ?_
    refine r_bipush 15 hC kb_99 dX9_readClaims_15 ?_
    refine r_callVI 17 hC [(0, 1), (0, 99)] [(0, 1), (10, x1)] rfl vl_X9_62 rfl hn1 (by decide) (Nat.le_of_ble_eq_true rfl) (by decide) (by decide) dX9_readClaims_17 (t_X6_takeNumber x0 1 99 M3 hn1) (fun v4 M5 => ?_)
    refine r_iastore 20 hC dX9_readClaims_20 (fun M6 => ?_)
    refine r_aload_n 21 hC 1 rfl (Or.inl (by decide)) rfl dX9_readClaims_21 ?_
    refine r_iconst 22 hC (r32c rfl) dX9_readClaims_22 ?_
    refine r_iaload 23 hC dX9_readClaims_23 (fun v7 => ?_)
    refine r_iconst 24 hC (r32c rfl) dX9_readClaims_24 ?_
    refine r_jn (P := fun j37 => ∀ (M8 : Mem), Bk E C 2 M (r0, M0) 37 [] [] M8 0 0 (j37 M8)) ?_ (fun j37 hj37 => ?_)
    · intro M8
      refine r_iconst 37 hC (r32c rfl) dX9_readClaims_37 ?_
      exact r_zreturn 38 hC hq (by decide) (by decide) dX9_readClaims_38
    refine r_icmp_eq 25 hC (tgt := 37) (by decide) dX9_readClaims_25 ?_ ?_
    · exact r_sub [] rfl (hj37 M6)
    · refine r_aload_n 28 hC 0 rfl (Or.inl (by decide)) rfl dX9_readClaims_28 ?_
      refine r_bipush 29 hC kb_14 dX9_readClaims_29 ?_
      refine r_callVI 31 hC [(0, 14)] [] rfl vl_X9_72 rfl hn1 (by decide) (Nat.le_of_ble_eq_true rfl) (by decide) (by decide) dX9_readClaims_31 (t_X6_skip x0 14 M6 hn1) (fun v9 M10 => ?_)
      refine r_if_ne 34 hC (tgt := 39) (by decide) dX9_readClaims_34 ?_ ?_
      · refine r_aload_n 39 hC 1 rfl (Or.inl (by decide)) rfl dX9_readClaims_39 ?_
        refine r_iconst 40 hC (r32c rfl) dX9_readClaims_40 ?_
        refine r_aload_n 41 hC 0 rfl (Or.inl (by decide)) rfl dX9_readClaims_41 ?_
        refine r_iconst 42 hC (r32c rfl) dX9_readClaims_42 ?_
        refine r_sipush 43 hC ks_9999 dX9_readClaims_43 ?_
        refine r_callVI 46 hC [(0, 0), (0, 9999)] [(0, 2), (10, x1)] rfl vl_X9_62 rfl hn1 (by decide) (Nat.le_of_ble_eq_true rfl) (by decide) (by decide) dX9_readClaims_46 (t_X6_takeNumber x0 0 9999 M10 hn1) (fun v11 M12 => ?_)
        refine r_iastore 49 hC dX9_readClaims_49 (fun M13 => ?_)
        refine r_aload_n 50 hC 1 rfl (Or.inl (by decide)) rfl dX9_readClaims_50 ?_
        refine r_iconst 51 hC (r32c rfl) dX9_readClaims_51 ?_
        refine r_iaload 52 hC dX9_readClaims_52 (fun v14 => ?_)
        refine r_iconst 53 hC (r32c rfl) dX9_readClaims_53 ?_
        refine r_jn (P := fun j62 => ∀ (q15 : Int), Bk E C 2 M (r0, M0) 62 [] [(0, q15)] M13 0 0 (j62 q15)) ?_ (fun j62 hj62 => ?_)
        · intro q15
          exact r_zreturn 62 hC hq (by decide) (by decide) dX9_readClaims_62
        refine r_icmp_eq 54 hC (tgt := 61) (by decide) dX9_readClaims_54 ?_ ?_
        · refine r_iconst 61 hC (r32c rfl) dX9_readClaims_61 ?_
          exact r_sub [] rfl (hj62 0)
        · refine r_iconst 57 hC (r32c rfl) dX9_readClaims_57 ?_
          refine r_goto 58 hC (tgt := 62) (by decide) dX9_readClaims_58 ?_
          exact r_sub [] rfl (hj62 1)
      · exact r_sub [] rfl (hj37 M10)
  · refine r_iconst 9 hC (r32c rfl) dX9_readClaims_9 ?_
    exact r_zreturn 10 hC hq (by decide) (by decide) dX9_readClaims_10

/-! WaterTurns$ValleyReader.readBy(LWaterTurns$Tape;LWaterTurns$Valley;[I)Z -/
theorem dX9_readBy_0 : decode cX9_readBy 0 = .ok (.aload_n 0, 1) := by decide +kernel
theorem dX9_readBy_1 : decode cX9_readBy 1 = .ok (.bipush 15, 2) := by decide +kernel
theorem dX9_readBy_3 : decode cX9_readBy 3 = .ok (.invokevirtual 33, 3) := by decide +kernel
theorem dX9_readBy_6 : decode cX9_readBy 6 = .ok (.ifCond .ne 5, 3) := by decide +kernel
theorem dX9_readBy_9 : decode cX9_readBy 9 = .ok (.iconst 1, 1) := by decide +kernel
theorem dX9_readBy_10 : decode cX9_readBy 10 = .ok (.ireturn, 1) := by decide +kernel
theorem dX9_readBy_11 : decode cX9_readBy 11 = .ok (.aload_n 0, 1) := by decide +kernel
theorem dX9_readBy_12 : decode cX9_readBy 12 = .ok (.invokevirtual 59, 3) := by decide +kernel
theorem dX9_readBy_15 : decode cX9_readBy 15 = .ok (.aload_n 2, 1) := by decide +kernel
theorem dX9_readBy_16 : decode cX9_readBy 16 = .ok (.iconst 3, 1) := by decide +kernel
theorem dX9_readBy_17 : decode cX9_readBy 17 = .ok (.aload_n 0, 1) := by decide +kernel
theorem dX9_readBy_18 : decode cX9_readBy 18 = .ok (.aload_n 1, 1) := by decide +kernel
theorem dX9_readBy_19 : decode cX9_readBy 19 = .ok (.getfield 96, 3) := by decide +kernel
theorem dX9_readBy_22 : decode cX9_readBy 22 = .ok (.aload_n 1, 1) := by decide +kernel
theorem dX9_readBy_23 : decode cX9_readBy 23 = .ok (.getfield 89, 3) := by decide +kernel
theorem dX9_readBy_26 : decode cX9_readBy 26 = .ok (.invokevirtual 130, 3) := by decide +kernel
theorem dX9_readBy_29 : decode cX9_readBy 29 = .ok (.iastore, 1) := by decide +kernel
theorem dX9_readBy_30 : decode cX9_readBy 30 = .ok (.aload_n 2, 1) := by decide +kernel
theorem dX9_readBy_31 : decode cX9_readBy 31 = .ok (.iconst 3, 1) := by decide +kernel
theorem dX9_readBy_32 : decode cX9_readBy 32 = .ok (.iaload, 1) := by decide +kernel
theorem dX9_readBy_33 : decode cX9_readBy 33 = .ok (.iconst (-1), 1) := by decide +kernel
theorem dX9_readBy_34 : decode cX9_readBy 34 = .ok (.if_icmp .eq 7, 3) := by decide +kernel
theorem dX9_readBy_37 : decode cX9_readBy 37 = .ok (.iconst 1, 1) := by decide +kernel
theorem dX9_readBy_38 : decode cX9_readBy 38 = .ok (.goto 4, 3) := by decide +kernel
theorem dX9_readBy_41 : decode cX9_readBy 41 = .ok (.iconst 0, 1) := by decide +kernel
theorem dX9_readBy_42 : decode cX9_readBy 42 = .ok (.ireturn, 1) := by decide +kernel
set_option maxRecDepth 100000 in
theorem t_X9_readBy (x0 x1 x2 : Int) (M : Mem) : MtI yX9_readBy cX9_readBy 3 (some .boolean) 4 0 0 [(25, x0), (27, x1), (10, x2)] M 0 (f_X9_readBy x0 x1 x2 M) := by
  refine mk_I (by decide +kernel) (Nat.le_of_ble_eq_true rfl) (fun E C r0 M0 hC hq hin => ?_)
  refine r_eqls (ls' := [(0, 25, x0), (1, 27, x1), (2, 10, x2)]) rfl ?_
  unfold f_X9_readBy
  refine r_aload_n 0 hC 0 rfl (Or.inl (by decide)) rfl dX9_readBy_0 ?_
  refine r_bipush 1 hC kb_15 dX9_readBy_1 ?_
  refine r_nn (fun hn1 => ?_)
  refine r_callVP 3 hC [(0, 15)] [] rfl vl_X9_33 rfl hn1 (by decide) (Nat.le_of_ble_eq_true rfl) (by decide) (by decide) dX9_readBy_3 (t_X6_isAt x0 15 M hn1) (fun v2 => ?_)
  refine r_if_ne 6 hC (tgt := 11) (by decide) dX9_readBy_6 ?_ ?_
  · refine r_aload_n 11 hC 0 rfl (Or.inl (by decide)) rfl dX9_readBy_11 ?_
    refine r_callVV 12 hC [] [] rfl vl_X9_59 rfl hn1 (by decide) (Nat.le_of_ble_eq_true rfl) (by decide) (by decide) dX9_readBy_12 (t_X6_step x0 M hn1) (fun M3 => ?_)
    refine r_aload_n 15 hC 2 rfl (Or.inl (by decide)) rfl dX9_readBy_15 ?_
    refine r_iconst 16 hC (r32c rfl) dX9_readBy_16 ?_
    refine r_aload_n 17 hC 0 rfl (Or.inl (by decide)) rfl dX9_readBy_17 ?_
    refine r_aload_n 18 hC 1 rfl (Or.inl (by decide)) rfl dX9_readBy_18 ?_
    refine r_get 19 hC fd_7_11 fl_X9_96 dX9_readBy_19 (fun v4 => ?_)
    refine r_aload_n 22 hC 1 rfl (Or.inl (by decide)) rfl dX9_readBy_22 ?_
    refine r_get 23 hC fd_7_4 fl_X9_89 dX9_readBy_23 (fun v5 => ?_)
    refine r_callVI 26 hC [(11, v4), (0, v5)] [(0, 3), (10, x2)] rfl vl_X9_130 rfl hn1 (by decide) (Nat.le_of_ble_eq_true rfl) (by decide) (by decide) dX9_readBy_26 (t_X6_takeKnown x0 v4 v5 M3 hn1) (fun v6 M7 => ?_)
    refine r_iastore 29 hC dX9_readBy_29 (fun M8 => ?_)
    refine r_aload_n 30 hC 2 rfl (Or.inl (by decide)) rfl dX9_readBy_30 ?_
    refine r_iconst 31 hC (r32c rfl) dX9_readBy_31 ?_
    refine r_iaload 32 hC dX9_readBy_32 (fun v9 => ?_)
    refine r_iconst 33 hC (r32c rfl) dX9_readBy_33 ?_
    refine r_jn (P := fun j42 => ∀ (q10 : Int), Bk E C 3 M (r0, M0) 42 [] [(0, q10)] M8 0 0 (j42 q10)) ?_ (fun j42 hj42 => ?_)
    · intro q10
      exact r_zreturn 42 hC hq (by decide) (by decide) dX9_readBy_42
    refine r_icmp_eq 34 hC (tgt := 41) (by decide) dX9_readBy_34 ?_ ?_
    · refine r_iconst 41 hC (r32c rfl) dX9_readBy_41 ?_
      exact r_sub [] rfl (hj42 0)
    · refine r_iconst 37 hC (r32c rfl) dX9_readBy_37 ?_
      refine r_goto 38 hC (tgt := 42) (by decide) dX9_readBy_38 ?_
      exact r_sub [] rfl (hj42 1)
  · refine r_iconst 9 hC (r32c rfl) dX9_readBy_9 ?_
    exact r_zreturn 10 hC hq (by decide) (by decide) dX9_readBy_10

/-! WaterTurns$ValleyReader.readField(LWaterTurns$Tape;LWaterTurns$Valley;)Z -/
theorem dX9_readField_0 : decode cX9_readField 0 = .ok (.aload_n 1, 1) := by decide +kernel
theorem dX9_readField_1 : decode cX9_readField 1 = .ok (.getfield 134, 3) := by decide +kernel
theorem dX9_readField_4 : decode cX9_readField 4 = .ok (.bipush 10, 2) := by decide +kernel
theorem dX9_readField_6 : decode cX9_readField 6 = .ok (.if_icmp .lt 10, 3) := by decide +kernel
theorem dX9_readField_9 : decode cX9_readField 9 = .ok (.aload_n 0, 1) := by decide +kernel
theorem dX9_readField_10 : decode cX9_readField 10 = .ok (.bipush 6, 2) := by decide +kernel
theorem dX9_readField_12 : decode cX9_readField 12 = .ok (.invokevirtual 52, 3) := by decide +kernel
theorem dX9_readField_15 : decode cX9_readField 15 = .ok (.ireturn, 1) := by decide +kernel
theorem dX9_readField_16 : decode cX9_readField 16 = .ok (.aload_n 0, 1) := by decide +kernel
theorem dX9_readField_17 : decode cX9_readField 17 = .ok (.invokevirtual 59, 3) := by decide +kernel
theorem dX9_readField_20 : decode cX9_readField 20 = .ok (.aload_n 0, 1) := by decide +kernel
theorem dX9_readField_21 : decode cX9_readField 21 = .ok (.aload_n 1, 1) := by decide +kernel
theorem dX9_readField_22 : decode cX9_readField 22 = .ok (.invokestatic 92, 3) := by decide +kernel
theorem dX9_readField_25 : decode cX9_readField 25 = .ok (.lstore_n 2, 1) := by decide +kernel
theorem dX9_readField_26 : decode cX9_readField 26 = .ok (.aload_n 1, 1) := by decide +kernel
theorem dX9_readField_27 : decode cX9_readField 27 = .ok (.getfield 137, 3) := by decide +kernel
theorem dX9_readField_30 : decode cX9_readField 30 = .ok (.aload_n 1, 1) := by decide +kernel
theorem dX9_readField_31 : decode cX9_readField 31 = .ok (.getfield 134, 3) := by decide +kernel
theorem dX9_readField_34 : decode cX9_readField 34 = .ok (.aaload, 1) := by decide +kernel
theorem dX9_readField_35 : decode cX9_readField 35 = .ok (.astore 4, 2) := by decide +kernel
theorem dX9_readField_37 : decode cX9_readField 37 = .ok (.aload 4, 2) := by decide +kernel
theorem dX9_readField_39 : decode cX9_readField 39 = .ok (.iconst (-1), 1) := by decide +kernel
theorem dX9_readField_40 : decode cX9_readField 40 = .ok (.invokestatic 107, 3) := by decide +kernel
theorem dX9_readField_43 : decode cX9_readField 43 = .ok (.lload_n 2, 1) := by decide +kernel
theorem dX9_readField_44 : decode cX9_readField 44 = .ok (.lconst 0, 1) := by decide +kernel
theorem dX9_readField_45 : decode cX9_readField 45 = .ok (.lcmp, 1) := by decide +kernel
theorem dX9_readField_46 : decode cX9_readField 46 = .ok (.ifCond .eq 39, 3) := by decide +kernel
theorem dX9_readField_49 : decode cX9_readField 49 = .ok (.aload_n 0, 1) := by decide +kernel
theorem dX9_readField_50 : decode cX9_readField 50 = .ok (.aload_n 1, 1) := by decide +kernel
theorem dX9_readField_51 : decode cX9_readField 51 = .ok (.aload 4, 2) := by decide +kernel
theorem dX9_readField_53 : decode cX9_readField 53 = .ok (.invokestatic 140, 3) := by decide +kernel
theorem dX9_readField_56 : decode cX9_readField 56 = .ok (.ifCond .eq 29, 3) := by decide +kernel
theorem dX9_readField_59 : decode cX9_readField 59 = .ok (.aload_n 0, 1) := by decide +kernel
theorem dX9_readField_60 : decode cX9_readField 60 = .ok (.aload 4, 2) := by decide +kernel
theorem dX9_readField_62 : decode cX9_readField 62 = .ok (.invokestatic 143, 3) := by decide +kernel
theorem dX9_readField_65 : decode cX9_readField 65 = .ok (.ifCond .eq 20, 3) := by decide +kernel
theorem dX9_readField_68 : decode cX9_readField 68 = .ok (.aload_n 0, 1) := by decide +kernel
theorem dX9_readField_69 : decode cX9_readField 69 = .ok (.aload_n 1, 1) := by decide +kernel
theorem dX9_readField_70 : decode cX9_readField 70 = .ok (.aload 4, 2) := by decide +kernel
theorem dX9_readField_72 : decode cX9_readField 72 = .ok (.invokestatic 146, 3) := by decide +kernel
theorem dX9_readField_75 : decode cX9_readField 75 = .ok (.ifCond .eq 10, 3) := by decide +kernel
theorem dX9_readField_78 : decode cX9_readField 78 = .ok (.aload_n 0, 1) := by decide +kernel
theorem dX9_readField_79 : decode cX9_readField 79 = .ok (.invokevirtual 66, 3) := by decide +kernel
theorem dX9_readField_82 : decode cX9_readField 82 = .ok (.ifCond .ne 5, 3) := by decide +kernel
theorem dX9_readField_85 : decode cX9_readField 85 = .ok (.iconst 0, 1) := by decide +kernel
theorem dX9_readField_86 : decode cX9_readField 86 = .ok (.ireturn, 1) := by decide +kernel
theorem dX9_readField_87 : decode cX9_readField 87 = .ok (.aload_n 1, 1) := by decide +kernel
theorem dX9_readField_88 : decode cX9_readField 88 = .ok (.getfield 149, 3) := by decide +kernel
theorem dX9_readField_91 : decode cX9_readField 91 = .ok (.aload_n 1, 1) := by decide +kernel
theorem dX9_readField_92 : decode cX9_readField 92 = .ok (.getfield 134, 3) := by decide +kernel
theorem dX9_readField_95 : decode cX9_readField 95 = .ok (.lload_n 2, 1) := by decide +kernel
theorem dX9_readField_96 : decode cX9_readField 96 = .ok (.lastore, 1) := by decide +kernel
theorem dX9_readField_97 : decode cX9_readField 97 = .ok (.aload_n 1, 1) := by decide +kernel
theorem dX9_readField_98 : decode cX9_readField 98 = .ok (.dup, 1) := by decide +kernel
theorem dX9_readField_99 : decode cX9_readField 99 = .ok (.getfield 134, 3) := by decide +kernel
theorem dX9_readField_102 : decode cX9_readField 102 = .ok (.iconst 1, 1) := by decide +kernel
theorem dX9_readField_103 : decode cX9_readField 103 = .ok (.iadd, 1) := by decide +kernel
theorem dX9_readField_104 : decode cX9_readField 104 = .ok (.putfield 134, 3) := by decide +kernel
theorem dX9_readField_107 : decode cX9_readField 107 = .ok (.iconst 1, 1) := by decide +kernel
theorem dX9_readField_108 : decode cX9_readField 108 = .ok (.ireturn, 1) := by decide +kernel
set_option maxRecDepth 100000 in
theorem t_X9_readField (x0 x1 : Int) (M : Mem) : MtI yX9_readField cX9_readField 5 (some .boolean) 5 0 0 [(25, x0), (27, x1)] M 0 (f_X9_readField x0 x1 M) := by
  refine mk_I (by decide +kernel) (Nat.le_of_ble_eq_true rfl) (fun E C r0 M0 hC hq hin => ?_)
  refine r_eqls (ls' := [(0, 25, x0), (1, 27, x1)]) rfl ?_
  unfold f_X9_readField
  refine r_aload_n 0 hC 1 rfl (Or.inl (by decide)) rfl dX9_readField_0 ?_
  refine r_get 1 hC fd_7_5 fl_X9_134 dX9_readField_1 (fun v1 => ?_)
  refine r_bipush 4 hC kb_10 dX9_readField_4 ?_
  refine r_icmp_lt 6 hC (tgt := 16) (by decide) dX9_readField_6 ?_ ?_
  · refine r_aload_n 16 hC 0 rfl (Or.inl (by decide)) rfl dX9_readField_16 ?_
    refine r_nn (fun hn2 => ?_)
    refine r_callVV 17 hC [] [] rfl vl_X9_59 rfl hn2 (by decide) (Nat.le_of_ble_eq_true rfl) (by decide) (by decide) dX9_readField_17 (t_X6_step x0 M hn2) (fun M3 => ?_)
    refine r_aload_n 20 hC 0 rfl (Or.inl (by decide)) rfl dX9_readField_20 ?_
    refine r_aload_n 21 hC 1 rfl (Or.inl (by decide)) rfl dX9_readField_21 ?_
    refine r_callSI 22 hC [(25, x0), (27, x1)] [] rfl sl_X9_92 rfl (by decide) (Nat.le_of_ble_eq_true rfl) (by decide) (by decide) dX9_readField_22 (t_X9_takeNew x0 x1 M3) (fun v4 M5 => ?_)
    refine r_lstore_n 25 hC rfl (by decide) dX9_readField_25 (r_eqls (ls' := [(2, 1, v4), (0, 25, x0), (1, 27, x1)]) rfl ?_)
    refine r_aload_n 26 hC 2 rfl (Or.inl (by decide)) rfl dX9_readField_26 ?_
    refine r_get 27 hC fd_7_9 fl_X9_137 dX9_readField_27 (fun v6 => ?_)
    refine r_aload_n 30 hC 2 rfl (Or.inl (by decide)) rfl dX9_readField_30 ?_
    refine r_get 31 hC fd_7_5 fl_X9_134 dX9_readField_31 (fun v7 => ?_)
    refine r_aaloadI 34 hC dX9_readField_34 (fun v8 => ?_)
    refine r_astore 35 hC (Or.inl (by decide)) (by decide) dX9_readField_35 (r_eqls (ls' := [(4, 10, v8), (2, 1, v4), (0, 25, x0), (1, 27, x1)]) rfl ?_)
    refine r_aload 37 hC 0 (Or.inl (by decide)) rfl dX9_readField_37 ?_
    refine r_iconst 39 hC (r32c rfl) dX9_readField_39 ?_
    refine r_callSV 40 hC [(10, v8), (0, (-1))] [] rfl sl_X9_107 rfl (by decide) (Nat.le_of_ble_eq_true rfl) (by decide) (by decide) dX9_readField_40 (t_J7_fill_53178 v8 (-1) M5) (fun M9 => ?_)
    refine r_lload_n 43 hC 1 rfl rfl dX9_readField_43 ?_
    refine r_lconst 44 hC (x := 0) ⟨by decide +kernel, r64c rfl⟩ dX9_readField_44 ?_
    refine r_jn (P := fun j85 => ∀ (M10 : Mem), Bk E C 5 M (r0, M0) 85 [] [] M10 0 0 (j85 M10)) ?_ (fun j85 hj85 => ?_)
    · intro M10
      refine r_iconst 85 hC (r32c rfl) dX9_readField_85 ?_
      exact r_zreturn 86 hC hq (by decide) (by decide) dX9_readField_86
    refine r_lcmp_eq 45 hC (tgt := 85) (by decide) dX9_readField_45 dX9_readField_46 ?_ ?_
    · exact r_sub [] rfl (hj85 M9)
    · refine r_aload_n 49 hC 2 rfl (Or.inl (by decide)) rfl dX9_readField_49 ?_
      refine r_aload_n 50 hC 3 rfl (Or.inl (by decide)) rfl dX9_readField_50 ?_
      refine r_aload 51 hC 0 (Or.inl (by decide)) rfl dX9_readField_51 ?_
      refine r_callSI 53 hC [(25, x0), (27, x1), (10, v8)] [] rfl sl_X9_140 rfl (by decide) (Nat.le_of_ble_eq_true rfl) (by decide) (by decide) dX9_readField_53 (t_X9_readOn x0 x1 v8 M9) (fun v11 M12 => ?_)
      refine r_if_eq 56 hC (tgt := 85) (by decide) dX9_readField_56 ?_ ?_
      · exact r_sub [] rfl (hj85 M12)
      · refine r_aload_n 59 hC 2 rfl (Or.inl (by decide)) rfl dX9_readField_59 ?_
        refine r_aload 60 hC 0 (Or.inl (by decide)) rfl dX9_readField_60 ?_
        refine r_callSI 62 hC [(25, x0), (10, v8)] [] rfl sl_X9_143 rfl (by decide) (Nat.le_of_ble_eq_true rfl) (by decide) (by decide) dX9_readField_62 (t_X9_readClaims x0 v8 M12) (fun v13 M14 => ?_)
        refine r_if_eq 65 hC (tgt := 85) (by decide) dX9_readField_65 ?_ ?_
        · exact r_sub [] rfl (hj85 M14)
        · refine r_aload_n 68 hC 2 rfl (Or.inl (by decide)) rfl dX9_readField_68 ?_
          refine r_aload_n 69 hC 3 rfl (Or.inl (by decide)) rfl dX9_readField_69 ?_
          refine r_aload 70 hC 0 (Or.inl (by decide)) rfl dX9_readField_70 ?_
          refine r_callSI 72 hC [(25, x0), (27, x1), (10, v8)] [] rfl sl_X9_146 rfl (by decide) (Nat.le_of_ble_eq_true rfl) (by decide) (by decide) dX9_readField_72 (t_X9_readBy x0 x1 v8 M14) (fun v15 M16 => ?_)
          refine r_if_eq 75 hC (tgt := 85) (by decide) dX9_readField_75 ?_ ?_
          · exact r_sub [] rfl (hj85 M16)
          · refine r_aload_n 78 hC 2 rfl (Or.inl (by decide)) rfl dX9_readField_78 ?_
            refine r_callVI 79 hC [] [] rfl vl_X9_66 rfl hn2 (by decide) (Nat.le_of_ble_eq_true rfl) (by decide) (by decide) dX9_readField_79 (t_X6_skipSemicolon x0 M16 hn2) (fun v17 M18 => ?_)
            refine r_if_ne 82 hC (tgt := 87) (by decide) dX9_readField_82 ?_ ?_
            · refine r_aload_n 87 hC 3 rfl (Or.inl (by decide)) rfl dX9_readField_87 ?_
              refine r_get 88 hC fd_7_12 fl_X9_149 dX9_readField_88 (fun v19 => ?_)
              refine r_aload_n 91 hC 3 rfl (Or.inl (by decide)) rfl dX9_readField_91 ?_
              refine r_get 92 hC fd_7_5 fl_X9_134 dX9_readField_92 (fun v20 => ?_)
              refine r_lload_n 95 hC 1 rfl rfl dX9_readField_95 ?_
              refine r_lastore 96 hC dX9_readField_96 (fun M21 => ?_)
              refine r_aload_n 97 hC 3 rfl (Or.inl (by decide)) rfl dX9_readField_97 ?_
              refine r_dup 98 hC (by decide) dX9_readField_98 ?_
              refine r_get 99 hC fd_7_5 fl_X9_134 dX9_readField_99 (fun v22 => ?_)
              refine r_iconst 102 hC (r32c rfl) dX9_readField_102 ?_
              refine r_iadd 103 hC dX9_readField_103 ?_
              refine r_put 104 hC fd_7_5 fl_X9_134 dX9_readField_104 (fun M23 => ?_)
              refine r_iconst 107 hC (r32c rfl) dX9_readField_107 ?_
              exact r_zreturn 108 hC hq (by decide) (by decide) dX9_readField_108
            · exact r_sub [] rfl (hj85 M18)
  · refine r_aload_n 9 hC 0 rfl (Or.inl (by decide)) rfl dX9_readField_9 ?_
    refine r_bipush 10 hC kb_6 dX9_readField_10 ?_
    refine r_nn (fun hn24 => ?_)
    refine r_callVI 12 hC [(0, 6)] [] rfl vl_X9_52 rfl hn24 (by decide) (Nat.le_of_ble_eq_true rfl) (by decide) (by decide) dX9_readField_12 (t_X6_blame x0 6 M hn24) (fun v25 M26 => ?_)
    exact r_zreturn 15 hC hq (by decide) (by decide) dX9_readField_15

/-! WaterTurns$ValleyReader.readPart(LWaterTurns$Tape;LWaterTurns$Valley;)Z -/
theorem dX9_readPart_0 : decode cX9_readPart 0 = .ok (.aload_n 0, 1) := by decide +kernel
theorem dX9_readPart_1 : decode cX9_readPart 1 = .ok (.iconst 0, 1) := by decide +kernel
theorem dX9_readPart_2 : decode cX9_readPart 2 = .ok (.invokevirtual 33, 3) := by decide +kernel
theorem dX9_readPart_5 : decode cX9_readPart 5 = .ok (.ifCond .eq 9, 3) := by decide +kernel
theorem dX9_readPart_8 : decode cX9_readPart 8 = .ok (.aload_n 0, 1) := by decide +kernel
theorem dX9_readPart_9 : decode cX9_readPart 9 = .ok (.aload_n 1, 1) := by decide +kernel
theorem dX9_readPart_10 : decode cX9_readPart 10 = .ok (.invokestatic 37, 3) := by decide +kernel
theorem dX9_readPart_13 : decode cX9_readPart 13 = .ok (.ireturn, 1) := by decide +kernel
theorem dX9_readPart_14 : decode cX9_readPart 14 = .ok (.aload_n 0, 1) := by decide +kernel
theorem dX9_readPart_15 : decode cX9_readPart 15 = .ok (.iconst 1, 1) := by decide +kernel
theorem dX9_readPart_16 : decode cX9_readPart 16 = .ok (.invokevirtual 33, 3) := by decide +kernel
theorem dX9_readPart_19 : decode cX9_readPart 19 = .ok (.ifCond .eq 9, 3) := by decide +kernel
theorem dX9_readPart_22 : decode cX9_readPart 22 = .ok (.aload_n 0, 1) := by decide +kernel
theorem dX9_readPart_23 : decode cX9_readPart 23 = .ok (.aload_n 1, 1) := by decide +kernel
theorem dX9_readPart_24 : decode cX9_readPart 24 = .ok (.invokestatic 40, 3) := by decide +kernel
theorem dX9_readPart_27 : decode cX9_readPart 27 = .ok (.ireturn, 1) := by decide +kernel
theorem dX9_readPart_28 : decode cX9_readPart 28 = .ok (.aload_n 0, 1) := by decide +kernel
theorem dX9_readPart_29 : decode cX9_readPart 29 = .ok (.iconst 3, 1) := by decide +kernel
theorem dX9_readPart_30 : decode cX9_readPart 30 = .ok (.invokevirtual 33, 3) := by decide +kernel
theorem dX9_readPart_33 : decode cX9_readPart 33 = .ok (.ifCond .eq 9, 3) := by decide +kernel
theorem dX9_readPart_36 : decode cX9_readPart 36 = .ok (.aload_n 0, 1) := by decide +kernel
theorem dX9_readPart_37 : decode cX9_readPart 37 = .ok (.aload_n 1, 1) := by decide +kernel
theorem dX9_readPart_38 : decode cX9_readPart 38 = .ok (.invokestatic 43, 3) := by decide +kernel
theorem dX9_readPart_41 : decode cX9_readPart 41 = .ok (.ireturn, 1) := by decide +kernel
theorem dX9_readPart_42 : decode cX9_readPart 42 = .ok (.aload_n 0, 1) := by decide +kernel
theorem dX9_readPart_43 : decode cX9_readPart 43 = .ok (.bipush 10, 2) := by decide +kernel
theorem dX9_readPart_45 : decode cX9_readPart 45 = .ok (.invokevirtual 33, 3) := by decide +kernel
theorem dX9_readPart_48 : decode cX9_readPart 48 = .ok (.ifCond .eq 9, 3) := by decide +kernel
theorem dX9_readPart_51 : decode cX9_readPart 51 = .ok (.aload_n 0, 1) := by decide +kernel
theorem dX9_readPart_52 : decode cX9_readPart 52 = .ok (.aload_n 1, 1) := by decide +kernel
theorem dX9_readPart_53 : decode cX9_readPart 53 = .ok (.invokestatic 46, 3) := by decide +kernel
theorem dX9_readPart_56 : decode cX9_readPart 56 = .ok (.ireturn, 1) := by decide +kernel
theorem dX9_readPart_57 : decode cX9_readPart 57 = .ok (.aload_n 0, 1) := by decide +kernel
theorem dX9_readPart_58 : decode cX9_readPart 58 = .ok (.bipush 11, 2) := by decide +kernel
theorem dX9_readPart_60 : decode cX9_readPart 60 = .ok (.invokevirtual 33, 3) := by decide +kernel
theorem dX9_readPart_63 : decode cX9_readPart 63 = .ok (.ifCond .eq 11, 3) := by decide +kernel
theorem dX9_readPart_66 : decode cX9_readPart 66 = .ok (.aload_n 0, 1) := by decide +kernel
theorem dX9_readPart_67 : decode cX9_readPart 67 = .ok (.aload_n 1, 1) := by decide +kernel
theorem dX9_readPart_68 : decode cX9_readPart 68 = .ok (.invokestatic 49, 3) := by decide +kernel
theorem dX9_readPart_71 : decode cX9_readPart 71 = .ok (.goto 8, 3) := by decide +kernel
theorem dX9_readPart_74 : decode cX9_readPart 74 = .ok (.aload_n 0, 1) := by decide +kernel
theorem dX9_readPart_75 : decode cX9_readPart 75 = .ok (.iconst 2, 1) := by decide +kernel
theorem dX9_readPart_76 : decode cX9_readPart 76 = .ok (.invokevirtual 52, 3) := by decide +kernel
theorem dX9_readPart_79 : decode cX9_readPart 79 = .ok (.ireturn, 1) := by decide +kernel
set_option maxRecDepth 100000 in
theorem t_X9_readPart (x0 x1 : Int) (M : Mem) : MtI yX9_readPart cX9_readPart 2 (some .boolean) 6 0 0 [(25, x0), (27, x1)] M 0 (f_X9_readPart x0 x1 M) := by
  refine mk_I (by decide +kernel) (Nat.le_of_ble_eq_true rfl) (fun E C r0 M0 hC hq hin => ?_)
  refine r_eqls (ls' := [(0, 25, x0), (1, 27, x1)]) rfl ?_
  unfold f_X9_readPart
  refine r_aload_n 0 hC 0 rfl (Or.inl (by decide)) rfl dX9_readPart_0 ?_
  refine r_iconst 1 hC (r32c rfl) dX9_readPart_1 ?_
  refine r_nn (fun hn1 => ?_)
  refine r_callVP 2 hC [(0, 0)] [] rfl vl_X9_33 rfl hn1 (by decide) (Nat.le_of_ble_eq_true rfl) (by decide) (by decide) dX9_readPart_2 (t_X6_isAt x0 0 M hn1) (fun v2 => ?_)
  refine r_if_eq 5 hC (tgt := 14) (by decide) dX9_readPart_5 ?_ ?_
  · refine r_aload_n 14 hC 0 rfl (Or.inl (by decide)) rfl dX9_readPart_14 ?_
    refine r_iconst 15 hC (r32c rfl) dX9_readPart_15 ?_
    refine r_callVP 16 hC [(0, 1)] [] rfl vl_X9_33 rfl hn1 (by decide) (Nat.le_of_ble_eq_true rfl) (by decide) (by decide) dX9_readPart_16 (t_X6_isAt x0 1 M hn1) (fun v3 => ?_)
    refine r_if_eq 19 hC (tgt := 28) (by decide) dX9_readPart_19 ?_ ?_
    · refine r_aload_n 28 hC 0 rfl (Or.inl (by decide)) rfl dX9_readPart_28 ?_
      refine r_iconst 29 hC (r32c rfl) dX9_readPart_29 ?_
      refine r_callVP 30 hC [(0, 3)] [] rfl vl_X9_33 rfl hn1 (by decide) (Nat.le_of_ble_eq_true rfl) (by decide) (by decide) dX9_readPart_30 (t_X6_isAt x0 3 M hn1) (fun v4 => ?_)
      refine r_if_eq 33 hC (tgt := 42) (by decide) dX9_readPart_33 ?_ ?_
      · refine r_aload_n 42 hC 0 rfl (Or.inl (by decide)) rfl dX9_readPart_42 ?_
        refine r_bipush 43 hC kb_10 dX9_readPart_43 ?_
        refine r_callVP 45 hC [(0, 10)] [] rfl vl_X9_33 rfl hn1 (by decide) (Nat.le_of_ble_eq_true rfl) (by decide) (by decide) dX9_readPart_45 (t_X6_isAt x0 10 M hn1) (fun v5 => ?_)
        refine r_if_eq 48 hC (tgt := 57) (by decide) dX9_readPart_48 ?_ ?_
        · refine r_aload_n 57 hC 0 rfl (Or.inl (by decide)) rfl dX9_readPart_57 ?_
          refine r_bipush 58 hC kb_11 dX9_readPart_58 ?_
          refine r_callVP 60 hC [(0, 11)] [] rfl vl_X9_33 rfl hn1 (by decide) (Nat.le_of_ble_eq_true rfl) (by decide) (by decide) dX9_readPart_60 (t_X6_isAt x0 11 M hn1) (fun v6 => ?_)
          refine r_jn (P := fun j79 => ∀ (q7 : Int) (M8 : Mem), Bk E C 2 M (r0, M0) 79 [] [(0, q7)] M8 0 0 (j79 q7 M8)) ?_ (fun j79 hj79 => ?_)
          · intro q7 M8
            exact r_zreturn 79 hC hq (by decide) (by decide) dX9_readPart_79
          refine r_if_eq 63 hC (tgt := 74) (by decide) dX9_readPart_63 ?_ ?_
          · refine r_aload_n 74 hC 0 rfl (Or.inl (by decide)) rfl dX9_readPart_74 ?_
            refine r_iconst 75 hC (r32c rfl) dX9_readPart_75 ?_
            refine r_callVI 76 hC [(0, 2)] [] rfl vl_X9_52 rfl hn1 (by decide) (Nat.le_of_ble_eq_true rfl) (by decide) (by decide) dX9_readPart_76 (t_X6_blame x0 2 M hn1) (fun v9 M10 => ?_)
            exact r_sub [] rfl (hj79 v9 M10)
          · refine r_aload_n 66 hC 0 rfl (Or.inl (by decide)) rfl dX9_readPart_66 ?_
            refine r_aload_n 67 hC 1 rfl (Or.inl (by decide)) rfl dX9_readPart_67 ?_
            refine r_callSI 68 hC [(25, x0), (27, x1)] [] rfl sl_X9_49 rfl (by decide) (Nat.le_of_ble_eq_true rfl) (by decide) (by decide) dX9_readPart_68 (t_X9_readField x0 x1 M) (fun v11 M12 => ?_)
            refine r_goto 71 hC (tgt := 79) (by decide) dX9_readPart_71 ?_
            exact r_sub [] rfl (hj79 v11 M12)
        · refine r_aload_n 51 hC 0 rfl (Or.inl (by decide)) rfl dX9_readPart_51 ?_
          refine r_aload_n 52 hC 1 rfl (Or.inl (by decide)) rfl dX9_readPart_52 ?_
          refine r_callSI 53 hC [(25, x0), (27, x1)] [] rfl sl_X9_46 rfl (by decide) (Nat.le_of_ble_eq_true rfl) (by decide) (by decide) dX9_readPart_53 (t_X9_readOwner x0 x1 M) (fun v13 M14 => ?_)
          exact r_zreturn 56 hC hq (by decide) (by decide) dX9_readPart_56
      · refine r_aload_n 36 hC 0 rfl (Or.inl (by decide)) rfl dX9_readPart_36 ?_
        refine r_aload_n 37 hC 1 rfl (Or.inl (by decide)) rfl dX9_readPart_37 ?_
        refine r_callSI 38 hC [(25, x0), (27, x1)] [] rfl sl_X9_43 rfl (by decide) (Nat.le_of_ble_eq_true rfl) (by decide) (by decide) dX9_readPart_38 (t_X9_readReach x0 x1 M) (fun v15 M16 => ?_)
        exact r_zreturn 41 hC hq (by decide) (by decide) dX9_readPart_41
    · refine r_aload_n 22 hC 0 rfl (Or.inl (by decide)) rfl dX9_readPart_22 ?_
      refine r_aload_n 23 hC 1 rfl (Or.inl (by decide)) rfl dX9_readPart_23 ?_
      refine r_callSI 24 hC [(25, x0), (27, x1)] [] rfl sl_X9_40 rfl (by decide) (Nat.le_of_ble_eq_true rfl) (by decide) (by decide) dX9_readPart_24 (t_X9_readSpan x0 x1 M) (fun v17 M18 => ?_)
      exact r_zreturn 27 hC hq (by decide) (by decide) dX9_readPart_27
  · refine r_aload_n 8 hC 0 rfl (Or.inl (by decide)) rfl dX9_readPart_8 ?_
    refine r_aload_n 9 hC 1 rfl (Or.inl (by decide)) rfl dX9_readPart_9 ?_
    refine r_callSI 10 hC [(25, x0), (27, x1)] [] rfl sl_X9_37 rfl (by decide) (Nat.le_of_ble_eq_true rfl) (by decide) (by decide) dX9_readPart_10 (t_X9_readHead x0 x1 M) (fun v19 M20 => ?_)
    exact r_zreturn 13 hC hq (by decide) (by decide) dX9_readPart_13

/-! WaterTurns$ValleyReader.takes(LWaterTurns$Tape;ILWaterTurns$Valley;)Z -/
theorem dX9_takes_0 : decode cX9_takes 0 = .ok (.aload_n 2, 1) := by decide +kernel
theorem dX9_takes_1 : decode cX9_takes 1 = .ok (.invokevirtual 9, 3) := by decide +kernel
theorem dX9_takes_4 : decode cX9_takes 4 = .ok (.aload_n 0, 1) := by decide +kernel
theorem dX9_takes_5 : decode cX9_takes 5 = .ok (.iload_n 1, 1) := by decide +kernel
theorem dX9_takes_6 : decode cX9_takes 6 = .ok (.invokevirtual 14, 3) := by decide +kernel
theorem dX9_takes_9 : decode cX9_takes 9 = .ok (.iconst 0, 1) := by decide +kernel
theorem dX9_takes_10 : decode cX9_takes 10 = .ok (.istore_n 3, 1) := by decide +kernel
theorem dX9_takes_11 : decode cX9_takes 11 = .ok (.iload_n 3, 1) := by decide +kernel
theorem dX9_takes_12 : decode cX9_takes 12 = .ok (.sipush 900, 3) := by decide +kernel
theorem dX9_takes_15 : decode cX9_takes 15 = .ok (.if_icmp .ge 26, 3) := by decide +kernel
theorem dX9_takes_18 : decode cX9_takes 18 = .ok (.aload_n 0, 1) := by decide +kernel
theorem dX9_takes_19 : decode cX9_takes 19 = .ok (.invokevirtual 20, 3) := by decide +kernel
theorem dX9_takes_22 : decode cX9_takes 22 = .ok (.ifCond .ne 19, 3) := by decide +kernel
theorem dX9_takes_25 : decode cX9_takes 25 = .ok (.aload_n 0, 1) := by decide +kernel
theorem dX9_takes_26 : decode cX9_takes 26 = .ok (.aload_n 2, 1) := by decide +kernel
theorem dX9_takes_27 : decode cX9_takes 27 = .ok (.invokestatic 24, 3) := by decide +kernel
theorem dX9_takes_30 : decode cX9_takes 30 = .ok (.ifCond .ne 5, 3) := by decide +kernel
theorem dX9_takes_33 : decode cX9_takes 33 = .ok (.iconst 0, 1) := by decide +kernel
theorem dX9_takes_34 : decode cX9_takes 34 = .ok (.ireturn, 1) := by decide +kernel
theorem dX9_takes_35 : decode cX9_takes 35 = .ok (.iinc 3 1, 3) := by decide +kernel
theorem dX9_takes_38 : decode cX9_takes 38 = .ok (.goto (-27), 3) := by decide +kernel
theorem dX9_takes_41 : decode cX9_takes 41 = .ok (.aload_n 2, 1) := by decide +kernel
theorem dX9_takes_42 : decode cX9_takes 42 = .ok (.invokevirtual 30, 3) := by decide +kernel
theorem dX9_takes_45 : decode cX9_takes 45 = .ok (.iconst 1, 1) := by decide +kernel
theorem dX9_takes_46 : decode cX9_takes 46 = .ok (.ireturn, 1) := by decide +kernel
set_option maxRecDepth 100000 in
theorem f_X9_takes_L11_ok {E : EnvT} {C : Cx} {Mi : Mem} (hC : CxOK E C cX9_takes 4 yX9_takes.cls 7 0 0) {r0 : Int} {M0 : Mem} (hq : RQ E C 0 0 Mi (some .boolean) (some (0, r0)) M0) {x0 x2 : Int} {k : Mem → Option (Int × Mem)} (hk : ∀ M11, Bk E C 4 Mi (r0, M0) 41 [(2, 27, x2)] [] M11 0 0 (k M11)) : ∀ (n : Nat) (p5 : Int) (M6 : Mem), Bk E C 4 Mi (r0, M0) 11 [(0, 25, x0), (2, 27, x2), (3, 0, p5)] [] M6 0 0 (f_X9_takes_L11 x0 x2 k n p5 M6) := by
  intro n
  induction n with
  | zero =>
    intro p5 M6
    exact r_none
  | succ n ih =>
    intro p5 M6
    rw [f_X9_takes_L11]
    refine r_iload_n 11 hC 2 rfl rfl dX9_takes_11 ?_
    refine r_sipush 12 hC ks_900 dX9_takes_12 ?_
    refine r_icmp_ge 15 hC (tgt := 41) (by decide) dX9_takes_15 ?_ ?_
    · exact r_sub [1] rfl (hk M6)
    · refine r_aload_n 18 hC 0 rfl (Or.inl (by decide)) rfl dX9_takes_18 ?_
      refine r_nn (fun hn7 => ?_)
      refine r_callVP 19 hC [] [] rfl vl_X9_20 rfl hn7 (by decide) (Nat.le_of_ble_eq_true rfl) (by decide) (by decide) dX9_takes_19 (t_X6_isAtEnd x0 M6 hn7) (fun v8 => ?_)
      refine r_if_ne 22 hC (tgt := 41) (by decide) dX9_takes_22 ?_ ?_
      · exact r_sub [1] rfl (hk M6)
      · refine r_aload_n 25 hC 0 rfl (Or.inl (by decide)) rfl dX9_takes_25 ?_
        refine r_aload_n 26 hC 1 rfl (Or.inl (by decide)) rfl dX9_takes_26 ?_
        refine r_callSI 27 hC [(25, x0), (27, x2)] [] rfl sl_X9_24 rfl (by decide) (Nat.le_of_ble_eq_true rfl) (by decide) (by decide) dX9_takes_27 (t_X9_readPart x0 x2 M6) (fun v9 M10 => ?_)
        refine r_if_ne 30 hC (tgt := 35) (by decide) dX9_takes_30 ?_ ?_
        · refine r_iinc 35 hC 2 rfl (by decide) dX9_takes_35 (r_eqls (ls' := [(3, 0, w32 (p5 + 1)), (0, 25, x0), (2, 27, x2)]) rfl ?_)
          refine r_goto 38 hC (tgt := 11) (by decide) dX9_takes_38 ?_
          exact r_sub [1, 2, 0] rfl (ih (w32 (p5 + 1)) M10)
        · refine r_iconst 33 hC (r32c rfl) dX9_takes_33 ?_
          exact r_zreturn 34 hC hq (by decide) (by decide) dX9_takes_34
set_option maxRecDepth 100000 in
theorem t_X9_takes (x0 x1 x2 : Int) (M : Mem) : MtI yX9_takes cX9_takes 4 (some .boolean) 7 0 0 [(25, x0), (0, x1), (27, x2)] M 0 (f_X9_takes x0 x1 x2 M) := by
  refine mk_I (by decide +kernel) (Nat.le_of_ble_eq_true rfl) (fun E C r0 M0 hC hq hin => ?_)
  refine r_eqls (ls' := [(0, 25, x0), (1, 0, x1), (2, 27, x2)]) rfl ?_
  unfold f_X9_takes
  refine r_aload_n 0 hC 2 rfl (Or.inl (by decide)) rfl dX9_takes_0 ?_
  refine r_nn (fun hn1 => ?_)
  refine r_callVV 1 hC [] [] rfl vl_X9_9 rfl hn1 (by decide) (Nat.le_of_ble_eq_true rfl) (by decide) (by decide) dX9_takes_1 (t_X8_clear x2 M hn1) (fun M2 => ?_)
  refine r_aload_n 4 hC 0 rfl (Or.inl (by decide)) rfl dX9_takes_4 ?_
  refine r_iload_n 5 hC 1 rfl rfl dX9_takes_5 ?_
  refine r_nn (fun hn3 => ?_)
  refine r_callVV 6 hC [(0, x1)] [] rfl vl_X9_14 rfl hn3 (by decide) (Nat.le_of_ble_eq_true rfl) (by decide) (by decide) dX9_takes_6 (t_X6_begin x0 x1 M2 hn3) (fun M4 => ?_)
  refine r_iconst 9 hC (r32c rfl) dX9_takes_9 ?_
  refine r_istore_n 10 hC rfl (by decide) dX9_takes_10 (r_eqls (ls' := [(3, 0, 0), (0, 25, x0), (1, 0, x1), (2, 27, x2)]) rfl ?_)
  refine r_sub [1, 3, 0] rfl (f_X9_takes_L11_ok hC hq (fun M12 => ?_) KF 0 M4)
  · refine r_aload_n 41 hC 0 rfl (Or.inl (by decide)) rfl dX9_takes_41 ?_
    refine r_callVV 42 hC [] [] rfl vl_X9_30 rfl hn1 (by decide) (Nat.le_of_ble_eq_true rfl) (by decide) (by decide) dX9_takes_42 (t_X8_complete x2 M12 hn1) (fun M13 => ?_)
    refine r_iconst 45 hC (r32c rfl) dX9_takes_45 ?_
    exact r_zreturn 46 hC hq (by decide) (by decide) dX9_takes_46

/-! WaterTurns$World.<init>()V -/
theorem dX10_init_0 : decode cX10_init 0 = .ok (.aload_n 0, 1) := by decide +kernel
theorem dX10_init_1 : decode cX10_init 1 = .ok (.invokespecial 3, 3) := by decide +kernel
theorem dX10_init_4 : decode cX10_init 4 = .ok (.aload_n 0, 1) := by decide +kernel
theorem dX10_init_5 : decode cX10_init 5 = .ok (.new 9, 3) := by decide +kernel
theorem dX10_init_8 : decode cX10_init 8 = .ok (.dup, 1) := by decide +kernel
theorem dX10_init_9 : decode cX10_init 9 = .ok (.invokespecial 11, 3) := by decide +kernel
theorem dX10_init_12 : decode cX10_init 12 = .ok (.putfield 12, 3) := by decide +kernel
theorem dX10_init_15 : decode cX10_init 15 = .ok (.aload_n 0, 1) := by decide +kernel
theorem dX10_init_16 : decode cX10_init 16 = .ok (.new 18, 3) := by decide +kernel
theorem dX10_init_19 : decode cX10_init 19 = .ok (.dup, 1) := by decide +kernel
theorem dX10_init_20 : decode cX10_init 20 = .ok (.invokespecial 20, 3) := by decide +kernel
theorem dX10_init_23 : decode cX10_init 23 = .ok (.putfield 21, 3) := by decide +kernel
theorem dX10_init_26 : decode cX10_init 26 = .ok (.aload_n 0, 1) := by decide +kernel
theorem dX10_init_27 : decode cX10_init 27 = .ok (.new 25, 3) := by decide +kernel
theorem dX10_init_30 : decode cX10_init 30 = .ok (.dup, 1) := by decide +kernel
theorem dX10_init_31 : decode cX10_init 31 = .ok (.invokespecial 27, 3) := by decide +kernel
theorem dX10_init_34 : decode cX10_init 34 = .ok (.putfield 28, 3) := by decide +kernel
theorem dX10_init_37 : decode cX10_init 37 = .ok (.return_, 1) := by decide +kernel
set_option maxRecDepth 100000 in
theorem t_X10_init (x0 : Int) (M : Mem) (h0 : x0 ≠ 0) : MtV yX10_init cX10_init 1 none 2 41 755 [(28, x0)] M (f_X10_init x0 M) := by
  refine mk_V (by decide +kernel) (Nat.le_of_ble_eq_true rfl) (fun E C M0 hC hq hin => ?_)
  refine r_eqls (ls' := [(0, 28, x0)]) rfl ?_
  unfold f_X10_init
  refine r_aload_n 0 hC 0 rfl (Or.inl (by decide)) rfl dX10_init_0 ?_
  refine r_objinit 1 hC ob_X10_3 obj_i obj_c (by decide) h0 (by decide) (Nat.le_of_ble_eq_true rfl) dX10_init_1 ?_
  refine r_aload_n 4 hC 0 rfl (Or.inl (by decide)) rfl dX10_init_4 ?_
  refine r_new 5 hC cl_7 rfl (by decide) cq_X10_9 in_X8 ini_X8 (by decide) (by decide) dX10_init_5 (fun v1 M2 => ?_)
  refine r_dup 8 hC (by decide) dX10_init_8 ?_
  refine r_nn (fun hn3 => ?_)
  refine r_ctor 9 hC il_X10_11 (by decide) hn3 (by decide) (Nat.le_of_ble_eq_true rfl) (by decide) (by decide) dX10_init_9 (t_X8_init v1 M2 hn3) (fun M4 => ?_)
  refine r_put 12 hC fd_8_0 fl_X10_12 dX10_init_12 (fun M5 => ?_)
  refine r_aload_n 15 hC 0 rfl (Or.inl (by decide)) rfl dX10_init_15 ?_
  refine r_new 16 hC cl_0 rfl (by decide) cq_X10_18 in_X0 ini_X0 (by decide) (by decide) dX10_init_16 (fun v6 M7 => ?_)
  refine r_dup 19 hC (by decide) dX10_init_19 ?_
  refine r_nn (fun hn8 => ?_)
  refine r_ctor 20 hC il_X10_20 (by decide) hn8 (by decide) (Nat.le_of_ble_eq_true rfl) (by decide) (by decide) dX10_init_20 (t_X0_init v6 M7 hn8) (fun M9 => ?_)
  refine r_put 23 hC fd_8_1 fl_X10_21 dX10_init_23 (fun M10 => ?_)
  refine r_aload_n 26 hC 0 rfl (Or.inl (by decide)) rfl dX10_init_26 ?_
  refine r_new 27 hC cl_3 rfl (by decide) cq_X10_25 in_X4 ini_X4 (by decide) (by decide) dX10_init_27 (fun v11 M12 => ?_)
  refine r_dup 30 hC (by decide) dX10_init_30 ?_
  refine r_nn (fun hn13 => ?_)
  refine r_ctor 31 hC il_X10_27 (by decide) hn13 (by decide) (Nat.le_of_ble_eq_true rfl) (by decide) (by decide) dX10_init_31 (t_X4_init v11 M12 hn13) (fun M14 => ?_)
  refine r_putF 34 hC hin fd_8_2 fl_X10_28 dX10_init_34 (fun M15 => ?_)
  exact r_return 37 hC hq (by decide) (by decide) dX10_init_37

/-! WaterTurns$World.take(LWaterTurns$World;)V -/
theorem dX10_take_0 : decode cX10_take 0 = .ok (.aload_n 0, 1) := by decide +kernel
theorem dX10_take_1 : decode cX10_take 1 = .ok (.getfield 12, 3) := by decide +kernel
theorem dX10_take_4 : decode cX10_take 4 = .ok (.aload_n 1, 1) := by decide +kernel
theorem dX10_take_5 : decode cX10_take 5 = .ok (.getfield 12, 3) := by decide +kernel
theorem dX10_take_8 : decode cX10_take 8 = .ok (.invokevirtual 32, 3) := by decide +kernel
theorem dX10_take_11 : decode cX10_take 11 = .ok (.aload_n 0, 1) := by decide +kernel
theorem dX10_take_12 : decode cX10_take 12 = .ok (.getfield 21, 3) := by decide +kernel
theorem dX10_take_15 : decode cX10_take 15 = .ok (.aload_n 1, 1) := by decide +kernel
theorem dX10_take_16 : decode cX10_take 16 = .ok (.getfield 21, 3) := by decide +kernel
theorem dX10_take_19 : decode cX10_take 19 = .ok (.invokevirtual 36, 3) := by decide +kernel
theorem dX10_take_22 : decode cX10_take 22 = .ok (.aload_n 0, 1) := by decide +kernel
theorem dX10_take_23 : decode cX10_take 23 = .ok (.getfield 28, 3) := by decide +kernel
theorem dX10_take_26 : decode cX10_take 26 = .ok (.aload_n 1, 1) := by decide +kernel
theorem dX10_take_27 : decode cX10_take 27 = .ok (.getfield 28, 3) := by decide +kernel
theorem dX10_take_30 : decode cX10_take 30 = .ok (.invokevirtual 39, 3) := by decide +kernel
theorem dX10_take_33 : decode cX10_take 33 = .ok (.return_, 1) := by decide +kernel
set_option maxRecDepth 100000 in
theorem t_X10_take (x0 x1 : Int) (M : Mem) (h0 : x0 ≠ 0) : MtV yX10_take cX10_take 2 none 2 0 0 [(28, x0), (28, x1)] M (f_X10_take x0 x1 M) := by
  refine mk_V (by decide +kernel) (Nat.le_of_ble_eq_true rfl) (fun E C M0 hC hq hin => ?_)
  refine r_eqls (ls' := [(0, 28, x0), (1, 28, x1)]) rfl ?_
  unfold f_X10_take
  refine r_aload_n 0 hC 0 rfl (Or.inl (by decide)) rfl dX10_take_0 ?_
  refine r_get 1 hC fd_8_0 fl_X10_12 dX10_take_1 (fun v1 => ?_)
  refine r_aload_n 4 hC 1 rfl (Or.inl (by decide)) rfl dX10_take_4 ?_
  refine r_get 5 hC fd_8_0 fl_X10_12 dX10_take_5 (fun v2 => ?_)
  refine r_nn (fun hn3 => ?_)
  refine r_callVV 8 hC [(27, v2)] [] rfl vl_X10_32 rfl hn3 (by decide) (Nat.le_of_ble_eq_true rfl) (by decide) (by decide) dX10_take_8 (t_X8_take v1 v2 M hn3) (fun M4 => ?_)
  refine r_aload_n 11 hC 0 rfl (Or.inl (by decide)) rfl dX10_take_11 ?_
  refine r_get 12 hC fd_8_1 fl_X10_21 dX10_take_12 (fun v5 => ?_)
  refine r_aload_n 15 hC 1 rfl (Or.inl (by decide)) rfl dX10_take_15 ?_
  refine r_get 16 hC fd_8_1 fl_X10_21 dX10_take_16 (fun v6 => ?_)
  refine r_nn (fun hn7 => ?_)
  refine r_callVV 19 hC [(20, v6)] [] rfl vl_X10_36 rfl hn7 (by decide) (Nat.le_of_ble_eq_true rfl) (by decide) (by decide) dX10_take_19 (t_X0_take v5 v6 M4 hn7) (fun M8 => ?_)
  refine r_aload_n 22 hC 0 rfl (Or.inl (by decide)) rfl dX10_take_22 ?_
  refine r_get 23 hC fd_8_2 fl_X10_28 dX10_take_23 (fun v9 => ?_)
  refine r_aload_n 26 hC 1 rfl (Or.inl (by decide)) rfl dX10_take_26 ?_
  refine r_get 27 hC fd_8_2 fl_X10_28 dX10_take_27 (fun v10 => ?_)
  refine r_nn (fun hn11 => ?_)
  refine r_callVV 30 hC [(23, v10)] [] rfl vl_X10_39 rfl hn11 (by decide) (Nat.le_of_ble_eq_true rfl) (by decide) (by decide) dX10_take_30 (t_X4_take v9 v10 M8 hn11) (fun M12 => ?_)
  exact r_return 33 hC hq (by decide) (by decide) dX10_take_33

/-! WaterTurns$World.placeBelow(LWaterTurns$World;III)I -/
theorem dX10_placeBelow_0 : decode cX10_placeBelow 0 = .ok (.aload_n 0, 1) := by decide +kernel
theorem dX10_placeBelow_1 : decode cX10_placeBelow 1 = .ok (.getfield 12, 3) := by decide +kernel
theorem dX10_placeBelow_4 : decode cX10_placeBelow 4 = .ok (.astore 4, 2) := by decide +kernel
theorem dX10_placeBelow_6 : decode cX10_placeBelow 6 = .ok (.iload_n 2, 1) := by decide +kernel
theorem dX10_placeBelow_7 : decode cX10_placeBelow 7 = .ok (.istore 5, 2) := by decide +kernel
theorem dX10_placeBelow_9 : decode cX10_placeBelow 9 = .ok (.iconst 0, 1) := by decide +kernel
theorem dX10_placeBelow_10 : decode cX10_placeBelow 10 = .ok (.istore 6, 2) := by decide +kernel
theorem dX10_placeBelow_12 : decode cX10_placeBelow 12 = .ok (.iload 6, 2) := by decide +kernel
theorem dX10_placeBelow_14 : decode cX10_placeBelow 14 = .ok (.aload 4, 2) := by decide +kernel
theorem dX10_placeBelow_16 : decode cX10_placeBelow 16 = .ok (.getfield 55, 3) := by decide +kernel
theorem dX10_placeBelow_19 : decode cX10_placeBelow 19 = .ok (.if_icmp .ge 45, 3) := by decide +kernel
theorem dX10_placeBelow_22 : decode cX10_placeBelow 22 = .ok (.aload 4, 2) := by decide +kernel
theorem dX10_placeBelow_24 : decode cX10_placeBelow 24 = .ok (.getfield 58, 3) := by decide +kernel
theorem dX10_placeBelow_27 : decode cX10_placeBelow 27 = .ok (.iload 6, 2) := by decide +kernel
theorem dX10_placeBelow_29 : decode cX10_placeBelow 29 = .ok (.aaload, 1) := by decide +kernel
theorem dX10_placeBelow_30 : decode cX10_placeBelow 30 = .ok (.iconst 0, 1) := by decide +kernel
theorem dX10_placeBelow_31 : decode cX10_placeBelow 31 = .ok (.iaload, 1) := by decide +kernel
theorem dX10_placeBelow_32 : decode cX10_placeBelow 32 = .ok (.iload_n 1, 1) := by decide +kernel
theorem dX10_placeBelow_33 : decode cX10_placeBelow 33 = .ok (.if_icmp .ne 25, 3) := by decide +kernel
theorem dX10_placeBelow_36 : decode cX10_placeBelow 36 = .ok (.iload 5, 2) := by decide +kernel
theorem dX10_placeBelow_38 : decode cX10_placeBelow 38 = .ok (.bipush 10, 2) := by decide +kernel
theorem dX10_placeBelow_40 : decode cX10_placeBelow 40 = .ok (.if_icmp .ge 18, 3) := by decide +kernel
theorem dX10_placeBelow_43 : decode cX10_placeBelow 43 = .ok (.aload_n 0, 1) := by decide +kernel
theorem dX10_placeBelow_44 : decode cX10_placeBelow 44 = .ok (.getfield 28, 3) := by decide +kernel
theorem dX10_placeBelow_47 : decode cX10_placeBelow 47 = .ok (.getfield 62, 3) := by decide +kernel
theorem dX10_placeBelow_50 : decode cX10_placeBelow 50 = .ok (.iload 5, 2) := by decide +kernel
theorem dX10_placeBelow_52 : decode cX10_placeBelow 52 = .ok (.iload 6, 2) := by decide +kernel
theorem dX10_placeBelow_54 : decode cX10_placeBelow 54 = .ok (.iastore, 1) := by decide +kernel
theorem dX10_placeBelow_55 : decode cX10_placeBelow 55 = .ok (.iinc 5 1, 3) := by decide +kernel
theorem dX10_placeBelow_58 : decode cX10_placeBelow 58 = .ok (.iinc 6 1, 3) := by decide +kernel
theorem dX10_placeBelow_61 : decode cX10_placeBelow 61 = .ok (.goto (-49), 3) := by decide +kernel
theorem dX10_placeBelow_64 : decode cX10_placeBelow 64 = .ok (.iconst 0, 1) := by decide +kernel
theorem dX10_placeBelow_65 : decode cX10_placeBelow 65 = .ok (.istore 6, 2) := by decide +kernel
theorem dX10_placeBelow_67 : decode cX10_placeBelow 67 = .ok (.iload 6, 2) := by decide +kernel
theorem dX10_placeBelow_69 : decode cX10_placeBelow 69 = .ok (.aload 4, 2) := by decide +kernel
theorem dX10_placeBelow_71 : decode cX10_placeBelow 71 = .ok (.getfield 66, 3) := by decide +kernel
theorem dX10_placeBelow_74 : decode cX10_placeBelow 74 = .ok (.if_icmp .ge 42, 3) := by decide +kernel
theorem dX10_placeBelow_77 : decode cX10_placeBelow 77 = .ok (.iload_n 3, 1) := by decide +kernel
theorem dX10_placeBelow_78 : decode cX10_placeBelow 78 = .ok (.bipush 10, 2) := by decide +kernel
theorem dX10_placeBelow_80 : decode cX10_placeBelow 80 = .ok (.if_icmp .gt 36, 3) := by decide +kernel
theorem dX10_placeBelow_83 : decode cX10_placeBelow 83 = .ok (.aload 4, 2) := by decide +kernel
theorem dX10_placeBelow_85 : decode cX10_placeBelow 85 = .ok (.getfield 69, 3) := by decide +kernel
theorem dX10_placeBelow_88 : decode cX10_placeBelow 88 = .ok (.iload 6, 2) := by decide +kernel
theorem dX10_placeBelow_90 : decode cX10_placeBelow 90 = .ok (.aaload, 1) := by decide +kernel
theorem dX10_placeBelow_91 : decode cX10_placeBelow 91 = .ok (.iconst 0, 1) := by decide +kernel
theorem dX10_placeBelow_92 : decode cX10_placeBelow 92 = .ok (.iaload, 1) := by decide +kernel
theorem dX10_placeBelow_93 : decode cX10_placeBelow 93 = .ok (.iload_n 1, 1) := by decide +kernel
theorem dX10_placeBelow_94 : decode cX10_placeBelow 94 = .ok (.if_icmp .ne 16, 3) := by decide +kernel
theorem dX10_placeBelow_97 : decode cX10_placeBelow 97 = .ok (.aload_n 0, 1) := by decide +kernel
theorem dX10_placeBelow_98 : decode cX10_placeBelow 98 = .ok (.iload 6, 2) := by decide +kernel
theorem dX10_placeBelow_100 : decode cX10_placeBelow 100 = .ok (.iload 5, 2) := by decide +kernel
theorem dX10_placeBelow_102 : decode cX10_placeBelow 102 = .ok (.iload_n 3, 1) := by decide +kernel
theorem dX10_placeBelow_103 : decode cX10_placeBelow 103 = .ok (.iconst 1, 1) := by decide +kernel
theorem dX10_placeBelow_104 : decode cX10_placeBelow 104 = .ok (.iadd, 1) := by decide +kernel
theorem dX10_placeBelow_105 : decode cX10_placeBelow 105 = .ok (.invokestatic 51, 3) := by decide +kernel
theorem dX10_placeBelow_108 : decode cX10_placeBelow 108 = .ok (.istore 5, 2) := by decide +kernel
theorem dX10_placeBelow_110 : decode cX10_placeBelow 110 = .ok (.iinc 6 1, 3) := by decide +kernel
theorem dX10_placeBelow_113 : decode cX10_placeBelow 113 = .ok (.goto (-46), 3) := by decide +kernel
theorem dX10_placeBelow_116 : decode cX10_placeBelow 116 = .ok (.iload 5, 2) := by decide +kernel
theorem dX10_placeBelow_118 : decode cX10_placeBelow 118 = .ok (.ireturn, 1) := by decide +kernel
set_option maxRecDepth 100000 in
theorem f_X10_placeBelow_L12_ok {E : EnvT} {C : Cx} {Mi : Mem} {D : Nat} {rc : Int → Int → Int → Int → Mem → Option (Int × Mem)} (hrc : ∀ (a b c d : Int) (M : Mem), MtI yX10_placeBelow cX10_placeBelow 7 (some .int) D 0 0 [(28, a), (0, b), (0, c), (0, d)] M 0 (rc a b c d M)) (hC : CxOK E C cX10_placeBelow 7 yX10_placeBelow.cls (D + 1) 0 0) {r0 : Int} {M0 : Mem} (hq : RQ E C 0 0 Mi (some .int) (some (0, r0)) M0) {v1 x0 x1 x3 : Int} {k : Int → Mem → Option (Int × Mem)} (hk : ∀ q14 M15, Bk E C 7 Mi (r0, M0) 64 [(0, 28, x0), (1, 0, x1), (3, 0, x3), (4, 27, v1), (5, 0, q14)] [] M15 0 0 (k q14 M15)) : ∀ (n : Nat) (p2 : Int) (p3 : Int) (M4 : Mem), Bk E C 7 Mi (r0, M0) 12 [(0, 28, x0), (1, 0, x1), (3, 0, x3), (4, 27, v1), (5, 0, p2), (6, 0, p3)] [] M4 0 0 (f_X10_placeBelow_L12 rc v1 x0 x1 x3 k n p2 p3 M4) := by
  intro n
  induction n with
  | zero =>
    intro p2 p3 M4
    exact r_none
  | succ n ih =>
    intro p2 p3 M4
    rw [f_X10_placeBelow_L12]
    refine r_iload 12 hC 5 rfl dX10_placeBelow_12 ?_
    refine r_aload 14 hC 3 (Or.inl (by decide)) rfl dX10_placeBelow_14 ?_
    refine r_get 16 hC fd_7_5 fl_X10_55 dX10_placeBelow_16 (fun v5 => ?_)
    refine r_icmp_ge 19 hC (tgt := 64) (by decide) dX10_placeBelow_19 ?_ ?_
    · exact r_sub [0, 1, 2, 3, 4] rfl (hk p2 M4)
    · refine r_aload 22 hC 3 (Or.inl (by decide)) rfl dX10_placeBelow_22 ?_
      refine r_get 24 hC fd_7_9 fl_X10_58 dX10_placeBelow_24 (fun v6 => ?_)
      refine r_iload 27 hC 5 rfl dX10_placeBelow_27 ?_
      refine r_aaloadI 29 hC dX10_placeBelow_29 (fun v7 => ?_)
      refine r_iconst 30 hC (r32c rfl) dX10_placeBelow_30 ?_
      refine r_iaload 31 hC dX10_placeBelow_31 (fun v8 => ?_)
      refine r_iload_n 32 hC 1 rfl rfl dX10_placeBelow_32 ?_
      refine r_jn (P := fun j58 => ∀ (q9 : Int) (M10 : Mem), Bk E C 7 Mi (r0, M0) 58 [(0, 28, x0), (1, 0, x1), (3, 0, x3), (4, 27, v1), (5, 0, q9), (6, 0, p3)] [] M10 0 0 (j58 q9 M10)) ?_ (fun j58 hj58 => ?_)
      · intro q9 M10
        refine r_iinc 58 hC 5 rfl (by decide) dX10_placeBelow_58 (r_eqls (ls' := [(6, 0, w32 (p3 + 1)), (0, 28, x0), (1, 0, x1), (3, 0, x3), (4, 27, v1), (5, 0, q9)]) rfl ?_)
        refine r_goto 61 hC (tgt := 12) (by decide) dX10_placeBelow_61 ?_
        exact r_sub [1, 2, 3, 4, 5, 0] rfl (ih q9 (w32 (p3 + 1)) M10)
      refine r_icmp_ne 33 hC (tgt := 58) (by decide) dX10_placeBelow_33 ?_ ?_
      · exact hj58 p2 M4
      · refine r_iload 36 hC 4 rfl dX10_placeBelow_36 ?_
        refine r_bipush 38 hC kb_10 dX10_placeBelow_38 ?_
        refine r_icmp_ge 40 hC (tgt := 58) (by decide) dX10_placeBelow_40 ?_ ?_
        · exact hj58 p2 M4
        · refine r_aload_n 43 hC 0 rfl (Or.inl (by decide)) rfl dX10_placeBelow_43 ?_
          refine r_get 44 hC fd_8_2 fl_X10_28 dX10_placeBelow_44 (fun v11 => ?_)
          refine r_get 47 hC fd_3_4 fl_X10_62 dX10_placeBelow_47 (fun v12 => ?_)
          refine r_iload 50 hC 4 rfl dX10_placeBelow_50 ?_
          refine r_iload 52 hC 5 rfl dX10_placeBelow_52 ?_
          refine r_iastore 54 hC dX10_placeBelow_54 (fun M13 => ?_)
          refine r_iinc 55 hC 4 rfl (by decide) dX10_placeBelow_55 (r_eqls (ls' := [(5, 0, w32 (p2 + 1)), (0, 28, x0), (1, 0, x1), (3, 0, x3), (4, 27, v1), (6, 0, p3)]) rfl ?_)
          exact r_sub [1, 2, 3, 4, 0, 5] rfl (hj58 (w32 (p2 + 1)) M13)
set_option maxRecDepth 100000 in
theorem f_X10_placeBelow_L67_ok {E : EnvT} {C : Cx} {Mi : Mem} {D : Nat} {rc : Int → Int → Int → Int → Mem → Option (Int × Mem)} (hrc : ∀ (a b c d : Int) (M : Mem), MtI yX10_placeBelow cX10_placeBelow 7 (some .int) D 0 0 [(28, a), (0, b), (0, c), (0, d)] M 0 (rc a b c d M)) (hC : CxOK E C cX10_placeBelow 7 yX10_placeBelow.cls (D + 1) 0 0) {r0 : Int} {M0 : Mem} (hq : RQ E C 0 0 Mi (some .int) (some (0, r0)) M0) {v1 x0 x1 x3 : Int} {k : Int → Mem → Option (Int × Mem)} (hk : ∀ q29 M30, Bk E C 7 Mi (r0, M0) 116 [(5, 0, q29)] [] M30 0 0 (k q29 M30)) : ∀ (n : Nat) (p18 : Int) (p19 : Int) (M20 : Mem), Bk E C 7 Mi (r0, M0) 67 [(0, 28, x0), (1, 0, x1), (3, 0, x3), (4, 27, v1), (5, 0, p18), (6, 0, p19)] [] M20 0 0 (f_X10_placeBelow_L67 rc v1 x0 x1 x3 k n p18 p19 M20) := by
  intro n
  induction n with
  | zero =>
    intro p18 p19 M20
    exact r_none
  | succ n ih =>
    intro p18 p19 M20
    rw [f_X10_placeBelow_L67]
    refine r_iload 67 hC 5 rfl dX10_placeBelow_67 ?_
    refine r_aload 69 hC 3 (Or.inl (by decide)) rfl dX10_placeBelow_69 ?_
    refine r_get 71 hC fd_7_3 fl_X10_66 dX10_placeBelow_71 (fun v21 => ?_)
    refine r_icmp_ge 74 hC (tgt := 116) (by decide) dX10_placeBelow_74 ?_ ?_
    · exact r_sub [4] rfl (hk p18 M20)
    · refine r_iload_n 77 hC 2 rfl rfl dX10_placeBelow_77 ?_
      refine r_bipush 78 hC kb_10 dX10_placeBelow_78 ?_
      refine r_icmp_gt 80 hC (tgt := 116) (by decide) dX10_placeBelow_80 ?_ ?_
      · exact r_sub [4] rfl (hk p18 M20)
      · refine r_aload 83 hC 3 (Or.inl (by decide)) rfl dX10_placeBelow_83 ?_
        refine r_get 85 hC fd_7_8 fl_X10_69 dX10_placeBelow_85 (fun v22 => ?_)
        refine r_iload 88 hC 5 rfl dX10_placeBelow_88 ?_
        refine r_aaloadI 90 hC dX10_placeBelow_90 (fun v23 => ?_)
        refine r_iconst 91 hC (r32c rfl) dX10_placeBelow_91 ?_
        refine r_iaload 92 hC dX10_placeBelow_92 (fun v24 => ?_)
        refine r_iload_n 93 hC 1 rfl rfl dX10_placeBelow_93 ?_
        refine r_jn (P := fun j110 => ∀ (q25 : Int) (M26 : Mem), Bk E C 7 Mi (r0, M0) 110 [(0, 28, x0), (1, 0, x1), (3, 0, x3), (4, 27, v1), (5, 0, q25), (6, 0, p19)] [] M26 0 0 (j110 q25 M26)) ?_ (fun j110 hj110 => ?_)
        · intro q25 M26
          refine r_iinc 110 hC 5 rfl (by decide) dX10_placeBelow_110 (r_eqls (ls' := [(6, 0, w32 (p19 + 1)), (0, 28, x0), (1, 0, x1), (3, 0, x3), (4, 27, v1), (5, 0, q25)]) rfl ?_)
          refine r_goto 113 hC (tgt := 67) (by decide) dX10_placeBelow_113 ?_
          exact r_sub [1, 2, 3, 4, 5, 0] rfl (ih q25 (w32 (p19 + 1)) M26)
        refine r_icmp_ne 94 hC (tgt := 110) (by decide) dX10_placeBelow_94 ?_ ?_
        · exact hj110 p18 M20
        · refine r_aload_n 97 hC 0 rfl (Or.inl (by decide)) rfl dX10_placeBelow_97 ?_
          refine r_iload 98 hC 5 rfl dX10_placeBelow_98 ?_
          refine r_iload 100 hC 4 rfl dX10_placeBelow_100 ?_
          refine r_iload_n 102 hC 2 rfl rfl dX10_placeBelow_102 ?_
          refine r_iconst 103 hC (r32c rfl) dX10_placeBelow_103 ?_
          refine r_iadd 104 hC dX10_placeBelow_104 ?_
          refine r_callSI 105 hC [(28, x0), (0, p19), (0, p18), (0, w32 (x3 + 1))] [] rfl sl_X10_51 rfl (Nat.le_refl _) (Nat.le_of_ble_eq_true rfl) (by decide) (by decide) dX10_placeBelow_105 (hrc x0 p19 p18 (w32 (x3 + 1)) M20) (fun v27 M28 => ?_)
          refine r_istore 108 hC (by decide) dX10_placeBelow_108 (r_eqls (ls' := [(5, 0, v27), (0, 28, x0), (1, 0, x1), (3, 0, x3), (4, 27, v1), (6, 0, p19)]) rfl ?_)
          exact r_sub [1, 2, 3, 4, 0, 5] rfl (hj110 v27 M28)
set_option maxRecDepth 100000 in
theorem t_pbd : ∀ (n : Nat) (x0 x1 x2 x3 : Int) (M : Mem), MtI yX10_placeBelow cX10_placeBelow 7 (some .int) n 0 0 [(28, x0), (0, x1), (0, x2), (0, x3)] M 0 (pbd n x0 x1 x2 x3 M) := by
  intro n
  induction n with
  | zero =>
    intro x0 x1 x2 x3 M l E r M' ho
    cases ho
  | succ n ih =>
    intro x0 x1 x2 x3 M
    have hrc := ih
    refine mk_I (by decide +kernel) (Nat.le_of_ble_eq_true rfl) (fun E C r0 M0 hC hq hin => ?_)
    refine r_eqls (ls' := [(0, 28, x0), (1, 0, x1), (2, 0, x2), (3, 0, x3)]) rfl ?_
    rw [pbd]
    refine r_aload_n 0 hC 0 rfl (Or.inl (by decide)) rfl dX10_placeBelow_0 ?_
    refine r_get 1 hC fd_8_0 fl_X10_12 dX10_placeBelow_1 (fun v1 => ?_)
    refine r_astore 4 hC (Or.inl (by decide)) (by decide) dX10_placeBelow_4 (r_eqls (ls' := [(4, 27, v1), (0, 28, x0), (1, 0, x1), (2, 0, x2), (3, 0, x3)]) rfl ?_)
    refine r_iload_n 6 hC 3 rfl rfl dX10_placeBelow_6 ?_
    refine r_istore 7 hC (by decide) dX10_placeBelow_7 (r_eqls (ls' := [(5, 0, x2), (4, 27, v1), (0, 28, x0), (1, 0, x1), (2, 0, x2), (3, 0, x3)]) rfl ?_)
    refine r_iconst 9 hC (r32c rfl) dX10_placeBelow_9 ?_
    refine r_istore 10 hC (by decide) dX10_placeBelow_10 (r_eqls (ls' := [(6, 0, 0), (5, 0, x2), (4, 27, v1), (0, 28, x0), (1, 0, x1), (2, 0, x2), (3, 0, x3)]) rfl ?_)
    refine r_sub [3, 4, 6, 2, 1, 0] rfl (f_X10_placeBelow_L12_ok hrc hC hq (fun q16 M17 => ?_) KF x2 0 M)
    · refine r_iconst 64 hC (r32c rfl) dX10_placeBelow_64 ?_
      refine r_istore 65 hC (by decide) dX10_placeBelow_65 (r_eqls (ls' := [(6, 0, 0), (0, 28, x0), (1, 0, x1), (3, 0, x3), (4, 27, v1), (5, 0, q16)]) rfl ?_)
      refine r_sub [1, 2, 3, 4, 5, 0] rfl (f_X10_placeBelow_L67_ok hrc hC hq (fun q31 M32 => ?_) KF q16 0 M17)
      · refine r_iload 116 hC 0 rfl dX10_placeBelow_116 ?_
        exact r_ireturn 118 hC hq (by decide) (by decide) dX10_placeBelow_118

theorem t_X10_placeBelow (x0 x1 x2 x3 : Int) (M : Mem) : MtI yX10_placeBelow cX10_placeBelow 7 (some .int) 12 0 0 [(28, x0), (0, x1), (0, x2), (0, x3)] M 0 (f_X10_placeBelow x0 x1 x2 x3 M) := t_pbd 12 x0 x1 x2 x3 M

/-! WaterTurns$World.begin()V -/
theorem dX10_begin_0 : decode cX10_begin 0 = .ok (.aload_n 0, 1) := by decide +kernel
theorem dX10_begin_1 : decode cX10_begin 1 = .ok (.getfield 21, 3) := by decide +kernel
theorem dX10_begin_4 : decode cX10_begin 4 = .ok (.invokevirtual 42, 3) := by decide +kernel
theorem dX10_begin_7 : decode cX10_begin 7 = .ok (.aload_n 0, 1) := by decide +kernel
theorem dX10_begin_8 : decode cX10_begin 8 = .ok (.getfield 28, 3) := by decide +kernel
theorem dX10_begin_11 : decode cX10_begin 11 = .ok (.invokevirtual 45, 3) := by decide +kernel
theorem dX10_begin_14 : decode cX10_begin 14 = .ok (.aload_n 0, 1) := by decide +kernel
theorem dX10_begin_15 : decode cX10_begin 15 = .ok (.getfield 28, 3) := by decide +kernel
theorem dX10_begin_18 : decode cX10_begin 18 = .ok (.aload_n 0, 1) := by decide +kernel
theorem dX10_begin_19 : decode cX10_begin 19 = .ok (.getfield 12, 3) := by decide +kernel
theorem dX10_begin_22 : decode cX10_begin 22 = .ok (.getfield 46, 3) := by decide +kernel
theorem dX10_begin_25 : decode cX10_begin 25 = .ok (.putfield 50, 3) := by decide +kernel
theorem dX10_begin_28 : decode cX10_begin 28 = .ok (.aload_n 0, 1) := by decide +kernel
theorem dX10_begin_29 : decode cX10_begin 29 = .ok (.iconst (-1), 1) := by decide +kernel
theorem dX10_begin_30 : decode cX10_begin 30 = .ok (.iconst 0, 1) := by decide +kernel
theorem dX10_begin_31 : decode cX10_begin 31 = .ok (.iconst 0, 1) := by decide +kernel
theorem dX10_begin_32 : decode cX10_begin 32 = .ok (.invokestatic 51, 3) := by decide +kernel
theorem dX10_begin_35 : decode cX10_begin 35 = .ok (.pop, 1) := by decide +kernel
theorem dX10_begin_36 : decode cX10_begin 36 = .ok (.return_, 1) := by decide +kernel
set_option maxRecDepth 100000 in
theorem t_X10_begin (x0 : Int) (M : Mem) (h0 : x0 ≠ 0) : MtV yX10_begin cX10_begin 1 none 13 0 0 [(28, x0)] M (f_X10_begin x0 M) := by
  refine mk_V (by decide +kernel) (Nat.le_of_ble_eq_true rfl) (fun E C M0 hC hq hin => ?_)
  refine r_eqls (ls' := [(0, 28, x0)]) rfl ?_
  unfold f_X10_begin
  refine r_aload_n 0 hC 0 rfl (Or.inl (by decide)) rfl dX10_begin_0 ?_
  refine r_get 1 hC fd_8_1 fl_X10_21 dX10_begin_1 (fun v1 => ?_)
  refine r_nn (fun hn2 => ?_)
  refine r_callVV 4 hC [] [] rfl vl_X10_42 rfl hn2 (by decide) (Nat.le_of_ble_eq_true rfl) (by decide) (by decide) dX10_begin_4 (t_X0_clear v1 M hn2) (fun M3 => ?_)
  refine r_aload_n 7 hC 0 rfl (Or.inl (by decide)) rfl dX10_begin_7 ?_
  refine r_get 8 hC fd_8_2 fl_X10_28 dX10_begin_8 (fun v4 => ?_)
  refine r_nn (fun hn5 => ?_)
  refine r_callVV 11 hC [] [] rfl vl_X10_45 rfl hn5 (by decide) (Nat.le_of_ble_eq_true rfl) (by decide) (by decide) dX10_begin_11 (t_X4_clear v4 M3 hn5) (fun M6 => ?_)
  refine r_aload_n 14 hC 0 rfl (Or.inl (by decide)) rfl dX10_begin_14 ?_
  refine r_get 15 hC fd_8_2 fl_X10_28 dX10_begin_15 (fun v7 => ?_)
  refine r_aload_n 18 hC 0 rfl (Or.inl (by decide)) rfl dX10_begin_18 ?_
  refine r_get 19 hC fd_8_0 fl_X10_12 dX10_begin_19 (fun v8 => ?_)
  refine r_get 22 hC fd_7_0 fl_X10_46 dX10_begin_22 (fun v9 => ?_)
  refine r_put 25 hC fd_3_0 fl_X10_50 dX10_begin_25 (fun M10 => ?_)
  refine r_aload_n 28 hC 0 rfl (Or.inl (by decide)) rfl dX10_begin_28 ?_
  refine r_iconst 29 hC (r32c rfl) dX10_begin_29 ?_
  refine r_iconst 30 hC (r32c rfl) dX10_begin_30 ?_
  refine r_iconst 31 hC (r32c rfl) dX10_begin_31 ?_
  refine r_callSI 32 hC [(28, x0), (0, (-1)), (0, 0), (0, 0)] [] rfl sl_X10_51 rfl (by decide) (Nat.le_of_ble_eq_true rfl) (by decide) (by decide) dX10_begin_32 (t_X10_placeBelow x0 (-1) 0 0 M10) (fun v11 M12 => ?_)
  refine r_pop 35 hC (by decide) dX10_begin_35 ?_
  exact r_return 36 hC hq (by decide) (by decide) dX10_begin_36

/-! WaterTurns.<init>()V -/
theorem dX11_init_0 : decode cX11_init 0 = .ok (.aload_n 0, 1) := by decide +kernel
theorem dX11_init_1 : decode cX11_init 1 = .ok (.invokespecial 3, 3) := by decide +kernel
theorem dX11_init_4 : decode cX11_init 4 = .ok (.aload_n 0, 1) := by decide +kernel
theorem dX11_init_5 : decode cX11_init 5 = .ok (.new 9, 3) := by decide +kernel
theorem dX11_init_8 : decode cX11_init 8 = .ok (.dup, 1) := by decide +kernel
theorem dX11_init_9 : decode cX11_init 9 = .ok (.invokespecial 11, 3) := by decide +kernel
theorem dX11_init_12 : decode cX11_init 12 = .ok (.putfield 12, 3) := by decide +kernel
theorem dX11_init_15 : decode cX11_init 15 = .ok (.aload_n 0, 1) := by decide +kernel
theorem dX11_init_16 : decode cX11_init 16 = .ok (.new 16, 3) := by decide +kernel
theorem dX11_init_19 : decode cX11_init 19 = .ok (.dup, 1) := by decide +kernel
theorem dX11_init_20 : decode cX11_init 20 = .ok (.invokespecial 18, 3) := by decide +kernel
theorem dX11_init_23 : decode cX11_init 23 = .ok (.putfield 19, 3) := by decide +kernel
theorem dX11_init_26 : decode cX11_init 26 = .ok (.aload_n 0, 1) := by decide +kernel
theorem dX11_init_27 : decode cX11_init 27 = .ok (.new 23, 3) := by decide +kernel
theorem dX11_init_30 : decode cX11_init 30 = .ok (.dup, 1) := by decide +kernel
theorem dX11_init_31 : decode cX11_init 31 = .ok (.invokespecial 25, 3) := by decide +kernel
theorem dX11_init_34 : decode cX11_init 34 = .ok (.putfield 26, 3) := by decide +kernel
theorem dX11_init_37 : decode cX11_init 37 = .ok (.aload_n 0, 1) := by decide +kernel
theorem dX11_init_38 : decode cX11_init 38 = .ok (.new 30, 3) := by decide +kernel
theorem dX11_init_41 : decode cX11_init 41 = .ok (.dup, 1) := by decide +kernel
theorem dX11_init_42 : decode cX11_init 42 = .ok (.invokespecial 32, 3) := by decide +kernel
theorem dX11_init_45 : decode cX11_init 45 = .ok (.putfield 33, 3) := by decide +kernel
theorem dX11_init_48 : decode cX11_init 48 = .ok (.aload_n 0, 1) := by decide +kernel
theorem dX11_init_49 : decode cX11_init 49 = .ok (.new 37, 3) := by decide +kernel
theorem dX11_init_52 : decode cX11_init 52 = .ok (.dup, 1) := by decide +kernel
theorem dX11_init_53 : decode cX11_init 53 = .ok (.invokespecial 39, 3) := by decide +kernel
theorem dX11_init_56 : decode cX11_init 56 = .ok (.putfield 40, 3) := by decide +kernel
theorem dX11_init_59 : decode cX11_init 59 = .ok (.aload_n 0, 1) := by decide +kernel
theorem dX11_init_60 : decode cX11_init 60 = .ok (.new 44, 3) := by decide +kernel
theorem dX11_init_63 : decode cX11_init 63 = .ok (.dup, 1) := by decide +kernel
theorem dX11_init_64 : decode cX11_init 64 = .ok (.invokespecial 46, 3) := by decide +kernel
theorem dX11_init_67 : decode cX11_init 67 = .ok (.putfield 47, 3) := by decide +kernel
theorem dX11_init_70 : decode cX11_init 70 = .ok (.aload_n 0, 1) := by decide +kernel
theorem dX11_init_71 : decode cX11_init 71 = .ok (.iconst 3, 1) := by decide +kernel
theorem dX11_init_72 : decode cX11_init 72 = .ok (.anewarray 23, 3) := by decide +kernel
theorem dX11_init_75 : decode cX11_init 75 = .ok (.putfield 51, 3) := by decide +kernel
theorem dX11_init_78 : decode cX11_init 78 = .ok (.aload_n 0, 1) := by decide +kernel
theorem dX11_init_79 : decode cX11_init 79 = .ok (.iconst 4, 1) := by decide +kernel
theorem dX11_init_80 : decode cX11_init 80 = .ok (.newarray .int, 2) := by decide +kernel
theorem dX11_init_82 : decode cX11_init 82 = .ok (.putfield 55, 3) := by decide +kernel
theorem dX11_init_85 : decode cX11_init 85 = .ok (.aload_n 0, 1) := by decide +kernel
theorem dX11_init_86 : decode cX11_init 86 = .ok (.new 59, 3) := by decide +kernel
theorem dX11_init_89 : decode cX11_init 89 = .ok (.dup, 1) := by decide +kernel
theorem dX11_init_90 : decode cX11_init 90 = .ok (.invokespecial 61, 3) := by decide +kernel
theorem dX11_init_93 : decode cX11_init 93 = .ok (.putfield 62, 3) := by decide +kernel
theorem dX11_init_96 : decode cX11_init 96 = .ok (.aload_n 0, 1) := by decide +kernel
theorem dX11_init_97 : decode cX11_init 97 = .ok (.new 66, 3) := by decide +kernel
theorem dX11_init_100 : decode cX11_init 100 = .ok (.dup, 1) := by decide +kernel
theorem dX11_init_101 : decode cX11_init 101 = .ok (.invokespecial 68, 3) := by decide +kernel
theorem dX11_init_104 : decode cX11_init 104 = .ok (.putfield 69, 3) := by decide +kernel
theorem dX11_init_107 : decode cX11_init 107 = .ok (.aload_n 0, 1) := by decide +kernel
theorem dX11_init_108 : decode cX11_init 108 = .ok (.iconst 0, 1) := by decide +kernel
theorem dX11_init_109 : decode cX11_init 109 = .ok (.putfield 73, 3) := by decide +kernel
theorem dX11_init_112 : decode cX11_init 112 = .ok (.aload_n 0, 1) := by decide +kernel
theorem dX11_init_113 : decode cX11_init 113 = .ok (.iconst 0, 1) := by decide +kernel
theorem dX11_init_114 : decode cX11_init 114 = .ok (.putfield 77, 3) := by decide +kernel
theorem dX11_init_117 : decode cX11_init 117 = .ok (.aload_n 0, 1) := by decide +kernel
theorem dX11_init_118 : decode cX11_init 118 = .ok (.iconst 0, 1) := by decide +kernel
theorem dX11_init_119 : decode cX11_init 119 = .ok (.putfield 81, 3) := by decide +kernel
theorem dX11_init_122 : decode cX11_init 122 = .ok (.aload_n 0, 1) := by decide +kernel
theorem dX11_init_123 : decode cX11_init 123 = .ok (.lconst 0, 1) := by decide +kernel
theorem dX11_init_124 : decode cX11_init 124 = .ok (.putfield 84, 3) := by decide +kernel
theorem dX11_init_127 : decode cX11_init 127 = .ok (.aload_n 0, 1) := by decide +kernel
theorem dX11_init_128 : decode cX11_init 128 = .ok (.lconst 1, 1) := by decide +kernel
theorem dX11_init_129 : decode cX11_init 129 = .ok (.putfield 88, 3) := by decide +kernel
theorem dX11_init_132 : decode cX11_init 132 = .ok (.return_, 1) := by decide +kernel
set_option maxRecDepth 100000 in
theorem t_X11_init (x0 : Int) (M : Mem) (h0 : x0 ≠ 0) : MtV yX11_init cX11_init 1 none 7 117 3139 [(29, x0)] M (f_X11_init x0 M) := by
  refine mk_V (by decide +kernel) (Nat.le_of_ble_eq_true rfl) (fun E C M0 hC hq hin => ?_)
  refine r_eqls (ls' := [(0, 29, x0)]) rfl ?_
  unfold f_X11_init
  refine r_aload_n 0 hC 0 rfl (Or.inl (by decide)) rfl dX11_init_0 ?_
  refine r_objinit 1 hC ob_X11_3 obj_i obj_c (by decide) h0 (by decide) (Nat.le_of_ble_eq_true rfl) dX11_init_1 ?_
  refine r_aload_n 4 hC 0 rfl (Or.inl (by decide)) rfl dX11_init_4 ?_
  refine r_new 5 hC cl_6 rfl (by decide) cq_X11_9 in_X7 ini_X7 (by decide) (by decide) dX11_init_5 (fun v1 M2 => ?_)
  refine r_dup 8 hC (by decide) dX11_init_8 ?_
  refine r_nn (fun hn3 => ?_)
  refine r_ctor 9 hC il_X11_11 (by decide) hn3 (by decide) (Nat.le_of_ble_eq_true rfl) (by decide) (by decide) dX11_init_9 (t_X7_init v1 M2 hn3) (fun M4 => ?_)
  refine r_putF 12 hC hin fd_9_0 fl_X11_12 dX11_init_12 (fun M5 => ?_)
  refine r_aload_n 15 hC 0 rfl (Or.inl (by decide)) rfl dX11_init_15 ?_
  refine r_new 16 hC cl_5 rfl (by decide) cq_X11_16 in_X6 ini_X6 (by decide) (by decide) dX11_init_16 (fun v6 M7 => ?_)
  refine r_dup 19 hC (by decide) dX11_init_19 ?_
  refine r_nn (fun hn8 => ?_)
  refine r_ctor 20 hC il_X11_18 (by decide) hn8 (by decide) (Nat.le_of_ble_eq_true rfl) (by decide) (by decide) dX11_init_20 (t_X6_init v6 M7 hn8) (fun M9 => ?_)
  refine r_putF 23 hC hin fd_9_1 fl_X11_19 dX11_init_23 (fun M10 => ?_)
  refine r_aload_n 26 hC 0 rfl (Or.inl (by decide)) rfl dX11_init_26 ?_
  refine r_new 27 hC cl_8 rfl (by decide) cq_X11_23 in_X10 ini_X10 (by decide) (by decide) dX11_init_27 (fun v11 M12 => ?_)
  refine r_dup 30 hC (by decide) dX11_init_30 ?_
  refine r_nn (fun hn13 => ?_)
  refine r_ctor 31 hC il_X11_25 (by decide) hn13 (by decide) (Nat.le_of_ble_eq_true rfl) (by decide) (by decide) dX11_init_31 (t_X10_init v11 M12 hn13) (fun M14 => ?_)
  refine r_putF 34 hC hin fd_9_2 fl_X11_26 dX11_init_34 (fun M15 => ?_)
  refine r_aload_n 37 hC 0 rfl (Or.inl (by decide)) rfl dX11_init_37 ?_
  refine r_new 38 hC cl_4 rfl (by decide) cq_X11_30 in_X5 ini_X5 (by decide) (by decide) dX11_init_38 (fun v16 M17 => ?_)
  refine r_dup 41 hC (by decide) dX11_init_41 ?_
  refine r_nn (fun hn18 => ?_)
  refine r_ctor 42 hC il_X11_32 (by decide) hn18 (by decide) (Nat.le_of_ble_eq_true rfl) (by decide) (by decide) dX11_init_42 (t_X5_init v16 M17 hn18) (fun M19 => ?_)
  refine r_putF 45 hC hin fd_9_3 fl_X11_33 dX11_init_45 (fun M20 => ?_)
  refine r_aload_n 48 hC 0 rfl (Or.inl (by decide)) rfl dX11_init_48 ?_
  refine r_new 49 hC cl_1 rfl (by decide) cq_X11_37 in_X2 ini_X2 (by decide) (by decide) dX11_init_49 (fun v21 M22 => ?_)
  refine r_dup 52 hC (by decide) dX11_init_52 ?_
  refine r_nn (fun hn23 => ?_)
  refine r_ctor 53 hC il_X11_39 (by decide) hn23 (by decide) (Nat.le_of_ble_eq_true rfl) (by decide) (by decide) dX11_init_53 (t_X2_init v21 M22 hn23) (fun M24 => ?_)
  refine r_putF 56 hC hin fd_9_4 fl_X11_40 dX11_init_56 (fun M25 => ?_)
  refine r_aload_n 59 hC 0 rfl (Or.inl (by decide)) rfl dX11_init_59 ?_
  refine r_new 60 hC cl_3 rfl (by decide) cq_X11_44 in_X4 ini_X4 (by decide) (by decide) dX11_init_60 (fun v26 M27 => ?_)
  refine r_dup 63 hC (by decide) dX11_init_63 ?_
  refine r_nn (fun hn28 => ?_)
  refine r_ctor 64 hC il_X11_46 (by decide) hn28 (by decide) (Nat.le_of_ble_eq_true rfl) (by decide) (by decide) dX11_init_64 (t_X4_init v26 M27 hn28) (fun M29 => ?_)
  refine r_putF 67 hC hin fd_9_5 fl_X11_47 dX11_init_67 (fun M30 => ?_)
  refine r_aload_n 70 hC 0 rfl (Or.inl (by decide)) rfl dX11_init_70 ?_
  refine r_iconst 71 hC (r32c rfl) dX11_init_71 ?_
  refine r_neww 72 hC (N := 3) rfl (by decide) cq_X11_23 (by decide) (by decide) dX11_init_72 (fun v31 M32 => ?_)
  refine r_putF 75 hC hin fd_9_6 fl_X11_51 dX11_init_75 (fun M33 => ?_)
  refine r_aload_n 78 hC 0 rfl (Or.inl (by decide)) rfl dX11_init_78 ?_
  refine r_iconst 79 hC (r32c rfl) dX11_init_79 ?_
  refine r_newa 80 hC (N := 4) rfl (by decide) (by decide) (by decide) rfl (fun _ _ => Iff.rfl) nad_10 (fun _ => nao_10) (by decide) nac_10 (by decide) (by decide) dX11_init_80 (fun v34 M35 => ?_)
  refine r_putF 82 hC hin fd_9_7 fl_X11_55 dX11_init_82 (fun M36 => ?_)
  refine r_aload_n 85 hC 0 rfl (Or.inl (by decide)) rfl dX11_init_85 ?_
  refine r_new 86 hC cl_7 rfl (by decide) cq_X11_59 in_X8 ini_X8 (by decide) (by decide) dX11_init_86 (fun v37 M38 => ?_)
  refine r_dup 89 hC (by decide) dX11_init_89 ?_
  refine r_nn (fun hn39 => ?_)
  refine r_ctor 90 hC il_X11_61 (by decide) hn39 (by decide) (Nat.le_of_ble_eq_true rfl) (by decide) (by decide) dX11_init_90 (t_X8_init v37 M38 hn39) (fun M40 => ?_)
  refine r_put 93 hC fd_9_8 fl_X11_62 dX11_init_93 (fun M41 => ?_)
  refine r_aload_n 96 hC 0 rfl (Or.inl (by decide)) rfl dX11_init_96 ?_
  refine r_new 97 hC cl_0 rfl (by decide) cq_X11_66 in_X0 ini_X0 (by decide) (by decide) dX11_init_97 (fun v42 M43 => ?_)
  refine r_dup 100 hC (by decide) dX11_init_100 ?_
  refine r_nn (fun hn44 => ?_)
  refine r_ctor 101 hC il_X11_68 (by decide) hn44 (by decide) (Nat.le_of_ble_eq_true rfl) (by decide) (by decide) dX11_init_101 (t_X0_init v42 M43 hn44) (fun M45 => ?_)
  refine r_put 104 hC fd_9_9 fl_X11_69 dX11_init_104 (fun M46 => ?_)
  refine r_aload_n 107 hC 0 rfl (Or.inl (by decide)) rfl dX11_init_107 ?_
  refine r_iconst 108 hC (r32c rfl) dX11_init_108 ?_
  refine r_putz 109 hC fd_9_10 fl_X11_73 dX11_init_109 (fun M47 => ?_)
  refine r_aload_n 112 hC 0 rfl (Or.inl (by decide)) rfl dX11_init_112 ?_
  refine r_iconst 113 hC (r32c rfl) dX11_init_113 ?_
  refine r_put 114 hC fd_9_11 fl_X11_77 dX11_init_114 (fun M48 => ?_)
  refine r_aload_n 117 hC 0 rfl (Or.inl (by decide)) rfl dX11_init_117 ?_
  refine r_iconst 118 hC (r32c rfl) dX11_init_118 ?_
  refine r_put 119 hC fd_9_12 fl_X11_81 dX11_init_119 (fun M49 => ?_)
  refine r_aload_n 122 hC 0 rfl (Or.inl (by decide)) rfl dX11_init_122 ?_
  refine r_lconst 123 hC (x := 0) ⟨by decide +kernel, r64c rfl⟩ dX11_init_123 ?_
  refine r_put 124 hC fd_9_13 fl_X11_84 dX11_init_124 (fun M50 => ?_)
  refine r_aload_n 127 hC 0 rfl (Or.inl (by decide)) rfl dX11_init_127 ?_
  refine r_lconst 128 hC (x := 1) ⟨by decide +kernel, r64c rfl⟩ dX11_init_128 ?_
  refine r_put 129 hC fd_9_14 fl_X11_88 dX11_init_129 (fun M51 => ?_)
  exact r_return 132 hC hq (by decide) (by decide) dX11_init_132

/-! WaterTurns.answer(I)I -/
theorem dX11_answer_0 : decode cX11_answer 0 = .ok (.aload_n 0, 1) := by decide +kernel
theorem dX11_answer_1 : decode cX11_answer 1 = .ok (.iconst 0, 1) := by decide +kernel
theorem dX11_answer_2 : decode cX11_answer 2 = .ok (.putfield 81, 3) := by decide +kernel
theorem dX11_answer_5 : decode cX11_answer 5 = .ok (.iload_n 1, 1) := by decide +kernel
theorem dX11_answer_6 : decode cX11_answer 6 = .ok (.ireturn, 1) := by decide +kernel
set_option maxRecDepth 100000 in
theorem t_X11_answer (x0 x1 : Int) (M : Mem) (h0 : x0 ≠ 0) : MtI yX11_answer cX11_answer 2 (some .int) 1 0 0 [(29, x0), (0, x1)] M 0 (f_X11_answer x0 x1 M) := by
  refine mk_I (by decide +kernel) (Nat.le_of_ble_eq_true rfl) (fun E C r0 M0 hC hq hin => ?_)
  refine r_eqls (ls' := [(0, 29, x0), (1, 0, x1)]) rfl ?_
  unfold f_X11_answer
  refine r_aload_n 0 hC 0 rfl (Or.inl (by decide)) rfl dX11_answer_0 ?_
  refine r_iconst 1 hC (r32c rfl) dX11_answer_1 ?_
  refine r_put 2 hC fd_9_12 fl_X11_81 dX11_answer_2 (fun M1 => ?_)
  refine r_iload_n 5 hC 1 rfl rfl dX11_answer_5 ?_
  exact r_ireturn 6 hC hq (by decide) (by decide) dX11_answer_6

/-! WaterTurns.refuse(I)I -/
theorem dX11_refuse_0 : decode cX11_refuse 0 = .ok (.aload_n 0, 1) := by decide +kernel
theorem dX11_refuse_1 : decode cX11_refuse 1 = .ok (.iload_n 1, 1) := by decide +kernel
theorem dX11_refuse_2 : decode cX11_refuse 2 = .ok (.putfield 81, 3) := by decide +kernel
theorem dX11_refuse_5 : decode cX11_refuse 5 = .ok (.iconst (-1), 1) := by decide +kernel
theorem dX11_refuse_6 : decode cX11_refuse 6 = .ok (.ireturn, 1) := by decide +kernel
set_option maxRecDepth 100000 in
theorem t_X11_refuse (x0 x1 : Int) (M : Mem) (h0 : x0 ≠ 0) : MtI yX11_refuse cX11_refuse 2 (some .int) 1 0 0 [(29, x0), (0, x1)] M 0 (f_X11_refuse x0 x1 M) := by
  refine mk_I (by decide +kernel) (Nat.le_of_ble_eq_true rfl) (fun E C r0 M0 hC hq hin => ?_)
  refine r_eqls (ls' := [(0, 29, x0), (1, 0, x1)]) rfl ?_
  unfold f_X11_refuse
  refine r_aload_n 0 hC 0 rfl (Or.inl (by decide)) rfl dX11_refuse_0 ?_
  refine r_iload_n 1 hC 1 rfl rfl dX11_refuse_1 ?_
  refine r_put 2 hC fd_9_12 fl_X11_81 dX11_refuse_2 (fun M1 => ?_)
  refine r_iconst 5 hC (r32c rfl) dX11_refuse_5 ?_
  exact r_ireturn 6 hC hq (by decide) (by decide) dX11_refuse_6

/-! WaterTurns.settle(I)Z -/
theorem dX11_settle_0 : decode cX11_settle 0 = .ok (.aload_n 0, 1) := by decide +kernel
theorem dX11_settle_1 : decode cX11_settle 1 = .ok (.iload_n 1, 1) := by decide +kernel
theorem dX11_settle_2 : decode cX11_settle 2 = .ok (.putfield 81, 3) := by decide +kernel
theorem dX11_settle_5 : decode cX11_settle 5 = .ok (.iload_n 1, 1) := by decide +kernel
theorem dX11_settle_6 : decode cX11_settle 6 = .ok (.ifCond .ne 7, 3) := by decide +kernel
theorem dX11_settle_9 : decode cX11_settle 9 = .ok (.iconst 1, 1) := by decide +kernel
theorem dX11_settle_10 : decode cX11_settle 10 = .ok (.goto 4, 3) := by decide +kernel
theorem dX11_settle_13 : decode cX11_settle 13 = .ok (.iconst 0, 1) := by decide +kernel
theorem dX11_settle_14 : decode cX11_settle 14 = .ok (.ireturn, 1) := by decide +kernel
set_option maxRecDepth 100000 in
theorem t_X11_settle (x0 x1 : Int) (M : Mem) (h0 : x0 ≠ 0) : MtI yX11_settle cX11_settle 2 (some .boolean) 1 0 0 [(29, x0), (0, x1)] M 0 (f_X11_settle x0 x1 M) := by
  refine mk_I (by decide +kernel) (Nat.le_of_ble_eq_true rfl) (fun E C r0 M0 hC hq hin => ?_)
  refine r_eqls (ls' := [(0, 29, x0), (1, 0, x1)]) rfl ?_
  unfold f_X11_settle
  refine r_aload_n 0 hC 0 rfl (Or.inl (by decide)) rfl dX11_settle_0 ?_
  refine r_iload_n 1 hC 1 rfl rfl dX11_settle_1 ?_
  refine r_put 2 hC fd_9_12 fl_X11_81 dX11_settle_2 (fun M1 => ?_)
  refine r_iload_n 5 hC 1 rfl rfl dX11_settle_5 ?_
  refine r_jn (P := fun j14 => ∀ (q2 : Int), Bk E C 2 M (r0, M0) 14 [] [(0, q2)] M1 0 0 (j14 q2)) ?_ (fun j14 hj14 => ?_)
  · intro q2
    exact r_zreturn 14 hC hq (by decide) (by decide) dX11_settle_14
  refine r_if_ne 6 hC (tgt := 13) (by decide) dX11_settle_6 ?_ ?_
  · refine r_iconst 13 hC (r32c rfl) dX11_settle_13 ?_
    exact r_sub [] rfl (hj14 0)
  · refine r_iconst 9 hC (r32c rfl) dX11_settle_9 ?_
    refine r_goto 10 hC (tgt := 14) (by decide) dX11_settle_10 ?_
    exact r_sub [] rfl (hj14 1)

/-! WaterTurns.answerOrNone(I)I -/
theorem dX11_answerOrNone_0 : decode cX11_answerOrNone 0 = .ok (.iload_n 1, 1) := by decide +kernel
theorem dX11_answerOrNone_1 : decode cX11_answerOrNone 1 = .ok (.iconst (-1), 1) := by decide +kernel
theorem dX11_answerOrNone_2 : decode cX11_answerOrNone 2 = .ok (.if_icmp .ne 12, 3) := by decide +kernel
theorem dX11_answerOrNone_5 : decode cX11_answerOrNone 5 = .ok (.aload_n 0, 1) := by decide +kernel
theorem dX11_answerOrNone_6 : decode cX11_answerOrNone 6 = .ok (.bipush 6, 2) := by decide +kernel
theorem dX11_answerOrNone_8 : decode cX11_answerOrNone 8 = .ok (.invokevirtual 91, 3) := by decide +kernel
theorem dX11_answerOrNone_11 : decode cX11_answerOrNone 11 = .ok (.goto 8, 3) := by decide +kernel
theorem dX11_answerOrNone_14 : decode cX11_answerOrNone 14 = .ok (.aload_n 0, 1) := by decide +kernel
theorem dX11_answerOrNone_15 : decode cX11_answerOrNone 15 = .ok (.iload_n 1, 1) := by decide +kernel
theorem dX11_answerOrNone_16 : decode cX11_answerOrNone 16 = .ok (.invokevirtual 95, 3) := by decide +kernel
theorem dX11_answerOrNone_19 : decode cX11_answerOrNone 19 = .ok (.ireturn, 1) := by decide +kernel
set_option maxRecDepth 100000 in
theorem t_X11_answerOrNone (x0 x1 : Int) (M : Mem) (h0 : x0 ≠ 0) : MtI yX11_answerOrNone cX11_answerOrNone 2 (some .int) 2 0 0 [(29, x0), (0, x1)] M 0 (f_X11_answerOrNone x0 x1 M) := by
  refine mk_I (by decide +kernel) (Nat.le_of_ble_eq_true rfl) (fun E C r0 M0 hC hq hin => ?_)
  refine r_eqls (ls' := [(0, 29, x0), (1, 0, x1)]) rfl ?_
  unfold f_X11_answerOrNone
  refine r_iload_n 0 hC 1 rfl rfl dX11_answerOrNone_0 ?_
  refine r_iconst 1 hC (r32c rfl) dX11_answerOrNone_1 ?_
  refine r_jn (P := fun j19 => ∀ (q1 : Int) (M2 : Mem), Bk E C 2 M (r0, M0) 19 [] [(0, q1)] M2 0 0 (j19 q1 M2)) ?_ (fun j19 hj19 => ?_)
  · intro q1 M2
    exact r_ireturn 19 hC hq (by decide) (by decide) dX11_answerOrNone_19
  refine r_icmp_ne 2 hC (tgt := 14) (by decide) dX11_answerOrNone_2 ?_ ?_
  · refine r_aload_n 14 hC 0 rfl (Or.inl (by decide)) rfl dX11_answerOrNone_14 ?_
    refine r_iload_n 15 hC 1 rfl rfl dX11_answerOrNone_15 ?_
    refine r_callVI 16 hC [(0, x1)] [] rfl vl_X11_95 rfl h0 (by decide) (Nat.le_of_ble_eq_true rfl) (by decide) (by decide) dX11_answerOrNone_16 (t_X11_answer x0 x1 M h0) (fun v3 M4 => ?_)
    exact r_sub [] rfl (hj19 v3 M4)
  · refine r_aload_n 5 hC 0 rfl (Or.inl (by decide)) rfl dX11_answerOrNone_5 ?_
    refine r_bipush 6 hC kb_6 dX11_answerOrNone_6 ?_
    refine r_callVI 8 hC [(0, 6)] [] rfl vl_X11_91 rfl h0 (by decide) (Nat.le_of_ble_eq_true rfl) (by decide) (by decide) dX11_answerOrNone_8 (t_X11_refuse x0 6 M h0) (fun v5 M6 => ?_)
    refine r_goto 11 hC (tgt := 19) (by decide) dX11_answerOrNone_11 ?_
    exact r_sub [] rfl (hj19 v5 M6)

/-! WaterTurns.commonDivisor(JJ)J -/
theorem dX11_commonDivisor_0 : decode cX11_commonDivisor 0 = .ok (.lload_n 0, 1) := by decide +kernel
theorem dX11_commonDivisor_1 : decode cX11_commonDivisor 1 = .ok (.lstore 4, 2) := by decide +kernel
theorem dX11_commonDivisor_3 : decode cX11_commonDivisor 3 = .ok (.lload_n 2, 1) := by decide +kernel
theorem dX11_commonDivisor_4 : decode cX11_commonDivisor 4 = .ok (.lstore 6, 2) := by decide +kernel
theorem dX11_commonDivisor_6 : decode cX11_commonDivisor 6 = .ok (.iconst 0, 1) := by decide +kernel
theorem dX11_commonDivisor_7 : decode cX11_commonDivisor 7 = .ok (.istore 8, 2) := by decide +kernel
theorem dX11_commonDivisor_9 : decode cX11_commonDivisor 9 = .ok (.iload 8, 2) := by decide +kernel
theorem dX11_commonDivisor_11 : decode cX11_commonDivisor 11 = .ok (.sipush 200, 3) := by decide +kernel
theorem dX11_commonDivisor_14 : decode cX11_commonDivisor 14 = .ok (.if_icmp .ge 31, 3) := by decide +kernel
theorem dX11_commonDivisor_17 : decode cX11_commonDivisor 17 = .ok (.lload 6, 2) := by decide +kernel
theorem dX11_commonDivisor_19 : decode cX11_commonDivisor 19 = .ok (.lconst 0, 1) := by decide +kernel
theorem dX11_commonDivisor_20 : decode cX11_commonDivisor 20 = .ok (.lcmp, 1) := by decide +kernel
theorem dX11_commonDivisor_21 : decode cX11_commonDivisor 21 = .ok (.ifCond .eq 24, 3) := by decide +kernel
theorem dX11_commonDivisor_24 : decode cX11_commonDivisor 24 = .ok (.lload 4, 2) := by decide +kernel
theorem dX11_commonDivisor_26 : decode cX11_commonDivisor 26 = .ok (.lload 6, 2) := by decide +kernel
theorem dX11_commonDivisor_28 : decode cX11_commonDivisor 28 = .ok (.lrem, 1) := by decide +kernel
theorem dX11_commonDivisor_29 : decode cX11_commonDivisor 29 = .ok (.lstore 9, 2) := by decide +kernel
theorem dX11_commonDivisor_31 : decode cX11_commonDivisor 31 = .ok (.lload 6, 2) := by decide +kernel
theorem dX11_commonDivisor_33 : decode cX11_commonDivisor 33 = .ok (.lstore 4, 2) := by decide +kernel
theorem dX11_commonDivisor_35 : decode cX11_commonDivisor 35 = .ok (.lload 9, 2) := by decide +kernel
theorem dX11_commonDivisor_37 : decode cX11_commonDivisor 37 = .ok (.lstore 6, 2) := by decide +kernel
theorem dX11_commonDivisor_39 : decode cX11_commonDivisor 39 = .ok (.iinc 8 1, 3) := by decide +kernel
theorem dX11_commonDivisor_42 : decode cX11_commonDivisor 42 = .ok (.goto (-33), 3) := by decide +kernel
theorem dX11_commonDivisor_45 : decode cX11_commonDivisor 45 = .ok (.lconst 1, 1) := by decide +kernel
theorem dX11_commonDivisor_46 : decode cX11_commonDivisor 46 = .ok (.lload 4, 2) := by decide +kernel
theorem dX11_commonDivisor_48 : decode cX11_commonDivisor 48 = .ok (.invokestatic 106, 3) := by decide +kernel
theorem dX11_commonDivisor_51 : decode cX11_commonDivisor 51 = .ok (.lreturn, 1) := by decide +kernel
set_option maxRecDepth 100000 in
theorem f_X11_commonDivisor_L9_ok {E : EnvT} {C : Cx} {Mi M : Mem} (hC : CxOK E C cX11_commonDivisor 11 yX11_commonDivisor.cls 2 0 0) {r0 : Int} (hq : RQ E C 0 0 Mi (some .long) (some (1, r0)) M) {k : Int → Option (Int)} (hk : ∀ q5, Bk E C 11 Mi r0 45 [(4, 1, q5)] [] M 0 0 (k q5)) : ∀ (n : Nat) (p1 : Int) (p2 : Int) (p3 : Int), Bk E C 11 Mi r0 9 [(4, 1, p1), (6, 1, p2), (8, 0, p3)] [] M 0 0 (f_X11_commonDivisor_L9 M k n p1 p2 p3) := by
  intro n
  induction n with
  | zero =>
    intro p1 p2 p3
    exact r_none
  | succ n ih =>
    intro p1 p2 p3
    rw [f_X11_commonDivisor_L9]
    refine r_iload 9 hC 2 rfl dX11_commonDivisor_9 ?_
    refine r_sipush 11 hC ks_200 dX11_commonDivisor_11 ?_
    refine r_icmp_ge 14 hC (tgt := 45) (by decide) dX11_commonDivisor_14 ?_ ?_
    · exact r_sub [0] rfl (hk p1)
    · refine r_lload 17 hC 1 rfl dX11_commonDivisor_17 ?_
      refine r_lconst 19 hC (x := 0) ⟨by decide +kernel, r64c rfl⟩ dX11_commonDivisor_19 ?_
      refine r_lcmp_eq 20 hC (tgt := 45) (by decide) dX11_commonDivisor_20 dX11_commonDivisor_21 ?_ ?_
      · exact r_sub [0] rfl (hk p1)
      · refine r_lload 24 hC 0 rfl dX11_commonDivisor_24 ?_
        refine r_lload 26 hC 1 rfl dX11_commonDivisor_26 ?_
        refine r_lrem 28 hC dX11_commonDivisor_28 (fun v4 => ?_)
        refine r_lstore 29 hC (by decide) dX11_commonDivisor_29 (r_eqls (ls' := [(9, 1, v4), (4, 1, p1), (6, 1, p2), (8, 0, p3)]) rfl ?_)
        refine r_lload 31 hC 2 rfl dX11_commonDivisor_31 ?_
        refine r_lstore 33 hC (by decide) dX11_commonDivisor_33 (r_eqls (ls' := [(4, 1, p2), (9, 1, v4), (6, 1, p2), (8, 0, p3)]) rfl ?_)
        refine r_lload 35 hC 1 rfl dX11_commonDivisor_35 ?_
        refine r_lstore 37 hC (by decide) dX11_commonDivisor_37 (r_eqls (ls' := [(6, 1, v4), (4, 1, p2), (9, 1, v4), (8, 0, p3)]) rfl ?_)
        refine r_iinc 39 hC 3 rfl (by decide) dX11_commonDivisor_39 (r_eqls (ls' := [(8, 0, w32 (p3 + 1)), (6, 1, v4), (4, 1, p2), (9, 1, v4)]) rfl ?_)
        refine r_goto 42 hC (tgt := 9) (by decide) dX11_commonDivisor_42 ?_
        exact r_sub [2, 1, 0] rfl (ih p2 v4 (w32 (p3 + 1)))
set_option maxRecDepth 100000 in
theorem t_X11_commonDivisor (x0 x2 : Int) (M : Mem) : MtP yX11_commonDivisor cX11_commonDivisor 11 (some .long) 2 0 0 [(1, x0), (1, x2)] M 1 (f_X11_commonDivisor x0 x2 M) := by
  refine mk_P (by decide +kernel) (Nat.le_of_ble_eq_true rfl) (fun E C r0 hC hq hin => ?_)
  refine r_eqls (ls' := [(0, 1, x0), (2, 1, x2)]) rfl ?_
  unfold f_X11_commonDivisor
  refine r_lload_n 0 hC 0 rfl rfl dX11_commonDivisor_0 ?_
  refine r_lstore 1 hC (by decide) dX11_commonDivisor_1 (r_eqls (ls' := [(4, 1, x0), (0, 1, x0), (2, 1, x2)]) rfl ?_)
  refine r_lload_n 3 hC 2 rfl rfl dX11_commonDivisor_3 ?_
  refine r_lstore 4 hC (by decide) dX11_commonDivisor_4 (r_eqls (ls' := [(6, 1, x2), (4, 1, x0), (0, 1, x0), (2, 1, x2)]) rfl ?_)
  refine r_iconst 6 hC (r32c rfl) dX11_commonDivisor_6 ?_
  refine r_istore 7 hC (by decide) dX11_commonDivisor_7 (r_eqls (ls' := [(8, 0, 0), (6, 1, x2), (4, 1, x0), (0, 1, x0), (2, 1, x2)]) rfl ?_)
  refine r_sub [2, 1, 0] rfl (f_X11_commonDivisor_L9_ok hC hq (fun q6 => ?_) KF x0 x2 0)
  · refine r_lconst 45 hC (x := 1) ⟨by decide +kernel, r64c rfl⟩ dX11_commonDivisor_45 ?_
    refine r_lload 46 hC 0 rfl dX11_commonDivisor_46 ?_
    refine r_callSP 48 hC [(1, 1), (1, q6)] [] rfl sl_X11_106 rfl (by decide) (Nat.le_of_ble_eq_true rfl) (by decide) (by decide) dX11_commonDivisor_48 (t_J9_max_f86c9 1 q6 M) (fun v7 => ?_)
    exact r_lreturnP 51 hC hq (by decide) (by decide) dX11_commonDivisor_51

/-! WaterTurns.tellFraction(JJ)Z -/
theorem dX11_tellFraction_0 : decode cX11_tellFraction 0 = .ok (.lload_n 1, 1) := by decide +kernel
theorem dX11_tellFraction_1 : decode cX11_tellFraction 1 = .ok (.lload_n 3, 1) := by decide +kernel
theorem dX11_tellFraction_2 : decode cX11_tellFraction 2 = .ok (.invokestatic 98, 3) := by decide +kernel
theorem dX11_tellFraction_5 : decode cX11_tellFraction 5 = .ok (.lstore 5, 2) := by decide +kernel
theorem dX11_tellFraction_7 : decode cX11_tellFraction 7 = .ok (.aload_n 0, 1) := by decide +kernel
theorem dX11_tellFraction_8 : decode cX11_tellFraction 8 = .ok (.lload_n 1, 1) := by decide +kernel
theorem dX11_tellFraction_9 : decode cX11_tellFraction 9 = .ok (.lload 5, 2) := by decide +kernel
theorem dX11_tellFraction_11 : decode cX11_tellFraction 11 = .ok (.ldiv, 1) := by decide +kernel
theorem dX11_tellFraction_12 : decode cX11_tellFraction 12 = .ok (.putfield 84, 3) := by decide +kernel
theorem dX11_tellFraction_15 : decode cX11_tellFraction 15 = .ok (.aload_n 0, 1) := by decide +kernel
theorem dX11_tellFraction_16 : decode cX11_tellFraction 16 = .ok (.lload_n 3, 1) := by decide +kernel
theorem dX11_tellFraction_17 : decode cX11_tellFraction 17 = .ok (.lload 5, 2) := by decide +kernel
theorem dX11_tellFraction_19 : decode cX11_tellFraction 19 = .ok (.ldiv, 1) := by decide +kernel
theorem dX11_tellFraction_20 : decode cX11_tellFraction 20 = .ok (.putfield 88, 3) := by decide +kernel
theorem dX11_tellFraction_23 : decode cX11_tellFraction 23 = .ok (.aload_n 0, 1) := by decide +kernel
theorem dX11_tellFraction_24 : decode cX11_tellFraction 24 = .ok (.iconst 0, 1) := by decide +kernel
theorem dX11_tellFraction_25 : decode cX11_tellFraction 25 = .ok (.invokevirtual 102, 3) := by decide +kernel
theorem dX11_tellFraction_28 : decode cX11_tellFraction 28 = .ok (.ireturn, 1) := by decide +kernel
set_option maxRecDepth 100000 in
theorem t_X11_tellFraction (x0 x1 x3 : Int) (M : Mem) (h0 : x0 ≠ 0) : MtI yX11_tellFraction cX11_tellFraction 7 (some .boolean) 3 0 0 [(29, x0), (1, x1), (1, x3)] M 0 (f_X11_tellFraction x0 x1 x3 M) := by
  refine mk_I (by decide +kernel) (Nat.le_of_ble_eq_true rfl) (fun E C r0 M0 hC hq hin => ?_)
  refine r_eqls (ls' := [(0, 29, x0), (1, 1, x1), (3, 1, x3)]) rfl ?_
  unfold f_X11_tellFraction
  refine r_lload_n 0 hC 1 rfl rfl dX11_tellFraction_0 ?_
  refine r_lload_n 1 hC 2 rfl rfl dX11_tellFraction_1 ?_
  refine r_callSP 2 hC [(1, x1), (1, x3)] [] rfl sl_X11_98 rfl (by decide) (Nat.le_of_ble_eq_true rfl) (by decide) (by decide) dX11_tellFraction_2 (t_X11_commonDivisor x1 x3 M) (fun v1 => ?_)
  refine r_lstore 5 hC (by decide) dX11_tellFraction_5 (r_eqls (ls' := [(5, 1, v1), (0, 29, x0), (1, 1, x1), (3, 1, x3)]) rfl ?_)
  refine r_aload_n 7 hC 1 rfl (Or.inl (by decide)) rfl dX11_tellFraction_7 ?_
  refine r_lload_n 8 hC 2 rfl rfl dX11_tellFraction_8 ?_
  refine r_lload 9 hC 0 rfl dX11_tellFraction_9 ?_
  refine r_ldiv 11 hC dX11_tellFraction_11 (fun v2 => ?_)
  refine r_put 12 hC fd_9_13 fl_X11_84 dX11_tellFraction_12 (fun M3 => ?_)
  refine r_aload_n 15 hC 1 rfl (Or.inl (by decide)) rfl dX11_tellFraction_15 ?_
  refine r_lload_n 16 hC 3 rfl rfl dX11_tellFraction_16 ?_
  refine r_lload 17 hC 0 rfl dX11_tellFraction_17 ?_
  refine r_ldiv 19 hC dX11_tellFraction_19 (fun v4 => ?_)
  refine r_put 20 hC fd_9_14 fl_X11_88 dX11_tellFraction_20 (fun M5 => ?_)
  refine r_aload_n 23 hC 1 rfl (Or.inl (by decide)) rfl dX11_tellFraction_23 ?_
  refine r_iconst 24 hC (r32c rfl) dX11_tellFraction_24 ?_
  refine r_callVI 25 hC [(0, 0)] [] rfl vl_X11_102 rfl h0 (by decide) (Nat.le_of_ble_eq_true rfl) (by decide) (by decide) dX11_tellFraction_25 (t_X11_settle x0 0 M5 h0) (fun v6 M7 => ?_)
  exact r_zreturn 28 hC hq (by decide) (by decide) dX11_tellFraction_28

/-! WaterTurns.isReach(I)Z -/
theorem dX11_isReach_0 : decode cX11_isReach 0 = .ok (.iload_n 1, 1) := by decide +kernel
theorem dX11_isReach_1 : decode cX11_isReach 1 = .ok (.ifCond .lt 21, 3) := by decide +kernel
theorem dX11_isReach_4 : decode cX11_isReach 4 = .ok (.iload_n 1, 1) := by decide +kernel
theorem dX11_isReach_5 : decode cX11_isReach 5 = .ok (.aload_n 0, 1) := by decide +kernel
theorem dX11_isReach_6 : decode cX11_isReach 6 = .ok (.getfield 26, 3) := by decide +kernel
theorem dX11_isReach_9 : decode cX11_isReach 9 = .ok (.getfield 111, 3) := by decide +kernel
theorem dX11_isReach_12 : decode cX11_isReach 12 = .ok (.getfield 114, 3) := by decide +kernel
theorem dX11_isReach_15 : decode cX11_isReach 15 = .ok (.if_icmp .ge 7, 3) := by decide +kernel
theorem dX11_isReach_18 : decode cX11_isReach 18 = .ok (.iconst 1, 1) := by decide +kernel
theorem dX11_isReach_19 : decode cX11_isReach 19 = .ok (.goto 4, 3) := by decide +kernel
theorem dX11_isReach_22 : decode cX11_isReach 22 = .ok (.iconst 0, 1) := by decide +kernel
theorem dX11_isReach_23 : decode cX11_isReach 23 = .ok (.ireturn, 1) := by decide +kernel
set_option maxRecDepth 100000 in
theorem t_X11_isReach (x0 x1 : Int) (M : Mem) (h0 : x0 ≠ 0) : MtP yX11_isReach cX11_isReach 2 (some .boolean) 1 0 0 [(29, x0), (0, x1)] M 0 (f_X11_isReach x0 x1 M) := by
  refine mk_P (by decide +kernel) (Nat.le_of_ble_eq_true rfl) (fun E C r0 hC hq hin => ?_)
  refine r_eqls (ls' := [(0, 29, x0), (1, 0, x1)]) rfl ?_
  unfold f_X11_isReach
  refine r_iload_n 0 hC 1 rfl rfl dX11_isReach_0 ?_
  refine r_jn (P := fun j23 => ∀ (q1 : Int), Bk E C 2 M r0 23 [] [(0, q1)] M 0 0 (j23 q1)) ?_ (fun j23 hj23 => ?_)
  · intro q1
    exact r_zreturnP 23 hC hq (by decide) (by decide) dX11_isReach_23
  refine r_jn (P := fun j22 => Bk E C 2 M r0 22 [] [] M 0 0 (j22)) ?_ (fun j22 hj22 => ?_)
  · refine r_iconst 22 hC (r32c rfl) dX11_isReach_22 ?_
    exact hj23 0
  refine r_if_lt 1 hC (tgt := 22) (by decide) dX11_isReach_1 ?_ ?_
  · exact r_sub [] rfl (hj22)
  · refine r_iload_n 4 hC 1 rfl rfl dX11_isReach_4 ?_
    refine r_aload_n 5 hC 0 rfl (Or.inl (by decide)) rfl dX11_isReach_5 ?_
    refine r_get 6 hC fd_9_2 fl_X11_26 dX11_isReach_6 (fun v2 => ?_)
    refine r_get 9 hC fd_8_0 fl_X11_111 dX11_isReach_9 (fun v3 => ?_)
    refine r_get 12 hC fd_7_3 fl_X11_114 dX11_isReach_12 (fun v4 => ?_)
    refine r_icmp_ge 15 hC (tgt := 22) (by decide) dX11_isReach_15 ?_ ?_
    · exact r_sub [] rfl (hj22)
    · refine r_iconst 18 hC (r32c rfl) dX11_isReach_18 ?_
      refine r_goto 19 hC (tgt := 23) (by decide) dX11_isReach_19 ?_
      exact r_sub [] rfl (hj23 1)

/-! WaterTurns.isOwner(I)Z -/
theorem dX11_isOwner_0 : decode cX11_isOwner 0 = .ok (.iload_n 1, 1) := by decide +kernel
theorem dX11_isOwner_1 : decode cX11_isOwner 1 = .ok (.ifCond .lt 21, 3) := by decide +kernel
theorem dX11_isOwner_4 : decode cX11_isOwner 4 = .ok (.iload_n 1, 1) := by decide +kernel
theorem dX11_isOwner_5 : decode cX11_isOwner 5 = .ok (.aload_n 0, 1) := by decide +kernel
theorem dX11_isOwner_6 : decode cX11_isOwner 6 = .ok (.getfield 26, 3) := by decide +kernel
theorem dX11_isOwner_9 : decode cX11_isOwner 9 = .ok (.getfield 111, 3) := by decide +kernel
theorem dX11_isOwner_12 : decode cX11_isOwner 12 = .ok (.getfield 117, 3) := by decide +kernel
theorem dX11_isOwner_15 : decode cX11_isOwner 15 = .ok (.if_icmp .ge 7, 3) := by decide +kernel
theorem dX11_isOwner_18 : decode cX11_isOwner 18 = .ok (.iconst 1, 1) := by decide +kernel
theorem dX11_isOwner_19 : decode cX11_isOwner 19 = .ok (.goto 4, 3) := by decide +kernel
theorem dX11_isOwner_22 : decode cX11_isOwner 22 = .ok (.iconst 0, 1) := by decide +kernel
theorem dX11_isOwner_23 : decode cX11_isOwner 23 = .ok (.ireturn, 1) := by decide +kernel
set_option maxRecDepth 100000 in
theorem t_X11_isOwner (x0 x1 : Int) (M : Mem) (h0 : x0 ≠ 0) : MtP yX11_isOwner cX11_isOwner 2 (some .boolean) 1 0 0 [(29, x0), (0, x1)] M 0 (f_X11_isOwner x0 x1 M) := by
  refine mk_P (by decide +kernel) (Nat.le_of_ble_eq_true rfl) (fun E C r0 hC hq hin => ?_)
  refine r_eqls (ls' := [(0, 29, x0), (1, 0, x1)]) rfl ?_
  unfold f_X11_isOwner
  refine r_iload_n 0 hC 1 rfl rfl dX11_isOwner_0 ?_
  refine r_jn (P := fun j23 => ∀ (q1 : Int), Bk E C 2 M r0 23 [] [(0, q1)] M 0 0 (j23 q1)) ?_ (fun j23 hj23 => ?_)
  · intro q1
    exact r_zreturnP 23 hC hq (by decide) (by decide) dX11_isOwner_23
  refine r_jn (P := fun j22 => Bk E C 2 M r0 22 [] [] M 0 0 (j22)) ?_ (fun j22 hj22 => ?_)
  · refine r_iconst 22 hC (r32c rfl) dX11_isOwner_22 ?_
    exact hj23 0
  refine r_if_lt 1 hC (tgt := 22) (by decide) dX11_isOwner_1 ?_ ?_
  · exact r_sub [] rfl (hj22)
  · refine r_iload_n 4 hC 1 rfl rfl dX11_isOwner_4 ?_
    refine r_aload_n 5 hC 0 rfl (Or.inl (by decide)) rfl dX11_isOwner_5 ?_
    refine r_get 6 hC fd_9_2 fl_X11_26 dX11_isOwner_6 (fun v2 => ?_)
    refine r_get 9 hC fd_8_0 fl_X11_111 dX11_isOwner_9 (fun v3 => ?_)
    refine r_get 12 hC fd_7_4 fl_X11_117 dX11_isOwner_12 (fun v4 => ?_)
    refine r_icmp_ge 15 hC (tgt := 22) (by decide) dX11_isOwner_15 ?_ ?_
    · exact r_sub [] rfl (hj22)
    · refine r_iconst 18 hC (r32c rfl) dX11_isOwner_18 ?_
      refine r_goto 19 hC (tgt := 23) (by decide) dX11_isOwner_19 ?_
      exact r_sub [] rfl (hj23 1)

/-! WaterTurns.isField(I)Z -/
theorem dX11_isField_0 : decode cX11_isField 0 = .ok (.iload_n 1, 1) := by decide +kernel
theorem dX11_isField_1 : decode cX11_isField 1 = .ok (.ifCond .lt 21, 3) := by decide +kernel
theorem dX11_isField_4 : decode cX11_isField 4 = .ok (.iload_n 1, 1) := by decide +kernel
theorem dX11_isField_5 : decode cX11_isField 5 = .ok (.aload_n 0, 1) := by decide +kernel
theorem dX11_isField_6 : decode cX11_isField 6 = .ok (.getfield 26, 3) := by decide +kernel
theorem dX11_isField_9 : decode cX11_isField 9 = .ok (.getfield 111, 3) := by decide +kernel
theorem dX11_isField_12 : decode cX11_isField 12 = .ok (.getfield 120, 3) := by decide +kernel
theorem dX11_isField_15 : decode cX11_isField 15 = .ok (.if_icmp .ge 7, 3) := by decide +kernel
theorem dX11_isField_18 : decode cX11_isField 18 = .ok (.iconst 1, 1) := by decide +kernel
theorem dX11_isField_19 : decode cX11_isField 19 = .ok (.goto 4, 3) := by decide +kernel
theorem dX11_isField_22 : decode cX11_isField 22 = .ok (.iconst 0, 1) := by decide +kernel
theorem dX11_isField_23 : decode cX11_isField 23 = .ok (.ireturn, 1) := by decide +kernel
set_option maxRecDepth 100000 in
theorem t_X11_isField (x0 x1 : Int) (M : Mem) (h0 : x0 ≠ 0) : MtP yX11_isField cX11_isField 2 (some .boolean) 1 0 0 [(29, x0), (0, x1)] M 0 (f_X11_isField x0 x1 M) := by
  refine mk_P (by decide +kernel) (Nat.le_of_ble_eq_true rfl) (fun E C r0 hC hq hin => ?_)
  refine r_eqls (ls' := [(0, 29, x0), (1, 0, x1)]) rfl ?_
  unfold f_X11_isField
  refine r_iload_n 0 hC 1 rfl rfl dX11_isField_0 ?_
  refine r_jn (P := fun j23 => ∀ (q1 : Int), Bk E C 2 M r0 23 [] [(0, q1)] M 0 0 (j23 q1)) ?_ (fun j23 hj23 => ?_)
  · intro q1
    exact r_zreturnP 23 hC hq (by decide) (by decide) dX11_isField_23
  refine r_jn (P := fun j22 => Bk E C 2 M r0 22 [] [] M 0 0 (j22)) ?_ (fun j22 hj22 => ?_)
  · refine r_iconst 22 hC (r32c rfl) dX11_isField_22 ?_
    exact hj23 0
  refine r_if_lt 1 hC (tgt := 22) (by decide) dX11_isField_1 ?_ ?_
  · exact r_sub [] rfl (hj22)
  · refine r_iload_n 4 hC 1 rfl rfl dX11_isField_4 ?_
    refine r_aload_n 5 hC 0 rfl (Or.inl (by decide)) rfl dX11_isField_5 ?_
    refine r_get 6 hC fd_9_2 fl_X11_26 dX11_isField_6 (fun v2 => ?_)
    refine r_get 9 hC fd_8_0 fl_X11_111 dX11_isField_9 (fun v3 => ?_)
    refine r_get 12 hC fd_7_5 fl_X11_120 dX11_isField_12 (fun v4 => ?_)
    refine r_icmp_ge 15 hC (tgt := 22) (by decide) dX11_isField_15 ?_ ?_
    · exact r_sub [] rfl (hj22)
    · refine r_iconst 18 hC (r32c rfl) dX11_isField_18 ?_
      refine r_goto 19 hC (tgt := 23) (by decide) dX11_isField_19 ?_
      exact r_sub [] rfl (hj23 1)

/-! WaterTurns.isCouple(II)Z -/
theorem dX11_isCouple_0 : decode cX11_isCouple 0 = .ok (.aload_n 0, 1) := by decide +kernel
theorem dX11_isCouple_1 : decode cX11_isCouple 1 = .ok (.iload_n 1, 1) := by decide +kernel
theorem dX11_isCouple_2 : decode cX11_isCouple 2 = .ok (.invokevirtual 123, 3) := by decide +kernel
theorem dX11_isCouple_5 : decode cX11_isCouple 5 = .ok (.ifCond .eq 20, 3) := by decide +kernel
theorem dX11_isCouple_8 : decode cX11_isCouple 8 = .ok (.aload_n 0, 1) := by decide +kernel
theorem dX11_isCouple_9 : decode cX11_isCouple 9 = .ok (.iload_n 2, 1) := by decide +kernel
theorem dX11_isCouple_10 : decode cX11_isCouple 10 = .ok (.invokevirtual 123, 3) := by decide +kernel
theorem dX11_isCouple_13 : decode cX11_isCouple 13 = .ok (.ifCond .eq 12, 3) := by decide +kernel
theorem dX11_isCouple_16 : decode cX11_isCouple 16 = .ok (.iload_n 1, 1) := by decide +kernel
theorem dX11_isCouple_17 : decode cX11_isCouple 17 = .ok (.iload_n 2, 1) := by decide +kernel
theorem dX11_isCouple_18 : decode cX11_isCouple 18 = .ok (.if_icmp .eq 7, 3) := by decide +kernel
theorem dX11_isCouple_21 : decode cX11_isCouple 21 = .ok (.iconst 1, 1) := by decide +kernel
theorem dX11_isCouple_22 : decode cX11_isCouple 22 = .ok (.goto 4, 3) := by decide +kernel
theorem dX11_isCouple_25 : decode cX11_isCouple 25 = .ok (.iconst 0, 1) := by decide +kernel
theorem dX11_isCouple_26 : decode cX11_isCouple 26 = .ok (.ireturn, 1) := by decide +kernel
set_option maxRecDepth 100000 in
theorem t_X11_isCouple (x0 x1 x2 : Int) (M : Mem) (h0 : x0 ≠ 0) : MtP yX11_isCouple cX11_isCouple 3 (some .boolean) 2 0 0 [(29, x0), (0, x1), (0, x2)] M 0 (f_X11_isCouple x0 x1 x2 M) := by
  refine mk_P (by decide +kernel) (Nat.le_of_ble_eq_true rfl) (fun E C r0 hC hq hin => ?_)
  refine r_eqls (ls' := [(0, 29, x0), (1, 0, x1), (2, 0, x2)]) rfl ?_
  unfold f_X11_isCouple
  refine r_aload_n 0 hC 0 rfl (Or.inl (by decide)) rfl dX11_isCouple_0 ?_
  refine r_iload_n 1 hC 1 rfl rfl dX11_isCouple_1 ?_
  refine r_callVP 2 hC [(0, x1)] [] rfl vl_X11_123 rfl h0 (by decide) (Nat.le_of_ble_eq_true rfl) (by decide) (by decide) dX11_isCouple_2 (t_X11_isField x0 x1 M h0) (fun v1 => ?_)
  refine r_jn (P := fun j26 => ∀ (q2 : Int), Bk E C 3 M r0 26 [] [(0, q2)] M 0 0 (j26 q2)) ?_ (fun j26 hj26 => ?_)
  · intro q2
    exact r_zreturnP 26 hC hq (by decide) (by decide) dX11_isCouple_26
  refine r_jn (P := fun j25 => Bk E C 3 M r0 25 [] [] M 0 0 (j25)) ?_ (fun j25 hj25 => ?_)
  · refine r_iconst 25 hC (r32c rfl) dX11_isCouple_25 ?_
    exact hj26 0
  refine r_if_eq 5 hC (tgt := 25) (by decide) dX11_isCouple_5 ?_ ?_
  · exact r_sub [] rfl (hj25)
  · refine r_aload_n 8 hC 0 rfl (Or.inl (by decide)) rfl dX11_isCouple_8 ?_
    refine r_iload_n 9 hC 2 rfl rfl dX11_isCouple_9 ?_
    refine r_callVP 10 hC [(0, x2)] [] rfl vl_X11_123 rfl h0 (by decide) (Nat.le_of_ble_eq_true rfl) (by decide) (by decide) dX11_isCouple_10 (t_X11_isField x0 x2 M h0) (fun v3 => ?_)
    refine r_if_eq 13 hC (tgt := 25) (by decide) dX11_isCouple_13 ?_ ?_
    · exact r_sub [] rfl (hj25)
    · refine r_iload_n 16 hC 1 rfl rfl dX11_isCouple_16 ?_
      refine r_iload_n 17 hC 2 rfl rfl dX11_isCouple_17 ?_
      refine r_icmp_eq 18 hC (tgt := 25) (by decide) dX11_isCouple_18 ?_ ?_
      · exact r_sub [] rfl (hj25)
      · refine r_iconst 21 hC (r32c rfl) dX11_isCouple_21 ?_
        refine r_goto 22 hC (tgt := 26) (by decide) dX11_isCouple_22 ?_
        exact r_sub [] rfl (hj26 1)

/-! WaterTurns.isMinute(I)Z -/
theorem dX11_isMinute_0 : decode cX11_isMinute 0 = .ok (.iload_n 1, 1) := by decide +kernel
theorem dX11_isMinute_1 : decode cX11_isMinute 1 = .ok (.ifCond .lt 21, 3) := by decide +kernel
theorem dX11_isMinute_4 : decode cX11_isMinute 4 = .ok (.iload_n 1, 1) := by decide +kernel
theorem dX11_isMinute_5 : decode cX11_isMinute 5 = .ok (.aload_n 0, 1) := by decide +kernel
theorem dX11_isMinute_6 : decode cX11_isMinute 6 = .ok (.getfield 26, 3) := by decide +kernel
theorem dX11_isMinute_9 : decode cX11_isMinute 9 = .ok (.getfield 111, 3) := by decide +kernel
theorem dX11_isMinute_12 : decode cX11_isMinute 12 = .ok (.getfield 126, 3) := by decide +kernel
theorem dX11_isMinute_15 : decode cX11_isMinute 15 = .ok (.if_icmp .ge 7, 3) := by decide +kernel
theorem dX11_isMinute_18 : decode cX11_isMinute 18 = .ok (.iconst 1, 1) := by decide +kernel
theorem dX11_isMinute_19 : decode cX11_isMinute 19 = .ok (.goto 4, 3) := by decide +kernel
theorem dX11_isMinute_22 : decode cX11_isMinute 22 = .ok (.iconst 0, 1) := by decide +kernel
theorem dX11_isMinute_23 : decode cX11_isMinute 23 = .ok (.ireturn, 1) := by decide +kernel
set_option maxRecDepth 100000 in
theorem t_X11_isMinute (x0 x1 : Int) (M : Mem) (h0 : x0 ≠ 0) : MtP yX11_isMinute cX11_isMinute 2 (some .boolean) 1 0 0 [(29, x0), (0, x1)] M 0 (f_X11_isMinute x0 x1 M) := by
  refine mk_P (by decide +kernel) (Nat.le_of_ble_eq_true rfl) (fun E C r0 hC hq hin => ?_)
  refine r_eqls (ls' := [(0, 29, x0), (1, 0, x1)]) rfl ?_
  unfold f_X11_isMinute
  refine r_iload_n 0 hC 1 rfl rfl dX11_isMinute_0 ?_
  refine r_jn (P := fun j23 => ∀ (q1 : Int), Bk E C 2 M r0 23 [] [(0, q1)] M 0 0 (j23 q1)) ?_ (fun j23 hj23 => ?_)
  · intro q1
    exact r_zreturnP 23 hC hq (by decide) (by decide) dX11_isMinute_23
  refine r_jn (P := fun j22 => Bk E C 2 M r0 22 [] [] M 0 0 (j22)) ?_ (fun j22 hj22 => ?_)
  · refine r_iconst 22 hC (r32c rfl) dX11_isMinute_22 ?_
    exact hj23 0
  refine r_if_lt 1 hC (tgt := 22) (by decide) dX11_isMinute_1 ?_ ?_
  · exact r_sub [] rfl (hj22)
  · refine r_iload_n 4 hC 1 rfl rfl dX11_isMinute_4 ?_
    refine r_aload_n 5 hC 0 rfl (Or.inl (by decide)) rfl dX11_isMinute_5 ?_
    refine r_get 6 hC fd_9_2 fl_X11_26 dX11_isMinute_6 (fun v2 => ?_)
    refine r_get 9 hC fd_8_0 fl_X11_111 dX11_isMinute_9 (fun v3 => ?_)
    refine r_get 12 hC fd_7_1 fl_X11_126 dX11_isMinute_12 (fun v4 => ?_)
    refine r_icmp_ge 15 hC (tgt := 22) (by decide) dX11_isMinute_15 ?_ ?_
    · exact r_sub [] rfl (hj22)
    · refine r_iconst 18 hC (r32c rfl) dX11_isMinute_18 ?_
      refine r_goto 19 hC (tgt := 23) (by decide) dX11_isMinute_19 ?_
      exact r_sub [] rfl (hj23 1)

/-! WaterTurns.isWithin(III)Z -/
theorem dX11_isWithin_0 : decode cX11_isWithin 0 = .ok (.iload_n 0, 1) := by decide +kernel
theorem dX11_isWithin_1 : decode cX11_isWithin 1 = .ok (.iload_n 1, 1) := by decide +kernel
theorem dX11_isWithin_2 : decode cX11_isWithin 2 = .ok (.if_icmp .lt 12, 3) := by decide +kernel
theorem dX11_isWithin_5 : decode cX11_isWithin 5 = .ok (.iload_n 0, 1) := by decide +kernel
theorem dX11_isWithin_6 : decode cX11_isWithin 6 = .ok (.iload_n 2, 1) := by decide +kernel
theorem dX11_isWithin_7 : decode cX11_isWithin 7 = .ok (.if_icmp .gt 7, 3) := by decide +kernel
theorem dX11_isWithin_10 : decode cX11_isWithin 10 = .ok (.iconst 1, 1) := by decide +kernel
theorem dX11_isWithin_11 : decode cX11_isWithin 11 = .ok (.goto 4, 3) := by decide +kernel
theorem dX11_isWithin_14 : decode cX11_isWithin 14 = .ok (.iconst 0, 1) := by decide +kernel
theorem dX11_isWithin_15 : decode cX11_isWithin 15 = .ok (.ireturn, 1) := by decide +kernel
set_option maxRecDepth 100000 in
theorem t_X11_isWithin (x0 x1 x2 : Int) (M : Mem) : MtP yX11_isWithin cX11_isWithin 3 (some .boolean) 1 0 0 [(0, x0), (0, x1), (0, x2)] M 0 (f_X11_isWithin x0 x1 x2 M) := by
  refine mk_P (by decide +kernel) (Nat.le_of_ble_eq_true rfl) (fun E C r0 hC hq hin => ?_)
  refine r_eqls (ls' := [(0, 0, x0), (1, 0, x1), (2, 0, x2)]) rfl ?_
  unfold f_X11_isWithin
  refine r_iload_n 0 hC 0 rfl rfl dX11_isWithin_0 ?_
  refine r_iload_n 1 hC 1 rfl rfl dX11_isWithin_1 ?_
  refine r_jn (P := fun j15 => ∀ (q1 : Int), Bk E C 3 M r0 15 [] [(0, q1)] M 0 0 (j15 q1)) ?_ (fun j15 hj15 => ?_)
  · intro q1
    exact r_zreturnP 15 hC hq (by decide) (by decide) dX11_isWithin_15
  refine r_jn (P := fun j14 => Bk E C 3 M r0 14 [] [] M 0 0 (j14)) ?_ (fun j14 hj14 => ?_)
  · refine r_iconst 14 hC (r32c rfl) dX11_isWithin_14 ?_
    exact hj15 0
  refine r_icmp_lt 2 hC (tgt := 14) (by decide) dX11_isWithin_2 ?_ ?_
  · exact r_sub [] rfl (hj14)
  · refine r_iload_n 5 hC 0 rfl rfl dX11_isWithin_5 ?_
    refine r_iload_n 6 hC 2 rfl rfl dX11_isWithin_6 ?_
    refine r_icmp_gt 7 hC (tgt := 14) (by decide) dX11_isWithin_7 ?_ ?_
    · exact r_sub [] rfl (hj14)
    · refine r_iconst 10 hC (r32c rfl) dX11_isWithin_10 ?_
      refine r_goto 11 hC (tgt := 15) (by decide) dX11_isWithin_11 ?_
      exact r_sub [] rfl (hj15 1)

/-! WaterTurns.status()I -/
theorem dX11_status_0 : decode cX11_status 0 = .ok (.aload_n 0, 1) := by decide +kernel
theorem dX11_status_1 : decode cX11_status 1 = .ok (.getfield 81, 3) := by decide +kernel
theorem dX11_status_4 : decode cX11_status 4 = .ok (.ireturn, 1) := by decide +kernel
set_option maxRecDepth 100000 in
theorem t_X11_status (x0 : Int) (M : Mem) (h0 : x0 ≠ 0) : MtP yX11_status cX11_status 1 (some .int) 1 0 0 [(29, x0)] M 0 (f_X11_status x0 M) := by
  refine mk_P (by decide +kernel) (Nat.le_of_ble_eq_true rfl) (fun E C r0 hC hq hin => ?_)
  refine r_eqls (ls' := [(0, 29, x0)]) rfl ?_
  unfold f_X11_status
  refine r_aload_n 0 hC 0 rfl (Or.inl (by decide)) rfl dX11_status_0 ?_
  refine r_get 1 hC fd_9_12 fl_X11_81 dX11_status_1 (fun v1 => ?_)
  exact r_ireturnP 4 hC hq (by decide) (by decide) dX11_status_4

/-! WaterTurns.top()J -/
theorem dX11_top_0 : decode cX11_top 0 = .ok (.aload_n 0, 1) := by decide +kernel
theorem dX11_top_1 : decode cX11_top 1 = .ok (.getfield 84, 3) := by decide +kernel
theorem dX11_top_4 : decode cX11_top 4 = .ok (.lreturn, 1) := by decide +kernel
set_option maxRecDepth 100000 in
theorem t_X11_top (x0 : Int) (M : Mem) (h0 : x0 ≠ 0) : MtP yX11_top cX11_top 1 (some .long) 1 0 0 [(29, x0)] M 1 (f_X11_top x0 M) := by
  refine mk_P (by decide +kernel) (Nat.le_of_ble_eq_true rfl) (fun E C r0 hC hq hin => ?_)
  refine r_eqls (ls' := [(0, 29, x0)]) rfl ?_
  unfold f_X11_top
  refine r_aload_n 0 hC 0 rfl (Or.inl (by decide)) rfl dX11_top_0 ?_
  refine r_get 1 hC fd_9_13 fl_X11_84 dX11_top_1 (fun v1 => ?_)
  exact r_lreturnP 4 hC hq (by decide) (by decide) dX11_top_4

/-! WaterTurns.bottom()J -/
theorem dX11_bottom_0 : decode cX11_bottom 0 = .ok (.aload_n 0, 1) := by decide +kernel
theorem dX11_bottom_1 : decode cX11_bottom 1 = .ok (.getfield 88, 3) := by decide +kernel
theorem dX11_bottom_4 : decode cX11_bottom 4 = .ok (.lreturn, 1) := by decide +kernel
set_option maxRecDepth 100000 in
theorem t_X11_bottom (x0 : Int) (M : Mem) (h0 : x0 ≠ 0) : MtP yX11_bottom cX11_bottom 1 (some .long) 1 0 0 [(29, x0)] M 1 (f_X11_bottom x0 M) := by
  refine mk_P (by decide +kernel) (Nat.le_of_ble_eq_true rfl) (fun E C r0 hC hq hin => ?_)
  refine r_eqls (ls' := [(0, 29, x0)]) rfl ?_
  unfold f_X11_bottom
  refine r_aload_n 0 hC 0 rfl (Or.inl (by decide)) rfl dX11_bottom_0 ?_
  refine r_get 1 hC fd_9_14 fl_X11_88 dX11_bottom_1 (fun v1 => ?_)
  exact r_lreturnP 4 hC hq (by decide) (by decide) dX11_bottom_4

/-! WaterTurns.tray(III)Z -/
theorem dX11_tray_0 : decode cX11_tray 0 = .ok (.iload_n 1, 1) := by decide +kernel
theorem dX11_tray_1 : decode cX11_tray 1 = .ok (.invokestatic 129, 3) := by decide +kernel
theorem dX11_tray_4 : decode cX11_tray 4 = .ok (.ifCond .eq 22, 3) := by decide +kernel
theorem dX11_tray_7 : decode cX11_tray 7 = .ok (.iload_n 2, 1) := by decide +kernel
theorem dX11_tray_8 : decode cX11_tray 8 = .ok (.iconst 0, 1) := by decide +kernel
theorem dX11_tray_9 : decode cX11_tray 9 = .ok (.iconst 3, 1) := by decide +kernel
theorem dX11_tray_10 : decode cX11_tray 10 = .ok (.invokestatic 132, 3) := by decide +kernel
theorem dX11_tray_13 : decode cX11_tray 13 = .ok (.ifCond .eq 13, 3) := by decide +kernel
theorem dX11_tray_16 : decode cX11_tray 16 = .ok (.iload_n 3, 1) := by decide +kernel
theorem dX11_tray_17 : decode cX11_tray 17 = .ok (.iconst 0, 1) := by decide +kernel
theorem dX11_tray_18 : decode cX11_tray 18 = .ok (.bipush 60, 2) := by decide +kernel
theorem dX11_tray_20 : decode cX11_tray 20 = .ok (.invokestatic 132, 3) := by decide +kernel
theorem dX11_tray_23 : decode cX11_tray 23 = .ok (.ifCond .ne 9, 3) := by decide +kernel
theorem dX11_tray_26 : decode cX11_tray 26 = .ok (.aload_n 0, 1) := by decide +kernel
theorem dX11_tray_27 : decode cX11_tray 27 = .ok (.iconst 1, 1) := by decide +kernel
theorem dX11_tray_28 : decode cX11_tray 28 = .ok (.invokevirtual 102, 3) := by decide +kernel
theorem dX11_tray_31 : decode cX11_tray 31 = .ok (.ireturn, 1) := by decide +kernel
theorem dX11_tray_32 : decode cX11_tray 32 = .ok (.aload_n 0, 1) := by decide +kernel
theorem dX11_tray_33 : decode cX11_tray 33 = .ok (.getfield 12, 3) := by decide +kernel
theorem dX11_tray_36 : decode cX11_tray 36 = .ok (.iload_n 1, 1) := by decide +kernel
theorem dX11_tray_37 : decode cX11_tray 37 = .ok (.iload_n 2, 1) := by decide +kernel
theorem dX11_tray_38 : decode cX11_tray 38 = .ok (.iload_n 3, 1) := by decide +kernel
theorem dX11_tray_39 : decode cX11_tray 39 = .ok (.invokevirtual 136, 3) := by decide +kernel
theorem dX11_tray_42 : decode cX11_tray 42 = .ok (.aload_n 0, 1) := by decide +kernel
theorem dX11_tray_43 : decode cX11_tray 43 = .ok (.iconst 0, 1) := by decide +kernel
theorem dX11_tray_44 : decode cX11_tray 44 = .ok (.invokevirtual 102, 3) := by decide +kernel
theorem dX11_tray_47 : decode cX11_tray 47 = .ok (.ireturn, 1) := by decide +kernel
set_option maxRecDepth 100000 in
theorem t_X11_tray (x0 x1 x2 x3 : Int) (M : Mem) (h0 : x0 ≠ 0) : MtI yX11_tray cX11_tray 4 (some .boolean) 3 0 0 [(29, x0), (0, x1), (0, x2), (0, x3)] M 0 (f_X11_tray x0 x1 x2 x3 M) := by
  refine mk_I (by decide +kernel) (Nat.le_of_ble_eq_true rfl) (fun E C r0 M0 hC hq hin => ?_)
  refine r_eqls (ls' := [(0, 29, x0), (1, 0, x1), (2, 0, x2), (3, 0, x3)]) rfl ?_
  unfold f_X11_tray
  refine r_iload_n 0 hC 1 rfl rfl dX11_tray_0 ?_
  refine r_callSP 1 hC [(0, x1)] [] rfl sl_X11_129 rfl (by decide) (Nat.le_of_ble_eq_true rfl) (by decide) (by decide) dX11_tray_1 (t_X7_isTray x1 M) (fun v1 => ?_)
  refine r_jn (P := fun j26 => Bk E C 4 M (r0, M0) 26 [(0, 29, x0)] [] M 0 0 (j26)) ?_ (fun j26 hj26 => ?_)
  · refine r_aload_n 26 hC 0 rfl (Or.inl (by decide)) rfl dX11_tray_26 ?_
    refine r_iconst 27 hC (r32c rfl) dX11_tray_27 ?_
    refine r_callVI 28 hC [(0, 1)] [] rfl vl_X11_102 rfl h0 (by decide) (Nat.le_of_ble_eq_true rfl) (by decide) (by decide) dX11_tray_28 (t_X11_settle x0 1 M h0) (fun v2 M3 => ?_)
    exact r_zreturn 31 hC hq (by decide) (by decide) dX11_tray_31
  refine r_if_eq 4 hC (tgt := 26) (by decide) dX11_tray_4 ?_ ?_
  · exact r_sub [0] rfl (hj26)
  · refine r_iload_n 7 hC 2 rfl rfl dX11_tray_7 ?_
    refine r_iconst 8 hC (r32c rfl) dX11_tray_8 ?_
    refine r_iconst 9 hC (r32c rfl) dX11_tray_9 ?_
    refine r_callSP 10 hC [(0, x2), (0, 0), (0, 3)] [] rfl sl_X11_132 rfl (by decide) (Nat.le_of_ble_eq_true rfl) (by decide) (by decide) dX11_tray_10 (t_X11_isWithin x2 0 3 M) (fun v4 => ?_)
    refine r_if_eq 13 hC (tgt := 26) (by decide) dX11_tray_13 ?_ ?_
    · exact r_sub [0] rfl (hj26)
    · refine r_iload_n 16 hC 3 rfl rfl dX11_tray_16 ?_
      refine r_iconst 17 hC (r32c rfl) dX11_tray_17 ?_
      refine r_bipush 18 hC kb_60 dX11_tray_18 ?_
      refine r_callSP 20 hC [(0, x3), (0, 0), (0, 60)] [] rfl sl_X11_132 rfl (by decide) (Nat.le_of_ble_eq_true rfl) (by decide) (by decide) dX11_tray_20 (t_X11_isWithin x3 0 60 M) (fun v5 => ?_)
      refine r_if_ne 23 hC (tgt := 32) (by decide) dX11_tray_23 ?_ ?_
      · refine r_aload_n 32 hC 0 rfl (Or.inl (by decide)) rfl dX11_tray_32 ?_
        refine r_get 33 hC fd_9_0 fl_X11_12 dX11_tray_33 (fun v6 => ?_)
        refine r_iload_n 36 hC 1 rfl rfl dX11_tray_36 ?_
        refine r_iload_n 37 hC 2 rfl rfl dX11_tray_37 ?_
        refine r_iload_n 38 hC 3 rfl rfl dX11_tray_38 ?_
        refine r_nn (fun hn7 => ?_)
        refine r_callVV 39 hC [(0, x1), (0, x2), (0, x3)] [] rfl vl_X11_136 rfl hn7 (by decide) (Nat.le_of_ble_eq_true rfl) (by decide) (by decide) dX11_tray_39 (t_X7_lay v6 x1 x2 x3 M hn7) (fun M8 => ?_)
        refine r_aload_n 42 hC 0 rfl (Or.inl (by decide)) rfl dX11_tray_42 ?_
        refine r_iconst 43 hC (r32c rfl) dX11_tray_43 ?_
        refine r_callVI 44 hC [(0, 0)] [] rfl vl_X11_102 rfl h0 (by decide) (Nat.le_of_ble_eq_true rfl) (by decide) (by decide) dX11_tray_44 (t_X11_settle x0 0 M8 h0) (fun v9 M10 => ?_)
        exact r_zreturn 47 hC hq (by decide) (by decide) dX11_tray_47
      · exact r_sub [0] rfl (hj26)

/-! WaterTurns.write(IIJ)Z -/
theorem dX11_write_0 : decode cX11_write 0 = .ok (.aload_n 0, 1) := by decide +kernel
theorem dX11_write_1 : decode cX11_write 1 = .ok (.getfield 12, 3) := by decide +kernel
theorem dX11_write_4 : decode cX11_write 4 = .ok (.iload_n 1, 1) := by decide +kernel
theorem dX11_write_5 : decode cX11_write 5 = .ok (.iload_n 2, 1) := by decide +kernel
theorem dX11_write_6 : decode cX11_write 6 = .ok (.invokevirtual 140, 3) := by decide +kernel
theorem dX11_write_9 : decode cX11_write 9 = .ok (.istore 5, 2) := by decide +kernel
theorem dX11_write_11 : decode cX11_write 11 = .ok (.iload 5, 2) := by decide +kernel
theorem dX11_write_13 : decode cX11_write 13 = .ok (.ifCond .ne 13, 3) := by decide +kernel
theorem dX11_write_16 : decode cX11_write 16 = .ok (.aload_n 0, 1) := by decide +kernel
theorem dX11_write_17 : decode cX11_write 17 = .ok (.getfield 12, 3) := by decide +kernel
theorem dX11_write_20 : decode cX11_write 20 = .ok (.iload_n 1, 1) := by decide +kernel
theorem dX11_write_21 : decode cX11_write 21 = .ok (.iload_n 2, 1) := by decide +kernel
theorem dX11_write_22 : decode cX11_write 22 = .ok (.lload_n 3, 1) := by decide +kernel
theorem dX11_write_23 : decode cX11_write 23 = .ok (.invokevirtual 144, 3) := by decide +kernel
theorem dX11_write_26 : decode cX11_write 26 = .ok (.aload_n 0, 1) := by decide +kernel
theorem dX11_write_27 : decode cX11_write 27 = .ok (.iload 5, 2) := by decide +kernel
theorem dX11_write_29 : decode cX11_write 29 = .ok (.invokevirtual 102, 3) := by decide +kernel
theorem dX11_write_32 : decode cX11_write 32 = .ok (.ireturn, 1) := by decide +kernel
set_option maxRecDepth 100000 in
theorem t_X11_write (x0 x1 x2 x3 : Int) (M : Mem) (h0 : x0 ≠ 0) : MtI yX11_write cX11_write 6 (some .boolean) 3 0 0 [(29, x0), (0, x1), (0, x2), (1, x3)] M 0 (f_X11_write x0 x1 x2 x3 M) := by
  refine mk_I (by decide +kernel) (Nat.le_of_ble_eq_true rfl) (fun E C r0 M0 hC hq hin => ?_)
  refine r_eqls (ls' := [(0, 29, x0), (1, 0, x1), (2, 0, x2), (3, 1, x3)]) rfl ?_
  unfold f_X11_write
  refine r_aload_n 0 hC 0 rfl (Or.inl (by decide)) rfl dX11_write_0 ?_
  refine r_get 1 hC fd_9_0 fl_X11_12 dX11_write_1 (fun v1 => ?_)
  refine r_iload_n 4 hC 1 rfl rfl dX11_write_4 ?_
  refine r_iload_n 5 hC 2 rfl rfl dX11_write_5 ?_
  refine r_nn (fun hn2 => ?_)
  refine r_callVP 6 hC [(0, x1), (0, x2)] [] rfl vl_X11_140 rfl hn2 (by decide) (Nat.le_of_ble_eq_true rfl) (by decide) (by decide) dX11_write_6 (t_X7_whyNoPlace v1 x1 x2 M hn2) (fun v3 => ?_)
  refine r_istore 9 hC (by decide) dX11_write_9 (r_eqls (ls' := [(5, 0, v3), (0, 29, x0), (1, 0, x1), (2, 0, x2), (3, 1, x3)]) rfl ?_)
  refine r_iload 11 hC 0 rfl dX11_write_11 ?_
  refine r_jn (P := fun j26 => ∀ (M4 : Mem), Bk E C 6 M (r0, M0) 26 [(0, 29, x0), (5, 0, v3)] [] M4 0 0 (j26 M4)) ?_ (fun j26 hj26 => ?_)
  · intro M4
    refine r_aload_n 26 hC 0 rfl (Or.inl (by decide)) rfl dX11_write_26 ?_
    refine r_iload 27 hC 1 rfl dX11_write_27 ?_
    refine r_callVI 29 hC [(0, v3)] [] rfl vl_X11_102 rfl h0 (by decide) (Nat.le_of_ble_eq_true rfl) (by decide) (by decide) dX11_write_29 (t_X11_settle x0 v3 M4 h0) (fun v5 M6 => ?_)
    exact r_zreturn 32 hC hq (by decide) (by decide) dX11_write_32
  refine r_if_ne 13 hC (tgt := 26) (by decide) dX11_write_13 ?_ ?_
  · exact r_sub [1, 0] rfl (hj26 M)
  · refine r_aload_n 16 hC 1 rfl (Or.inl (by decide)) rfl dX11_write_16 ?_
    refine r_get 17 hC fd_9_0 fl_X11_12 dX11_write_17 (fun v7 => ?_)
    refine r_iload_n 20 hC 2 rfl rfl dX11_write_20 ?_
    refine r_iload_n 21 hC 3 rfl rfl dX11_write_21 ?_
    refine r_lload_n 22 hC 4 rfl rfl dX11_write_22 ?_
    refine r_nn (fun hn8 => ?_)
    refine r_callVV 23 hC [(0, x1), (0, x2), (1, x3)] [] rfl vl_X11_144 rfl hn8 (by decide) (Nat.le_of_ble_eq_true rfl) (by decide) (by decide) dX11_write_23 (t_X7_put v7 x1 x2 x3 M hn8) (fun M9 => ?_)
    exact r_sub [1, 0] rfl (hj26 M9)

/-! WaterTurns.read(II)J -/
theorem dX11_read_0 : decode cX11_read 0 = .ok (.aload_n 0, 1) := by decide +kernel
theorem dX11_read_1 : decode cX11_read 1 = .ok (.getfield 12, 3) := by decide +kernel
theorem dX11_read_4 : decode cX11_read 4 = .ok (.iload_n 1, 1) := by decide +kernel
theorem dX11_read_5 : decode cX11_read 5 = .ok (.iload_n 2, 1) := by decide +kernel
theorem dX11_read_6 : decode cX11_read 6 = .ok (.invokevirtual 140, 3) := by decide +kernel
theorem dX11_read_9 : decode cX11_read 9 = .ok (.istore_n 3, 1) := by decide +kernel
theorem dX11_read_10 : decode cX11_read 10 = .ok (.iload_n 3, 1) := by decide +kernel
theorem dX11_read_11 : decode cX11_read 11 = .ok (.ifCond .eq 10, 3) := by decide +kernel
theorem dX11_read_14 : decode cX11_read 14 = .ok (.aload_n 0, 1) := by decide +kernel
theorem dX11_read_15 : decode cX11_read 15 = .ok (.iload_n 3, 1) := by decide +kernel
theorem dX11_read_16 : decode cX11_read 16 = .ok (.invokevirtual 91, 3) := by decide +kernel
theorem dX11_read_19 : decode cX11_read 19 = .ok (.i2l, 1) := by decide +kernel
theorem dX11_read_20 : decode cX11_read 20 = .ok (.lreturn, 1) := by decide +kernel
theorem dX11_read_21 : decode cX11_read 21 = .ok (.aload_n 0, 1) := by decide +kernel
theorem dX11_read_22 : decode cX11_read 22 = .ok (.iconst 0, 1) := by decide +kernel
theorem dX11_read_23 : decode cX11_read 23 = .ok (.invokevirtual 102, 3) := by decide +kernel
theorem dX11_read_26 : decode cX11_read 26 = .ok (.pop, 1) := by decide +kernel
theorem dX11_read_27 : decode cX11_read 27 = .ok (.aload_n 0, 1) := by decide +kernel
theorem dX11_read_28 : decode cX11_read 28 = .ok (.getfield 12, 3) := by decide +kernel
theorem dX11_read_31 : decode cX11_read 31 = .ok (.getfield 148, 3) := by decide +kernel
theorem dX11_read_34 : decode cX11_read 34 = .ok (.iload_n 1, 1) := by decide +kernel
theorem dX11_read_35 : decode cX11_read 35 = .ok (.aaload, 1) := by decide +kernel
theorem dX11_read_36 : decode cX11_read 36 = .ok (.iload_n 2, 1) := by decide +kernel
theorem dX11_read_37 : decode cX11_read 37 = .ok (.laload, 1) := by decide +kernel
theorem dX11_read_38 : decode cX11_read 38 = .ok (.lreturn, 1) := by decide +kernel
set_option maxRecDepth 100000 in
theorem t_X11_read (x0 x1 x2 : Int) (M : Mem) (h0 : x0 ≠ 0) : MtI yX11_read cX11_read 4 (some .long) 3 0 0 [(29, x0), (0, x1), (0, x2)] M 1 (f_X11_read x0 x1 x2 M) := by
  refine mk_I (by decide +kernel) (Nat.le_of_ble_eq_true rfl) (fun E C r0 M0 hC hq hin => ?_)
  refine r_eqls (ls' := [(0, 29, x0), (1, 0, x1), (2, 0, x2)]) rfl ?_
  unfold f_X11_read
  refine r_aload_n 0 hC 0 rfl (Or.inl (by decide)) rfl dX11_read_0 ?_
  refine r_get 1 hC fd_9_0 fl_X11_12 dX11_read_1 (fun v1 => ?_)
  refine r_iload_n 4 hC 1 rfl rfl dX11_read_4 ?_
  refine r_iload_n 5 hC 2 rfl rfl dX11_read_5 ?_
  refine r_nn (fun hn2 => ?_)
  refine r_callVP 6 hC [(0, x1), (0, x2)] [] rfl vl_X11_140 rfl hn2 (by decide) (Nat.le_of_ble_eq_true rfl) (by decide) (by decide) dX11_read_6 (t_X7_whyNoPlace v1 x1 x2 M hn2) (fun v3 => ?_)
  refine r_istore_n 9 hC rfl (by decide) dX11_read_9 (r_eqls (ls' := [(3, 0, v3), (0, 29, x0), (1, 0, x1), (2, 0, x2)]) rfl ?_)
  refine r_iload_n 10 hC 0 rfl rfl dX11_read_10 ?_
  refine r_if_eq 11 hC (tgt := 21) (by decide) dX11_read_11 ?_ ?_
  · refine r_aload_n 21 hC 1 rfl (Or.inl (by decide)) rfl dX11_read_21 ?_
    refine r_iconst 22 hC (r32c rfl) dX11_read_22 ?_
    refine r_callVI 23 hC [(0, 0)] [] rfl vl_X11_102 rfl h0 (by decide) (Nat.le_of_ble_eq_true rfl) (by decide) (by decide) dX11_read_23 (t_X11_settle x0 0 M h0) (fun v4 M5 => ?_)
    refine r_pop 26 hC (by decide) dX11_read_26 ?_
    refine r_aload_n 27 hC 1 rfl (Or.inl (by decide)) rfl dX11_read_27 ?_
    refine r_get 28 hC fd_9_0 fl_X11_12 dX11_read_28 (fun v6 => ?_)
    refine r_get 31 hC fd_6_0 fl_X11_148 dX11_read_31 (fun v7 => ?_)
    refine r_iload_n 34 hC 2 rfl rfl dX11_read_34 ?_
    refine r_aaloadL 35 hC dX11_read_35 (fun v8 => ?_)
    refine r_iload_n 36 hC 3 rfl rfl dX11_read_36 ?_
    refine r_laload 37 hC dX11_read_37 (fun v9 => ?_)
    exact r_lreturn 38 hC hq (by decide) (by decide) dX11_read_38
  · refine r_aload_n 14 hC 1 rfl (Or.inl (by decide)) rfl dX11_read_14 ?_
    refine r_iload_n 15 hC 0 rfl rfl dX11_read_15 ?_
    refine r_callVI 16 hC [(0, v3)] [] rfl vl_X11_91 rfl h0 (by decide) (Nat.le_of_ble_eq_true rfl) (by decide) (by decide) dX11_read_16 (t_X11_refuse x0 v3 M h0) (fun v10 M11 => ?_)
    refine r_i2l 19 hC dX11_read_19 ?_
    exact r_lreturn 20 hC hq (by decide) (by decide) dX11_read_20

/-! WaterTurns.pour(IIIII)Z -/
theorem dX11_pour_0 : decode cX11_pour 0 = .ok (.iload_n 1, 1) := by decide +kernel
theorem dX11_pour_1 : decode cX11_pour 1 = .ok (.invokestatic 129, 3) := by decide +kernel
theorem dX11_pour_4 : decode cX11_pour 4 = .ok (.ifCond .eq 24, 3) := by decide +kernel
theorem dX11_pour_7 : decode cX11_pour 7 = .ok (.iload_n 3, 1) := by decide +kernel
theorem dX11_pour_8 : decode cX11_pour 8 = .ok (.invokestatic 129, 3) := by decide +kernel
theorem dX11_pour_11 : decode cX11_pour 11 = .ok (.ifCond .eq 17, 3) := by decide +kernel
theorem dX11_pour_14 : decode cX11_pour 14 = .ok (.iload_n 2, 1) := by decide +kernel
theorem dX11_pour_15 : decode cX11_pour 15 = .ok (.ifCond .lt 13, 3) := by decide +kernel
theorem dX11_pour_18 : decode cX11_pour 18 = .ok (.iload 4, 2) := by decide +kernel
theorem dX11_pour_20 : decode cX11_pour 20 = .ok (.ifCond .lt 8, 3) := by decide +kernel
theorem dX11_pour_23 : decode cX11_pour 23 = .ok (.iload 5, 2) := by decide +kernel
theorem dX11_pour_25 : decode cX11_pour 25 = .ok (.ifCond .ge 9, 3) := by decide +kernel
theorem dX11_pour_28 : decode cX11_pour 28 = .ok (.aload_n 0, 1) := by decide +kernel
theorem dX11_pour_29 : decode cX11_pour 29 = .ok (.iconst 1, 1) := by decide +kernel
theorem dX11_pour_30 : decode cX11_pour 30 = .ok (.invokevirtual 102, 3) := by decide +kernel
theorem dX11_pour_33 : decode cX11_pour 33 = .ok (.ireturn, 1) := by decide +kernel
theorem dX11_pour_34 : decode cX11_pour 34 = .ok (.aload_n 0, 1) := by decide +kernel
theorem dX11_pour_35 : decode cX11_pour 35 = .ok (.getfield 12, 3) := by decide +kernel
theorem dX11_pour_38 : decode cX11_pour 38 = .ok (.iload_n 1, 1) := by decide +kernel
theorem dX11_pour_39 : decode cX11_pour 39 = .ok (.invokevirtual 152, 3) := by decide +kernel
theorem dX11_pour_42 : decode cX11_pour 42 = .ok (.ifCond .ne 14, 3) := by decide +kernel
theorem dX11_pour_45 : decode cX11_pour 45 = .ok (.aload_n 0, 1) := by decide +kernel
theorem dX11_pour_46 : decode cX11_pour 46 = .ok (.getfield 12, 3) := by decide +kernel
theorem dX11_pour_49 : decode cX11_pour 49 = .ok (.iload_n 3, 1) := by decide +kernel
theorem dX11_pour_50 : decode cX11_pour 50 = .ok (.invokevirtual 152, 3) := by decide +kernel
theorem dX11_pour_53 : decode cX11_pour 53 = .ok (.ifCond .eq 9, 3) := by decide +kernel
theorem dX11_pour_56 : decode cX11_pour 56 = .ok (.aload_n 0, 1) := by decide +kernel
theorem dX11_pour_57 : decode cX11_pour 57 = .ok (.iconst 2, 1) := by decide +kernel
theorem dX11_pour_58 : decode cX11_pour 58 = .ok (.invokevirtual 102, 3) := by decide +kernel
theorem dX11_pour_61 : decode cX11_pour 61 = .ok (.ireturn, 1) := by decide +kernel
theorem dX11_pour_62 : decode cX11_pour 62 = .ok (.aload_n 0, 1) := by decide +kernel
theorem dX11_pour_63 : decode cX11_pour 63 = .ok (.getfield 12, 3) := by decide +kernel
theorem dX11_pour_66 : decode cX11_pour 66 = .ok (.getfield 155, 3) := by decide +kernel
theorem dX11_pour_69 : decode cX11_pour 69 = .ok (.iload_n 1, 1) := by decide +kernel
theorem dX11_pour_70 : decode cX11_pour 70 = .ok (.iaload, 1) := by decide +kernel
theorem dX11_pour_71 : decode cX11_pour 71 = .ok (.aload_n 0, 1) := by decide +kernel
theorem dX11_pour_72 : decode cX11_pour 72 = .ok (.getfield 12, 3) := by decide +kernel
theorem dX11_pour_75 : decode cX11_pour 75 = .ok (.getfield 155, 3) := by decide +kernel
theorem dX11_pour_78 : decode cX11_pour 78 = .ok (.iload_n 3, 1) := by decide +kernel
theorem dX11_pour_79 : decode cX11_pour 79 = .ok (.iaload, 1) := by decide +kernel
theorem dX11_pour_80 : decode cX11_pour 80 = .ok (.if_icmp .eq 10, 3) := by decide +kernel
theorem dX11_pour_83 : decode cX11_pour 83 = .ok (.aload_n 0, 1) := by decide +kernel
theorem dX11_pour_84 : decode cX11_pour 84 = .ok (.bipush 8, 2) := by decide +kernel
theorem dX11_pour_86 : decode cX11_pour 86 = .ok (.invokevirtual 102, 3) := by decide +kernel
theorem dX11_pour_89 : decode cX11_pour 89 = .ok (.ireturn, 1) := by decide +kernel
theorem dX11_pour_90 : decode cX11_pour 90 = .ok (.aload_n 0, 1) := by decide +kernel
theorem dX11_pour_91 : decode cX11_pour 91 = .ok (.getfield 12, 3) := by decide +kernel
theorem dX11_pour_94 : decode cX11_pour 94 = .ok (.iload_n 1, 1) := by decide +kernel
theorem dX11_pour_95 : decode cX11_pour 95 = .ok (.iload_n 2, 1) := by decide +kernel
theorem dX11_pour_96 : decode cX11_pour 96 = .ok (.iload 5, 2) := by decide +kernel
theorem dX11_pour_98 : decode cX11_pour 98 = .ok (.invokevirtual 158, 3) := by decide +kernel
theorem dX11_pour_101 : decode cX11_pour 101 = .ok (.ifCond .eq 18, 3) := by decide +kernel
theorem dX11_pour_104 : decode cX11_pour 104 = .ok (.aload_n 0, 1) := by decide +kernel
theorem dX11_pour_105 : decode cX11_pour 105 = .ok (.getfield 12, 3) := by decide +kernel
theorem dX11_pour_108 : decode cX11_pour 108 = .ok (.iload_n 3, 1) := by decide +kernel
theorem dX11_pour_109 : decode cX11_pour 109 = .ok (.iload 4, 2) := by decide +kernel
theorem dX11_pour_111 : decode cX11_pour 111 = .ok (.iload 5, 2) := by decide +kernel
theorem dX11_pour_113 : decode cX11_pour 113 = .ok (.invokevirtual 158, 3) := by decide +kernel
theorem dX11_pour_116 : decode cX11_pour 116 = .ok (.ifCond .ne 9, 3) := by decide +kernel
theorem dX11_pour_119 : decode cX11_pour 119 = .ok (.aload_n 0, 1) := by decide +kernel
theorem dX11_pour_120 : decode cX11_pour 120 = .ok (.iconst 3, 1) := by decide +kernel
theorem dX11_pour_121 : decode cX11_pour 121 = .ok (.invokevirtual 102, 3) := by decide +kernel
theorem dX11_pour_124 : decode cX11_pour 124 = .ok (.ireturn, 1) := by decide +kernel
theorem dX11_pour_125 : decode cX11_pour 125 = .ok (.aload_n 0, 1) := by decide +kernel
theorem dX11_pour_126 : decode cX11_pour 126 = .ok (.getfield 12, 3) := by decide +kernel
theorem dX11_pour_129 : decode cX11_pour 129 = .ok (.getfield 148, 3) := by decide +kernel
theorem dX11_pour_132 : decode cX11_pour 132 = .ok (.iload_n 1, 1) := by decide +kernel
theorem dX11_pour_133 : decode cX11_pour 133 = .ok (.aaload, 1) := by decide +kernel
theorem dX11_pour_134 : decode cX11_pour 134 = .ok (.iload_n 2, 1) := by decide +kernel
theorem dX11_pour_135 : decode cX11_pour 135 = .ok (.aload_n 0, 1) := by decide +kernel
theorem dX11_pour_136 : decode cX11_pour 136 = .ok (.getfield 12, 3) := by decide +kernel
theorem dX11_pour_139 : decode cX11_pour 139 = .ok (.getfield 148, 3) := by decide +kernel
theorem dX11_pour_142 : decode cX11_pour 142 = .ok (.iload_n 3, 1) := by decide +kernel
theorem dX11_pour_143 : decode cX11_pour 143 = .ok (.aaload, 1) := by decide +kernel
theorem dX11_pour_144 : decode cX11_pour 144 = .ok (.iload 4, 2) := by decide +kernel
theorem dX11_pour_146 : decode cX11_pour 146 = .ok (.iload 5, 2) := by decide +kernel
theorem dX11_pour_148 : decode cX11_pour 148 = .ok (.invokestatic 161, 3) := by decide +kernel
theorem dX11_pour_151 : decode cX11_pour 151 = .ok (.aload_n 0, 1) := by decide +kernel
theorem dX11_pour_152 : decode cX11_pour 152 = .ok (.iconst 0, 1) := by decide +kernel
theorem dX11_pour_153 : decode cX11_pour 153 = .ok (.invokevirtual 102, 3) := by decide +kernel
theorem dX11_pour_156 : decode cX11_pour 156 = .ok (.ireturn, 1) := by decide +kernel
set_option maxRecDepth 100000 in
theorem t_X11_pour (x0 x1 x2 x3 x4 x5 : Int) (M : Mem) (h0 : x0 ≠ 0) : MtI yX11_pour cX11_pour 6 (some .boolean) 2 0 0 [(29, x0), (0, x1), (0, x2), (0, x3), (0, x4), (0, x5)] M 0 (f_X11_pour x0 x1 x2 x3 x4 x5 M) := by
  refine mk_I (by decide +kernel) (Nat.le_of_ble_eq_true rfl) (fun E C r0 M0 hC hq hin => ?_)
  refine r_eqls (ls' := [(0, 29, x0), (1, 0, x1), (2, 0, x2), (3, 0, x3), (4, 0, x4), (5, 0, x5)]) rfl ?_
  unfold f_X11_pour
  refine r_iload_n 0 hC 1 rfl rfl dX11_pour_0 ?_
  refine r_callSP 1 hC [(0, x1)] [] rfl sl_X11_129 rfl (by decide) (Nat.le_of_ble_eq_true rfl) (by decide) (by decide) dX11_pour_1 (t_X7_isTray x1 M) (fun v1 => ?_)
  refine r_jn (P := fun j28 => Bk E C 6 M (r0, M0) 28 [(0, 29, x0)] [] M 0 0 (j28)) ?_ (fun j28 hj28 => ?_)
  · refine r_aload_n 28 hC 0 rfl (Or.inl (by decide)) rfl dX11_pour_28 ?_
    refine r_iconst 29 hC (r32c rfl) dX11_pour_29 ?_
    refine r_callVI 30 hC [(0, 1)] [] rfl vl_X11_102 rfl h0 (by decide) (Nat.le_of_ble_eq_true rfl) (by decide) (by decide) dX11_pour_30 (t_X11_settle x0 1 M h0) (fun v2 M3 => ?_)
    exact r_zreturn 33 hC hq (by decide) (by decide) dX11_pour_33
  refine r_if_eq 4 hC (tgt := 28) (by decide) dX11_pour_4 ?_ ?_
  · exact r_sub [0] rfl (hj28)
  · refine r_iload_n 7 hC 3 rfl rfl dX11_pour_7 ?_
    refine r_callSP 8 hC [(0, x3)] [] rfl sl_X11_129 rfl (by decide) (Nat.le_of_ble_eq_true rfl) (by decide) (by decide) dX11_pour_8 (t_X7_isTray x3 M) (fun v4 => ?_)
    refine r_if_eq 11 hC (tgt := 28) (by decide) dX11_pour_11 ?_ ?_
    · exact r_sub [0] rfl (hj28)
    · refine r_iload_n 14 hC 2 rfl rfl dX11_pour_14 ?_
      refine r_if_lt 15 hC (tgt := 28) (by decide) dX11_pour_15 ?_ ?_
      · exact r_sub [0] rfl (hj28)
      · refine r_iload 18 hC 4 rfl dX11_pour_18 ?_
        refine r_if_lt 20 hC (tgt := 28) (by decide) dX11_pour_20 ?_ ?_
        · exact r_sub [0] rfl (hj28)
        · refine r_iload 23 hC 5 rfl dX11_pour_23 ?_
          refine r_if_ge 25 hC (tgt := 34) (by decide) dX11_pour_25 ?_ ?_
          · refine r_aload_n 34 hC 0 rfl (Or.inl (by decide)) rfl dX11_pour_34 ?_
            refine r_get 35 hC fd_9_0 fl_X11_12 dX11_pour_35 (fun v5 => ?_)
            refine r_iload_n 38 hC 1 rfl rfl dX11_pour_38 ?_
            refine r_nn (fun hn6 => ?_)
            refine r_callVP 39 hC [(0, x1)] [] rfl vl_X11_152 rfl hn6 (by decide) (Nat.le_of_ble_eq_true rfl) (by decide) (by decide) dX11_pour_39 (t_X7_isMissing v5 x1 M hn6) (fun v7 => ?_)
            refine r_jn (P := fun j56 => Bk E C 6 M (r0, M0) 56 [(0, 29, x0)] [] M 0 0 (j56)) ?_ (fun j56 hj56 => ?_)
            · refine r_aload_n 56 hC 0 rfl (Or.inl (by decide)) rfl dX11_pour_56 ?_
              refine r_iconst 57 hC (r32c rfl) dX11_pour_57 ?_
              refine r_callVI 58 hC [(0, 2)] [] rfl vl_X11_102 rfl h0 (by decide) (Nat.le_of_ble_eq_true rfl) (by decide) (by decide) dX11_pour_58 (t_X11_settle x0 2 M h0) (fun v8 M9 => ?_)
              exact r_zreturn 61 hC hq (by decide) (by decide) dX11_pour_61
            refine r_if_ne 42 hC (tgt := 56) (by decide) dX11_pour_42 ?_ ?_
            · exact r_sub [0] rfl (hj56)
            · refine r_aload_n 45 hC 0 rfl (Or.inl (by decide)) rfl dX11_pour_45 ?_
              refine r_get 46 hC fd_9_0 fl_X11_12 dX11_pour_46 (fun v10 => ?_)
              refine r_iload_n 49 hC 3 rfl rfl dX11_pour_49 ?_
              refine r_nn (fun hn11 => ?_)
              refine r_callVP 50 hC [(0, x3)] [] rfl vl_X11_152 rfl hn11 (by decide) (Nat.le_of_ble_eq_true rfl) (by decide) (by decide) dX11_pour_50 (t_X7_isMissing v10 x3 M hn11) (fun v12 => ?_)
              refine r_if_eq 53 hC (tgt := 62) (by decide) dX11_pour_53 ?_ ?_
              · refine r_aload_n 62 hC 0 rfl (Or.inl (by decide)) rfl dX11_pour_62 ?_
                refine r_get 63 hC fd_9_0 fl_X11_12 dX11_pour_63 (fun v13 => ?_)
                refine r_get 66 hC fd_6_1 fl_X11_155 dX11_pour_66 (fun v14 => ?_)
                refine r_iload_n 69 hC 1 rfl rfl dX11_pour_69 ?_
                refine r_iaload 70 hC dX11_pour_70 (fun v15 => ?_)
                refine r_aload_n 71 hC 0 rfl (Or.inl (by decide)) rfl dX11_pour_71 ?_
                refine r_get 72 hC fd_9_0 fl_X11_12 dX11_pour_72 (fun v16 => ?_)
                refine r_get 75 hC fd_6_1 fl_X11_155 dX11_pour_75 (fun v17 => ?_)
                refine r_iload_n 78 hC 3 rfl rfl dX11_pour_78 ?_
                refine r_iaload 79 hC dX11_pour_79 (fun v18 => ?_)
                refine r_icmp_eq 80 hC (tgt := 90) (by decide) dX11_pour_80 ?_ ?_
                · refine r_aload_n 90 hC 0 rfl (Or.inl (by decide)) rfl dX11_pour_90 ?_
                  refine r_get 91 hC fd_9_0 fl_X11_12 dX11_pour_91 (fun v19 => ?_)
                  refine r_iload_n 94 hC 1 rfl rfl dX11_pour_94 ?_
                  refine r_iload_n 95 hC 2 rfl rfl dX11_pour_95 ?_
                  refine r_iload 96 hC 5 rfl dX11_pour_96 ?_
                  refine r_nn (fun hn20 => ?_)
                  refine r_callVP 98 hC [(0, x1), (0, x2), (0, x5)] [] rfl vl_X11_158 rfl hn20 (by decide) (Nat.le_of_ble_eq_true rfl) (by decide) (by decide) dX11_pour_98 (t_X7_holds v19 x1 x2 x5 M hn20) (fun v21 => ?_)
                  refine r_jn (P := fun j119 => Bk E C 6 M (r0, M0) 119 [(0, 29, x0)] [] M 0 0 (j119)) ?_ (fun j119 hj119 => ?_)
                  · refine r_aload_n 119 hC 0 rfl (Or.inl (by decide)) rfl dX11_pour_119 ?_
                    refine r_iconst 120 hC (r32c rfl) dX11_pour_120 ?_
                    refine r_callVI 121 hC [(0, 3)] [] rfl vl_X11_102 rfl h0 (by decide) (Nat.le_of_ble_eq_true rfl) (by decide) (by decide) dX11_pour_121 (t_X11_settle x0 3 M h0) (fun v22 M23 => ?_)
                    exact r_zreturn 124 hC hq (by decide) (by decide) dX11_pour_124
                  refine r_if_eq 101 hC (tgt := 119) (by decide) dX11_pour_101 ?_ ?_
                  · exact r_sub [0] rfl (hj119)
                  · refine r_aload_n 104 hC 0 rfl (Or.inl (by decide)) rfl dX11_pour_104 ?_
                    refine r_get 105 hC fd_9_0 fl_X11_12 dX11_pour_105 (fun v24 => ?_)
                    refine r_iload_n 108 hC 3 rfl rfl dX11_pour_108 ?_
                    refine r_iload 109 hC 4 rfl dX11_pour_109 ?_
                    refine r_iload 111 hC 5 rfl dX11_pour_111 ?_
                    refine r_nn (fun hn25 => ?_)
                    refine r_callVP 113 hC [(0, x3), (0, x4), (0, x5)] [] rfl vl_X11_158 rfl hn25 (by decide) (Nat.le_of_ble_eq_true rfl) (by decide) (by decide) dX11_pour_113 (t_X7_holds v24 x3 x4 x5 M hn25) (fun v26 => ?_)
                    refine r_if_ne 116 hC (tgt := 125) (by decide) dX11_pour_116 ?_ ?_
                    · refine r_aload_n 125 hC 0 rfl (Or.inl (by decide)) rfl dX11_pour_125 ?_
                      refine r_get 126 hC fd_9_0 fl_X11_12 dX11_pour_126 (fun v27 => ?_)
                      refine r_get 129 hC fd_6_0 fl_X11_148 dX11_pour_129 (fun v28 => ?_)
                      refine r_iload_n 132 hC 1 rfl rfl dX11_pour_132 ?_
                      refine r_aaloadL 133 hC dX11_pour_133 (fun v29 => ?_)
                      refine r_iload_n 134 hC 2 rfl rfl dX11_pour_134 ?_
                      refine r_aload_n 135 hC 0 rfl (Or.inl (by decide)) rfl dX11_pour_135 ?_
                      refine r_get 136 hC fd_9_0 fl_X11_12 dX11_pour_136 (fun v30 => ?_)
                      refine r_get 139 hC fd_6_0 fl_X11_148 dX11_pour_139 (fun v31 => ?_)
                      refine r_iload_n 142 hC 3 rfl rfl dX11_pour_142 ?_
                      refine r_aaloadL 143 hC dX11_pour_143 (fun v32 => ?_)
                      refine r_iload 144 hC 4 rfl dX11_pour_144 ?_
                      refine r_iload 146 hC 5 rfl dX11_pour_146 ?_
                      refine r_copy 148 hC (by decide) ac_X11_161 cp_n cp_s cp_i (by decide) (Nat.le_of_ble_eq_true rfl) dX11_pour_148 (fun M33 => ?_)
                      refine r_aload_n 151 hC 0 rfl (Or.inl (by decide)) rfl dX11_pour_151 ?_
                      refine r_iconst 152 hC (r32c rfl) dX11_pour_152 ?_
                      refine r_callVI 153 hC [(0, 0)] [] rfl vl_X11_102 rfl h0 (by decide) (Nat.le_of_ble_eq_true rfl) (by decide) (by decide) dX11_pour_153 (t_X11_settle x0 0 M33 h0) (fun v34 M35 => ?_)
                      exact r_zreturn 156 hC hq (by decide) (by decide) dX11_pour_156
                    · exact r_sub [0] rfl (hj119)
                · refine r_aload_n 83 hC 0 rfl (Or.inl (by decide)) rfl dX11_pour_83 ?_
                  refine r_bipush 84 hC kb_8 dX11_pour_84 ?_
                  refine r_callVI 86 hC [(0, 8)] [] rfl vl_X11_102 rfl h0 (by decide) (Nat.le_of_ble_eq_true rfl) (by decide) (by decide) dX11_pour_86 (t_X11_settle x0 8 M h0) (fun v36 M37 => ?_)
                  exact r_zreturn 89 hC hq (by decide) (by decide) dX11_pour_89
              · exact r_sub [0] rfl (hj56)
          · exact r_sub [0] rfl (hj28)

/-! WaterTurns.feed(IIIII)I -/
theorem dX11_feed_0 : decode cX11_feed 0 = .ok (.aload_n 0, 1) := by decide +kernel
theorem dX11_feed_1 : decode cX11_feed 1 = .ok (.getfield 19, 3) := by decide +kernel
theorem dX11_feed_4 : decode cX11_feed 4 = .ok (.bipush 20, 2) := by decide +kernel
theorem dX11_feed_6 : decode cX11_feed 6 = .ok (.invokevirtual 167, 3) := by decide +kernel
theorem dX11_feed_9 : decode cX11_feed 9 = .ok (.ifCond .eq 20, 3) := by decide +kernel
theorem dX11_feed_12 : decode cX11_feed 12 = .ok (.aload_n 0, 1) := by decide +kernel
theorem dX11_feed_13 : decode cX11_feed 13 = .ok (.getfield 19, 3) := by decide +kernel
theorem dX11_feed_16 : decode cX11_feed 16 = .ok (.iload_n 1, 1) := by decide +kernel
theorem dX11_feed_17 : decode cX11_feed 17 = .ok (.iload_n 2, 1) := by decide +kernel
theorem dX11_feed_18 : decode cX11_feed 18 = .ok (.iload_n 3, 1) := by decide +kernel
theorem dX11_feed_19 : decode cX11_feed 19 = .ok (.iload 4, 2) := by decide +kernel
theorem dX11_feed_21 : decode cX11_feed 21 = .ok (.iload 5, 2) := by decide +kernel
theorem dX11_feed_23 : decode cX11_feed 23 = .ok (.invokevirtual 170, 3) := by decide +kernel
theorem dX11_feed_26 : decode cX11_feed 26 = .ok (.goto 4, 3) := by decide +kernel
theorem dX11_feed_29 : decode cX11_feed 29 = .ok (.iconst (-1), 1) := by decide +kernel
theorem dX11_feed_30 : decode cX11_feed 30 = .ok (.ireturn, 1) := by decide +kernel
set_option maxRecDepth 100000 in
theorem t_X11_feed (x0 x1 x2 x3 x4 x5 : Int) (M : Mem) (h0 : x0 ≠ 0) : MtI yX11_feed cX11_feed 6 (some .int) 3 0 0 [(29, x0), (0, x1), (0, x2), (0, x3), (0, x4), (0, x5)] M 0 (f_X11_feed x0 x1 x2 x3 x4 x5 M) := by
  refine mk_I (by decide +kernel) (Nat.le_of_ble_eq_true rfl) (fun E C r0 M0 hC hq hin => ?_)
  refine r_eqls (ls' := [(0, 29, x0), (1, 0, x1), (2, 0, x2), (3, 0, x3), (4, 0, x4), (5, 0, x5)]) rfl ?_
  unfold f_X11_feed
  refine r_aload_n 0 hC 0 rfl (Or.inl (by decide)) rfl dX11_feed_0 ?_
  refine r_get 1 hC fd_9_1 fl_X11_19 dX11_feed_1 (fun v1 => ?_)
  refine r_bipush 4 hC kb_20 dX11_feed_4 ?_
  refine r_nn (fun hn2 => ?_)
  refine r_callVP 6 hC [(0, 20)] [] rfl vl_X11_167 rfl hn2 (by decide) (Nat.le_of_ble_eq_true rfl) (by decide) (by decide) dX11_feed_6 (t_X6_hasRoom v1 20 M hn2) (fun v3 => ?_)
  refine r_jn (P := fun j30 => ∀ (q4 : Int) (M5 : Mem), Bk E C 6 M (r0, M0) 30 [] [(0, q4)] M5 0 0 (j30 q4 M5)) ?_ (fun j30 hj30 => ?_)
  · intro q4 M5
    exact r_ireturn 30 hC hq (by decide) (by decide) dX11_feed_30
  refine r_if_eq 9 hC (tgt := 29) (by decide) dX11_feed_9 ?_ ?_
  · refine r_iconst 29 hC (r32c rfl) dX11_feed_29 ?_
    exact r_sub [] rfl (hj30 (-1) M)
  · refine r_aload_n 12 hC 0 rfl (Or.inl (by decide)) rfl dX11_feed_12 ?_
    refine r_get 13 hC fd_9_1 fl_X11_19 dX11_feed_13 (fun v6 => ?_)
    refine r_iload_n 16 hC 1 rfl rfl dX11_feed_16 ?_
    refine r_iload_n 17 hC 2 rfl rfl dX11_feed_17 ?_
    refine r_iload_n 18 hC 3 rfl rfl dX11_feed_18 ?_
    refine r_iload 19 hC 4 rfl dX11_feed_19 ?_
    refine r_iload 21 hC 5 rfl dX11_feed_21 ?_
    refine r_nn (fun hn7 => ?_)
    refine r_callVI 23 hC [(0, x1), (0, x2), (0, x3), (0, x4), (0, x5)] [] rfl vl_X11_170 rfl hn7 (by decide) (Nat.le_of_ble_eq_true rfl) (by decide) (by decide) dX11_feed_23 (t_X6_add v6 x1 x2 x3 x4 x5 M hn7) (fun v8 M9 => ?_)
    refine r_goto 26 hC (tgt := 30) (by decide) dX11_feed_26 ?_
    exact r_sub [] rfl (hj30 v8 M9)

/-! WaterTurns.valley(I)I -/
theorem dX11_valley_0 : decode cX11_valley 0 = .ok (.iload_n 1, 1) := by decide +kernel
theorem dX11_valley_1 : decode cX11_valley 1 = .ok (.iconst 0, 1) := by decide +kernel
theorem dX11_valley_2 : decode cX11_valley 2 = .ok (.aload_n 0, 1) := by decide +kernel
theorem dX11_valley_3 : decode cX11_valley 3 = .ok (.getfield 19, 3) := by decide +kernel
theorem dX11_valley_6 : decode cX11_valley 6 = .ok (.getfield 174, 3) := by decide +kernel
theorem dX11_valley_9 : decode cX11_valley 9 = .ok (.invokestatic 132, 3) := by decide +kernel
theorem dX11_valley_12 : decode cX11_valley 12 = .ok (.ifCond .ne 9, 3) := by decide +kernel
theorem dX11_valley_15 : decode cX11_valley 15 = .ok (.aload_n 0, 1) := by decide +kernel
theorem dX11_valley_16 : decode cX11_valley 16 = .ok (.iconst 1, 1) := by decide +kernel
theorem dX11_valley_17 : decode cX11_valley 17 = .ok (.invokevirtual 91, 3) := by decide +kernel
theorem dX11_valley_20 : decode cX11_valley 20 = .ok (.ireturn, 1) := by decide +kernel
theorem dX11_valley_21 : decode cX11_valley 21 = .ok (.aload_n 0, 1) := by decide +kernel
theorem dX11_valley_22 : decode cX11_valley 22 = .ok (.getfield 19, 3) := by decide +kernel
theorem dX11_valley_25 : decode cX11_valley 25 = .ok (.iload_n 1, 1) := by decide +kernel
theorem dX11_valley_26 : decode cX11_valley 26 = .ok (.aload_n 0, 1) := by decide +kernel
theorem dX11_valley_27 : decode cX11_valley 27 = .ok (.getfield 62, 3) := by decide +kernel
theorem dX11_valley_30 : decode cX11_valley 30 = .ok (.invokestatic 177, 3) := by decide +kernel
theorem dX11_valley_33 : decode cX11_valley 33 = .ok (.istore_n 2, 1) := by decide +kernel
theorem dX11_valley_34 : decode cX11_valley 34 = .ok (.aload_n 0, 1) := by decide +kernel
theorem dX11_valley_35 : decode cX11_valley 35 = .ok (.getfield 19, 3) := by decide +kernel
theorem dX11_valley_38 : decode cX11_valley 38 = .ok (.iconst 0, 1) := by decide +kernel
theorem dX11_valley_39 : decode cX11_valley 39 = .ok (.putfield 174, 3) := by decide +kernel
theorem dX11_valley_42 : decode cX11_valley 42 = .ok (.iload_n 2, 1) := by decide +kernel
theorem dX11_valley_43 : decode cX11_valley 43 = .ok (.ifCond .ne 10, 3) := by decide +kernel
theorem dX11_valley_46 : decode cX11_valley 46 = .ok (.aload_n 0, 1) := by decide +kernel
theorem dX11_valley_47 : decode cX11_valley 47 = .ok (.bipush 9, 2) := by decide +kernel
theorem dX11_valley_49 : decode cX11_valley 49 = .ok (.invokevirtual 91, 3) := by decide +kernel
theorem dX11_valley_52 : decode cX11_valley 52 = .ok (.ireturn, 1) := by decide +kernel
theorem dX11_valley_53 : decode cX11_valley 53 = .ok (.aload_n 0, 1) := by decide +kernel
theorem dX11_valley_54 : decode cX11_valley 54 = .ok (.getfield 26, 3) := by decide +kernel
theorem dX11_valley_57 : decode cX11_valley 57 = .ok (.getfield 111, 3) := by decide +kernel
theorem dX11_valley_60 : decode cX11_valley 60 = .ok (.astore_n 3, 1) := by decide +kernel
theorem dX11_valley_61 : decode cX11_valley 61 = .ok (.aload_n 0, 1) := by decide +kernel
theorem dX11_valley_62 : decode cX11_valley 62 = .ok (.getfield 26, 3) := by decide +kernel
theorem dX11_valley_65 : decode cX11_valley 65 = .ok (.aload_n 0, 1) := by decide +kernel
theorem dX11_valley_66 : decode cX11_valley 66 = .ok (.getfield 62, 3) := by decide +kernel
theorem dX11_valley_69 : decode cX11_valley 69 = .ok (.putfield 111, 3) := by decide +kernel
theorem dX11_valley_72 : decode cX11_valley 72 = .ok (.aload_n 0, 1) := by decide +kernel
theorem dX11_valley_73 : decode cX11_valley 73 = .ok (.aload_n 3, 1) := by decide +kernel
theorem dX11_valley_74 : decode cX11_valley 74 = .ok (.putfield 62, 3) := by decide +kernel
theorem dX11_valley_77 : decode cX11_valley 77 = .ok (.aload_n 0, 1) := by decide +kernel
theorem dX11_valley_78 : decode cX11_valley 78 = .ok (.getfield 26, 3) := by decide +kernel
theorem dX11_valley_81 : decode cX11_valley 81 = .ok (.invokevirtual 183, 3) := by decide +kernel
theorem dX11_valley_84 : decode cX11_valley 84 = .ok (.aload_n 0, 1) := by decide +kernel
theorem dX11_valley_85 : decode cX11_valley 85 = .ok (.aload_n 0, 1) := by decide +kernel
theorem dX11_valley_86 : decode cX11_valley 86 = .ok (.getfield 26, 3) := by decide +kernel
theorem dX11_valley_89 : decode cX11_valley 89 = .ok (.getfield 111, 3) := by decide +kernel
theorem dX11_valley_92 : decode cX11_valley 92 = .ok (.getfield 120, 3) := by decide +kernel
theorem dX11_valley_95 : decode cX11_valley 95 = .ok (.invokevirtual 95, 3) := by decide +kernel
theorem dX11_valley_98 : decode cX11_valley 98 = .ok (.ireturn, 1) := by decide +kernel
set_option maxRecDepth 100000 in
theorem t_X11_valley (x0 x1 : Int) (M : Mem) (h0 : x0 ≠ 0) : MtI yX11_valley cX11_valley 4 (some .int) 14 0 0 [(29, x0), (0, x1)] M 0 (f_X11_valley x0 x1 M) := by
  refine mk_I (by decide +kernel) (Nat.le_of_ble_eq_true rfl) (fun E C r0 M0 hC hq hin => ?_)
  refine r_eqls (ls' := [(0, 29, x0), (1, 0, x1)]) rfl ?_
  unfold f_X11_valley
  refine r_iload_n 0 hC 1 rfl rfl dX11_valley_0 ?_
  refine r_iconst 1 hC (r32c rfl) dX11_valley_1 ?_
  refine r_aload_n 2 hC 0 rfl (Or.inl (by decide)) rfl dX11_valley_2 ?_
  refine r_get 3 hC fd_9_1 fl_X11_19 dX11_valley_3 (fun v1 => ?_)
  refine r_get 6 hC fd_5_6 fl_X11_174 dX11_valley_6 (fun v2 => ?_)
  refine r_callSP 9 hC [(0, x1), (0, 0), (0, v2)] [] rfl sl_X11_132 rfl (by decide) (Nat.le_of_ble_eq_true rfl) (by decide) (by decide) dX11_valley_9 (t_X11_isWithin x1 0 v2 M) (fun v3 => ?_)
  refine r_if_ne 12 hC (tgt := 21) (by decide) dX11_valley_12 ?_ ?_
  · refine r_aload_n 21 hC 0 rfl (Or.inl (by decide)) rfl dX11_valley_21 ?_
    refine r_get 22 hC fd_9_1 fl_X11_19 dX11_valley_22 (fun v4 => ?_)
    refine r_iload_n 25 hC 1 rfl rfl dX11_valley_25 ?_
    refine r_aload_n 26 hC 0 rfl (Or.inl (by decide)) rfl dX11_valley_26 ?_
    refine r_get 27 hC fd_9_8 fl_X11_62 dX11_valley_27 (fun v5 => ?_)
    refine r_callSI 30 hC [(25, v4), (0, x1), (27, v5)] [] rfl sl_X11_177 rfl (by decide) (Nat.le_of_ble_eq_true rfl) (by decide) (by decide) dX11_valley_30 (t_X9_takes v4 x1 v5 M) (fun v6 M7 => ?_)
    refine r_istore_n 33 hC rfl (by decide) dX11_valley_33 (r_eqls (ls' := [(2, 0, v6), (0, 29, x0), (1, 0, x1)]) rfl ?_)
    refine r_aload_n 34 hC 1 rfl (Or.inl (by decide)) rfl dX11_valley_34 ?_
    refine r_get 35 hC fd_9_1 fl_X11_19 dX11_valley_35 (fun v8 => ?_)
    refine r_iconst 38 hC (r32c rfl) dX11_valley_38 ?_
    refine r_put 39 hC fd_5_6 fl_X11_174 dX11_valley_39 (fun M9 => ?_)
    refine r_iload_n 42 hC 0 rfl rfl dX11_valley_42 ?_
    refine r_if_ne 43 hC (tgt := 53) (by decide) dX11_valley_43 ?_ ?_
    · refine r_aload_n 53 hC 1 rfl (Or.inl (by decide)) rfl dX11_valley_53 ?_
      refine r_get 54 hC fd_9_2 fl_X11_26 dX11_valley_54 (fun v10 => ?_)
      refine r_get 57 hC fd_8_0 fl_X11_111 dX11_valley_57 (fun v11 => ?_)
      refine r_astore_n 60 hC rfl (Or.inl (by decide)) (by decide) dX11_valley_60 (r_eqls (ls' := [(3, 27, v11), (2, 0, v6), (0, 29, x0), (1, 0, x1)]) rfl ?_)
      refine r_aload_n 61 hC 2 rfl (Or.inl (by decide)) rfl dX11_valley_61 ?_
      refine r_get 62 hC fd_9_2 fl_X11_26 dX11_valley_62 (fun v12 => ?_)
      refine r_aload_n 65 hC 2 rfl (Or.inl (by decide)) rfl dX11_valley_65 ?_
      refine r_get 66 hC fd_9_8 fl_X11_62 dX11_valley_66 (fun v13 => ?_)
      refine r_put 69 hC fd_8_0 fl_X11_111 dX11_valley_69 (fun M14 => ?_)
      refine r_aload_n 72 hC 2 rfl (Or.inl (by decide)) rfl dX11_valley_72 ?_
      refine r_aload_n 73 hC 0 rfl (Or.inl (by decide)) rfl dX11_valley_73 ?_
      refine r_put 74 hC fd_9_8 fl_X11_62 dX11_valley_74 (fun M15 => ?_)
      refine r_aload_n 77 hC 2 rfl (Or.inl (by decide)) rfl dX11_valley_77 ?_
      refine r_get 78 hC fd_9_2 fl_X11_26 dX11_valley_78 (fun v16 => ?_)
      refine r_nn (fun hn17 => ?_)
      refine r_callVV 81 hC [] [] rfl vl_X11_183 rfl hn17 (by decide) (Nat.le_of_ble_eq_true rfl) (by decide) (by decide) dX11_valley_81 (t_X10_begin v16 M15 hn17) (fun M18 => ?_)
      refine r_aload_n 84 hC 2 rfl (Or.inl (by decide)) rfl dX11_valley_84 ?_
      refine r_aload_n 85 hC 2 rfl (Or.inl (by decide)) rfl dX11_valley_85 ?_
      refine r_get 86 hC fd_9_2 fl_X11_26 dX11_valley_86 (fun v19 => ?_)
      refine r_get 89 hC fd_8_0 fl_X11_111 dX11_valley_89 (fun v20 => ?_)
      refine r_get 92 hC fd_7_5 fl_X11_120 dX11_valley_92 (fun v21 => ?_)
      refine r_callVI 95 hC [(0, v21)] [] rfl vl_X11_95 rfl h0 (by decide) (Nat.le_of_ble_eq_true rfl) (by decide) (by decide) dX11_valley_95 (t_X11_answer x0 v21 M18 h0) (fun v22 M23 => ?_)
      exact r_ireturn 98 hC hq (by decide) (by decide) dX11_valley_98
    · refine r_aload_n 46 hC 1 rfl (Or.inl (by decide)) rfl dX11_valley_46 ?_
      refine r_bipush 47 hC kb_9 dX11_valley_47 ?_
      refine r_callVI 49 hC [(0, 9)] [] rfl vl_X11_91 rfl h0 (by decide) (Nat.le_of_ble_eq_true rfl) (by decide) (by decide) dX11_valley_49 (t_X11_refuse x0 9 M9 h0) (fun v24 M25 => ?_)
      exact r_ireturn 52 hC hq (by decide) (by decide) dX11_valley_52
  · refine r_aload_n 15 hC 0 rfl (Or.inl (by decide)) rfl dX11_valley_15 ?_
    refine r_iconst 16 hC (r32c rfl) dX11_valley_16 ?_
    refine r_callVI 17 hC [(0, 1)] [] rfl vl_X11_91 rfl h0 (by decide) (Nat.le_of_ble_eq_true rfl) (by decide) (by decide) dX11_valley_17 (t_X11_refuse x0 1 M h0) (fun v26 M27 => ?_)
    exact r_ireturn 20 hC hq (by decide) (by decide) dX11_valley_20
