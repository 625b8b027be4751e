/-! WaterTurns$DaysReader.takes(LWaterTurns$Tape;ILWaterTurns$Valley;LWaterTurns$Days;)Z -/
theorem dX1_takes_0 : decode cX1_takes 0 = .ok (.aload_n 3, 1) := by decide +kernel
theorem dX1_takes_1 : decode cX1_takes 1 = .ok (.invokevirtual 9, 3) := by decide +kernel
theorem dX1_takes_4 : decode cX1_takes 4 = .ok (.aload_n 0, 1) := by decide +kernel
theorem dX1_takes_5 : decode cX1_takes 5 = .ok (.iload_n 1, 1) := by decide +kernel
theorem dX1_takes_6 : decode cX1_takes 6 = .ok (.invokevirtual 14, 3) := by decide +kernel
theorem dX1_takes_9 : decode cX1_takes 9 = .ok (.iconst 0, 1) := by decide +kernel
theorem dX1_takes_10 : decode cX1_takes 10 = .ok (.istore 4, 2) := by decide +kernel
theorem dX1_takes_12 : decode cX1_takes 12 = .ok (.iload 4, 2) := by decide +kernel
theorem dX1_takes_14 : decode cX1_takes 14 = .ok (.bipush 60, 2) := by decide +kernel
theorem dX1_takes_16 : decode cX1_takes 16 = .ok (.if_icmp .gt 48, 3) := by decide +kernel
theorem dX1_takes_19 : decode cX1_takes 19 = .ok (.aload_n 0, 1) := by decide +kernel
theorem dX1_takes_20 : decode cX1_takes 20 = .ok (.invokevirtual 20, 3) := by decide +kernel
theorem dX1_takes_23 : decode cX1_takes 23 = .ok (.ifCond .ne 41, 3) := by decide +kernel
theorem dX1_takes_26 : decode cX1_takes 26 = .ok (.aload_n 0, 1) := by decide +kernel
theorem dX1_takes_27 : decode cX1_takes 27 = .ok (.bipush 28, 2) := by decide +kernel
theorem dX1_takes_29 : decode cX1_takes 29 = .ok (.invokevirtual 24, 3) := by decide +kernel
theorem dX1_takes_32 : decode cX1_takes 32 = .ok (.ifCond .eq 11, 3) := by decide +kernel
theorem dX1_takes_35 : decode cX1_takes 35 = .ok (.aload_n 0, 1) := by decide +kernel
theorem dX1_takes_36 : decode cX1_takes 36 = .ok (.aload_n 3, 1) := by decide +kernel
theorem dX1_takes_37 : decode cX1_takes 37 = .ok (.invokestatic 28, 3) := by decide +kernel
theorem dX1_takes_40 : decode cX1_takes 40 = .ok (.goto 9, 3) := by decide +kernel
theorem dX1_takes_43 : decode cX1_takes 43 = .ok (.aload_n 0, 1) := by decide +kernel
theorem dX1_takes_44 : decode cX1_takes 44 = .ok (.aload_n 2, 1) := by decide +kernel
theorem dX1_takes_45 : decode cX1_takes 45 = .ok (.aload_n 3, 1) := by decide +kernel
theorem dX1_takes_46 : decode cX1_takes 46 = .ok (.invokestatic 34, 3) := by decide +kernel
theorem dX1_takes_49 : decode cX1_takes 49 = .ok (.istore 5, 2) := by decide +kernel
theorem dX1_takes_51 : decode cX1_takes 51 = .ok (.iload 5, 2) := by decide +kernel
theorem dX1_takes_53 : decode cX1_takes 53 = .ok (.ifCond .ne 5, 3) := by decide +kernel
theorem dX1_takes_56 : decode cX1_takes 56 = .ok (.iconst 0, 1) := by decide +kernel
theorem dX1_takes_57 : decode cX1_takes 57 = .ok (.ireturn, 1) := by decide +kernel
theorem dX1_takes_58 : decode cX1_takes 58 = .ok (.iinc 4 1, 3) := by decide +kernel
theorem dX1_takes_61 : decode cX1_takes 61 = .ok (.goto (-49), 3) := by decide +kernel
theorem dX1_takes_64 : decode cX1_takes 64 = .ok (.aload_n 3, 1) := by decide +kernel
theorem dX1_takes_65 : decode cX1_takes 65 = .ok (.aload_n 3, 1) := by decide +kernel
theorem dX1_takes_66 : decode cX1_takes 66 = .ok (.invokevirtual 38, 3) := by decide +kernel
theorem dX1_takes_69 : decode cX1_takes 69 = .ok (.iconst (-1), 1) := by decide +kernel
theorem dX1_takes_70 : decode cX1_takes 70 = .ok (.if_icmp .eq 11, 3) := by decide +kernel
theorem dX1_takes_73 : decode cX1_takes 73 = .ok (.aload_n 0, 1) := by decide +kernel
theorem dX1_takes_74 : decode cX1_takes 74 = .ok (.iconst 2, 1) := by decide +kernel
theorem dX1_takes_75 : decode cX1_takes 75 = .ok (.invokevirtual 42, 3) := by decide +kernel
theorem dX1_takes_78 : decode cX1_takes 78 = .ok (.ifCond .eq 7, 3) := by decide +kernel
theorem dX1_takes_81 : decode cX1_takes 81 = .ok (.iconst 1, 1) := by decide +kernel
theorem dX1_takes_82 : decode cX1_takes 82 = .ok (.goto 4, 3) := by decide +kernel
theorem dX1_takes_85 : decode cX1_takes 85 = .ok (.iconst 0, 1) := by decide +kernel
theorem dX1_takes_86 : decode cX1_takes 86 = .ok (.putfield 45, 3) := by decide +kernel
theorem dX1_takes_89 : decode cX1_takes 89 = .ok (.aload_n 3, 1) := by decide +kernel
theorem dX1_takes_90 : decode cX1_takes 90 = .ok (.getfield 45, 3) := by decide +kernel
theorem dX1_takes_93 : decode cX1_takes 93 = .ok (.ireturn, 1) := by decide +kernel
set_option maxRecDepth 100000 in
theorem f_X1_takes_L12_ok {E : EnvT} {C : Cx} {Mi : Mem} (hC : CxOK E C cX1_takes 6 yX1_takes.cls 7 0 0) {r0 : Int} {M0 : Mem} (hq : RQ E C 0 0 Mi (some .boolean) (some (0, r0)) M0) {x0 x2 x3 : Int} {k : Mem → Option (Int × Mem)} (hk : ∀ M16, Bk E C 6 Mi (r0, M0) 64 [(0, 25, x0), (3, 20, x3)] [] M16 0 0 (k M16)) : ∀ (n : Nat) (p5 : Int) (M6 : Mem), Bk E C 6 Mi (r0, M0) 12 [(0, 25, x0), (2, 27, x2), (3, 20, x3), (4, 0, p5)] [] M6 0 0 (f_X1_takes_L12 x0 x2 x3 k n p5 M6) := by
  intro n
  induction n with
  | zero =>
    intro p5 M6
    exact r_none
  | succ n ih =>
    intro p5 M6
    rw [f_X1_takes_L12]
    refine r_iload 12 hC 3 rfl dX1_takes_12 ?_
    refine r_bipush 14 hC kb_60 dX1_takes_14 ?_
    refine r_icmp_gt 16 hC (tgt := 64) (by decide) dX1_takes_16 ?_ ?_
    · exact r_sub [0, 2] rfl (hk M6)
    · refine r_aload_n 19 hC 0 rfl (Or.inl (by decide)) rfl dX1_takes_19 ?_
      refine r_nn (fun hn7 => ?_)
      refine r_callVP 20 hC [] [] rfl vl_X1_20 rfl hn7 (by decide) (Nat.le_of_ble_eq_true rfl) (by decide) (by decide) dX1_takes_20 (t_X6_isAtEnd x0 M6 hn7) (fun v8 => ?_)
      refine r_if_ne 23 hC (tgt := 64) (by decide) dX1_takes_23 ?_ ?_
      · exact r_sub [0, 2] rfl (hk M6)
      · refine r_aload_n 26 hC 0 rfl (Or.inl (by decide)) rfl dX1_takes_26 ?_
        refine r_bipush 27 hC kb_28 dX1_takes_27 ?_
        refine r_callVP 29 hC [(0, 28)] [] rfl vl_X1_24 rfl hn7 (by decide) (Nat.le_of_ble_eq_true rfl) (by decide) (by decide) dX1_takes_29 (t_X6_isAt x0 28 M6 hn7) (fun v9 => ?_)
        refine r_jn (P := fun j49 => ∀ (q10 : Int) (M11 : Mem), Bk E C 6 Mi (r0, M0) 49 [(0, 25, x0), (2, 27, x2), (3, 20, x3), (4, 0, p5)] [(0, q10)] M11 0 0 (j49 q10 M11)) ?_ (fun j49 hj49 => ?_)
        · intro q10 M11
          refine r_istore 49 hC (by decide) dX1_takes_49 (r_eqls (ls' := [(5, 0, q10), (0, 25, x0), (2, 27, x2), (3, 20, x3), (4, 0, p5)]) rfl ?_)
          refine r_iload 51 hC 0 rfl dX1_takes_51 ?_
          refine r_if_ne 53 hC (tgt := 58) (by decide) dX1_takes_53 ?_ ?_
          · refine r_iinc 58 hC 4 rfl (by decide) dX1_takes_58 (r_eqls (ls' := [(4, 0, w32 (p5 + 1)), (5, 0, q10), (0, 25, x0), (2, 27, x2), (3, 20, x3)]) rfl ?_)
            refine r_goto 61 hC (tgt := 12) (by decide) dX1_takes_61 ?_
            exact r_sub [2, 3, 4, 0] rfl (ih (w32 (p5 + 1)) M11)
          · refine r_iconst 56 hC (r32c rfl) dX1_takes_56 ?_
            exact r_zreturn 57 hC hq (by decide) (by decide) dX1_takes_57
        refine r_if_eq 32 hC (tgt := 43) (by decide) dX1_takes_32 ?_ ?_
        · refine r_aload_n 43 hC 0 rfl (Or.inl (by decide)) rfl dX1_takes_43 ?_
          refine r_aload_n 44 hC 1 rfl (Or.inl (by decide)) rfl dX1_takes_44 ?_
          refine r_aload_n 45 hC 2 rfl (Or.inl (by decide)) rfl dX1_takes_45 ?_
          refine r_callSI 46 hC [(25, x0), (27, x2), (20, x3)] [] rfl sl_X1_34 rfl (by decide) (Nat.le_of_ble_eq_true rfl) (by decide) (by decide) dX1_takes_46 (t_X1_readStep x0 x2 x3 M6) (fun v12 M13 => ?_)
          exact hj49 v12 M13
        · refine r_aload_n 35 hC 0 rfl (Or.inl (by decide)) rfl dX1_takes_35 ?_
          refine r_aload_n 36 hC 2 rfl (Or.inl (by decide)) rfl dX1_takes_36 ?_
          refine r_callSI 37 hC [(25, x0), (20, x3)] [] rfl sl_X1_28 rfl (by decide) (Nat.le_of_ble_eq_true rfl) (by decide) (by decide) dX1_takes_37 (t_X1_readEnd x0 x3 M6) (fun v14 M15 => ?_)
          refine r_goto 40 hC (tgt := 49) (by decide) dX1_takes_40 ?_
          exact hj49 v14 M15
set_option maxRecDepth 100000 in
theorem t_X1_takes (x0 x1 x2 x3 : Int) (M : Mem) : MtI yX1_takes cX1_takes 6 (some .boolean) 7 0 0 [(25, x0), (0, x1), (27, x2), (20, x3)] M 0 (f_X1_takes x0 x1 x2 x3 M) := by
  refine mk_I (by decide +kernel) (Nat.le_of_ble_eq_true rfl) (fun E C r0 M0 hC hq hin => ?_)
  refine r_eqls (ls' := [(0, 25, x0), (1, 0, x1), (2, 27, x2), (3, 20, x3)]) rfl ?_
  unfold f_X1_takes
  refine r_aload_n 0 hC 3 rfl (Or.inl (by decide)) rfl dX1_takes_0 ?_
  refine r_nn (fun hn1 => ?_)
  refine r_callVV 1 hC [] [] rfl vl_X1_9 rfl hn1 (by decide) (Nat.le_of_ble_eq_true rfl) (by decide) (by decide) dX1_takes_1 (t_X0_clear x3 M hn1) (fun M2 => ?_)
  refine r_aload_n 4 hC 0 rfl (Or.inl (by decide)) rfl dX1_takes_4 ?_
  refine r_iload_n 5 hC 1 rfl rfl dX1_takes_5 ?_
  refine r_nn (fun hn3 => ?_)
  refine r_callVV 6 hC [(0, x1)] [] rfl vl_X1_14 rfl hn3 (by decide) (Nat.le_of_ble_eq_true rfl) (by decide) (by decide) dX1_takes_6 (t_X6_begin x0 x1 M2 hn3) (fun M4 => ?_)
  refine r_iconst 9 hC (r32c rfl) dX1_takes_9 ?_
  refine r_istore 10 hC (by decide) dX1_takes_10 (r_eqls (ls' := [(4, 0, 0), (0, 25, x0), (1, 0, x1), (2, 27, x2), (3, 20, x3)]) rfl ?_)
  refine r_sub [1, 3, 4, 0] rfl (f_X1_takes_L12_ok hC hq (fun M17 => ?_) KF 0 M4)
  · refine r_aload_n 64 hC 1 rfl (Or.inl (by decide)) rfl dX1_takes_64 ?_
    refine r_aload_n 65 hC 1 rfl (Or.inl (by decide)) rfl dX1_takes_65 ?_
    refine r_callVP 66 hC [] [(20, x3)] rfl vl_X1_38 rfl hn1 (by decide) (Nat.le_of_ble_eq_true rfl) (by decide) (by decide) dX1_takes_66 (t_X0_innermost x3 M17 hn1) (fun v18 => ?_)
    refine r_iconst 69 hC (r32c rfl) dX1_takes_69 ?_
    refine r_jn (P := fun j86 => ∀ (q19 : Int) (M20 : Mem), Bk E C 6 M (r0, M0) 86 [(3, 20, x3)] [(0, q19), (20, x3)] M20 0 0 (j86 q19 M20)) ?_ (fun j86 hj86 => ?_)
    · intro q19 M20
      refine r_putz 86 hC fd_0_0 fl_X1_45 dX1_takes_86 (fun M21 => ?_)
      refine r_aload_n 89 hC 0 rfl (Or.inl (by decide)) rfl dX1_takes_89 ?_
      refine r_getz 90 hC fd_0_0 fl_X1_45 dX1_takes_90 (fun v22 => ?_)
      exact r_zreturn 93 hC hq (by decide) (by decide) dX1_takes_93
    refine r_jn (P := fun j81 => ∀ (M23 : Mem), Bk E C 6 M (r0, M0) 81 [(3, 20, x3)] [(20, x3)] M23 0 0 (j81 M23)) ?_ (fun j81 hj81 => ?_)
    · intro M23
      refine r_iconst 81 hC (r32c rfl) dX1_takes_81 ?_
      refine r_goto 82 hC (tgt := 86) (by decide) dX1_takes_82 ?_
      exact hj86 1 M23
    refine r_icmp_eq 70 hC (tgt := 81) (by decide) dX1_takes_70 ?_ ?_
    · exact r_sub [1] rfl (hj81 M17)
    · refine r_aload_n 73 hC 0 rfl (Or.inl (by decide)) rfl dX1_takes_73 ?_
      refine r_iconst 74 hC (r32c rfl) dX1_takes_74 ?_
      refine r_callVI 75 hC [(0, 2)] [(20, x3)] rfl vl_X1_42 rfl hn3 (by decide) (Nat.le_of_ble_eq_true rfl) (by decide) (by decide) dX1_takes_75 (t_X6_blame x0 2 M17 hn3) (fun v24 M25 => ?_)
      refine r_if_eq 78 hC (tgt := 85) (by decide) dX1_takes_78 ?_ ?_
      · refine r_iconst 85 hC (r32c rfl) dX1_takes_85 ?_
        exact r_sub [1] rfl (hj86 0 M25)
      · exact r_sub [1] rfl (hj81 M25)

/-! WaterTurns$Life.<init>()V -/
theorem dX2_init_0 : decode cX2_init 0 = .ok (.aload_n 0, 1) := by decide +kernel
theorem dX2_init_1 : decode cX2_init 1 = .ok (.invokespecial 3, 3) := by decide +kernel
theorem dX2_init_4 : decode cX2_init 4 = .ok (.aload_n 0, 1) := by decide +kernel
theorem dX2_init_5 : decode cX2_init 5 = .ok (.iconst 0, 1) := by decide +kernel
theorem dX2_init_6 : decode cX2_init 6 = .ok (.putfield 9, 3) := by decide +kernel
theorem dX2_init_9 : decode cX2_init 9 = .ok (.aload_n 0, 1) := by decide +kernel
theorem dX2_init_10 : decode cX2_init 10 = .ok (.iconst 0, 1) := by decide +kernel
theorem dX2_init_11 : decode cX2_init 11 = .ok (.putfield 15, 3) := by decide +kernel
theorem dX2_init_14 : decode cX2_init 14 = .ok (.aload_n 0, 1) := by decide +kernel
theorem dX2_init_15 : decode cX2_init 15 = .ok (.iconst 0, 1) := by decide +kernel
theorem dX2_init_16 : decode cX2_init 16 = .ok (.putfield 18, 3) := by decide +kernel
theorem dX2_init_19 : decode cX2_init 19 = .ok (.aload_n 0, 1) := by decide +kernel
theorem dX2_init_20 : decode cX2_init 20 = .ok (.iconst 0, 1) := by decide +kernel
theorem dX2_init_21 : decode cX2_init 21 = .ok (.putfield 21, 3) := by decide +kernel
theorem dX2_init_24 : decode cX2_init 24 = .ok (.aload_n 0, 1) := by decide +kernel
theorem dX2_init_25 : decode cX2_init 25 = .ok (.iconst 0, 1) := by decide +kernel
theorem dX2_init_26 : decode cX2_init 26 = .ok (.putfield 24, 3) := by decide +kernel
theorem dX2_init_29 : decode cX2_init 29 = .ok (.aload_n 0, 1) := by decide +kernel
theorem dX2_init_30 : decode cX2_init 30 = .ok (.iconst 0, 1) := by decide +kernel
theorem dX2_init_31 : decode cX2_init 31 = .ok (.putfield 28, 3) := by decide +kernel
theorem dX2_init_34 : decode cX2_init 34 = .ok (.aload_n 0, 1) := by decide +kernel
theorem dX2_init_35 : decode cX2_init 35 = .ok (.bipush 60, 2) := by decide +kernel
theorem dX2_init_37 : decode cX2_init 37 = .ok (.newarray .int, 2) := by decide +kernel
theorem dX2_init_39 : decode cX2_init 39 = .ok (.putfield 31, 3) := by decide +kernel
theorem dX2_init_42 : decode cX2_init 42 = .ok (.return_, 1) := by decide +kernel
set_option maxRecDepth 100000 in
theorem t_X2_init (x0 : Int) (M : Mem) (h0 : x0 ≠ 0) : MtV yX2_init cX2_init 1 none 1 1 60 [(21, x0)] M (f_X2_init x0 M) := by
  refine mk_V (by decide +kernel) (Nat.le_of_ble_eq_true rfl) (fun E C M0 hC hq hin => ?_)
  refine r_eqls (ls' := [(0, 21, x0)]) rfl ?_
  unfold f_X2_init
  refine r_aload_n 0 hC 0 rfl (Or.inl (by decide)) rfl dX2_init_0 ?_
  refine r_objinit 1 hC ob_X2_3 obj_i obj_c (by decide) h0 (by decide) (Nat.le_of_ble_eq_true rfl) dX2_init_1 ?_
  refine r_aload_n 4 hC 0 rfl (Or.inl (by decide)) rfl dX2_init_4 ?_
  refine r_iconst 5 hC (r32c rfl) dX2_init_5 ?_
  refine r_put 6 hC fd_1_0 fl_X2_9 dX2_init_6 (fun M1 => ?_)
  refine r_aload_n 9 hC 0 rfl (Or.inl (by decide)) rfl dX2_init_9 ?_
  refine r_iconst 10 hC (r32c rfl) dX2_init_10 ?_
  refine r_put 11 hC fd_1_1 fl_X2_15 dX2_init_11 (fun M2 => ?_)
  refine r_aload_n 14 hC 0 rfl (Or.inl (by decide)) rfl dX2_init_14 ?_
  refine r_iconst 15 hC (r32c rfl) dX2_init_15 ?_
  refine r_put 16 hC fd_1_2 fl_X2_18 dX2_init_16 (fun M3 => ?_)
  refine r_aload_n 19 hC 0 rfl (Or.inl (by decide)) rfl dX2_init_19 ?_
  refine r_iconst 20 hC (r32c rfl) dX2_init_20 ?_
  refine r_put 21 hC fd_1_3 fl_X2_21 dX2_init_21 (fun M4 => ?_)
  refine r_aload_n 24 hC 0 rfl (Or.inl (by decide)) rfl dX2_init_24 ?_
  refine r_iconst 25 hC (r32c rfl) dX2_init_25 ?_
  refine r_putz 26 hC fd_1_4 fl_X2_24 dX2_init_26 (fun M5 => ?_)
  refine r_aload_n 29 hC 0 rfl (Or.inl (by decide)) rfl dX2_init_29 ?_
  refine r_iconst 30 hC (r32c rfl) dX2_init_30 ?_
  refine r_put 31 hC fd_1_5 fl_X2_28 dX2_init_31 (fun M6 => ?_)
  refine r_aload_n 34 hC 0 rfl (Or.inl (by decide)) rfl dX2_init_34 ?_
  refine r_bipush 35 hC kb_60 dX2_init_35 ?_
  refine r_newa 37 hC (N := 60) rfl (by decide) (by decide) (by decide) rfl (fun _ _ => Iff.rfl) nad_10 (fun _ => nao_10) (by decide) nac_10 (by decide) (by decide) dX2_init_37 (fun v7 M8 => ?_)
  refine r_putF 39 hC hin fd_1_6 fl_X2_31 dX2_init_39 (fun M9 => ?_)
  exact r_return 42 hC hq (by decide) (by decide) dX2_init_42

/-! WaterTurns$Life.behindEnd(LWaterTurns$Days;I)I -/
theorem dX2_behindEnd_0 : decode cX2_behindEnd 0 = .ok (.aload_n 1, 1) := by decide +kernel
theorem dX2_behindEnd_1 : decode cX2_behindEnd 1 = .ok (.getfield 71, 3) := by decide +kernel
theorem dX2_behindEnd_4 : decode cX2_behindEnd 4 = .ok (.iload_n 2, 1) := by decide +kernel
theorem dX2_behindEnd_5 : decode cX2_behindEnd 5 = .ok (.iaload, 1) := by decide +kernel
theorem dX2_behindEnd_6 : decode cX2_behindEnd 6 = .ok (.istore_n 3, 1) := by decide +kernel
theorem dX2_behindEnd_7 : decode cX2_behindEnd 7 = .ok (.iload_n 3, 1) := by decide +kernel
theorem dX2_behindEnd_8 : decode cX2_behindEnd 8 = .ok (.iconst (-1), 1) := by decide +kernel
theorem dX2_behindEnd_9 : decode cX2_behindEnd 9 = .ok (.if_icmp .eq 14, 3) := by decide +kernel
theorem dX2_behindEnd_12 : decode cX2_behindEnd 12 = .ok (.aload_n 1, 1) := by decide +kernel
theorem dX2_behindEnd_13 : decode cX2_behindEnd 13 = .ok (.getfield 56, 3) := by decide +kernel
theorem dX2_behindEnd_16 : decode cX2_behindEnd 16 = .ok (.iload_n 3, 1) := by decide +kernel
theorem dX2_behindEnd_17 : decode cX2_behindEnd 17 = .ok (.iaload, 1) := by decide +kernel
theorem dX2_behindEnd_18 : decode cX2_behindEnd 18 = .ok (.bipush 27, 2) := by decide +kernel
theorem dX2_behindEnd_20 : decode cX2_behindEnd 20 = .ok (.if_icmp .eq 7, 3) := by decide +kernel
theorem dX2_behindEnd_23 : decode cX2_behindEnd 23 = .ok (.iload_n 2, 1) := by decide +kernel
theorem dX2_behindEnd_24 : decode cX2_behindEnd 24 = .ok (.iconst 1, 1) := by decide +kernel
theorem dX2_behindEnd_25 : decode cX2_behindEnd 25 = .ok (.iadd, 1) := by decide +kernel
theorem dX2_behindEnd_26 : decode cX2_behindEnd 26 = .ok (.ireturn, 1) := by decide +kernel
theorem dX2_behindEnd_27 : decode cX2_behindEnd 27 = .ok (.aload_n 0, 1) := by decide +kernel
theorem dX2_behindEnd_28 : decode cX2_behindEnd 28 = .ok (.getfield 31, 3) := by decide +kernel
theorem dX2_behindEnd_31 : decode cX2_behindEnd 31 = .ok (.iload_n 3, 1) := by decide +kernel
theorem dX2_behindEnd_32 : decode cX2_behindEnd 32 = .ok (.dup2, 1) := by decide +kernel
theorem dX2_behindEnd_33 : decode cX2_behindEnd 33 = .ok (.iaload, 1) := by decide +kernel
theorem dX2_behindEnd_34 : decode cX2_behindEnd 34 = .ok (.iconst 1, 1) := by decide +kernel
theorem dX2_behindEnd_35 : decode cX2_behindEnd 35 = .ok (.isub, 1) := by decide +kernel
theorem dX2_behindEnd_36 : decode cX2_behindEnd 36 = .ok (.iastore, 1) := by decide +kernel
theorem dX2_behindEnd_37 : decode cX2_behindEnd 37 = .ok (.aload_n 0, 1) := by decide +kernel
theorem dX2_behindEnd_38 : decode cX2_behindEnd 38 = .ok (.getfield 31, 3) := by decide +kernel
theorem dX2_behindEnd_41 : decode cX2_behindEnd 41 = .ok (.iload_n 3, 1) := by decide +kernel
theorem dX2_behindEnd_42 : decode cX2_behindEnd 42 = .ok (.iaload, 1) := by decide +kernel
theorem dX2_behindEnd_43 : decode cX2_behindEnd 43 = .ok (.ifCond .le 9, 3) := by decide +kernel
theorem dX2_behindEnd_46 : decode cX2_behindEnd 46 = .ok (.iload_n 3, 1) := by decide +kernel
theorem dX2_behindEnd_47 : decode cX2_behindEnd 47 = .ok (.iconst 1, 1) := by decide +kernel
theorem dX2_behindEnd_48 : decode cX2_behindEnd 48 = .ok (.iadd, 1) := by decide +kernel
theorem dX2_behindEnd_49 : decode cX2_behindEnd 49 = .ok (.goto 6, 3) := by decide +kernel
theorem dX2_behindEnd_52 : decode cX2_behindEnd 52 = .ok (.iload_n 2, 1) := by decide +kernel
theorem dX2_behindEnd_53 : decode cX2_behindEnd 53 = .ok (.iconst 1, 1) := by decide +kernel
theorem dX2_behindEnd_54 : decode cX2_behindEnd 54 = .ok (.iadd, 1) := by decide +kernel
theorem dX2_behindEnd_55 : decode cX2_behindEnd 55 = .ok (.ireturn, 1) := by decide +kernel
set_option maxRecDepth 100000 in
theorem t_X2_behindEnd (x0 x1 x2 : Int) (M : Mem) (h0 : x0 ≠ 0) : MtI yX2_behindEnd cX2_behindEnd 4 (some .int) 1 0 0 [(21, x0), (20, x1), (0, x2)] M 0 (f_X2_behindEnd x0 x1 x2 M) := by
  refine mk_I (by decide +kernel) (Nat.le_of_ble_eq_true rfl) (fun E C r0 M0 hC hq hin => ?_)
  refine r_eqls (ls' := [(0, 21, x0), (1, 20, x1), (2, 0, x2)]) rfl ?_
  unfold f_X2_behindEnd
  refine r_aload_n 0 hC 1 rfl (Or.inl (by decide)) rfl dX2_behindEnd_0 ?_
  refine r_get 1 hC fd_0_9 fl_X2_71 dX2_behindEnd_1 (fun v1 => ?_)
  refine r_iload_n 4 hC 2 rfl rfl dX2_behindEnd_4 ?_
  refine r_iaload 5 hC dX2_behindEnd_5 (fun v2 => ?_)
  refine r_istore_n 6 hC rfl (by decide) dX2_behindEnd_6 (r_eqls (ls' := [(3, 0, v2), (0, 21, x0), (1, 20, x1), (2, 0, x2)]) rfl ?_)
  refine r_iload_n 7 hC 0 rfl rfl dX2_behindEnd_7 ?_
  refine r_iconst 8 hC (r32c rfl) dX2_behindEnd_8 ?_
  refine r_jn (P := fun j23 => Bk E C 4 M (r0, M0) 23 [(2, 0, x2)] [] M 0 0 (j23)) ?_ (fun j23 hj23 => ?_)
  · refine r_iload_n 23 hC 0 rfl rfl dX2_behindEnd_23 ?_
    refine r_iconst 24 hC (r32c rfl) dX2_behindEnd_24 ?_
    refine r_iadd 25 hC dX2_behindEnd_25 ?_
    exact r_ireturn 26 hC hq (by decide) (by decide) dX2_behindEnd_26
  refine r_icmp_eq 9 hC (tgt := 23) (by decide) dX2_behindEnd_9 ?_ ?_
  · exact r_sub [3] rfl (hj23)
  · refine r_aload_n 12 hC 2 rfl (Or.inl (by decide)) rfl dX2_behindEnd_12 ?_
    refine r_get 13 hC fd_0_3 fl_X2_56 dX2_behindEnd_13 (fun v3 => ?_)
    refine r_iload_n 16 hC 0 rfl rfl dX2_behindEnd_16 ?_
    refine r_iaload 17 hC dX2_behindEnd_17 (fun v4 => ?_)
    refine r_bipush 18 hC kb_27 dX2_behindEnd_18 ?_
    refine r_icmp_eq 20 hC (tgt := 27) (by decide) dX2_behindEnd_20 ?_ ?_
    · refine r_aload_n 27 hC 1 rfl (Or.inl (by decide)) rfl dX2_behindEnd_27 ?_
      refine r_get 28 hC fd_1_6 fl_X2_31 dX2_behindEnd_28 (fun v5 => ?_)
      refine r_iload_n 31 hC 0 rfl rfl dX2_behindEnd_31 ?_
      refine r_dup2 32 hC ⟨by decide, by decide⟩ dX2_behindEnd_32 ?_
      refine r_iaload 33 hC dX2_behindEnd_33 (fun v6 => ?_)
      refine r_iconst 34 hC (r32c rfl) dX2_behindEnd_34 ?_
      refine r_isub 35 hC dX2_behindEnd_35 ?_
      refine r_iastore 36 hC dX2_behindEnd_36 (fun M7 => ?_)
      refine r_aload_n 37 hC 1 rfl (Or.inl (by decide)) rfl dX2_behindEnd_37 ?_
      refine r_get 38 hC fd_1_6 fl_X2_31 dX2_behindEnd_38 (fun v8 => ?_)
      refine r_iload_n 41 hC 0 rfl rfl dX2_behindEnd_41 ?_
      refine r_iaload 42 hC dX2_behindEnd_42 (fun v9 => ?_)
      refine r_jn (P := fun j55 => ∀ (q10 : Int), Bk E C 4 M (r0, M0) 55 [] [(0, q10)] M7 0 0 (j55 q10)) ?_ (fun j55 hj55 => ?_)
      · intro q10
        exact r_ireturn 55 hC hq (by decide) (by decide) dX2_behindEnd_55
      refine r_if_le 43 hC (tgt := 52) (by decide) dX2_behindEnd_43 ?_ ?_
      · refine r_iload_n 52 hC 3 rfl rfl dX2_behindEnd_52 ?_
        refine r_iconst 53 hC (r32c rfl) dX2_behindEnd_53 ?_
        refine r_iadd 54 hC dX2_behindEnd_54 ?_
        exact r_sub [] rfl (hj55 (w32 (x2 + 1)))
      · refine r_iload_n 46 hC 0 rfl rfl dX2_behindEnd_46 ?_
        refine r_iconst 47 hC (r32c rfl) dX2_behindEnd_47 ?_
        refine r_iadd 48 hC dX2_behindEnd_48 ?_
        refine r_goto 49 hC (tgt := 55) (by decide) dX2_behindEnd_49 ?_
        exact r_sub [] rfl (hj55 (w32 (v2 + 1)))
    · exact r_sub [3] rfl (hj23)

/-! WaterTurns$Standing.setClosed(IZ)V -/
theorem dX4_setClosed_0 : decode cX4_setClosed 0 = .ok (.aload_n 0, 1) := by decide +kernel
theorem dX4_setClosed_1 : decode cX4_setClosed 1 = .ok (.iload_n 2, 1) := by decide +kernel
theorem dX4_setClosed_2 : decode cX4_setClosed 2 = .ok (.ifCond .eq 14, 3) := by decide +kernel
theorem dX4_setClosed_5 : decode cX4_setClosed 5 = .ok (.aload_n 0, 1) := by decide +kernel
theorem dX4_setClosed_6 : decode cX4_setClosed 6 = .ok (.getfield 18, 3) := by decide +kernel
theorem dX4_setClosed_9 : decode cX4_setClosed 9 = .ok (.iconst 1, 1) := by decide +kernel
theorem dX4_setClosed_10 : decode cX4_setClosed 10 = .ok (.iload_n 1, 1) := by decide +kernel
theorem dX4_setClosed_11 : decode cX4_setClosed 11 = .ok (.ishl, 1) := by decide +kernel
theorem dX4_setClosed_12 : decode cX4_setClosed 12 = .ok (.ior, 1) := by decide +kernel
theorem dX4_setClosed_13 : decode cX4_setClosed 13 = .ok (.goto 13, 3) := by decide +kernel
theorem dX4_setClosed_16 : decode cX4_setClosed 16 = .ok (.aload_n 0, 1) := by decide +kernel
theorem dX4_setClosed_17 : decode cX4_setClosed 17 = .ok (.getfield 18, 3) := by decide +kernel
theorem dX4_setClosed_20 : decode cX4_setClosed 20 = .ok (.iconst 1, 1) := by decide +kernel
theorem dX4_setClosed_21 : decode cX4_setClosed 21 = .ok (.iload_n 1, 1) := by decide +kernel
theorem dX4_setClosed_22 : decode cX4_setClosed 22 = .ok (.ishl, 1) := by decide +kernel
theorem dX4_setClosed_23 : decode cX4_setClosed 23 = .ok (.iconst (-1), 1) := by decide +kernel
theorem dX4_setClosed_24 : decode cX4_setClosed 24 = .ok (.ixor, 1) := by decide +kernel
theorem dX4_setClosed_25 : decode cX4_setClosed 25 = .ok (.iand, 1) := by decide +kernel
theorem dX4_setClosed_26 : decode cX4_setClosed 26 = .ok (.putfield 18, 3) := by decide +kernel
theorem dX4_setClosed_29 : decode cX4_setClosed 29 = .ok (.return_, 1) := by decide +kernel
set_option maxRecDepth 100000 in
theorem t_X4_setClosed (x0 x1 x2 : Int) (M : Mem) (h0 : x0 ≠ 0) : MtV yX4_setClosed cX4_setClosed 3 none 1 0 0 [(23, x0), (0, x1), (0, x2)] M (f_X4_setClosed x0 x1 x2 M) := by
  refine mk_V (by decide +kernel) (Nat.le_of_ble_eq_true rfl) (fun E C M0 hC hq hin => ?_)
  refine r_eqls (ls' := [(0, 23, x0), (1, 0, x1), (2, 0, x2)]) rfl ?_
  unfold f_X4_setClosed
  refine r_aload_n 0 hC 0 rfl (Or.inl (by decide)) rfl dX4_setClosed_0 ?_
  refine r_iload_n 1 hC 2 rfl rfl dX4_setClosed_1 ?_
  refine r_jn (P := fun j26 => ∀ (q1 : Int), Bk E C 3 M M0 26 [] [(0, q1), (23, x0)] M 0 0 (j26 q1)) ?_ (fun j26 hj26 => ?_)
  · intro q1
    refine r_put 26 hC fd_3_2 fl_X4_18 dX4_setClosed_26 (fun M2 => ?_)
    exact r_return 29 hC hq (by decide) (by decide) dX4_setClosed_29
  refine r_if_eq 2 hC (tgt := 16) (by decide) dX4_setClosed_2 ?_ ?_
  · refine r_aload_n 16 hC 0 rfl (Or.inl (by decide)) rfl dX4_setClosed_16 ?_
    refine r_get 17 hC fd_3_2 fl_X4_18 dX4_setClosed_17 (fun v3 => ?_)
    refine r_iconst 20 hC (r32c rfl) dX4_setClosed_20 ?_
    refine r_iload_n 21 hC 1 rfl rfl dX4_setClosed_21 ?_
    refine r_ishl 22 hC dX4_setClosed_22 ?_
    refine r_iconst 23 hC (r32c rfl) dX4_setClosed_23 ?_
    refine r_ixor 24 hC dX4_setClosed_24 ?_
    refine r_iand 25 hC dX4_setClosed_25 ?_
    exact r_sub [] rfl (hj26 (iandv v3 (ixorv (ishlv 1 x1) (-1))))
  · refine r_aload_n 5 hC 0 rfl (Or.inl (by decide)) rfl dX4_setClosed_5 ?_
    refine r_get 6 hC fd_3_2 fl_X4_18 dX4_setClosed_6 (fun v4 => ?_)
    refine r_iconst 9 hC (r32c rfl) dX4_setClosed_9 ?_
    refine r_iload_n 10 hC 1 rfl rfl dX4_setClosed_10 ?_
    refine r_ishl 11 hC dX4_setClosed_11 ?_
    refine r_ior 12 hC dX4_setClosed_12 ?_
    refine r_goto 13 hC (tgt := 26) (by decide) dX4_setClosed_13 ?_
    exact r_sub [] rfl (hj26 (iorv v4 (ishlv 1 x1)))

/-! WaterTurns$World.changePlaces(II)I -/
theorem dX10_changePlaces_0 : decode cX10_changePlaces 0 = .ok (.aload_n 0, 1) := by decide +kernel
theorem dX10_changePlaces_1 : decode cX10_changePlaces 1 = .ok (.getfield 28, 3) := by decide +kernel
theorem dX10_changePlaces_4 : decode cX10_changePlaces 4 = .ok (.getfield 72, 3) := by decide +kernel
theorem dX10_changePlaces_7 : decode cX10_changePlaces 7 = .ok (.ifCond .le 6, 3) := by decide +kernel
theorem dX10_changePlaces_10 : decode cX10_changePlaces 10 = .ok (.bipush 7, 2) := by decide +kernel
theorem dX10_changePlaces_12 : decode cX10_changePlaces 12 = .ok (.ireturn, 1) := by decide +kernel
theorem dX10_changePlaces_13 : decode cX10_changePlaces 13 = .ok (.iconst 0, 1) := by decide +kernel
theorem dX10_changePlaces_14 : decode cX10_changePlaces 14 = .ok (.istore_n 3, 1) := by decide +kernel
theorem dX10_changePlaces_15 : decode cX10_changePlaces 15 = .ok (.iload_n 3, 1) := by decide +kernel
theorem dX10_changePlaces_16 : decode cX10_changePlaces 16 = .ok (.aload_n 0, 1) := by decide +kernel
theorem dX10_changePlaces_17 : decode cX10_changePlaces 17 = .ok (.getfield 12, 3) := by decide +kernel
theorem dX10_changePlaces_20 : decode cX10_changePlaces 20 = .ok (.getfield 55, 3) := by decide +kernel
theorem dX10_changePlaces_23 : decode cX10_changePlaces 23 = .ok (.if_icmp .ge 51, 3) := by decide +kernel
theorem dX10_changePlaces_26 : decode cX10_changePlaces 26 = .ok (.aload_n 0, 1) := by decide +kernel
theorem dX10_changePlaces_27 : decode cX10_changePlaces 27 = .ok (.getfield 28, 3) := by decide +kernel
theorem dX10_changePlaces_30 : decode cX10_changePlaces 30 = .ok (.getfield 62, 3) := by decide +kernel
theorem dX10_changePlaces_33 : decode cX10_changePlaces 33 = .ok (.iload_n 3, 1) := by decide +kernel
theorem dX10_changePlaces_34 : decode cX10_changePlaces 34 = .ok (.iaload, 1) := by decide +kernel
theorem dX10_changePlaces_35 : decode cX10_changePlaces 35 = .ok (.istore 4, 2) := by decide +kernel
theorem dX10_changePlaces_37 : decode cX10_changePlaces 37 = .ok (.aload_n 0, 1) := by decide +kernel
theorem dX10_changePlaces_38 : decode cX10_changePlaces 38 = .ok (.getfield 28, 3) := by decide +kernel
theorem dX10_changePlaces_41 : decode cX10_changePlaces 41 = .ok (.getfield 62, 3) := by decide +kernel
theorem dX10_changePlaces_44 : decode cX10_changePlaces 44 = .ok (.iload_n 3, 1) := by decide +kernel
theorem dX10_changePlaces_45 : decode cX10_changePlaces 45 = .ok (.iload 4, 2) := by decide +kernel
theorem dX10_changePlaces_47 : decode cX10_changePlaces 47 = .ok (.iload_n 1, 1) := by decide +kernel
theorem dX10_changePlaces_48 : decode cX10_changePlaces 48 = .ok (.if_icmp .ne 7, 3) := by decide +kernel
theorem dX10_changePlaces_51 : decode cX10_changePlaces 51 = .ok (.iload_n 2, 1) := by decide +kernel
theorem dX10_changePlaces_52 : decode cX10_changePlaces 52 = .ok (.goto 15, 3) := by decide +kernel
theorem dX10_changePlaces_55 : decode cX10_changePlaces 55 = .ok (.iload 4, 2) := by decide +kernel
theorem dX10_changePlaces_57 : decode cX10_changePlaces 57 = .ok (.iload_n 2, 1) := by decide +kernel
theorem dX10_changePlaces_58 : decode cX10_changePlaces 58 = .ok (.if_icmp .ne 7, 3) := by decide +kernel
theorem dX10_changePlaces_61 : decode cX10_changePlaces 61 = .ok (.iload_n 1, 1) := by decide +kernel
theorem dX10_changePlaces_62 : decode cX10_changePlaces 62 = .ok (.goto 5, 3) := by decide +kernel
theorem dX10_changePlaces_65 : decode cX10_changePlaces 65 = .ok (.iload 4, 2) := by decide +kernel
theorem dX10_changePlaces_67 : decode cX10_changePlaces 67 = .ok (.iastore, 1) := by decide +kernel
theorem dX10_changePlaces_68 : decode cX10_changePlaces 68 = .ok (.iinc 3 1, 3) := by decide +kernel
theorem dX10_changePlaces_71 : decode cX10_changePlaces 71 = .ok (.goto (-56), 3) := by decide +kernel
theorem dX10_changePlaces_74 : decode cX10_changePlaces 74 = .ok (.iconst 0, 1) := by decide +kernel
theorem dX10_changePlaces_75 : decode cX10_changePlaces 75 = .ok (.ireturn, 1) := by decide +kernel
set_option maxRecDepth 100000 in
theorem f_X10_changePlaces_L15_ok {E : EnvT} {C : Cx} {Mi : Mem} {x0 : Int} (h0 : x0 ≠ 0) (hC : CxOK E C cX10_changePlaces 5 yX10_changePlaces.cls 1 0 0) {r0 : Int} {M0 : Mem} (hq : RQ E C 0 0 Mi (some .int) (some (0, r0)) M0) {x1 x2 : Int} {k : Mem → Option (Int × Mem)} (hk : ∀ M14, Bk E C 5 Mi (r0, M0) 74 [] [] M14 0 0 (k M14)) : ∀ (n : Nat) (p3 : Int) (M4 : Mem), Bk E C 5 Mi (r0, M0) 15 [(0, 28, x0), (1, 0, x1), (2, 0, x2), (3, 0, p3)] [] M4 0 0 (f_X10_changePlaces_L15 x0 x1 x2 k n p3 M4) := by
  intro n
  induction n with
  | zero =>
    intro p3 M4
    exact r_none
  | succ n ih =>
    intro p3 M4
    rw [f_X10_changePlaces_L15]
    refine r_iload_n 15 hC 3 rfl rfl dX10_changePlaces_15 ?_
    refine r_aload_n 16 hC 0 rfl (Or.inl (by decide)) rfl dX10_changePlaces_16 ?_
    refine r_get 17 hC fd_8_0 fl_X10_12 dX10_changePlaces_17 (fun v5 => ?_)
    refine r_get 20 hC fd_7_5 fl_X10_55 dX10_changePlaces_20 (fun v6 => ?_)
    refine r_icmp_ge 23 hC (tgt := 74) (by decide) dX10_changePlaces_23 ?_ ?_
    · exact r_sub [] rfl (hk M4)
    · refine r_aload_n 26 hC 0 rfl (Or.inl (by decide)) rfl dX10_changePlaces_26 ?_
      refine r_get 27 hC fd_8_2 fl_X10_28 dX10_changePlaces_27 (fun v7 => ?_)
      refine r_get 30 hC fd_3_4 fl_X10_62 dX10_changePlaces_30 (fun v8 => ?_)
      refine r_iload_n 33 hC 3 rfl rfl dX10_changePlaces_33 ?_
      refine r_iaload 34 hC dX10_changePlaces_34 (fun v9 => ?_)
      refine r_istore 35 hC (by decide) dX10_changePlaces_35 (r_eqls (ls' := [(4, 0, v9), (0, 28, x0), (1, 0, x1), (2, 0, x2), (3, 0, p3)]) rfl ?_)
      refine r_aload_n 37 hC 1 rfl (Or.inl (by decide)) rfl dX10_changePlaces_37 ?_
      refine r_get 38 hC fd_8_2 fl_X10_28 dX10_changePlaces_38 (fun v10 => ?_)
      refine r_get 41 hC fd_3_4 fl_X10_62 dX10_changePlaces_41 (fun v11 => ?_)
      refine r_iload_n 44 hC 4 rfl rfl dX10_changePlaces_44 ?_
      refine r_iload 45 hC 0 rfl dX10_changePlaces_45 ?_
      refine r_iload_n 47 hC 2 rfl rfl dX10_changePlaces_47 ?_
      refine r_jn (P := fun j67 => ∀ (q12 : Int), Bk E C 5 Mi (r0, M0) 67 [(0, 28, x0), (1, 0, x1), (2, 0, x2), (3, 0, p3)] [(0, q12), (0, p3), (10, v11)] M4 0 0 (j67 q12)) ?_ (fun j67 hj67 => ?_)
      · intro q12
        refine r_iastore 67 hC dX10_changePlaces_67 (fun M13 => ?_)
        refine r_iinc 68 hC 3 rfl (by decide) dX10_changePlaces_68 (r_eqls (ls' := [(3, 0, w32 (p3 + 1)), (0, 28, x0), (1, 0, x1), (2, 0, x2)]) rfl ?_)
        refine r_goto 71 hC (tgt := 15) (by decide) dX10_changePlaces_71 ?_
        exact r_sub [1, 2, 3, 0] rfl (ih (w32 (p3 + 1)) M13)
      refine r_icmp_ne 48 hC (tgt := 55) (by decide) dX10_changePlaces_48 ?_ ?_
      · refine r_iload 55 hC 0 rfl dX10_changePlaces_55 ?_
        refine r_iload_n 57 hC 3 rfl rfl dX10_changePlaces_57 ?_
        refine r_icmp_ne 58 hC (tgt := 65) (by decide) dX10_changePlaces_58 ?_ ?_
        · refine r_iload 65 hC 0 rfl dX10_changePlaces_65 ?_
          exact r_sub [1, 2, 3, 4] rfl (hj67 v9)
        · refine r_iload_n 61 hC 2 rfl rfl dX10_changePlaces_61 ?_
          refine r_goto 62 hC (tgt := 67) (by decide) dX10_changePlaces_62 ?_
          exact r_sub [1, 2, 3, 4] rfl (hj67 x1)
      · refine r_iload_n 51 hC 3 rfl rfl dX10_changePlaces_51 ?_
        refine r_goto 52 hC (tgt := 67) (by decide) dX10_changePlaces_52 ?_
        exact r_sub [1, 2, 3, 4] rfl (hj67 x2)
set_option maxRecDepth 100000 in
theorem t_X10_changePlaces (x0 x1 x2 : Int) (M : Mem) (h0 : x0 ≠ 0) : MtI yX10_changePlaces cX10_changePlaces 5 (some .int) 1 0 0 [(28, x0), (0, x1), (0, x2)] M 0 (f_X10_changePlaces x0 x1 x2 M) := by
  refine mk_I (by decide +kernel) (Nat.le_of_ble_eq_true rfl) (fun E C r0 M0 hC hq hin => ?_)
  refine r_eqls (ls' := [(0, 28, x0), (1, 0, x1), (2, 0, x2)]) rfl ?_
  unfold f_X10_changePlaces
  refine r_aload_n 0 hC 0 rfl (Or.inl (by decide)) rfl dX10_changePlaces_0 ?_
  refine r_get 1 hC fd_8_2 fl_X10_28 dX10_changePlaces_1 (fun v1 => ?_)
  refine r_get 4 hC fd_3_3 fl_X10_72 dX10_changePlaces_4 (fun v2 => ?_)
  refine r_if_le 7 hC (tgt := 13) (by decide) dX10_changePlaces_7 ?_ ?_
  · refine r_iconst 13 hC (r32c rfl) dX10_changePlaces_13 ?_
    refine r_istore_n 14 hC rfl (by decide) dX10_changePlaces_14 (r_eqls (ls' := [(3, 0, 0), (0, 28, x0), (1, 0, x1), (2, 0, x2)]) rfl ?_)
    refine r_sub [1, 2, 3, 0] rfl (f_X10_changePlaces_L15_ok h0 hC hq (fun M15 => ?_) KF 0 M)
    · refine r_iconst 74 hC (r32c rfl) dX10_changePlaces_74 ?_
      exact r_ireturn 75 hC hq (by decide) (by decide) dX10_changePlaces_75
  · refine r_bipush 10 hC kb_7 dX10_changePlaces_10 ?_
    exact r_ireturn 12 hC hq (by decide) (by decide) dX10_changePlaces_12

/-! WaterTurns$Valley.turnEdge(I)I -/
theorem dX8_turnEdge_0 : decode cX8_turnEdge 0 = .ok (.aload_n 0, 1) := by decide +kernel
theorem dX8_turnEdge_1 : decode cX8_turnEdge 1 = .ok (.getfield 30, 3) := by decide +kernel
theorem dX8_turnEdge_4 : decode cX8_turnEdge 4 = .ok (.iconst 1, 1) := by decide +kernel
theorem dX8_turnEdge_5 : decode cX8_turnEdge 5 = .ok (.if_icmp .ge 7, 3) := by decide +kernel
theorem dX8_turnEdge_8 : decode cX8_turnEdge 8 = .ok (.iconst 0, 1) := by decide +kernel
theorem dX8_turnEdge_9 : decode cX8_turnEdge 9 = .ok (.goto 14, 3) := by decide +kernel
theorem dX8_turnEdge_12 : decode cX8_turnEdge 12 = .ok (.aload_n 0, 1) := by decide +kernel
theorem dX8_turnEdge_13 : decode cX8_turnEdge 13 = .ok (.getfield 15, 3) := by decide +kernel
theorem dX8_turnEdge_16 : decode cX8_turnEdge 16 = .ok (.iload_n 1, 1) := by decide +kernel
theorem dX8_turnEdge_17 : decode cX8_turnEdge 17 = .ok (.imul, 1) := by decide +kernel
theorem dX8_turnEdge_18 : decode cX8_turnEdge 18 = .ok (.aload_n 0, 1) := by decide +kernel
theorem dX8_turnEdge_19 : decode cX8_turnEdge 19 = .ok (.getfield 30, 3) := by decide +kernel
theorem dX8_turnEdge_22 : decode cX8_turnEdge 22 = .ok (.idiv, 1) := by decide +kernel
theorem dX8_turnEdge_23 : decode cX8_turnEdge 23 = .ok (.ireturn, 1) := by decide +kernel
set_option maxRecDepth 100000 in
theorem t_X8_turnEdge (x0 x1 : Int) (M : Mem) (h0 : x0 ≠ 0) : MtP yX8_turnEdge cX8_turnEdge 2 (some .int) 1 0 0 [(27, x0), (0, x1)] M 0 (f_X8_turnEdge x0 x1 M) := by
  refine mk_P (by decide +kernel) (Nat.le_of_ble_eq_true rfl) (fun E C r0 hC hq hin => ?_)
  refine r_eqls (ls' := [(0, 27, x0), (1, 0, x1)]) rfl ?_
  unfold f_X8_turnEdge
  refine r_aload_n 0 hC 0 rfl (Or.inl (by decide)) rfl dX8_turnEdge_0 ?_
  refine r_get 1 hC fd_7_6 fl_X8_30 dX8_turnEdge_1 (fun v1 => ?_)
  refine r_iconst 4 hC (r32c rfl) dX8_turnEdge_4 ?_
  refine r_jn (P := fun j23 => ∀ (q2 : Int), Bk E C 2 M r0 23 [] [(0, q2)] M 0 0 (j23 q2)) ?_ (fun j23 hj23 => ?_)
  · intro q2
    exact r_ireturnP 23 hC hq (by decide) (by decide) dX8_turnEdge_23
  refine r_icmp_ge 5 hC (tgt := 12) (by decide) dX8_turnEdge_5 ?_ ?_
  · refine r_aload_n 12 hC 0 rfl (Or.inl (by decide)) rfl dX8_turnEdge_12 ?_
    refine r_get 13 hC fd_7_1 fl_X8_15 dX8_turnEdge_13 (fun v3 => ?_)
    refine r_iload_n 16 hC 1 rfl rfl dX8_turnEdge_16 ?_
    refine r_imul 17 hC dX8_turnEdge_17 ?_
    refine r_aload_n 18 hC 0 rfl (Or.inl (by decide)) rfl dX8_turnEdge_18 ?_
    refine r_get 19 hC fd_7_6 fl_X8_30 dX8_turnEdge_19 (fun v4 => ?_)
    refine r_idiv 22 hC dX8_turnEdge_22 (fun v5 => ?_)
    exact r_sub [] rfl (hj23 v5)
  · refine r_iconst 8 hC (r32c rfl) dX8_turnEdge_8 ?_
    refine r_goto 9 hC (tgt := 23) (by decide) dX8_turnEdge_9 ?_
    exact r_sub [] rfl (hj23 0)

/-! WaterTurns$Slots.add(III)V -/
theorem dX3_add_0 : decode cX3_add 0 = .ok (.iload_n 3, 1) := by decide +kernel
theorem dX3_add_1 : decode cX3_add 1 = .ok (.ifCond .le 52, 3) := by decide +kernel
theorem dX3_add_4 : decode cX3_add 4 = .ok (.aload_n 0, 1) := by decide +kernel
theorem dX3_add_5 : decode cX3_add 5 = .ok (.getfield 21, 3) := by decide +kernel
theorem dX3_add_8 : decode cX3_add 8 = .ok (.bipush 22, 2) := by decide +kernel
theorem dX3_add_10 : decode cX3_add 10 = .ok (.if_icmp .ge 43, 3) := by decide +kernel
theorem dX3_add_13 : decode cX3_add 13 = .ok (.aload_n 0, 1) := by decide +kernel
theorem dX3_add_14 : decode cX3_add 14 = .ok (.getfield 25, 3) := by decide +kernel
theorem dX3_add_17 : decode cX3_add 17 = .ok (.aload_n 0, 1) := by decide +kernel
theorem dX3_add_18 : decode cX3_add 18 = .ok (.getfield 21, 3) := by decide +kernel
theorem dX3_add_21 : decode cX3_add 21 = .ok (.iload_n 1, 1) := by decide +kernel
theorem dX3_add_22 : decode cX3_add 22 = .ok (.iastore, 1) := by decide +kernel
theorem dX3_add_23 : decode cX3_add 23 = .ok (.aload_n 0, 1) := by decide +kernel
theorem dX3_add_24 : decode cX3_add 24 = .ok (.getfield 28, 3) := by decide +kernel
theorem dX3_add_27 : decode cX3_add 27 = .ok (.aload_n 0, 1) := by decide +kernel
theorem dX3_add_28 : decode cX3_add 28 = .ok (.getfield 21, 3) := by decide +kernel
theorem dX3_add_31 : decode cX3_add 31 = .ok (.iload_n 2, 1) := by decide +kernel
theorem dX3_add_32 : decode cX3_add 32 = .ok (.iastore, 1) := by decide +kernel
theorem dX3_add_33 : decode cX3_add 33 = .ok (.aload_n 0, 1) := by decide +kernel
theorem dX3_add_34 : decode cX3_add 34 = .ok (.getfield 31, 3) := by decide +kernel
theorem dX3_add_37 : decode cX3_add 37 = .ok (.aload_n 0, 1) := by decide +kernel
theorem dX3_add_38 : decode cX3_add 38 = .ok (.getfield 21, 3) := by decide +kernel
theorem dX3_add_41 : decode cX3_add 41 = .ok (.iload_n 3, 1) := by decide +kernel
theorem dX3_add_42 : decode cX3_add 42 = .ok (.iastore, 1) := by decide +kernel
theorem dX3_add_43 : decode cX3_add 43 = .ok (.aload_n 0, 1) := by decide +kernel
theorem dX3_add_44 : decode cX3_add 44 = .ok (.dup, 1) := by decide +kernel
theorem dX3_add_45 : decode cX3_add 45 = .ok (.getfield 21, 3) := by decide +kernel
theorem dX3_add_48 : decode cX3_add 48 = .ok (.iconst 1, 1) := by decide +kernel
theorem dX3_add_49 : decode cX3_add 49 = .ok (.iadd, 1) := by decide +kernel
theorem dX3_add_50 : decode cX3_add 50 = .ok (.putfield 21, 3) := by decide +kernel
theorem dX3_add_53 : decode cX3_add 53 = .ok (.return_, 1) := by decide +kernel
set_option maxRecDepth 100000 in
theorem t_X3_add (x0 x1 x2 x3 : Int) (M : Mem) (h0 : x0 ≠ 0) : MtV yX3_add cX3_add 4 none 1 0 0 [(22, x0), (0, x1), (0, x2), (0, x3)] M (f_X3_add x0 x1 x2 x3 M) := by
  refine mk_V (by decide +kernel) (Nat.le_of_ble_eq_true rfl) (fun E C M0 hC hq hin => ?_)
  refine r_eqls (ls' := [(0, 22, x0), (1, 0, x1), (2, 0, x2), (3, 0, x3)]) rfl ?_
  unfold f_X3_add
  refine r_iload_n 0 hC 3 rfl rfl dX3_add_0 ?_
  refine r_jn (P := fun j53 => ∀ (M1 : Mem), Bk E C 4 M M0 53 [] [] M1 0 0 (j53 M1)) ?_ (fun j53 hj53 => ?_)
  · intro M1
    exact r_return 53 hC hq (by decide) (by decide) dX3_add_53
  refine r_if_le 1 hC (tgt := 53) (by decide) dX3_add_1 ?_ ?_
  · exact r_sub [] rfl (hj53 M)
  · refine r_aload_n 4 hC 0 rfl (Or.inl (by decide)) rfl dX3_add_4 ?_
    refine r_get 5 hC fd_2_3 fl_X3_21 dX3_add_5 (fun v2 => ?_)
    refine r_bipush 8 hC kb_22 dX3_add_8 ?_
    refine r_icmp_ge 10 hC (tgt := 53) (by decide) dX3_add_10 ?_ ?_
    · exact r_sub [] rfl (hj53 M)
    · refine r_aload_n 13 hC 0 rfl (Or.inl (by decide)) rfl dX3_add_13 ?_
      refine r_get 14 hC fd_2_4 fl_X3_25 dX3_add_14 (fun v3 => ?_)
      refine r_aload_n 17 hC 0 rfl (Or.inl (by decide)) rfl dX3_add_17 ?_
      refine r_get 18 hC fd_2_3 fl_X3_21 dX3_add_18 (fun v4 => ?_)
      refine r_iload_n 21 hC 1 rfl rfl dX3_add_21 ?_
      refine r_iastore 22 hC dX3_add_22 (fun M5 => ?_)
      refine r_aload_n 23 hC 0 rfl (Or.inl (by decide)) rfl dX3_add_23 ?_
      refine r_get 24 hC fd_2_5 fl_X3_28 dX3_add_24 (fun v6 => ?_)
      refine r_aload_n 27 hC 0 rfl (Or.inl (by decide)) rfl dX3_add_27 ?_
      refine r_get 28 hC fd_2_3 fl_X3_21 dX3_add_28 (fun v7 => ?_)
      refine r_iload_n 31 hC 2 rfl rfl dX3_add_31 ?_
      refine r_iastore 32 hC dX3_add_32 (fun M8 => ?_)
      refine r_aload_n 33 hC 0 rfl (Or.inl (by decide)) rfl dX3_add_33 ?_
      refine r_get 34 hC fd_2_6 fl_X3_31 dX3_add_34 (fun v9 => ?_)
      refine r_aload_n 37 hC 0 rfl (Or.inl (by decide)) rfl dX3_add_37 ?_
      refine r_get 38 hC fd_2_3 fl_X3_21 dX3_add_38 (fun v10 => ?_)
      refine r_iload_n 41 hC 3 rfl rfl dX3_add_41 ?_
      refine r_iastore 42 hC dX3_add_42 (fun M11 => ?_)
      refine r_aload_n 43 hC 0 rfl (Or.inl (by decide)) rfl dX3_add_43 ?_
      refine r_dup 44 hC (by decide) dX3_add_44 ?_
      refine r_get 45 hC fd_2_3 fl_X3_21 dX3_add_45 (fun v12 => ?_)
      refine r_iconst 48 hC (r32c rfl) dX3_add_48 ?_
      refine r_iadd 49 hC dX3_add_49 ?_
      refine r_put 50 hC fd_2_3 fl_X3_21 dX3_add_50 (fun M13 => ?_)
      exact r_sub [] rfl (hj53 M13)

/-! WaterTurns$Slots.layTurn(LWaterTurns$Standing;I)V -/
theorem dX3_layTurn_0 : decode cX3_layTurn 0 = .ok (.aload_n 0, 1) := by decide +kernel
theorem dX3_layTurn_1 : decode cX3_layTurn 1 = .ok (.getfield 18, 3) := by decide +kernel
theorem dX3_layTurn_4 : decode cX3_layTurn 4 = .ok (.iload_n 2, 1) := by decide +kernel
theorem dX3_layTurn_5 : decode cX3_layTurn 5 = .ok (.aload_n 0, 1) := by decide +kernel
theorem dX3_layTurn_6 : decode cX3_layTurn 6 = .ok (.getfield 15, 3) := by decide +kernel
theorem dX3_layTurn_9 : decode cX3_layTurn 9 = .ok (.iload_n 2, 1) := by decide +kernel
theorem dX3_layTurn_10 : decode cX3_layTurn 10 = .ok (.iaload, 1) := by decide +kernel
theorem dX3_layTurn_11 : decode cX3_layTurn 11 = .ok (.iastore, 1) := by decide +kernel
theorem dX3_layTurn_12 : decode cX3_layTurn 12 = .ok (.iconst 0, 1) := by decide +kernel
theorem dX3_layTurn_13 : decode cX3_layTurn 13 = .ok (.istore_n 3, 1) := by decide +kernel
theorem dX3_layTurn_14 : decode cX3_layTurn 14 = .ok (.iload_n 3, 1) := by decide +kernel
theorem dX3_layTurn_15 : decode cX3_layTurn 15 = .ok (.aload_n 1, 1) := by decide +kernel
theorem dX3_layTurn_16 : decode cX3_layTurn 16 = .ok (.getfield 65, 3) := by decide +kernel
theorem dX3_layTurn_19 : decode cX3_layTurn 19 = .ok (.if_icmp .ge 38, 3) := by decide +kernel
theorem dX3_layTurn_22 : decode cX3_layTurn 22 = .ok (.aload_n 0, 1) := by decide +kernel
theorem dX3_layTurn_23 : decode cX3_layTurn 23 = .ok (.getfield 18, 3) := by decide +kernel
theorem dX3_layTurn_26 : decode cX3_layTurn 26 = .ok (.iload_n 2, 1) := by decide +kernel
theorem dX3_layTurn_27 : decode cX3_layTurn 27 = .ok (.dup2, 1) := by decide +kernel
theorem dX3_layTurn_28 : decode cX3_layTurn 28 = .ok (.iaload, 1) := by decide +kernel
theorem dX3_layTurn_29 : decode cX3_layTurn 29 = .ok (.aload_n 1, 1) := by decide +kernel
theorem dX3_layTurn_30 : decode cX3_layTurn 30 = .ok (.getfield 68, 3) := by decide +kernel
theorem dX3_layTurn_33 : decode cX3_layTurn 33 = .ok (.iload_n 3, 1) := by decide +kernel
theorem dX3_layTurn_34 : decode cX3_layTurn 34 = .ok (.iaload, 1) := by decide +kernel
theorem dX3_layTurn_35 : decode cX3_layTurn 35 = .ok (.iload_n 2, 1) := by decide +kernel
theorem dX3_layTurn_36 : decode cX3_layTurn 36 = .ok (.if_icmp .ne 12, 3) := by decide +kernel
theorem dX3_layTurn_39 : decode cX3_layTurn 39 = .ok (.aload_n 1, 1) := by decide +kernel
theorem dX3_layTurn_40 : decode cX3_layTurn 40 = .ok (.getfield 71, 3) := by decide +kernel
theorem dX3_layTurn_43 : decode cX3_layTurn 43 = .ok (.iload_n 3, 1) := by decide +kernel
theorem dX3_layTurn_44 : decode cX3_layTurn 44 = .ok (.iaload, 1) := by decide +kernel
theorem dX3_layTurn_45 : decode cX3_layTurn 45 = .ok (.goto 4, 3) := by decide +kernel
theorem dX3_layTurn_48 : decode cX3_layTurn 48 = .ok (.iconst 0, 1) := by decide +kernel
theorem dX3_layTurn_49 : decode cX3_layTurn 49 = .ok (.isub, 1) := by decide +kernel
theorem dX3_layTurn_50 : decode cX3_layTurn 50 = .ok (.iastore, 1) := by decide +kernel
theorem dX3_layTurn_51 : decode cX3_layTurn 51 = .ok (.iinc 3 1, 3) := by decide +kernel
theorem dX3_layTurn_54 : decode cX3_layTurn 54 = .ok (.goto (-40), 3) := by decide +kernel
theorem dX3_layTurn_57 : decode cX3_layTurn 57 = .ok (.aload_n 0, 1) := by decide +kernel
theorem dX3_layTurn_58 : decode cX3_layTurn 58 = .ok (.iload_n 2, 1) := by decide +kernel
theorem dX3_layTurn_59 : decode cX3_layTurn 59 = .ok (.aload_n 0, 1) := by decide +kernel
theorem dX3_layTurn_60 : decode cX3_layTurn 60 = .ok (.getfield 9, 3) := by decide +kernel
theorem dX3_layTurn_63 : decode cX3_layTurn 63 = .ok (.iload_n 2, 1) := by decide +kernel
theorem dX3_layTurn_64 : decode cX3_layTurn 64 = .ok (.iaload, 1) := by decide +kernel
theorem dX3_layTurn_65 : decode cX3_layTurn 65 = .ok (.aload_n 0, 1) := by decide +kernel
theorem dX3_layTurn_66 : decode cX3_layTurn 66 = .ok (.getfield 18, 3) := by decide +kernel
theorem dX3_layTurn_69 : decode cX3_layTurn 69 = .ok (.iload_n 2, 1) := by decide +kernel
theorem dX3_layTurn_70 : decode cX3_layTurn 70 = .ok (.iaload, 1) := by decide +kernel
theorem dX3_layTurn_71 : decode cX3_layTurn 71 = .ok (.invokevirtual 74, 3) := by decide +kernel
theorem dX3_layTurn_74 : decode cX3_layTurn 74 = .ok (.aload_n 0, 1) := by decide +kernel
theorem dX3_layTurn_75 : decode cX3_layTurn 75 = .ok (.getfield 9, 3) := by decide +kernel
theorem dX3_layTurn_78 : decode cX3_layTurn 78 = .ok (.iload_n 2, 1) := by decide +kernel
theorem dX3_layTurn_79 : decode cX3_layTurn 79 = .ok (.iaload, 1) := by decide +kernel
theorem dX3_layTurn_80 : decode cX3_layTurn 80 = .ok (.aload_n 0, 1) := by decide +kernel
theorem dX3_layTurn_81 : decode cX3_layTurn 81 = .ok (.getfield 18, 3) := by decide +kernel
theorem dX3_layTurn_84 : decode cX3_layTurn 84 = .ok (.iload_n 2, 1) := by decide +kernel
theorem dX3_layTurn_85 : decode cX3_layTurn 85 = .ok (.iaload, 1) := by decide +kernel
theorem dX3_layTurn_86 : decode cX3_layTurn 86 = .ok (.iadd, 1) := by decide +kernel
theorem dX3_layTurn_87 : decode cX3_layTurn 87 = .ok (.istore_n 3, 1) := by decide +kernel
theorem dX3_layTurn_88 : decode cX3_layTurn 88 = .ok (.aload_n 1, 1) := by decide +kernel
theorem dX3_layTurn_89 : decode cX3_layTurn 89 = .ok (.getfield 65, 3) := by decide +kernel
theorem dX3_layTurn_92 : decode cX3_layTurn 92 = .ok (.iconst 1, 1) := by decide +kernel
theorem dX3_layTurn_93 : decode cX3_layTurn 93 = .ok (.isub, 1) := by decide +kernel
theorem dX3_layTurn_94 : decode cX3_layTurn 94 = .ok (.istore 4, 2) := by decide +kernel
theorem dX3_layTurn_96 : decode cX3_layTurn 96 = .ok (.iload 4, 2) := by decide +kernel
theorem dX3_layTurn_98 : decode cX3_layTurn 98 = .ok (.ifCond .lt 49, 3) := by decide +kernel
theorem dX3_layTurn_101 : decode cX3_layTurn 101 = .ok (.aload_n 1, 1) := by decide +kernel
theorem dX3_layTurn_102 : decode cX3_layTurn 102 = .ok (.getfield 68, 3) := by decide +kernel
theorem dX3_layTurn_105 : decode cX3_layTurn 105 = .ok (.iload 4, 2) := by decide +kernel
theorem dX3_layTurn_107 : decode cX3_layTurn 107 = .ok (.iaload, 1) := by decide +kernel
theorem dX3_layTurn_108 : decode cX3_layTurn 108 = .ok (.iload_n 2, 1) := by decide +kernel
theorem dX3_layTurn_109 : decode cX3_layTurn 109 = .ok (.if_icmp .ne 32, 3) := by decide +kernel
theorem dX3_layTurn_112 : decode cX3_layTurn 112 = .ok (.aload_n 0, 1) := by decide +kernel
theorem dX3_layTurn_113 : decode cX3_layTurn 113 = .ok (.aload_n 1, 1) := by decide +kernel
theorem dX3_layTurn_114 : decode cX3_layTurn 114 = .ok (.getfield 78, 3) := by decide +kernel
theorem dX3_layTurn_117 : decode cX3_layTurn 117 = .ok (.iload 4, 2) := by decide +kernel
theorem dX3_layTurn_119 : decode cX3_layTurn 119 = .ok (.iaload, 1) := by decide +kernel
theorem dX3_layTurn_120 : decode cX3_layTurn 120 = .ok (.iload_n 3, 1) := by decide +kernel
theorem dX3_layTurn_121 : decode cX3_layTurn 121 = .ok (.aload_n 1, 1) := by decide +kernel
theorem dX3_layTurn_122 : decode cX3_layTurn 122 = .ok (.getfield 71, 3) := by decide +kernel
theorem dX3_layTurn_125 : decode cX3_layTurn 125 = .ok (.iload 4, 2) := by decide +kernel
theorem dX3_layTurn_127 : decode cX3_layTurn 127 = .ok (.iaload, 1) := by decide +kernel
theorem dX3_layTurn_128 : decode cX3_layTurn 128 = .ok (.invokevirtual 74, 3) := by decide +kernel
theorem dX3_layTurn_131 : decode cX3_layTurn 131 = .ok (.iload_n 3, 1) := by decide +kernel
theorem dX3_layTurn_132 : decode cX3_layTurn 132 = .ok (.aload_n 1, 1) := by decide +kernel
theorem dX3_layTurn_133 : decode cX3_layTurn 133 = .ok (.getfield 71, 3) := by decide +kernel
theorem dX3_layTurn_136 : decode cX3_layTurn 136 = .ok (.iload 4, 2) := by decide +kernel
theorem dX3_layTurn_138 : decode cX3_layTurn 138 = .ok (.iaload, 1) := by decide +kernel
theorem dX3_layTurn_139 : decode cX3_layTurn 139 = .ok (.iadd, 1) := by decide +kernel
theorem dX3_layTurn_140 : decode cX3_layTurn 140 = .ok (.istore_n 3, 1) := by decide +kernel
theorem dX3_layTurn_141 : decode cX3_layTurn 141 = .ok (.iinc 4 (-1), 3) := by decide +kernel
theorem dX3_layTurn_144 : decode cX3_layTurn 144 = .ok (.goto (-48), 3) := by decide +kernel
theorem dX3_layTurn_147 : decode cX3_layTurn 147 = .ok (.return_, 1) := by decide +kernel
set_option maxRecDepth 100000 in
theorem f_X3_layTurn_L14_ok {E : EnvT} {C : Cx} {Mi : Mem} {x0 : Int} (h0 : x0 ≠ 0) (hC : CxOK E C cX3_layTurn 5 yX3_layTurn.cls 2 0 0) {M0 : Mem} (hq : RQ E C 0 0 Mi none none M0) {x1 x2 : Int} {k : Mem → Option (Mem)} (hk : ∀ M16, Bk E C 5 Mi M0 57 [(0, 22, x0), (1, 23, x1), (2, 0, x2)] [] M16 0 0 (k M16)) : ∀ (n : Nat) (p5 : Int) (M6 : Mem), Bk E C 5 Mi M0 14 [(0, 22, x0), (1, 23, x1), (2, 0, x2), (3, 0, p5)] [] M6 0 0 (f_X3_layTurn_L14 x0 x1 x2 k n p5 M6) := by
  intro n
  induction n with
  | zero =>
    intro p5 M6
    exact r_none
  | succ n ih =>
    intro p5 M6
    rw [f_X3_layTurn_L14]
    refine r_iload_n 14 hC 3 rfl rfl dX3_layTurn_14 ?_
    refine r_aload_n 15 hC 1 rfl (Or.inl (by decide)) rfl dX3_layTurn_15 ?_
    refine r_get 16 hC fd_3_3 fl_X3_65 dX3_layTurn_16 (fun v7 => ?_)
    refine r_icmp_ge 19 hC (tgt := 57) (by decide) dX3_layTurn_19 ?_ ?_
    · exact r_sub [0, 1, 2] rfl (hk M6)
    · refine r_aload_n 22 hC 0 rfl (Or.inl (by decide)) rfl dX3_layTurn_22 ?_
      refine r_get 23 hC fd_2_2 fl_X3_18 dX3_layTurn_23 (fun v8 => ?_)
      refine r_iload_n 26 hC 2 rfl rfl dX3_layTurn_26 ?_
      refine r_dup2 27 hC ⟨by decide, by decide⟩ dX3_layTurn_27 ?_
      refine r_iaload 28 hC dX3_layTurn_28 (fun v9 => ?_)
      refine r_aload_n 29 hC 1 rfl (Or.inl (by decide)) rfl dX3_layTurn_29 ?_
      refine r_get 30 hC fd_3_5 fl_X3_68 dX3_layTurn_30 (fun v10 => ?_)
      refine r_iload_n 33 hC 3 rfl rfl dX3_layTurn_33 ?_
      refine r_iaload 34 hC dX3_layTurn_34 (fun v11 => ?_)
      refine r_iload_n 35 hC 2 rfl rfl dX3_layTurn_35 ?_
      refine r_jn (P := fun j49 => ∀ (q12 : Int), Bk E C 5 Mi M0 49 [(0, 22, x0), (1, 23, x1), (2, 0, x2), (3, 0, p5)] [(0, q12), (0, v9), (0, x2), (10, v8)] M6 0 0 (j49 q12)) ?_ (fun j49 hj49 => ?_)
      · intro q12
        refine r_isub 49 hC dX3_layTurn_49 ?_
        refine r_iastore 50 hC dX3_layTurn_50 (fun M13 => ?_)
        refine r_iinc 51 hC 3 rfl (by decide) dX3_layTurn_51 (r_eqls (ls' := [(3, 0, w32 (p5 + 1)), (0, 22, x0), (1, 23, x1), (2, 0, x2)]) rfl ?_)
        refine r_goto 54 hC (tgt := 14) (by decide) dX3_layTurn_54 ?_
        exact r_sub [1, 2, 3, 0] rfl (ih (w32 (p5 + 1)) M13)
      refine r_icmp_ne 36 hC (tgt := 48) (by decide) dX3_layTurn_36 ?_ ?_
      · refine r_iconst 48 hC (r32c rfl) dX3_layTurn_48 ?_
        exact hj49 0
      · refine r_aload_n 39 hC 1 rfl (Or.inl (by decide)) rfl dX3_layTurn_39 ?_
        refine r_get 40 hC fd_3_7 fl_X3_71 dX3_layTurn_40 (fun v14 => ?_)
        refine r_iload_n 43 hC 3 rfl rfl dX3_layTurn_43 ?_
        refine r_iaload 44 hC dX3_layTurn_44 (fun v15 => ?_)
        refine r_goto 45 hC (tgt := 49) (by decide) dX3_layTurn_45 ?_
        exact hj49 v15
set_option maxRecDepth 100000 in
theorem f_X3_layTurn_L96_ok {E : EnvT} {C : Cx} {Mi : Mem} {x0 : Int} (h0 : x0 ≠ 0) (hC : CxOK E C cX3_layTurn 5 yX3_layTurn.cls 2 0 0) {M0 : Mem} (hq : RQ E C 0 0 Mi none none M0) {x1 x2 : Int} {k : Mem → Option (Mem)} (hk : ∀ M45, Bk E C 5 Mi M0 147 [] [] M45 0 0 (k M45)) : ∀ (n : Nat) (p30 : Int) (p31 : Int) (M32 : Mem), Bk E C 5 Mi M0 96 [(0, 22, x0), (1, 23, x1), (2, 0, x2), (3, 0, p30), (4, 0, p31)] [] M32 0 0 (f_X3_layTurn_L96 x0 x1 x2 k n p30 p31 M32) := by
  intro n
  induction n with
  | zero =>
    intro p30 p31 M32
    exact r_none
  | succ n ih =>
    intro p30 p31 M32
    rw [f_X3_layTurn_L96]
    refine r_iload 96 hC 4 rfl dX3_layTurn_96 ?_
    refine r_if_lt 98 hC (tgt := 147) (by decide) dX3_layTurn_98 ?_ ?_
    · exact r_sub [] rfl (hk M32)
    · refine r_aload_n 101 hC 1 rfl (Or.inl (by decide)) rfl dX3_layTurn_101 ?_
      refine r_get 102 hC fd_3_5 fl_X3_68 dX3_layTurn_102 (fun v33 => ?_)
      refine r_iload 105 hC 4 rfl dX3_layTurn_105 ?_
      refine r_iaload 107 hC dX3_layTurn_107 (fun v34 => ?_)
      refine r_iload_n 108 hC 2 rfl rfl dX3_layTurn_108 ?_
      refine r_jn (P := fun j141 => ∀ (q35 : Int) (M36 : Mem), Bk E C 5 Mi M0 141 [(0, 22, x0), (1, 23, x1), (2, 0, x2), (3, 0, q35), (4, 0, p31)] [] M36 0 0 (j141 q35 M36)) ?_ (fun j141 hj141 => ?_)
      · intro q35 M36
        refine r_iinc 141 hC 4 rfl (by decide) dX3_layTurn_141 (r_eqls (ls' := [(4, 0, w32 (p31 + (-1))), (0, 22, x0), (1, 23, x1), (2, 0, x2), (3, 0, q35)]) rfl ?_)
        refine r_goto 144 hC (tgt := 96) (by decide) dX3_layTurn_144 ?_
        exact r_sub [1, 2, 3, 4, 0] rfl (ih q35 (w32 (p31 + (-1))) M36)
      refine r_icmp_ne 109 hC (tgt := 141) (by decide) dX3_layTurn_109 ?_ ?_
      · exact hj141 p30 M32
      · refine r_aload_n 112 hC 0 rfl (Or.inl (by decide)) rfl dX3_layTurn_112 ?_
        refine r_aload_n 113 hC 1 rfl (Or.inl (by decide)) rfl dX3_layTurn_113 ?_
        refine r_get 114 hC fd_3_6 fl_X3_78 dX3_layTurn_114 (fun v37 => ?_)
        refine r_iload 117 hC 4 rfl dX3_layTurn_117 ?_
        refine r_iaload 119 hC dX3_layTurn_119 (fun v38 => ?_)
        refine r_iload_n 120 hC 3 rfl rfl dX3_layTurn_120 ?_
        refine r_aload_n 121 hC 1 rfl (Or.inl (by decide)) rfl dX3_layTurn_121 ?_
        refine r_get 122 hC fd_3_7 fl_X3_71 dX3_layTurn_122 (fun v39 => ?_)
        refine r_iload 125 hC 4 rfl dX3_layTurn_125 ?_
        refine r_iaload 127 hC dX3_layTurn_127 (fun v40 => ?_)
        refine r_callVV 128 hC [(0, v38), (0, p30), (0, v40)] [] rfl vl_X3_74 rfl h0 (by decide) (Nat.le_of_ble_eq_true rfl) (by decide) (by decide) dX3_layTurn_128 (t_X3_add x0 v38 p30 v40 M32 h0) (fun M41 => ?_)
        refine r_iload_n 131 hC 3 rfl rfl dX3_layTurn_131 ?_
        refine r_aload_n 132 hC 1 rfl (Or.inl (by decide)) rfl dX3_layTurn_132 ?_
        refine r_get 133 hC fd_3_7 fl_X3_71 dX3_layTurn_133 (fun v42 => ?_)
        refine r_iload 136 hC 4 rfl dX3_layTurn_136 ?_
        refine r_iaload 138 hC dX3_layTurn_138 (fun v43 => ?_)
        refine r_iadd 139 hC dX3_layTurn_139 ?_
        refine r_istore_nL 140 hC rfl (by decide) dX3_layTurn_140 (fun v44 => r_eqls (ls' := [(3, 0, v44), (0, 22, x0), (1, 23, x1), (2, 0, x2), (4, 0, p31)]) rfl ?_)
        exact r_sub [1, 2, 3, 0, 4] rfl (hj141 v44 M41)
set_option maxRecDepth 100000 in
theorem t_X3_layTurn (x0 x1 x2 : Int) (M : Mem) (h0 : x0 ≠ 0) : MtV yX3_layTurn cX3_layTurn 5 none 2 0 0 [(22, x0), (23, x1), (0, x2)] M (f_X3_layTurn x0 x1 x2 M) := by
  refine mk_V (by decide +kernel) (Nat.le_of_ble_eq_true rfl) (fun E C M0 hC hq hin => ?_)
  refine r_eqls (ls' := [(0, 22, x0), (1, 23, x1), (2, 0, x2)]) rfl ?_
  unfold f_X3_layTurn
  refine r_aload_n 0 hC 0 rfl (Or.inl (by decide)) rfl dX3_layTurn_0 ?_
  refine r_get 1 hC fd_2_2 fl_X3_18 dX3_layTurn_1 (fun v1 => ?_)
  refine r_iload_n 4 hC 2 rfl rfl dX3_layTurn_4 ?_
  refine r_aload_n 5 hC 0 rfl (Or.inl (by decide)) rfl dX3_layTurn_5 ?_
  refine r_get 6 hC fd_2_1 fl_X3_15 dX3_layTurn_6 (fun v2 => ?_)
  refine r_iload_n 9 hC 2 rfl rfl dX3_layTurn_9 ?_
  refine r_iaload 10 hC dX3_layTurn_10 (fun v3 => ?_)
  refine r_iastore 11 hC dX3_layTurn_11 (fun M4 => ?_)
  refine r_iconst 12 hC (r32c rfl) dX3_layTurn_12 ?_
  refine r_istore_n 13 hC rfl (by decide) dX3_layTurn_13 (r_eqls (ls' := [(3, 0, 0), (0, 22, x0), (1, 23, x1), (2, 0, x2)]) rfl ?_)
  refine r_sub [1, 2, 3, 0] rfl (f_X3_layTurn_L14_ok h0 hC hq (fun M17 => ?_) KF 0 M4)
  · refine r_aload_n 57 hC 0 rfl (Or.inl (by decide)) rfl dX3_layTurn_57 ?_
    refine r_iload_n 58 hC 2 rfl rfl dX3_layTurn_58 ?_
    refine r_aload_n 59 hC 0 rfl (Or.inl (by decide)) rfl dX3_layTurn_59 ?_
    refine r_get 60 hC fd_2_0 fl_X3_9 dX3_layTurn_60 (fun v18 => ?_)
    refine r_iload_n 63 hC 2 rfl rfl dX3_layTurn_63 ?_
    refine r_iaload 64 hC dX3_layTurn_64 (fun v19 => ?_)
    refine r_aload_n 65 hC 0 rfl (Or.inl (by decide)) rfl dX3_layTurn_65 ?_
    refine r_get 66 hC fd_2_2 fl_X3_18 dX3_layTurn_66 (fun v20 => ?_)
    refine r_iload_n 69 hC 2 rfl rfl dX3_layTurn_69 ?_
    refine r_iaload 70 hC dX3_layTurn_70 (fun v21 => ?_)
    refine r_callVV 71 hC [(0, x2), (0, v19), (0, v21)] [] rfl vl_X3_74 rfl h0 (by decide) (Nat.le_of_ble_eq_true rfl) (by decide) (by decide) dX3_layTurn_71 (t_X3_add x0 x2 v19 v21 M17 h0) (fun M22 => ?_)
    refine r_aload_n 74 hC 0 rfl (Or.inl (by decide)) rfl dX3_layTurn_74 ?_
    refine r_get 75 hC fd_2_0 fl_X3_9 dX3_layTurn_75 (fun v23 => ?_)
    refine r_iload_n 78 hC 2 rfl rfl dX3_layTurn_78 ?_
    refine r_iaload 79 hC dX3_layTurn_79 (fun v24 => ?_)
    refine r_aload_n 80 hC 0 rfl (Or.inl (by decide)) rfl dX3_layTurn_80 ?_
    refine r_get 81 hC fd_2_2 fl_X3_18 dX3_layTurn_81 (fun v25 => ?_)
    refine r_iload_n 84 hC 2 rfl rfl dX3_layTurn_84 ?_
    refine r_iaload 85 hC dX3_layTurn_85 (fun v26 => ?_)
    refine r_iadd 86 hC dX3_layTurn_86 ?_
    refine r_istore_nL 87 hC rfl (by decide) dX3_layTurn_87 (fun v27 => r_eqls (ls' := [(3, 0, v27), (0, 22, x0), (1, 23, x1), (2, 0, x2)]) rfl ?_)
    refine r_aload_n 88 hC 2 rfl (Or.inl (by decide)) rfl dX3_layTurn_88 ?_
    refine r_get 89 hC fd_3_3 fl_X3_65 dX3_layTurn_89 (fun v28 => ?_)
    refine r_iconst 92 hC (r32c rfl) dX3_layTurn_92 ?_
    refine r_isub 93 hC dX3_layTurn_93 ?_
    refine r_istoreL 94 hC (by decide) dX3_layTurn_94 (fun v29 => r_eqls (ls' := [(4, 0, v29), (3, 0, v27), (0, 22, x0), (1, 23, x1), (2, 0, x2)]) rfl ?_)
    refine r_sub [2, 3, 4, 1, 0] rfl (f_X3_layTurn_L96_ok h0 hC hq (fun M46 => ?_) KF v27 v29 M22)
    · exact r_return 147 hC hq (by decide) (by decide) dX3_layTurn_147

/-! WaterTurns$Slots.lay(LWaterTurns$World;)V -/
theorem dX3_lay_0 : decode cX3_lay 0 = .ok (.aload_n 1, 1) := by decide +kernel
theorem dX3_lay_1 : decode cX3_lay 1 = .ok (.getfield 34, 3) := by decide +kernel
theorem dX3_lay_4 : decode cX3_lay 4 = .ok (.astore_n 2, 1) := by decide +kernel
theorem dX3_lay_5 : decode cX3_lay 5 = .ok (.aload_n 0, 1) := by decide +kernel
theorem dX3_lay_6 : decode cX3_lay 6 = .ok (.iconst 0, 1) := by decide +kernel
theorem dX3_lay_7 : decode cX3_lay 7 = .ok (.putfield 21, 3) := by decide +kernel
theorem dX3_lay_10 : decode cX3_lay 10 = .ok (.iconst 0, 1) := by decide +kernel
theorem dX3_lay_11 : decode cX3_lay 11 = .ok (.istore_n 3, 1) := by decide +kernel
theorem dX3_lay_12 : decode cX3_lay 12 = .ok (.iconst 0, 1) := by decide +kernel
theorem dX3_lay_13 : decode cX3_lay 13 = .ok (.istore 4, 2) := by decide +kernel
theorem dX3_lay_15 : decode cX3_lay 15 = .ok (.iload 4, 2) := by decide +kernel
theorem dX3_lay_17 : decode cX3_lay 17 = .ok (.aload_n 2, 1) := by decide +kernel
theorem dX3_lay_18 : decode cX3_lay 18 = .ok (.getfield 40, 3) := by decide +kernel
theorem dX3_lay_21 : decode cX3_lay 21 = .ok (.if_icmp .ge 75, 3) := by decide +kernel
theorem dX3_lay_24 : decode cX3_lay 24 = .ok (.aload_n 1, 1) := by decide +kernel
theorem dX3_lay_25 : decode cX3_lay 25 = .ok (.getfield 45, 3) := by decide +kernel
theorem dX3_lay_28 : decode cX3_lay 28 = .ok (.getfield 49, 3) := by decide +kernel
theorem dX3_lay_31 : decode cX3_lay 31 = .ok (.iload 4, 2) := by decide +kernel
theorem dX3_lay_33 : decode cX3_lay 33 = .ok (.iaload, 1) := by decide +kernel
theorem dX3_lay_34 : decode cX3_lay 34 = .ok (.istore 5, 2) := by decide +kernel
theorem dX3_lay_36 : decode cX3_lay 36 = .ok (.aload_n 0, 1) := by decide +kernel
theorem dX3_lay_37 : decode cX3_lay 37 = .ok (.getfield 9, 3) := by decide +kernel
theorem dX3_lay_40 : decode cX3_lay 40 = .ok (.iload 5, 2) := by decide +kernel
theorem dX3_lay_42 : decode cX3_lay 42 = .ok (.aload_n 2, 1) := by decide +kernel
theorem dX3_lay_43 : decode cX3_lay 43 = .ok (.iload_n 3, 1) := by decide +kernel
theorem dX3_lay_44 : decode cX3_lay 44 = .ok (.invokevirtual 54, 3) := by decide +kernel
theorem dX3_lay_47 : decode cX3_lay 47 = .ok (.iastore, 1) := by decide +kernel
theorem dX3_lay_48 : decode cX3_lay 48 = .ok (.iload_n 3, 1) := by decide +kernel
theorem dX3_lay_49 : decode cX3_lay 49 = .ok (.aload_n 2, 1) := by decide +kernel
theorem dX3_lay_50 : decode cX3_lay 50 = .ok (.getfield 58, 3) := by decide +kernel
theorem dX3_lay_53 : decode cX3_lay 53 = .ok (.iload 5, 2) := by decide +kernel
theorem dX3_lay_55 : decode cX3_lay 55 = .ok (.aaload, 1) := by decide +kernel
theorem dX3_lay_56 : decode cX3_lay 56 = .ok (.iconst 1, 1) := by decide +kernel
theorem dX3_lay_57 : decode cX3_lay 57 = .ok (.iaload, 1) := by decide +kernel
theorem dX3_lay_58 : decode cX3_lay 58 = .ok (.iadd, 1) := by decide +kernel
theorem dX3_lay_59 : decode cX3_lay 59 = .ok (.istore_n 3, 1) := by decide +kernel
theorem dX3_lay_60 : decode cX3_lay 60 = .ok (.aload_n 0, 1) := by decide +kernel
theorem dX3_lay_61 : decode cX3_lay 61 = .ok (.getfield 15, 3) := by decide +kernel
theorem dX3_lay_64 : decode cX3_lay 64 = .ok (.iload 5, 2) := by decide +kernel
theorem dX3_lay_66 : decode cX3_lay 66 = .ok (.aload_n 2, 1) := by decide +kernel
theorem dX3_lay_67 : decode cX3_lay 67 = .ok (.iload_n 3, 1) := by decide +kernel
theorem dX3_lay_68 : decode cX3_lay 68 = .ok (.invokevirtual 54, 3) := by decide +kernel
theorem dX3_lay_71 : decode cX3_lay 71 = .ok (.aload_n 0, 1) := by decide +kernel
theorem dX3_lay_72 : decode cX3_lay 72 = .ok (.getfield 9, 3) := by decide +kernel
theorem dX3_lay_75 : decode cX3_lay 75 = .ok (.iload 5, 2) := by decide +kernel
theorem dX3_lay_77 : decode cX3_lay 77 = .ok (.iaload, 1) := by decide +kernel
theorem dX3_lay_78 : decode cX3_lay 78 = .ok (.isub, 1) := by decide +kernel
theorem dX3_lay_79 : decode cX3_lay 79 = .ok (.iastore, 1) := by decide +kernel
theorem dX3_lay_80 : decode cX3_lay 80 = .ok (.aload_n 0, 1) := by decide +kernel
theorem dX3_lay_81 : decode cX3_lay 81 = .ok (.aload_n 1, 1) := by decide +kernel
theorem dX3_lay_82 : decode cX3_lay 82 = .ok (.getfield 45, 3) := by decide +kernel
theorem dX3_lay_85 : decode cX3_lay 85 = .ok (.iload 5, 2) := by decide +kernel
theorem dX3_lay_87 : decode cX3_lay 87 = .ok (.invokevirtual 61, 3) := by decide +kernel
theorem dX3_lay_90 : decode cX3_lay 90 = .ok (.iinc 4 1, 3) := by decide +kernel
theorem dX3_lay_93 : decode cX3_lay 93 = .ok (.goto (-78), 3) := by decide +kernel
theorem dX3_lay_96 : decode cX3_lay 96 = .ok (.return_, 1) := by decide +kernel
set_option maxRecDepth 100000 in
theorem f_X3_lay_L15_ok {E : EnvT} {C : Cx} {Mi : Mem} {x0 : Int} (h0 : x0 ≠ 0) (hC : CxOK E C cX3_lay 6 yX3_lay.cls 3 0 0) {M0 : Mem} (hq : RQ E C 0 0 Mi none none M0) {v1 x1 : Int} {k : Mem → Option (Mem)} (hk : ∀ M25, Bk E C 6 Mi M0 96 [] [] M25 0 0 (k M25)) : ∀ (n : Nat) (p3 : Int) (p4 : Int) (M5 : Mem), Bk E C 6 Mi M0 15 [(0, 22, x0), (1, 28, x1), (2, 27, v1), (3, 0, p3), (4, 0, p4)] [] M5 0 0 (f_X3_lay_L15 v1 x0 x1 k n p3 p4 M5) := by
  intro n
  induction n with
  | zero =>
    intro p3 p4 M5
    exact r_none
  | succ n ih =>
    intro p3 p4 M5
    rw [f_X3_lay_L15]
    refine r_iload 15 hC 4 rfl dX3_lay_15 ?_
    refine r_aload_n 17 hC 2 rfl (Or.inl (by decide)) rfl dX3_lay_17 ?_
    refine r_get 18 hC fd_7_5 fl_X3_40 dX3_lay_18 (fun v6 => ?_)
    refine r_icmp_ge 21 hC (tgt := 96) (by decide) dX3_lay_21 ?_ ?_
    · exact r_sub [] rfl (hk M5)
    · refine r_aload_n 24 hC 1 rfl (Or.inl (by decide)) rfl dX3_lay_24 ?_
      refine r_get 25 hC fd_8_2 fl_X3_45 dX3_lay_25 (fun v7 => ?_)
      refine r_get 28 hC fd_3_4 fl_X3_49 dX3_lay_28 (fun v8 => ?_)
      refine r_iload 31 hC 4 rfl dX3_lay_31 ?_
      refine r_iaload 33 hC dX3_lay_33 (fun v9 => ?_)
      refine r_istore 34 hC (by decide) dX3_lay_34 (r_eqls (ls' := [(5, 0, v9), (0, 22, x0), (1, 28, x1), (2, 27, v1), (3, 0, p3), (4, 0, p4)]) rfl ?_)
      refine r_aload_n 36 hC 1 rfl (Or.inl (by decide)) rfl dX3_lay_36 ?_
      refine r_get 37 hC fd_2_0 fl_X3_9 dX3_lay_37 (fun v10 => ?_)
      refine r_iload 40 hC 0 rfl dX3_lay_40 ?_
      refine r_aload_n 42 hC 3 rfl (Or.inl (by decide)) rfl dX3_lay_42 ?_
      refine r_iload_n 43 hC 4 rfl rfl dX3_lay_43 ?_
      refine r_nn (fun hn11 => ?_)
      refine r_callVP 44 hC [(0, p3)] [(0, v9), (10, v10)] rfl vl_X3_54 rfl hn11 (by decide) (Nat.le_of_ble_eq_true rfl) (by decide) (by decide) dX3_lay_44 (t_X8_turnEdge v1 p3 M5 hn11) (fun v12 => ?_)
      refine r_iastore 47 hC dX3_lay_47 (fun M13 => ?_)
      refine r_iload_n 48 hC 4 rfl rfl dX3_lay_48 ?_
      refine r_aload_n 49 hC 3 rfl (Or.inl (by decide)) rfl dX3_lay_49 ?_
      refine r_get 50 hC fd_7_9 fl_X3_58 dX3_lay_50 (fun v14 => ?_)
      refine r_iload 53 hC 0 rfl dX3_lay_53 ?_
      refine r_aaloadI 55 hC dX3_lay_55 (fun v15 => ?_)
      refine r_iconst 56 hC (r32c rfl) dX3_lay_56 ?_
      refine r_iaload 57 hC dX3_lay_57 (fun v16 => ?_)
      refine r_iadd 58 hC dX3_lay_58 ?_
      refine r_istore_nL 59 hC rfl (by decide) dX3_lay_59 (fun v17 => r_eqls (ls' := [(3, 0, v17), (5, 0, v9), (0, 22, x0), (1, 28, x1), (2, 27, v1), (4, 0, p4)]) rfl ?_)
      refine r_aload_n 60 hC 2 rfl (Or.inl (by decide)) rfl dX3_lay_60 ?_
      refine r_get 61 hC fd_2_1 fl_X3_15 dX3_lay_61 (fun v18 => ?_)
      refine r_iload 64 hC 1 rfl dX3_lay_64 ?_
      refine r_aload_n 66 hC 4 rfl (Or.inl (by decide)) rfl dX3_lay_66 ?_
      refine r_iload_n 67 hC 0 rfl rfl dX3_lay_67 ?_
      refine r_callVP 68 hC [(0, v17)] [(0, v9), (10, v18)] rfl vl_X3_54 rfl hn11 (by decide) (Nat.le_of_ble_eq_true rfl) (by decide) (by decide) dX3_lay_68 (t_X8_turnEdge v1 v17 M13 hn11) (fun v19 => ?_)
      refine r_aload_n 71 hC 2 rfl (Or.inl (by decide)) rfl dX3_lay_71 ?_
      refine r_get 72 hC fd_2_0 fl_X3_9 dX3_lay_72 (fun v20 => ?_)
      refine r_iload 75 hC 1 rfl dX3_lay_75 ?_
      refine r_iaload 77 hC dX3_lay_77 (fun v21 => ?_)
      refine r_isub 78 hC dX3_lay_78 ?_
      refine r_iastore 79 hC dX3_lay_79 (fun M22 => ?_)
      refine r_aload_n 80 hC 2 rfl (Or.inl (by decide)) rfl dX3_lay_80 ?_
      refine r_aload_n 81 hC 3 rfl (Or.inl (by decide)) rfl dX3_lay_81 ?_
      refine r_get 82 hC fd_8_2 fl_X3_45 dX3_lay_82 (fun v23 => ?_)
      refine r_iload 85 hC 1 rfl dX3_lay_85 ?_
      refine r_callVV 87 hC [(23, v23), (0, v9)] [] rfl vl_X3_61 rfl h0 (by decide) (Nat.le_of_ble_eq_true rfl) (by decide) (by decide) dX3_lay_87 (t_X3_layTurn x0 v23 v9 M22 h0) (fun M24 => ?_)
      refine r_iinc 90 hC 5 rfl (by decide) dX3_lay_90 (r_eqls (ls' := [(4, 0, w32 (p4 + 1)), (3, 0, v17), (5, 0, v9), (0, 22, x0), (1, 28, x1), (2, 27, v1)]) rfl ?_)
      refine r_goto 93 hC (tgt := 15) (by decide) dX3_lay_93 ?_
      exact r_sub [3, 4, 5, 1, 0] rfl (ih v17 (w32 (p4 + 1)) M24)
set_option maxRecDepth 100000 in
theorem t_X3_lay (x0 x1 : Int) (M : Mem) (h0 : x0 ≠ 0) : MtV yX3_lay cX3_lay 6 none 3 0 0 [(22, x0), (28, x1)] M (f_X3_lay x0 x1 M) := by
  refine mk_V (by decide +kernel) (Nat.le_of_ble_eq_true rfl) (fun E C M0 hC hq hin => ?_)
  refine r_eqls (ls' := [(0, 22, x0), (1, 28, x1)]) rfl ?_
  unfold f_X3_lay
  refine r_aload_n 0 hC 1 rfl (Or.inl (by decide)) rfl dX3_lay_0 ?_
  refine r_get 1 hC fd_8_0 fl_X3_34 dX3_lay_1 (fun v1 => ?_)
  refine r_astore_n 4 hC rfl (Or.inl (by decide)) (by decide) dX3_lay_4 (r_eqls (ls' := [(2, 27, v1), (0, 22, x0), (1, 28, x1)]) rfl ?_)
  refine r_aload_n 5 hC 1 rfl (Or.inl (by decide)) rfl dX3_lay_5 ?_
  refine r_iconst 6 hC (r32c rfl) dX3_lay_6 ?_
  refine r_put 7 hC fd_2_3 fl_X3_21 dX3_lay_7 (fun M2 => ?_)
  refine r_iconst 10 hC (r32c rfl) dX3_lay_10 ?_
  refine r_istore_n 11 hC rfl (by decide) dX3_lay_11 (r_eqls (ls' := [(3, 0, 0), (2, 27, v1), (0, 22, x0), (1, 28, x1)]) rfl ?_)
  refine r_iconst 12 hC (r32c rfl) dX3_lay_12 ?_
  refine r_istore 13 hC (by decide) dX3_lay_13 (r_eqls (ls' := [(4, 0, 0), (3, 0, 0), (2, 27, v1), (0, 22, x0), (1, 28, x1)]) rfl ?_)
  refine r_sub [3, 4, 2, 1, 0] rfl (f_X3_lay_L15_ok h0 hC hq (fun M26 => ?_) KF 0 0 M2)
  · exact r_return 96 hC hq (by decide) (by decide) dX3_lay_96

/-! WaterTurns$Standing.debt(II)I -/
theorem dX4_debt_0 : decode cX4_debt 0 = .ok (.aload_n 0, 1) := by decide +kernel
theorem dX4_debt_1 : decode cX4_debt 1 = .ok (.getfield 37, 3) := by decide +kernel
theorem dX4_debt_4 : decode cX4_debt 4 = .ok (.iload_n 1, 1) := by decide +kernel
theorem dX4_debt_5 : decode cX4_debt 5 = .ok (.bipush 10, 2) := by decide +kernel
theorem dX4_debt_7 : decode cX4_debt 7 = .ok (.imul, 1) := by decide +kernel
theorem dX4_debt_8 : decode cX4_debt 8 = .ok (.iload_n 2, 1) := by decide +kernel
theorem dX4_debt_9 : decode cX4_debt 9 = .ok (.iadd, 1) := by decide +kernel
theorem dX4_debt_10 : decode cX4_debt 10 = .ok (.iaload, 1) := by decide +kernel
theorem dX4_debt_11 : decode cX4_debt 11 = .ok (.ireturn, 1) := by decide +kernel
set_option maxRecDepth 100000 in
theorem t_X4_debt (x0 x1 x2 : Int) (M : Mem) (h0 : x0 ≠ 0) : MtP yX4_debt cX4_debt 3 (some .int) 1 0 0 [(23, x0), (0, x1), (0, x2)] M 0 (f_X4_debt x0 x1 x2 M) := by
  refine mk_P (by decide +kernel) (Nat.le_of_ble_eq_true rfl) (fun E C r0 hC hq hin => ?_)
  refine r_eqls (ls' := [(0, 23, x0), (1, 0, x1), (2, 0, x2)]) rfl ?_
  unfold f_X4_debt
  refine r_aload_n 0 hC 0 rfl (Or.inl (by decide)) rfl dX4_debt_0 ?_
  refine r_get 1 hC fd_3_8 fl_X4_37 dX4_debt_1 (fun v1 => ?_)
  refine r_iload_n 4 hC 1 rfl rfl dX4_debt_4 ?_
  refine r_bipush 5 hC kb_10 dX4_debt_5 ?_
  refine r_imul 7 hC dX4_debt_7 ?_
  refine r_iload_n 8 hC 2 rfl rfl dX4_debt_8 ?_
  refine r_iadd 9 hC dX4_debt_9 ?_
  refine r_iaload 10 hC dX4_debt_10 (fun v2 => ?_)
  exact r_ireturnP 11 hC hq (by decide) (by decide) dX4_debt_11

/-! WaterTurns$Standing.addLoan(III)V -/
theorem dX4_addLoan_0 : decode cX4_addLoan 0 = .ok (.aload_n 0, 1) := by decide +kernel
theorem dX4_addLoan_1 : decode cX4_addLoan 1 = .ok (.getfield 28, 3) := by decide +kernel
theorem dX4_addLoan_4 : decode cX4_addLoan 4 = .ok (.aload_n 0, 1) := by decide +kernel
theorem dX4_addLoan_5 : decode cX4_addLoan 5 = .ok (.getfield 21, 3) := by decide +kernel
theorem dX4_addLoan_8 : decode cX4_addLoan 8 = .ok (.iload_n 1, 1) := by decide +kernel
theorem dX4_addLoan_9 : decode cX4_addLoan 9 = .ok (.iastore, 1) := by decide +kernel
theorem dX4_addLoan_10 : decode cX4_addLoan 10 = .ok (.aload_n 0, 1) := by decide +kernel
theorem dX4_addLoan_11 : decode cX4_addLoan 11 = .ok (.getfield 31, 3) := by decide +kernel
theorem dX4_addLoan_14 : decode cX4_addLoan 14 = .ok (.aload_n 0, 1) := by decide +kernel
theorem dX4_addLoan_15 : decode cX4_addLoan 15 = .ok (.getfield 21, 3) := by decide +kernel
theorem dX4_addLoan_18 : decode cX4_addLoan 18 = .ok (.iload_n 2, 1) := by decide +kernel
theorem dX4_addLoan_19 : decode cX4_addLoan 19 = .ok (.iastore, 1) := by decide +kernel
theorem dX4_addLoan_20 : decode cX4_addLoan 20 = .ok (.aload_n 0, 1) := by decide +kernel
theorem dX4_addLoan_21 : decode cX4_addLoan 21 = .ok (.getfield 34, 3) := by decide +kernel
theorem dX4_addLoan_24 : decode cX4_addLoan 24 = .ok (.aload_n 0, 1) := by decide +kernel
theorem dX4_addLoan_25 : decode cX4_addLoan 25 = .ok (.getfield 21, 3) := by decide +kernel
theorem dX4_addLoan_28 : decode cX4_addLoan 28 = .ok (.iload_n 3, 1) := by decide +kernel
theorem dX4_addLoan_29 : decode cX4_addLoan 29 = .ok (.iastore, 1) := by decide +kernel
theorem dX4_addLoan_30 : decode cX4_addLoan 30 = .ok (.aload_n 0, 1) := by decide +kernel
theorem dX4_addLoan_31 : decode cX4_addLoan 31 = .ok (.dup, 1) := by decide +kernel
theorem dX4_addLoan_32 : decode cX4_addLoan 32 = .ok (.getfield 21, 3) := by decide +kernel
theorem dX4_addLoan_35 : decode cX4_addLoan 35 = .ok (.iconst 1, 1) := by decide +kernel
theorem dX4_addLoan_36 : decode cX4_addLoan 36 = .ok (.iadd, 1) := by decide +kernel
theorem dX4_addLoan_37 : decode cX4_addLoan 37 = .ok (.putfield 21, 3) := by decide +kernel
theorem dX4_addLoan_40 : decode cX4_addLoan 40 = .ok (.iload_n 3, 1) := by decide +kernel
theorem dX4_addLoan_41 : decode cX4_addLoan 41 = .ok (.aload_n 0, 1) := by decide +kernel
theorem dX4_addLoan_42 : decode cX4_addLoan 42 = .ok (.iload_n 1, 1) := by decide +kernel
theorem dX4_addLoan_43 : decode cX4_addLoan 43 = .ok (.iload_n 2, 1) := by decide +kernel
theorem dX4_addLoan_44 : decode cX4_addLoan 44 = .ok (.invokevirtual 59, 3) := by decide +kernel
theorem dX4_addLoan_47 : decode cX4_addLoan 47 = .ok (.invokestatic 63, 3) := by decide +kernel
theorem dX4_addLoan_50 : decode cX4_addLoan 50 = .ok (.istore 4, 2) := by decide +kernel
theorem dX4_addLoan_52 : decode cX4_addLoan 52 = .ok (.aload_n 0, 1) := by decide +kernel
theorem dX4_addLoan_53 : decode cX4_addLoan 53 = .ok (.getfield 37, 3) := by decide +kernel
theorem dX4_addLoan_56 : decode cX4_addLoan 56 = .ok (.iload_n 1, 1) := by decide +kernel
theorem dX4_addLoan_57 : decode cX4_addLoan 57 = .ok (.bipush 10, 2) := by decide +kernel
theorem dX4_addLoan_59 : decode cX4_addLoan 59 = .ok (.imul, 1) := by decide +kernel
theorem dX4_addLoan_60 : decode cX4_addLoan 60 = .ok (.iload_n 2, 1) := by decide +kernel
theorem dX4_addLoan_61 : decode cX4_addLoan 61 = .ok (.iadd, 1) := by decide +kernel
theorem dX4_addLoan_62 : decode cX4_addLoan 62 = .ok (.dup2, 1) := by decide +kernel
theorem dX4_addLoan_63 : decode cX4_addLoan 63 = .ok (.iaload, 1) := by decide +kernel
theorem dX4_addLoan_64 : decode cX4_addLoan 64 = .ok (.iload 4, 2) := by decide +kernel
theorem dX4_addLoan_66 : decode cX4_addLoan 66 = .ok (.isub, 1) := by decide +kernel
theorem dX4_addLoan_67 : decode cX4_addLoan 67 = .ok (.iastore, 1) := by decide +kernel
theorem dX4_addLoan_68 : decode cX4_addLoan 68 = .ok (.aload_n 0, 1) := by decide +kernel
theorem dX4_addLoan_69 : decode cX4_addLoan 69 = .ok (.getfield 37, 3) := by decide +kernel
theorem dX4_addLoan_72 : decode cX4_addLoan 72 = .ok (.iload_n 2, 1) := by decide +kernel
theorem dX4_addLoan_73 : decode cX4_addLoan 73 = .ok (.bipush 10, 2) := by decide +kernel
theorem dX4_addLoan_75 : decode cX4_addLoan 75 = .ok (.imul, 1) := by decide +kernel
theorem dX4_addLoan_76 : decode cX4_addLoan 76 = .ok (.iload_n 1, 1) := by decide +kernel
theorem dX4_addLoan_77 : decode cX4_addLoan 77 = .ok (.iadd, 1) := by decide +kernel
theorem dX4_addLoan_78 : decode cX4_addLoan 78 = .ok (.dup2, 1) := by decide +kernel
theorem dX4_addLoan_79 : decode cX4_addLoan 79 = .ok (.iaload, 1) := by decide +kernel
theorem dX4_addLoan_80 : decode cX4_addLoan 80 = .ok (.iload_n 3, 1) := by decide +kernel
theorem dX4_addLoan_81 : decode cX4_addLoan 81 = .ok (.iload 4, 2) := by decide +kernel
theorem dX4_addLoan_83 : decode cX4_addLoan 83 = .ok (.isub, 1) := by decide +kernel
theorem dX4_addLoan_84 : decode cX4_addLoan 84 = .ok (.iadd, 1) := by decide +kernel
theorem dX4_addLoan_85 : decode cX4_addLoan 85 = .ok (.iastore, 1) := by decide +kernel
theorem dX4_addLoan_86 : decode cX4_addLoan 86 = .ok (.return_, 1) := by decide +kernel
set_option maxRecDepth 100000 in
theorem t_X4_addLoan (x0 x1 x2 x3 : Int) (M : Mem) (h0 : x0 ≠ 0) : MtV yX4_addLoan cX4_addLoan 5 none 2 0 0 [(23, x0), (0, x1), (0, x2), (0, x3)] M (f_X4_addLoan x0 x1 x2 x3 M) := by
  refine mk_V (by decide +kernel) (Nat.le_of_ble_eq_true rfl) (fun E C M0 hC hq hin => ?_)
  refine r_eqls (ls' := [(0, 23, x0), (1, 0, x1), (2, 0, x2), (3, 0, x3)]) rfl ?_
  unfold f_X4_addLoan
  refine r_aload_n 0 hC 0 rfl (Or.inl (by decide)) rfl dX4_addLoan_0 ?_
  refine r_get 1 hC fd_3_5 fl_X4_28 dX4_addLoan_1 (fun v1 => ?_)
  refine r_aload_n 4 hC 0 rfl (Or.inl (by decide)) rfl dX4_addLoan_4 ?_
  refine r_get 5 hC fd_3_3 fl_X4_21 dX4_addLoan_5 (fun v2 => ?_)
  refine r_iload_n 8 hC 1 rfl rfl dX4_addLoan_8 ?_
  refine r_iastore 9 hC dX4_addLoan_9 (fun M3 => ?_)
  refine r_aload_n 10 hC 0 rfl (Or.inl (by decide)) rfl dX4_addLoan_10 ?_
  refine r_get 11 hC fd_3_6 fl_X4_31 dX4_addLoan_11 (fun v4 => ?_)
  refine r_aload_n 14 hC 0 rfl (Or.inl (by decide)) rfl dX4_addLoan_14 ?_
  refine r_get 15 hC fd_3_3 fl_X4_21 dX4_addLoan_15 (fun v5 => ?_)
  refine r_iload_n 18 hC 2 rfl rfl dX4_addLoan_18 ?_
  refine r_iastore 19 hC dX4_addLoan_19 (fun M6 => ?_)
  refine r_aload_n 20 hC 0 rfl (Or.inl (by decide)) rfl dX4_addLoan_20 ?_
  refine r_get 21 hC fd_3_7 fl_X4_34 dX4_addLoan_21 (fun v7 => ?_)
  refine r_aload_n 24 hC 0 rfl (Or.inl (by decide)) rfl dX4_addLoan_24 ?_
  refine r_get 25 hC fd_3_3 fl_X4_21 dX4_addLoan_25 (fun v8 => ?_)
  refine r_iload_n 28 hC 3 rfl rfl dX4_addLoan_28 ?_
  refine r_iastore 29 hC dX4_addLoan_29 (fun M9 => ?_)
  refine r_aload_n 30 hC 0 rfl (Or.inl (by decide)) rfl dX4_addLoan_30 ?_
  refine r_dup 31 hC (by decide) dX4_addLoan_31 ?_
  refine r_get 32 hC fd_3_3 fl_X4_21 dX4_addLoan_32 (fun v10 => ?_)
  refine r_iconst 35 hC (r32c rfl) dX4_addLoan_35 ?_
  refine r_iadd 36 hC dX4_addLoan_36 ?_
  refine r_put 37 hC fd_3_3 fl_X4_21 dX4_addLoan_37 (fun M11 => ?_)
  refine r_iload_n 40 hC 3 rfl rfl dX4_addLoan_40 ?_
  refine r_aload_n 41 hC 0 rfl (Or.inl (by decide)) rfl dX4_addLoan_41 ?_
  refine r_iload_n 42 hC 1 rfl rfl dX4_addLoan_42 ?_
  refine r_iload_n 43 hC 2 rfl rfl dX4_addLoan_43 ?_
  refine r_callVP 44 hC [(0, x1), (0, x2)] [(0, x3)] rfl vl_X4_59 rfl h0 (by decide) (Nat.le_of_ble_eq_true rfl) (by decide) (by decide) dX4_addLoan_44 (t_X4_debt x0 x1 x2 M11 h0) (fun v12 => ?_)
  refine r_callSP 47 hC [(0, x3), (0, v12)] [] rfl sl_X4_63 rfl (by decide) (Nat.le_of_ble_eq_true rfl) (by decide) (by decide) dX4_addLoan_47 (t_J9_min_7cf53 x3 v12 M11) (fun v13 => ?_)
  refine r_istore 50 hC (by decide) dX4_addLoan_50 (r_eqls (ls' := [(4, 0, v13), (0, 23, x0), (1, 0, x1), (2, 0, x2), (3, 0, x3)]) rfl ?_)
  refine r_aload_n 52 hC 1 rfl (Or.inl (by decide)) rfl dX4_addLoan_52 ?_
  refine r_get 53 hC fd_3_8 fl_X4_37 dX4_addLoan_53 (fun v14 => ?_)
  refine r_iload_n 56 hC 2 rfl rfl dX4_addLoan_56 ?_
  refine r_bipush 57 hC kb_10 dX4_addLoan_57 ?_
  refine r_imul 59 hC dX4_addLoan_59 ?_
  refine r_iload_n 60 hC 3 rfl rfl dX4_addLoan_60 ?_
  refine r_iadd 61 hC dX4_addLoan_61 ?_
  refine r_dup2 62 hC ⟨by decide, by decide⟩ dX4_addLoan_62 ?_
  refine r_iaload 63 hC dX4_addLoan_63 (fun v15 => ?_)
  refine r_iload 64 hC 0 rfl dX4_addLoan_64 ?_
  refine r_isub 66 hC dX4_addLoan_66 ?_
  refine r_iastore 67 hC dX4_addLoan_67 (fun M16 => ?_)
  refine r_aload_n 68 hC 1 rfl (Or.inl (by decide)) rfl dX4_addLoan_68 ?_
  refine r_get 69 hC fd_3_8 fl_X4_37 dX4_addLoan_69 (fun v17 => ?_)
  refine r_iload_n 72 hC 3 rfl rfl dX4_addLoan_72 ?_
  refine r_bipush 73 hC kb_10 dX4_addLoan_73 ?_
  refine r_imul 75 hC dX4_addLoan_75 ?_
  refine r_iload_n 76 hC 2 rfl rfl dX4_addLoan_76 ?_
  refine r_iadd 77 hC dX4_addLoan_77 ?_
  refine r_dup2 78 hC ⟨by decide, by decide⟩ dX4_addLoan_78 ?_
  refine r_iaload 79 hC dX4_addLoan_79 (fun v18 => ?_)
  refine r_iload_n 80 hC 4 rfl rfl dX4_addLoan_80 ?_
  refine r_iload 81 hC 0 rfl dX4_addLoan_81 ?_
  refine r_isub 83 hC dX4_addLoan_83 ?_
  refine r_iadd 84 hC dX4_addLoan_84 ?_
  refine r_iastore 85 hC dX4_addLoan_85 (fun M19 => ?_)
  exact r_return 86 hC hq (by decide) (by decide) dX4_addLoan_86

/-! WaterTurns$World.makeLoan(IIILWaterTurns$Slots;)I -/
theorem dX10_makeLoan_0 : decode cX10_makeLoan 0 = .ok (.aload_n 0, 1) := by decide +kernel
theorem dX10_makeLoan_1 : decode cX10_makeLoan 1 = .ok (.getfield 28, 3) := by decide +kernel
theorem dX10_makeLoan_4 : decode cX10_makeLoan 4 = .ok (.getfield 72, 3) := by decide +kernel
theorem dX10_makeLoan_7 : decode cX10_makeLoan 7 = .ok (.bipush 12, 2) := by decide +kernel
theorem dX10_makeLoan_9 : decode cX10_makeLoan 9 = .ok (.if_icmp .lt 5, 3) := by decide +kernel
theorem dX10_makeLoan_12 : decode cX10_makeLoan 12 = .ok (.iconst 4, 1) := by decide +kernel
theorem dX10_makeLoan_13 : decode cX10_makeLoan 13 = .ok (.ireturn, 1) := by decide +kernel
theorem dX10_makeLoan_14 : decode cX10_makeLoan 14 = .ok (.aload 4, 2) := by decide +kernel
theorem dX10_makeLoan_16 : decode cX10_makeLoan 16 = .ok (.aload_n 0, 1) := by decide +kernel
theorem dX10_makeLoan_17 : decode cX10_makeLoan 17 = .ok (.invokevirtual 75, 3) := by decide +kernel
theorem dX10_makeLoan_20 : decode cX10_makeLoan 20 = .ok (.aload 4, 2) := by decide +kernel
theorem dX10_makeLoan_22 : decode cX10_makeLoan 22 = .ok (.getfield 81, 3) := by decide +kernel
theorem dX10_makeLoan_25 : decode cX10_makeLoan 25 = .ok (.iload_n 1, 1) := by decide +kernel
theorem dX10_makeLoan_26 : decode cX10_makeLoan 26 = .ok (.iaload, 1) := by decide +kernel
theorem dX10_makeLoan_27 : decode cX10_makeLoan 27 = .ok (.iload_n 3, 1) := by decide +kernel
theorem dX10_makeLoan_28 : decode cX10_makeLoan 28 = .ok (.if_icmp .ge 6, 3) := by decide +kernel
theorem dX10_makeLoan_31 : decode cX10_makeLoan 31 = .ok (.bipush 7, 2) := by decide +kernel
theorem dX10_makeLoan_33 : decode cX10_makeLoan 33 = .ok (.ireturn, 1) := by decide +kernel
theorem dX10_makeLoan_34 : decode cX10_makeLoan 34 = .ok (.aload_n 0, 1) := by decide +kernel
theorem dX10_makeLoan_35 : decode cX10_makeLoan 35 = .ok (.getfield 28, 3) := by decide +kernel
theorem dX10_makeLoan_38 : decode cX10_makeLoan 38 = .ok (.iload_n 1, 1) := by decide +kernel
theorem dX10_makeLoan_39 : decode cX10_makeLoan 39 = .ok (.iload_n 2, 1) := by decide +kernel
theorem dX10_makeLoan_40 : decode cX10_makeLoan 40 = .ok (.iload_n 3, 1) := by decide +kernel
theorem dX10_makeLoan_41 : decode cX10_makeLoan 41 = .ok (.invokevirtual 84, 3) := by decide +kernel
theorem dX10_makeLoan_44 : decode cX10_makeLoan 44 = .ok (.iconst 0, 1) := by decide +kernel
theorem dX10_makeLoan_45 : decode cX10_makeLoan 45 = .ok (.ireturn, 1) := by decide +kernel
set_option maxRecDepth 100000 in
theorem t_X10_makeLoan (x0 x1 x2 x3 x4 : Int) (M : Mem) (h0 : x0 ≠ 0) : MtI yX10_makeLoan cX10_makeLoan 5 (some .int) 4 0 0 [(28, x0), (0, x1), (0, x2), (0, x3), (22, x4)] M 0 (f_X10_makeLoan x0 x1 x2 x3 x4 M) := by
  refine mk_I (by decide +kernel) (Nat.le_of_ble_eq_true rfl) (fun E C r0 M0 hC hq hin => ?_)
  refine r_eqls (ls' := [(0, 28, x0), (1, 0, x1), (2, 0, x2), (3, 0, x3), (4, 22, x4)]) rfl ?_
  unfold f_X10_makeLoan
  refine r_aload_n 0 hC 0 rfl (Or.inl (by decide)) rfl dX10_makeLoan_0 ?_
  refine r_get 1 hC fd_8_2 fl_X10_28 dX10_makeLoan_1 (fun v1 => ?_)
  refine r_get 4 hC fd_3_3 fl_X10_72 dX10_makeLoan_4 (fun v2 => ?_)
  refine r_bipush 7 hC kb_12 dX10_makeLoan_7 ?_
  refine r_icmp_lt 9 hC (tgt := 14) (by decide) dX10_makeLoan_9 ?_ ?_
  · refine r_aload 14 hC 4 (Or.inl (by decide)) rfl dX10_makeLoan_14 ?_
    refine r_aload_n 16 hC 0 rfl (Or.inl (by decide)) rfl dX10_makeLoan_16 ?_
    refine r_nn (fun hn3 => ?_)
    refine r_callVV 17 hC [(28, x0)] [] rfl vl_X10_75 rfl hn3 (by decide) (Nat.le_of_ble_eq_true rfl) (by decide) (by decide) dX10_makeLoan_17 (t_X3_lay x4 x0 M hn3) (fun M4 => ?_)
    refine r_aload 20 hC 4 (Or.inl (by decide)) rfl dX10_makeLoan_20 ?_
    refine r_get 22 hC fd_2_2 fl_X10_81 dX10_makeLoan_22 (fun v5 => ?_)
    refine r_iload_n 25 hC 1 rfl rfl dX10_makeLoan_25 ?_
    refine r_iaload 26 hC dX10_makeLoan_26 (fun v6 => ?_)
    refine r_iload_n 27 hC 3 rfl rfl dX10_makeLoan_27 ?_
    refine r_icmp_ge 28 hC (tgt := 34) (by decide) dX10_makeLoan_28 ?_ ?_
    · refine r_aload_n 34 hC 0 rfl (Or.inl (by decide)) rfl dX10_makeLoan_34 ?_
      refine r_get 35 hC fd_8_2 fl_X10_28 dX10_makeLoan_35 (fun v7 => ?_)
      refine r_iload_n 38 hC 1 rfl rfl dX10_makeLoan_38 ?_
      refine r_iload_n 39 hC 2 rfl rfl dX10_makeLoan_39 ?_
      refine r_iload_n 40 hC 3 rfl rfl dX10_makeLoan_40 ?_
      refine r_nn (fun hn8 => ?_)
      refine r_callVV 41 hC [(0, x1), (0, x2), (0, x3)] [] rfl vl_X10_84 rfl hn8 (by decide) (Nat.le_of_ble_eq_true rfl) (by decide) (by decide) dX10_makeLoan_41 (t_X4_addLoan v7 x1 x2 x3 M4 hn8) (fun M9 => ?_)
      refine r_iconst 44 hC (r32c rfl) dX10_makeLoan_44 ?_
      exact r_ireturn 45 hC hq (by decide) (by decide) dX10_makeLoan_45
    · refine r_bipush 31 hC kb_7 dX10_makeLoan_31 ?_
      exact r_ireturn 33 hC hq (by decide) (by decide) dX10_makeLoan_33
  · refine r_iconst 12 hC (r32c rfl) dX10_makeLoan_12 ?_
    exact r_ireturn 13 hC hq (by decide) (by decide) dX10_makeLoan_13

/-! WaterTurns$Life.pay(LWaterTurns$World;LWaterTurns$Slots;II)I -/
theorem dX2_pay_0 : decode cX2_pay 0 = .ok (.aload_n 1, 1) := by decide +kernel
theorem dX2_pay_1 : decode cX2_pay 1 = .ok (.aload_n 0, 1) := by decide +kernel
theorem dX2_pay_2 : decode cX2_pay 2 = .ok (.invokevirtual 138, 3) := by decide +kernel
theorem dX2_pay_5 : decode cX2_pay 5 = .ok (.aload_n 0, 1) := by decide +kernel
theorem dX2_pay_6 : decode cX2_pay 6 = .ok (.getfield 41, 3) := by decide +kernel
theorem dX2_pay_9 : decode cX2_pay 9 = .ok (.iload_n 2, 1) := by decide +kernel
theorem dX2_pay_10 : decode cX2_pay 10 = .ok (.iload_n 3, 1) := by decide +kernel
theorem dX2_pay_11 : decode cX2_pay 11 = .ok (.invokevirtual 144, 3) := by decide +kernel
theorem dX2_pay_14 : decode cX2_pay 14 = .ok (.aload_n 1, 1) := by decide +kernel
theorem dX2_pay_15 : decode cX2_pay 15 = .ok (.getfield 147, 3) := by decide +kernel
theorem dX2_pay_18 : decode cX2_pay 18 = .ok (.iload_n 2, 1) := by decide +kernel
theorem dX2_pay_19 : decode cX2_pay 19 = .ok (.iaload, 1) := by decide +kernel
theorem dX2_pay_20 : decode cX2_pay 20 = .ok (.invokestatic 150, 3) := by decide +kernel
theorem dX2_pay_23 : decode cX2_pay 23 = .ok (.istore 4, 2) := by decide +kernel
theorem dX2_pay_25 : decode cX2_pay 25 = .ok (.iload 4, 2) := by decide +kernel
theorem dX2_pay_27 : decode cX2_pay 27 = .ok (.iconst 1, 1) := by decide +kernel
theorem dX2_pay_28 : decode cX2_pay 28 = .ok (.if_icmp .ge 8, 3) := by decide +kernel
theorem dX2_pay_31 : decode cX2_pay 31 = .ok (.bipush 7, 2) := by decide +kernel
theorem dX2_pay_33 : decode cX2_pay 33 = .ok (.goto 12, 3) := by decide +kernel
theorem dX2_pay_36 : decode cX2_pay 36 = .ok (.aload_n 0, 1) := by decide +kernel
theorem dX2_pay_37 : decode cX2_pay 37 = .ok (.iload_n 2, 1) := by decide +kernel
theorem dX2_pay_38 : decode cX2_pay 38 = .ok (.iload_n 3, 1) := by decide +kernel
theorem dX2_pay_39 : decode cX2_pay 39 = .ok (.iload 4, 2) := by decide +kernel
theorem dX2_pay_41 : decode cX2_pay 41 = .ok (.aload_n 1, 1) := by decide +kernel
theorem dX2_pay_42 : decode cX2_pay 42 = .ok (.invokevirtual 119, 3) := by decide +kernel
theorem dX2_pay_45 : decode cX2_pay 45 = .ok (.ireturn, 1) := by decide +kernel
set_option maxRecDepth 100000 in
theorem t_X2_pay (x0 x1 x2 x3 : Int) (M : Mem) : MtI yX2_pay cX2_pay 5 (some .int) 5 0 0 [(28, x0), (22, x1), (0, x2), (0, x3)] M 0 (f_X2_pay x0 x1 x2 x3 M) := by
  refine mk_I (by decide +kernel) (Nat.le_of_ble_eq_true rfl) (fun E C r0 M0 hC hq hin => ?_)
  refine r_eqls (ls' := [(0, 28, x0), (1, 22, x1), (2, 0, x2), (3, 0, x3)]) rfl ?_
  unfold f_X2_pay
  refine r_aload_n 0 hC 1 rfl (Or.inl (by decide)) rfl dX2_pay_0 ?_
  refine r_aload_n 1 hC 0 rfl (Or.inl (by decide)) rfl dX2_pay_1 ?_
  refine r_nn (fun hn1 => ?_)
  refine r_callVV 2 hC [(28, x0)] [] rfl vl_X2_138 rfl hn1 (by decide) (Nat.le_of_ble_eq_true rfl) (by decide) (by decide) dX2_pay_2 (t_X3_lay x1 x0 M hn1) (fun M2 => ?_)
  refine r_aload_n 5 hC 0 rfl (Or.inl (by decide)) rfl dX2_pay_5 ?_
  refine r_get 6 hC fd_8_2 fl_X2_41 dX2_pay_6 (fun v3 => ?_)
  refine r_iload_n 9 hC 2 rfl rfl dX2_pay_9 ?_
  refine r_iload_n 10 hC 3 rfl rfl dX2_pay_10 ?_
  refine r_nn (fun hn4 => ?_)
  refine r_callVP 11 hC [(0, x2), (0, x3)] [] rfl vl_X2_144 rfl hn4 (by decide) (Nat.le_of_ble_eq_true rfl) (by decide) (by decide) dX2_pay_11 (t_X4_debt v3 x2 x3 M2 hn4) (fun v5 => ?_)
  refine r_aload_n 14 hC 1 rfl (Or.inl (by decide)) rfl dX2_pay_14 ?_
  refine r_get 15 hC fd_2_2 fl_X2_147 dX2_pay_15 (fun v6 => ?_)
  refine r_iload_n 18 hC 2 rfl rfl dX2_pay_18 ?_
  refine r_iaload 19 hC dX2_pay_19 (fun v7 => ?_)
  refine r_callSP 20 hC [(0, v5), (0, v7)] [] rfl sl_X2_150 rfl (by decide) (Nat.le_of_ble_eq_true rfl) (by decide) (by decide) dX2_pay_20 (t_J9_min_7cf53 v5 v7 M2) (fun v8 => ?_)
  refine r_istore 23 hC (by decide) dX2_pay_23 (r_eqls (ls' := [(4, 0, v8), (0, 28, x0), (1, 22, x1), (2, 0, x2), (3, 0, x3)]) rfl ?_)
  refine r_iload 25 hC 0 rfl dX2_pay_25 ?_
  refine r_iconst 27 hC (r32c rfl) dX2_pay_27 ?_
  refine r_jn (P := fun j45 => ∀ (q9 : Int) (M10 : Mem), Bk E C 5 M (r0, M0) 45 [] [(0, q9)] M10 0 0 (j45 q9 M10)) ?_ (fun j45 hj45 => ?_)
  · intro q9 M10
    exact r_ireturn 45 hC hq (by decide) (by decide) dX2_pay_45
  refine r_icmp_ge 28 hC (tgt := 36) (by decide) dX2_pay_28 ?_ ?_
  · refine r_aload_n 36 hC 1 rfl (Or.inl (by decide)) rfl dX2_pay_36 ?_
    refine r_iload_n 37 hC 3 rfl rfl dX2_pay_37 ?_
    refine r_iload_n 38 hC 4 rfl rfl dX2_pay_38 ?_
    refine r_iload 39 hC 0 rfl dX2_pay_39 ?_
    refine r_aload_n 41 hC 2 rfl (Or.inl (by decide)) rfl dX2_pay_41 ?_
    refine r_nn (fun hn11 => ?_)
    refine r_callVI 42 hC [(0, x2), (0, x3), (0, v8), (22, x1)] [] rfl vl_X2_119 rfl hn11 (by decide) (Nat.le_of_ble_eq_true rfl) (by decide) (by decide) dX2_pay_42 (t_X10_makeLoan x0 x2 x3 v8 x1 M2 hn11) (fun v12 M13 => ?_)
    exact r_sub [] rfl (hj45 v12 M13)
  · refine r_bipush 31 hC kb_7 dX2_pay_31 ?_
    refine r_goto 33 hC (tgt := 45) (by decide) dX2_pay_33 ?_
    exact r_sub [] rfl (hj45 7 M2)

/-! WaterTurns$Life.draw(LWaterTurns$World;I)V -/
theorem dX2_draw_0 : decode cX2_draw 0 = .ok (.aload_n 0, 1) := by decide +kernel
theorem dX2_draw_1 : decode cX2_draw 1 = .ok (.aload_n 0, 1) := by decide +kernel
theorem dX2_draw_2 : decode cX2_draw 2 = .ok (.getfield 28, 3) := by decide +kernel
theorem dX2_draw_5 : decode cX2_draw 5 = .ok (.sipush 2753, 3) := by decide +kernel
theorem dX2_draw_8 : decode cX2_draw 8 = .ok (.imul, 1) := by decide +kernel
theorem dX2_draw_9 : decode cX2_draw 9 = .ok (.sipush 10559, 3) := by decide +kernel
theorem dX2_draw_12 : decode cX2_draw 12 = .ok (.iadd, 1) := by decide +kernel
theorem dX2_draw_13 : decode cX2_draw 13 = .ok (.ldc 155, 2) := by decide +kernel
theorem dX2_draw_15 : decode cX2_draw 15 = .ok (.irem, 1) := by decide +kernel
theorem dX2_draw_16 : decode cX2_draw 16 = .ok (.putfield 28, 3) := by decide +kernel
theorem dX2_draw_19 : decode cX2_draw 19 = .ok (.aload_n 0, 1) := by decide +kernel
theorem dX2_draw_20 : decode cX2_draw 20 = .ok (.getfield 28, 3) := by decide +kernel
theorem dX2_draw_23 : decode cX2_draw 23 = .ok (.bipush 8, 2) := by decide +kernel
theorem dX2_draw_25 : decode cX2_draw 25 = .ok (.idiv, 1) := by decide +kernel
theorem dX2_draw_26 : decode cX2_draw 26 = .ok (.bipush 16, 2) := by decide +kernel
theorem dX2_draw_28 : decode cX2_draw 28 = .ok (.irem, 1) := by decide +kernel
theorem dX2_draw_29 : decode cX2_draw 29 = .ok (.iload_n 2, 1) := by decide +kernel
theorem dX2_draw_30 : decode cX2_draw 30 = .ok (.if_icmp .ge 26, 3) := by decide +kernel
theorem dX2_draw_33 : decode cX2_draw 33 = .ok (.aload_n 1, 1) := by decide +kernel
theorem dX2_draw_34 : decode cX2_draw 34 = .ok (.getfield 41, 3) := by decide +kernel
theorem dX2_draw_37 : decode cX2_draw 37 = .ok (.dup, 1) := by decide +kernel
theorem dX2_draw_38 : decode cX2_draw 38 = .ok (.getfield 127, 3) := by decide +kernel
theorem dX2_draw_41 : decode cX2_draw 41 = .ok (.iconst 2, 1) := by decide +kernel
theorem dX2_draw_42 : decode cX2_draw 42 = .ok (.idiv, 1) := by decide +kernel
theorem dX2_draw_43 : decode cX2_draw 43 = .ok (.putfield 127, 3) := by decide +kernel
theorem dX2_draw_46 : decode cX2_draw 46 = .ok (.aload_n 0, 1) := by decide +kernel
theorem dX2_draw_47 : decode cX2_draw 47 = .ok (.dup, 1) := by decide +kernel
theorem dX2_draw_48 : decode cX2_draw 48 = .ok (.getfield 21, 3) := by decide +kernel
theorem dX2_draw_51 : decode cX2_draw 51 = .ok (.iconst 1, 1) := by decide +kernel
theorem dX2_draw_52 : decode cX2_draw 52 = .ok (.iadd, 1) := by decide +kernel
theorem dX2_draw_53 : decode cX2_draw 53 = .ok (.putfield 21, 3) := by decide +kernel
theorem dX2_draw_56 : decode cX2_draw 56 = .ok (.return_, 1) := by decide +kernel
set_option maxRecDepth 100000 in
theorem t_X2_draw (x0 x1 x2 : Int) (M : Mem) (h0 : x0 ≠ 0) : MtV yX2_draw cX2_draw 3 none 1 0 0 [(21, x0), (28, x1), (0, x2)] M (f_X2_draw x0 x1 x2 M) := by
  refine mk_V (by decide +kernel) (Nat.le_of_ble_eq_true rfl) (fun E C M0 hC hq hin => ?_)
  refine r_eqls (ls' := [(0, 21, x0), (1, 28, x1), (2, 0, x2)]) rfl ?_
  unfold f_X2_draw
  refine r_aload_n 0 hC 0 rfl (Or.inl (by decide)) rfl dX2_draw_0 ?_
  refine r_aload_n 1 hC 0 rfl (Or.inl (by decide)) rfl dX2_draw_1 ?_
  refine r_get 2 hC fd_1_5 fl_X2_28 dX2_draw_2 (fun v1 => ?_)
  refine r_sipush 5 hC ks_2753 dX2_draw_5 ?_
  refine r_imul 8 hC dX2_draw_8 ?_
  refine r_sipush 9 hC ks_10559 dX2_draw_9 ?_
  refine r_iadd 12 hC dX2_draw_12 ?_
  refine r_ldc 13 hC (x := 65536) kc_X2_155 ⟨by decide +kernel, r32c rfl⟩ dX2_draw_13 ?_
  refine r_irem 15 hC dX2_draw_15 (fun v2 => ?_)
  refine r_put 16 hC fd_1_5 fl_X2_28 dX2_draw_16 (fun M3 => ?_)
  refine r_aload_n 19 hC 0 rfl (Or.inl (by decide)) rfl dX2_draw_19 ?_
  refine r_get 20 hC fd_1_5 fl_X2_28 dX2_draw_20 (fun v4 => ?_)
  refine r_bipush 23 hC kb_8 dX2_draw_23 ?_
  refine r_idiv 25 hC dX2_draw_25 (fun v5 => ?_)
  refine r_bipush 26 hC kb_16 dX2_draw_26 ?_
  refine r_irem 28 hC dX2_draw_28 (fun v6 => ?_)
  refine r_iload_n 29 hC 2 rfl rfl dX2_draw_29 ?_
  refine r_jn (P := fun j56 => ∀ (M7 : Mem), Bk E C 3 M M0 56 [] [] M7 0 0 (j56 M7)) ?_ (fun j56 hj56 => ?_)
  · intro M7
    exact r_return 56 hC hq (by decide) (by decide) dX2_draw_56
  refine r_icmp_ge 30 hC (tgt := 56) (by decide) dX2_draw_30 ?_ ?_
  · exact r_sub [] rfl (hj56 M3)
  · refine r_aload_n 33 hC 1 rfl (Or.inl (by decide)) rfl dX2_draw_33 ?_
    refine r_get 34 hC fd_8_2 fl_X2_41 dX2_draw_34 (fun v8 => ?_)
    refine r_dup 37 hC (by decide) dX2_draw_37 ?_
    refine r_get 38 hC fd_3_0 fl_X2_127 dX2_draw_38 (fun v9 => ?_)
    refine r_iconst 41 hC (r32c rfl) dX2_draw_41 ?_
    refine r_idiv 42 hC dX2_draw_42 (fun v10 => ?_)
    refine r_put 43 hC fd_3_0 fl_X2_127 dX2_draw_43 (fun M11 => ?_)
    refine r_aload_n 46 hC 0 rfl (Or.inl (by decide)) rfl dX2_draw_46 ?_
    refine r_dup 47 hC (by decide) dX2_draw_47 ?_
    refine r_get 48 hC fd_1_3 fl_X2_21 dX2_draw_48 (fun v12 => ?_)
    refine r_iconst 51 hC (r32c rfl) dX2_draw_51 ?_
    refine r_iadd 52 hC dX2_draw_52 ?_
    refine r_put 53 hC fd_1_3 fl_X2_21 dX2_draw_53 (fun M13 => ?_)
    exact r_sub [] rfl (hj56 M13)

/-! java/lang/Math.min(JJ)J -/
theorem dJ9_min_f86c9_0 : decode cJ9_min_f86c9 0 = .ok (.lload_n 0, 1) := by decide +kernel
theorem dJ9_min_f86c9_1 : decode cJ9_min_f86c9 1 = .ok (.lload_n 2, 1) := by decide +kernel
theorem dJ9_min_f86c9_2 : decode cJ9_min_f86c9 2 = .ok (.lcmp, 1) := by decide +kernel
theorem dJ9_min_f86c9_3 : decode cJ9_min_f86c9 3 = .ok (.ifCond .gt 7, 3) := by decide +kernel
theorem dJ9_min_f86c9_6 : decode cJ9_min_f86c9 6 = .ok (.lload_n 0, 1) := by decide +kernel
theorem dJ9_min_f86c9_7 : decode cJ9_min_f86c9 7 = .ok (.goto 4, 3) := by decide +kernel
theorem dJ9_min_f86c9_10 : decode cJ9_min_f86c9 10 = .ok (.lload_n 2, 1) := by decide +kernel
theorem dJ9_min_f86c9_11 : decode cJ9_min_f86c9 11 = .ok (.lreturn, 1) := by decide +kernel
set_option maxRecDepth 100000 in
theorem t_J9_min_f86c9 (x0 x2 : Int) (M : Mem) : MtP yJ9_min_f86c9 cJ9_min_f86c9 4 (some .long) 1 0 0 [(1, x0), (1, x2)] M 1 (f_J9_min_f86c9 x0 x2 M) := by
  refine mk_P (by decide +kernel) (Nat.le_of_ble_eq_true rfl) (fun E C r0 hC hq hin => ?_)
  refine r_eqls (ls' := [(0, 1, x0), (2, 1, x2)]) rfl ?_
  unfold f_J9_min_f86c9
  refine r_lload_n 0 hC 0 rfl rfl dJ9_min_f86c9_0 ?_
  refine r_lload_n 1 hC 1 rfl rfl dJ9_min_f86c9_1 ?_
  refine r_jn (P := fun j11 => ∀ (q1 : Int), Bk E C 4 M r0 11 [] [(1, q1)] M 0 0 (j11 q1)) ?_ (fun j11 hj11 => ?_)
  · intro q1
    exact r_lreturnP 11 hC hq (by decide) (by decide) dJ9_min_f86c9_11
  refine r_lcmp_gt 2 hC (tgt := 10) (by decide) dJ9_min_f86c9_2 dJ9_min_f86c9_3 ?_ ?_
  · refine r_lload_n 10 hC 1 rfl rfl dJ9_min_f86c9_10 ?_
    exact r_sub [] rfl (hj11 x2)
  · refine r_lload_n 6 hC 0 rfl rfl dJ9_min_f86c9_6 ?_
    refine r_goto 7 hC (tgt := 11) (by decide) dJ9_min_f86c9_7 ?_
    exact r_sub [] rfl (hj11 x0)

/-! java/lang/Math.max(II)I -/
theorem dJ9_max_7cf53_0 : decode cJ9_max_7cf53 0 = .ok (.iload_n 0, 1) := by decide +kernel
theorem dJ9_max_7cf53_1 : decode cJ9_max_7cf53 1 = .ok (.iload_n 1, 1) := by decide +kernel
theorem dJ9_max_7cf53_2 : decode cJ9_max_7cf53 2 = .ok (.if_icmp .lt 7, 3) := by decide +kernel
theorem dJ9_max_7cf53_5 : decode cJ9_max_7cf53 5 = .ok (.iload_n 0, 1) := by decide +kernel
theorem dJ9_max_7cf53_6 : decode cJ9_max_7cf53 6 = .ok (.goto 4, 3) := by decide +kernel
theorem dJ9_max_7cf53_9 : decode cJ9_max_7cf53 9 = .ok (.iload_n 1, 1) := by decide +kernel
theorem dJ9_max_7cf53_10 : decode cJ9_max_7cf53 10 = .ok (.ireturn, 1) := by decide +kernel
set_option maxRecDepth 100000 in
theorem t_J9_max_7cf53 (x0 x1 : Int) (M : Mem) : MtP yJ9_max_7cf53 cJ9_max_7cf53 2 (some .int) 1 0 0 [(0, x0), (0, x1)] M 0 (f_J9_max_7cf53 x0 x1 M) := by
  refine mk_P (by decide +kernel) (Nat.le_of_ble_eq_true rfl) (fun E C r0 hC hq hin => ?_)
  refine r_eqls (ls' := [(0, 0, x0), (1, 0, x1)]) rfl ?_
  unfold f_J9_max_7cf53
  refine r_iload_n 0 hC 0 rfl rfl dJ9_max_7cf53_0 ?_
  refine r_iload_n 1 hC 1 rfl rfl dJ9_max_7cf53_1 ?_
  refine r_jn (P := fun j10 => ∀ (q1 : Int), Bk E C 2 M r0 10 [] [(0, q1)] M 0 0 (j10 q1)) ?_ (fun j10 hj10 => ?_)
  · intro q1
    exact r_ireturnP 10 hC hq (by decide) (by decide) dJ9_max_7cf53_10
  refine r_icmp_lt 2 hC (tgt := 9) (by decide) dJ9_max_7cf53_2 ?_ ?_
  · refine r_iload_n 9 hC 1 rfl rfl dJ9_max_7cf53_9 ?_
    exact r_sub [] rfl (hj10 x1)
  · refine r_iload_n 5 hC 0 rfl rfl dJ9_max_7cf53_5 ?_
    refine r_goto 6 hC (tgt := 10) (by decide) dJ9_max_7cf53_6 ?_
    exact r_sub [] rfl (hj10 x0)

/-! WaterTurns$Sweep.flow(LWaterTurns$Valley;II)V -/
theorem dX5_flow_0 : decode cX5_flow 0 = .ok (.iconst 0, 1) := by decide +kernel
theorem dX5_flow_1 : decode cX5_flow 1 = .ok (.istore 4, 2) := by decide +kernel
theorem dX5_flow_3 : decode cX5_flow 3 = .ok (.iload 4, 2) := by decide +kernel
theorem dX5_flow_5 : decode cX5_flow 5 = .ok (.aload_n 1, 1) := by decide +kernel
theorem dX5_flow_6 : decode cX5_flow 6 = .ok (.getfield 94, 3) := by decide +kernel
theorem dX5_flow_9 : decode cX5_flow 9 = .ok (.if_icmp .ge 155, 3) := by decide +kernel
theorem dX5_flow_12 : decode cX5_flow 12 = .ok (.aload_n 1, 1) := by decide +kernel
theorem dX5_flow_13 : decode cX5_flow 13 = .ok (.getfield 99, 3) := by decide +kernel
theorem dX5_flow_16 : decode cX5_flow 16 = .ok (.iload 4, 2) := by decide +kernel
theorem dX5_flow_18 : decode cX5_flow 18 = .ok (.aaload, 1) := by decide +kernel
theorem dX5_flow_19 : decode cX5_flow 19 = .ok (.astore 5, 2) := by decide +kernel
theorem dX5_flow_21 : decode cX5_flow 21 = .ok (.aload_n 0, 1) := by decide +kernel
theorem dX5_flow_22 : decode cX5_flow 22 = .ok (.getfield 18, 3) := by decide +kernel
theorem dX5_flow_25 : decode cX5_flow 25 = .ok (.iload 4, 2) := by decide +kernel
theorem dX5_flow_27 : decode cX5_flow 27 = .ok (.aload 5, 2) := by decide +kernel
theorem dX5_flow_29 : decode cX5_flow 29 = .ok (.iconst 0, 1) := by decide +kernel
theorem dX5_flow_30 : decode cX5_flow 30 = .ok (.iaload, 1) := by decide +kernel
theorem dX5_flow_31 : decode cX5_flow 31 = .ok (.iconst (-1), 1) := by decide +kernel
theorem dX5_flow_32 : decode cX5_flow 32 = .ok (.if_icmp .ne 13, 3) := by decide +kernel
theorem dX5_flow_35 : decode cX5_flow 35 = .ok (.iload_n 2, 1) := by decide +kernel
theorem dX5_flow_36 : decode cX5_flow 36 = .ok (.i2l, 1) := by decide +kernel
theorem dX5_flow_37 : decode cX5_flow 37 = .ok (.aload_n 1, 1) := by decide +kernel
theorem dX5_flow_38 : decode cX5_flow 38 = .ok (.getfield 103, 3) := by decide +kernel
theorem dX5_flow_41 : decode cX5_flow 41 = .ok (.lmul, 1) := by decide +kernel
theorem dX5_flow_42 : decode cX5_flow 42 = .ok (.goto 12, 3) := by decide +kernel
theorem dX5_flow_45 : decode cX5_flow 45 = .ok (.aload_n 0, 1) := by decide +kernel
theorem dX5_flow_46 : decode cX5_flow 46 = .ok (.getfield 25, 3) := by decide +kernel
theorem dX5_flow_49 : decode cX5_flow 49 = .ok (.aload 5, 2) := by decide +kernel
theorem dX5_flow_51 : decode cX5_flow 51 = .ok (.iconst 0, 1) := by decide +kernel
theorem dX5_flow_52 : decode cX5_flow 52 = .ok (.iaload, 1) := by decide +kernel
theorem dX5_flow_53 : decode cX5_flow 53 = .ok (.laload, 1) := by decide +kernel
theorem dX5_flow_54 : decode cX5_flow 54 = .ok (.lastore, 1) := by decide +kernel
theorem dX5_flow_55 : decode cX5_flow 55 = .ok (.aload_n 0, 1) := by decide +kernel
theorem dX5_flow_56 : decode cX5_flow 56 = .ok (.getfield 22, 3) := by decide +kernel
theorem dX5_flow_59 : decode cX5_flow 59 = .ok (.iload 4, 2) := by decide +kernel
theorem dX5_flow_61 : decode cX5_flow 61 = .ok (.aload 5, 2) := by decide +kernel
theorem dX5_flow_63 : decode cX5_flow 63 = .ok (.iconst 3, 1) := by decide +kernel
theorem dX5_flow_64 : decode cX5_flow 64 = .ok (.iaload, 1) := by decide +kernel
theorem dX5_flow_65 : decode cX5_flow 65 = .ok (.iconst (-1), 1) := by decide +kernel
theorem dX5_flow_66 : decode cX5_flow 66 = .ok (.if_icmp .ne 13, 3) := by decide +kernel
theorem dX5_flow_69 : decode cX5_flow 69 = .ok (.aload_n 0, 1) := by decide +kernel
theorem dX5_flow_70 : decode cX5_flow 70 = .ok (.getfield 18, 3) := by decide +kernel
theorem dX5_flow_73 : decode cX5_flow 73 = .ok (.iload 4, 2) := by decide +kernel
theorem dX5_flow_75 : decode cX5_flow 75 = .ok (.laload, 1) := by decide +kernel
theorem dX5_flow_76 : decode cX5_flow 76 = .ok (.goto 23, 3) := by decide +kernel
theorem dX5_flow_79 : decode cX5_flow 79 = .ok (.aload_n 0, 1) := by decide +kernel
theorem dX5_flow_80 : decode cX5_flow 80 = .ok (.getfield 18, 3) := by decide +kernel
theorem dX5_flow_83 : decode cX5_flow 83 = .ok (.iload 4, 2) := by decide +kernel
theorem dX5_flow_85 : decode cX5_flow 85 = .ok (.laload, 1) := by decide +kernel
theorem dX5_flow_86 : decode cX5_flow 86 = .ok (.aload 5, 2) := by decide +kernel
theorem dX5_flow_88 : decode cX5_flow 88 = .ok (.iconst 3, 1) := by decide +kernel
theorem dX5_flow_89 : decode cX5_flow 89 = .ok (.iaload, 1) := by decide +kernel
theorem dX5_flow_90 : decode cX5_flow 90 = .ok (.i2l, 1) := by decide +kernel
theorem dX5_flow_91 : decode cX5_flow 91 = .ok (.aload_n 1, 1) := by decide +kernel
theorem dX5_flow_92 : decode cX5_flow 92 = .ok (.getfield 103, 3) := by decide +kernel
theorem dX5_flow_95 : decode cX5_flow 95 = .ok (.lmul, 1) := by decide +kernel
theorem dX5_flow_96 : decode cX5_flow 96 = .ok (.invokestatic 107, 3) := by decide +kernel
theorem dX5_flow_99 : decode cX5_flow 99 = .ok (.lastore, 1) := by decide +kernel
theorem dX5_flow_100 : decode cX5_flow 100 = .ok (.aload_n 0, 1) := by decide +kernel
theorem dX5_flow_101 : decode cX5_flow 101 = .ok (.getfield 22, 3) := by decide +kernel
theorem dX5_flow_104 : decode cX5_flow 104 = .ok (.iload 4, 2) := by decide +kernel
theorem dX5_flow_106 : decode cX5_flow 106 = .ok (.laload, 1) := by decide +kernel
theorem dX5_flow_107 : decode cX5_flow 107 = .ok (.iconst 1, 1) := by decide +kernel
theorem dX5_flow_108 : decode cX5_flow 108 = .ok (.aload 5, 2) := by decide +kernel
theorem dX5_flow_110 : decode cX5_flow 110 = .ok (.iconst 2, 1) := by decide +kernel
theorem dX5_flow_111 : decode cX5_flow 111 = .ok (.iaload, 1) := by decide +kernel
theorem dX5_flow_112 : decode cX5_flow 112 = .ok (.invokestatic 113, 3) := by decide +kernel
theorem dX5_flow_115 : decode cX5_flow 115 = .ok (.i2l, 1) := by decide +kernel
theorem dX5_flow_116 : decode cX5_flow 116 = .ok (.ldiv, 1) := by decide +kernel
theorem dX5_flow_117 : decode cX5_flow 117 = .ok (.aload 5, 2) := by decide +kernel
theorem dX5_flow_119 : decode cX5_flow 119 = .ok (.iconst 1, 1) := by decide +kernel
theorem dX5_flow_120 : decode cX5_flow 120 = .ok (.iaload, 1) := by decide +kernel
theorem dX5_flow_121 : decode cX5_flow 121 = .ok (.i2l, 1) := by decide +kernel
theorem dX5_flow_122 : decode cX5_flow 122 = .ok (.lmul, 1) := by decide +kernel
theorem dX5_flow_123 : decode cX5_flow 123 = .ok (.lstore 6, 2) := by decide +kernel
theorem dX5_flow_125 : decode cX5_flow 125 = .ok (.aload_n 0, 1) := by decide +kernel
theorem dX5_flow_126 : decode cX5_flow 126 = .ok (.getfield 25, 3) := by decide +kernel
theorem dX5_flow_129 : decode cX5_flow 129 = .ok (.iload 4, 2) := by decide +kernel
theorem dX5_flow_131 : decode cX5_flow 131 = .ok (.iload 4, 2) := by decide +kernel
theorem dX5_flow_133 : decode cX5_flow 133 = .ok (.iload_n 3, 1) := by decide +kernel
theorem dX5_flow_134 : decode cX5_flow 134 = .ok (.if_icmp .ne 13, 3) := by decide +kernel
theorem dX5_flow_137 : decode cX5_flow 137 = .ok (.aload_n 0, 1) := by decide +kernel
theorem dX5_flow_138 : decode cX5_flow 138 = .ok (.getfield 22, 3) := by decide +kernel
theorem dX5_flow_141 : decode cX5_flow 141 = .ok (.iload 4, 2) := by decide +kernel
theorem dX5_flow_143 : decode cX5_flow 143 = .ok (.laload, 1) := by decide +kernel
theorem dX5_flow_144 : decode cX5_flow 144 = .ok (.goto 13, 3) := by decide +kernel
theorem dX5_flow_147 : decode cX5_flow 147 = .ok (.aload_n 0, 1) := by decide +kernel
theorem dX5_flow_148 : decode cX5_flow 148 = .ok (.getfield 22, 3) := by decide +kernel
theorem dX5_flow_151 : decode cX5_flow 151 = .ok (.iload 4, 2) := by decide +kernel
theorem dX5_flow_153 : decode cX5_flow 153 = .ok (.laload, 1) := by decide +kernel
theorem dX5_flow_154 : decode cX5_flow 154 = .ok (.lload 6, 2) := by decide +kernel
theorem dX5_flow_156 : decode cX5_flow 156 = .ok (.lsub, 1) := by decide +kernel
theorem dX5_flow_157 : decode cX5_flow 157 = .ok (.lastore, 1) := by decide +kernel
theorem dX5_flow_158 : decode cX5_flow 158 = .ok (.iinc 4 1, 3) := by decide +kernel
theorem dX5_flow_161 : decode cX5_flow 161 = .ok (.goto (-158), 3) := by decide +kernel
theorem dX5_flow_164 : decode cX5_flow 164 = .ok (.return_, 1) := by decide +kernel
set_option maxRecDepth 100000 in
theorem f_X5_flow_L3_ok {E : EnvT} {C : Cx} {Mi : Mem} {x0 : Int} (h0 : x0 ≠ 0) (hC : CxOK E C cX5_flow 8 yX5_flow.cls 2 0 0) {M0 : Mem} (hq : RQ E C 0 0 Mi none none M0) {x1 x2 x3 : Int} {k : Mem → Option (Mem)} (hk : ∀ M39, Bk E C 8 Mi M0 164 [] [] M39 0 0 (k M39)) : ∀ (n : Nat) (p1 : Int) (M2 : Mem), Bk E C 8 Mi M0 3 [(0, 24, x0), (1, 27, x1), (2, 0, x2), (3, 0, x3), (4, 0, p1)] [] M2 0 0 (f_X5_flow_L3 x0 x1 x2 x3 k n p1 M2) := by
  intro n
  induction n with
  | zero =>
    intro p1 M2
    exact r_none
  | succ n ih =>
    intro p1 M2
    rw [f_X5_flow_L3]
    refine r_iload 3 hC 4 rfl dX5_flow_3 ?_
    refine r_aload_n 5 hC 1 rfl (Or.inl (by decide)) rfl dX5_flow_5 ?_
    refine r_get 6 hC fd_7_3 fl_X5_94 dX5_flow_6 (fun v3 => ?_)
    refine r_icmp_ge 9 hC (tgt := 164) (by decide) dX5_flow_9 ?_ ?_
    · exact r_sub [] rfl (hk M2)
    · refine r_aload_n 12 hC 1 rfl (Or.inl (by decide)) rfl dX5_flow_12 ?_
      refine r_get 13 hC fd_7_8 fl_X5_99 dX5_flow_13 (fun v4 => ?_)
      refine r_iload 16 hC 4 rfl dX5_flow_16 ?_
      refine r_aaloadI 18 hC dX5_flow_18 (fun v5 => ?_)
      refine r_astore 19 hC (Or.inl (by decide)) (by decide) dX5_flow_19 (r_eqls (ls' := [(5, 10, v5), (0, 24, x0), (1, 27, x1), (2, 0, x2), (3, 0, x3), (4, 0, p1)]) rfl ?_)
      refine r_aload_n 21 hC 1 rfl (Or.inl (by decide)) rfl dX5_flow_21 ?_
      refine r_get 22 hC fd_4_1 fl_X5_18 dX5_flow_22 (fun v6 => ?_)
      refine r_iload 25 hC 5 rfl dX5_flow_25 ?_
      refine r_aload 27 hC 0 (Or.inl (by decide)) rfl dX5_flow_27 ?_
      refine r_iconst 29 hC (r32c rfl) dX5_flow_29 ?_
      refine r_iaload 30 hC dX5_flow_30 (fun v7 => ?_)
      refine r_iconst 31 hC (r32c rfl) dX5_flow_31 ?_
      refine r_jn (P := fun j54 => ∀ (q8 : Int), Bk E C 8 Mi M0 54 [(0, 24, x0), (1, 27, x1), (2, 0, x2), (3, 0, x3), (4, 0, p1), (5, 10, v5)] [(1, q8), (0, p1), (11, v6)] M2 0 0 (j54 q8)) ?_ (fun j54 hj54 => ?_)
      · intro q8
        refine r_lastore 54 hC dX5_flow_54 (fun M9 => ?_)
        refine r_aload_n 55 hC 0 rfl (Or.inl (by decide)) rfl dX5_flow_55 ?_
        refine r_get 56 hC fd_4_2 fl_X5_22 dX5_flow_56 (fun v10 => ?_)
        refine r_iload 59 hC 4 rfl dX5_flow_59 ?_
        refine r_aload 61 hC 5 (Or.inl (by decide)) rfl dX5_flow_61 ?_
        refine r_iconst 63 hC (r32c rfl) dX5_flow_63 ?_
        refine r_iaload 64 hC dX5_flow_64 (fun v11 => ?_)
        refine r_iconst 65 hC (r32c rfl) dX5_flow_65 ?_
        refine r_jn (P := fun j99 => ∀ (q12 : Int), Bk E C 8 Mi M0 99 [(0, 24, x0), (1, 27, x1), (2, 0, x2), (3, 0, x3), (4, 0, p1), (5, 10, v5)] [(1, q12), (0, p1), (11, v10)] M9 0 0 (j99 q12)) ?_ (fun j99 hj99 => ?_)
        · intro q12
          refine r_lastore 99 hC dX5_flow_99 (fun M13 => ?_)
          refine r_aload_n 100 hC 0 rfl (Or.inl (by decide)) rfl dX5_flow_100 ?_
          refine r_get 101 hC fd_4_2 fl_X5_22 dX5_flow_101 (fun v14 => ?_)
          refine r_iload 104 hC 4 rfl dX5_flow_104 ?_
          refine r_laload 106 hC dX5_flow_106 (fun v15 => ?_)
          refine r_iconst 107 hC (r32c rfl) dX5_flow_107 ?_
          refine r_aload 108 hC 5 (Or.inl (by decide)) rfl dX5_flow_108 ?_
          refine r_iconst 110 hC (r32c rfl) dX5_flow_110 ?_
          refine r_iaload 111 hC dX5_flow_111 (fun v16 => ?_)
          refine r_callSP 112 hC [(0, 1), (0, v16)] [(1, v15)] rfl sl_X5_113 rfl (by decide) (Nat.le_of_ble_eq_true rfl) (by decide) (by decide) dX5_flow_112 (t_J9_max_7cf53 1 v16 M13) (fun v17 => ?_)
          refine r_i2l 115 hC dX5_flow_115 ?_
          refine r_ldiv 116 hC dX5_flow_116 (fun v18 => ?_)
          refine r_aload 117 hC 5 (Or.inl (by decide)) rfl dX5_flow_117 ?_
          refine r_iconst 119 hC (r32c rfl) dX5_flow_119 ?_
          refine r_iaload 120 hC dX5_flow_120 (fun v19 => ?_)
          refine r_i2l 121 hC dX5_flow_121 ?_
          refine r_lmul 122 hC dX5_flow_122 ?_
          refine r_lstoreL 123 hC (by decide) dX5_flow_123 (fun v20 => r_eqls (ls' := [(6, 1, v20), (0, 24, x0), (1, 27, x1), (2, 0, x2), (3, 0, x3), (4, 0, p1), (5, 10, v5)]) rfl ?_)
          refine r_aload_n 125 hC 1 rfl (Or.inl (by decide)) rfl dX5_flow_125 ?_
          refine r_get 126 hC fd_4_3 fl_X5_25 dX5_flow_126 (fun v21 => ?_)
          refine r_iload 129 hC 5 rfl dX5_flow_129 ?_
          refine r_iload 131 hC 5 rfl dX5_flow_131 ?_
          refine r_iload_n 133 hC 4 rfl rfl dX5_flow_133 ?_
          refine r_jn (P := fun j157 => ∀ (q22 : Int), Bk E C 8 Mi M0 157 [(0, 24, x0), (1, 27, x1), (2, 0, x2), (3, 0, x3), (4, 0, p1)] [(1, q22), (0, p1), (11, v21)] M13 0 0 (j157 q22)) ?_ (fun j157 hj157 => ?_)
          · intro q22
            refine r_lastore 157 hC dX5_flow_157 (fun M23 => ?_)
            refine r_iinc 158 hC 4 rfl (by decide) dX5_flow_158 (r_eqls (ls' := [(4, 0, w32 (p1 + 1)), (0, 24, x0), (1, 27, x1), (2, 0, x2), (3, 0, x3)]) rfl ?_)
            refine r_goto 161 hC (tgt := 3) (by decide) dX5_flow_161 ?_
            exact r_sub [1, 2, 3, 4, 0] rfl (ih (w32 (p1 + 1)) M23)
          refine r_icmp_ne 134 hC (tgt := 147) (by decide) dX5_flow_134 ?_ ?_
          · refine r_aload_n 147 hC 1 rfl (Or.inl (by decide)) rfl dX5_flow_147 ?_
            refine r_get 148 hC fd_4_2 fl_X5_22 dX5_flow_148 (fun v24 => ?_)
            refine r_iload 151 hC 5 rfl dX5_flow_151 ?_
            refine r_laload 153 hC dX5_flow_153 (fun v25 => ?_)
            refine r_lload 154 hC 0 rfl dX5_flow_154 ?_
            refine r_lsub 156 hC dX5_flow_156 ?_
            exact r_sub [1, 2, 3, 4, 5] rfl (hj157 (w64 (v25 - v20)))
          · refine r_aload_n 137 hC 1 rfl (Or.inl (by decide)) rfl dX5_flow_137 ?_
            refine r_get 138 hC fd_4_2 fl_X5_22 dX5_flow_138 (fun v26 => ?_)
            refine r_iload 141 hC 5 rfl dX5_flow_141 ?_
            refine r_laload 143 hC dX5_flow_143 (fun v27 => ?_)
            refine r_goto 144 hC (tgt := 157) (by decide) dX5_flow_144 ?_
            exact r_sub [1, 2, 3, 4, 5] rfl (hj157 v27)
        refine r_icmp_ne 66 hC (tgt := 79) (by decide) dX5_flow_66 ?_ ?_
        · refine r_aload_n 79 hC 0 rfl (Or.inl (by decide)) rfl dX5_flow_79 ?_
          refine r_get 80 hC fd_4_1 fl_X5_18 dX5_flow_80 (fun v28 => ?_)
          refine r_iload 83 hC 4 rfl dX5_flow_83 ?_
          refine r_laload 85 hC dX5_flow_85 (fun v29 => ?_)
          refine r_aload 86 hC 5 (Or.inl (by decide)) rfl dX5_flow_86 ?_
          refine r_iconst 88 hC (r32c rfl) dX5_flow_88 ?_
          refine r_iaload 89 hC dX5_flow_89 (fun v30 => ?_)
          refine r_i2l 90 hC dX5_flow_90 ?_
          refine r_aload_n 91 hC 1 rfl (Or.inl (by decide)) rfl dX5_flow_91 ?_
          refine r_get 92 hC fd_7_7 fl_X5_103 dX5_flow_92 (fun v31 => ?_)
          refine r_lmul 95 hC dX5_flow_95 ?_
          refine r_callSP 96 hC [(1, v29), (1, w64 (v30 * v31))] [(0, p1), (11, v10)] rfl sl_X5_107 rfl (by decide) (Nat.le_of_ble_eq_true rfl) (by decide) (by decide) dX5_flow_96 (t_J9_min_f86c9 v29 (w64 (v30 * v31)) M9) (fun v32 => ?_)
          exact hj99 v32
        · refine r_aload_n 69 hC 0 rfl (Or.inl (by decide)) rfl dX5_flow_69 ?_
          refine r_get 70 hC fd_4_1 fl_X5_18 dX5_flow_70 (fun v33 => ?_)
          refine r_iload 73 hC 4 rfl dX5_flow_73 ?_
          refine r_laload 75 hC dX5_flow_75 (fun v34 => ?_)
          refine r_goto 76 hC (tgt := 99) (by decide) dX5_flow_76 ?_
          exact hj99 v34
      refine r_icmp_ne 32 hC (tgt := 45) (by decide) dX5_flow_32 ?_ ?_
      · refine r_aload_n 45 hC 1 rfl (Or.inl (by decide)) rfl dX5_flow_45 ?_
        refine r_get 46 hC fd_4_3 fl_X5_25 dX5_flow_46 (fun v35 => ?_)
        refine r_aload 49 hC 0 (Or.inl (by decide)) rfl dX5_flow_49 ?_
        refine r_iconst 51 hC (r32c rfl) dX5_flow_51 ?_
        refine r_iaload 52 hC dX5_flow_52 (fun v36 => ?_)
        refine r_laload 53 hC dX5_flow_53 (fun v37 => ?_)
        exact r_sub [1, 2, 3, 4, 5, 0] rfl (hj54 v37)
      · refine r_iload_n 35 hC 3 rfl rfl dX5_flow_35 ?_
        refine r_i2l 36 hC dX5_flow_36 ?_
        refine r_aload_n 37 hC 2 rfl (Or.inl (by decide)) rfl dX5_flow_37 ?_
        refine r_get 38 hC fd_7_7 fl_X5_103 dX5_flow_38 (fun v38 => ?_)
        refine r_lmul 41 hC dX5_flow_41 ?_
        refine r_goto 42 hC (tgt := 54) (by decide) dX5_flow_42 ?_
        exact r_sub [1, 2, 3, 4, 5, 0] rfl (hj54 (w64 (x2 * v38)))
set_option maxRecDepth 100000 in
theorem t_X5_flow (x0 x1 x2 x3 : Int) (M : Mem) (h0 : x0 ≠ 0) : MtV yX5_flow cX5_flow 8 none 2 0 0 [(24, x0), (27, x1), (0, x2), (0, x3)] M (f_X5_flow x0 x1 x2 x3 M) := by
  refine mk_V (by decide +kernel) (Nat.le_of_ble_eq_true rfl) (fun E C M0 hC hq hin => ?_)
  refine r_eqls (ls' := [(0, 24, x0), (1, 27, x1), (2, 0, x2), (3, 0, x3)]) rfl ?_
  unfold f_X5_flow
  refine r_iconst 0 hC (r32c rfl) dX5_flow_0 ?_
  refine r_istore 1 hC (by decide) dX5_flow_1 (r_eqls (ls' := [(4, 0, 0), (0, 24, x0), (1, 27, x1), (2, 0, x2), (3, 0, x3)]) rfl ?_)
  refine r_sub [1, 2, 3, 4, 0] rfl (f_X5_flow_L3_ok h0 hC hq (fun M40 => ?_) KF 0 M)
  · exact r_return 164 hC hq (by decide) (by decide) dX5_flow_164

/-! java/util/Arrays.fill([II)V -/
theorem dJ7_fill_53178_0 : decode cJ7_fill_53178 0 = .ok (.iconst 0, 1) := by decide +kernel
theorem dJ7_fill_53178_1 : decode cJ7_fill_53178 1 = .ok (.istore_n 2, 1) := by decide +kernel
theorem dJ7_fill_53178_2 : decode cJ7_fill_53178 2 = .ok (.aload_n 0, 1) := by decide +kernel
theorem dJ7_fill_53178_3 : decode cJ7_fill_53178 3 = .ok (.arraylength, 1) := by decide +kernel
theorem dJ7_fill_53178_4 : decode cJ7_fill_53178 4 = .ok (.istore_n 3, 1) := by decide +kernel
theorem dJ7_fill_53178_5 : decode cJ7_fill_53178 5 = .ok (.iload_n 2, 1) := by decide +kernel
theorem dJ7_fill_53178_6 : decode cJ7_fill_53178 6 = .ok (.iload_n 3, 1) := by decide +kernel
theorem dJ7_fill_53178_7 : decode cJ7_fill_53178 7 = .ok (.if_icmp .ge 13, 3) := by decide +kernel
theorem dJ7_fill_53178_10 : decode cJ7_fill_53178 10 = .ok (.aload_n 0, 1) := by decide +kernel
theorem dJ7_fill_53178_11 : decode cJ7_fill_53178 11 = .ok (.iload_n 2, 1) := by decide +kernel
theorem dJ7_fill_53178_12 : decode cJ7_fill_53178 12 = .ok (.iload_n 1, 1) := by decide +kernel
theorem dJ7_fill_53178_13 : decode cJ7_fill_53178 13 = .ok (.iastore, 1) := by decide +kernel
theorem dJ7_fill_53178_14 : decode cJ7_fill_53178 14 = .ok (.iinc 2 1, 3) := by decide +kernel
theorem dJ7_fill_53178_17 : decode cJ7_fill_53178 17 = .ok (.goto (-12), 3) := by decide +kernel
theorem dJ7_fill_53178_20 : decode cJ7_fill_53178 20 = .ok (.return_, 1) := by decide +kernel
set_option maxRecDepth 100000 in
theorem f_J7_fill_53178_L5_ok {E : EnvT} {C : Cx} {Mi : Mem} (hC : CxOK E C cJ7_fill_53178 4 yJ7_fill_53178.cls 1 0 0) {M0 : Mem} (hq : RQ E C 0 0 Mi none none M0) {v1 x0 x1 : Int} {k : Mem → Option (Mem)} (hk : ∀ M5, Bk E C 4 Mi M0 20 [] [] M5 0 0 (k M5)) : ∀ (n : Nat) (p2 : Int) (M3 : Mem), Bk E C 4 Mi M0 5 [(0, 10, x0), (1, 0, x1), (2, 0, p2), (3, 0, v1)] [] M3 0 0 (f_J7_fill_53178_L5 v1 x0 x1 k n p2 M3) := by
  intro n
  induction n with
  | zero =>
    intro p2 M3
    exact r_none
  | succ n ih =>
    intro p2 M3
    rw [f_J7_fill_53178_L5]
    refine r_iload_n 5 hC 2 rfl rfl dJ7_fill_53178_5 ?_
    refine r_iload_n 6 hC 3 rfl rfl dJ7_fill_53178_6 ?_
    refine r_icmp_ge 7 hC (tgt := 20) (by decide) dJ7_fill_53178_7 ?_ ?_
    · exact r_sub [] rfl (hk M3)
    · refine r_aload_n 10 hC 0 rfl (Or.inl (by decide)) rfl dJ7_fill_53178_10 ?_
      refine r_iload_n 11 hC 2 rfl rfl dJ7_fill_53178_11 ?_
      refine r_iload_n 12 hC 1 rfl rfl dJ7_fill_53178_12 ?_
      refine r_iastore 13 hC dJ7_fill_53178_13 (fun M4 => ?_)
      refine r_iinc 14 hC 2 rfl (by decide) dJ7_fill_53178_14 (r_eqls (ls' := [(2, 0, w32 (p2 + 1)), (0, 10, x0), (1, 0, x1), (3, 0, v1)]) rfl ?_)
      refine r_goto 17 hC (tgt := 5) (by decide) dJ7_fill_53178_17 ?_
      exact r_sub [1, 2, 0, 3] rfl (ih (w32 (p2 + 1)) M4)
set_option maxRecDepth 100000 in
theorem t_J7_fill_53178 (x0 x1 : Int) (M : Mem) : MtV yJ7_fill_53178 cJ7_fill_53178 4 none 1 0 0 [(10, x0), (0, x1)] M (f_J7_fill_53178 x0 x1 M) := by
  refine mk_V (by decide +kernel) (Nat.le_of_ble_eq_true rfl) (fun E C M0 hC hq hin => ?_)
  refine r_eqls (ls' := [(0, 10, x0), (1, 0, x1)]) rfl ?_
  unfold f_J7_fill_53178
  refine r_iconst 0 hC (r32c rfl) dJ7_fill_53178_0 ?_
  refine r_istore_n 1 hC rfl (by decide) dJ7_fill_53178_1 (r_eqls (ls' := [(2, 0, 0), (0, 10, x0), (1, 0, x1)]) rfl ?_)
  refine r_aload_n 2 hC 1 rfl (Or.inl (by decide)) rfl dJ7_fill_53178_2 ?_
  refine r_alen 3 hC (by decide) (by decide) dJ7_fill_53178_3 (fun v1 => ?_)
  refine r_istore_n 4 hC rfl (by decide) dJ7_fill_53178_4 (r_eqls (ls' := [(3, 0, v1), (2, 0, 0), (0, 10, x0), (1, 0, x1)]) rfl ?_)
  refine r_sub [2, 3, 1, 0] rfl (f_J7_fill_53178_L5_ok hC hq (fun M6 => ?_) KF 0 M)
  · exact r_return 20 hC hq (by decide) (by decide) dJ7_fill_53178_20

/-! java/lang/Math.floorMod(II)I -/
theorem dJ9_floorMod_7cf53_0 : decode cJ9_floorMod_7cf53 0 = .ok (.iload_n 0, 1) := by decide +kernel
theorem dJ9_floorMod_7cf53_1 : decode cJ9_floorMod_7cf53 1 = .ok (.iload_n 1, 1) := by decide +kernel
theorem dJ9_floorMod_7cf53_2 : decode cJ9_floorMod_7cf53 2 = .ok (.irem, 1) := by decide +kernel
theorem dJ9_floorMod_7cf53_3 : decode cJ9_floorMod_7cf53 3 = .ok (.istore_n 2, 1) := by decide +kernel
theorem dJ9_floorMod_7cf53_4 : decode cJ9_floorMod_7cf53 4 = .ok (.iload_n 0, 1) := by decide +kernel
theorem dJ9_floorMod_7cf53_5 : decode cJ9_floorMod_7cf53 5 = .ok (.iload_n 1, 1) := by decide +kernel
theorem dJ9_floorMod_7cf53_6 : decode cJ9_floorMod_7cf53 6 = .ok (.ixor, 1) := by decide +kernel
theorem dJ9_floorMod_7cf53_7 : decode cJ9_floorMod_7cf53 7 = .ok (.ifCond .ge 11, 3) := by decide +kernel
theorem dJ9_floorMod_7cf53_10 : decode cJ9_floorMod_7cf53 10 = .ok (.iload_n 2, 1) := by decide +kernel
theorem dJ9_floorMod_7cf53_11 : decode cJ9_floorMod_7cf53 11 = .ok (.ifCond .eq 7, 3) := by decide +kernel
theorem dJ9_floorMod_7cf53_14 : decode cJ9_floorMod_7cf53 14 = .ok (.iload_n 2, 1) := by decide +kernel
theorem dJ9_floorMod_7cf53_15 : decode cJ9_floorMod_7cf53 15 = .ok (.iload_n 1, 1) := by decide +kernel
theorem dJ9_floorMod_7cf53_16 : decode cJ9_floorMod_7cf53 16 = .ok (.iadd, 1) := by decide +kernel
theorem dJ9_floorMod_7cf53_17 : decode cJ9_floorMod_7cf53 17 = .ok (.ireturn, 1) := by decide +kernel
theorem dJ9_floorMod_7cf53_18 : decode cJ9_floorMod_7cf53 18 = .ok (.iload_n 2, 1) := by decide +kernel
theorem dJ9_floorMod_7cf53_19 : decode cJ9_floorMod_7cf53 19 = .ok (.ireturn, 1) := by decide +kernel
set_option maxRecDepth 100000 in
theorem t_J9_floorMod_7cf53 (x0 x1 : Int) (M : Mem) : MtP yJ9_floorMod_7cf53 cJ9_floorMod_7cf53 3 (some .int) 1 0 0 [(0, x0), (0, x1)] M 0 (f_J9_floorMod_7cf53 x0 x1 M) := by
  refine mk_P (by decide +kernel) (Nat.le_of_ble_eq_true rfl) (fun E C r0 hC hq hin => ?_)
  refine r_eqls (ls' := [(0, 0, x0), (1, 0, x1)]) rfl ?_
  unfold f_J9_floorMod_7cf53
  refine r_iload_n 0 hC 0 rfl rfl dJ9_floorMod_7cf53_0 ?_
  refine r_iload_n 1 hC 1 rfl rfl dJ9_floorMod_7cf53_1 ?_
  refine r_irem 2 hC dJ9_floorMod_7cf53_2 (fun v1 => ?_)
  refine r_istore_n 3 hC rfl (by decide) dJ9_floorMod_7cf53_3 (r_eqls (ls' := [(2, 0, v1), (0, 0, x0), (1, 0, x1)]) rfl ?_)
  refine r_iload_n 4 hC 1 rfl rfl dJ9_floorMod_7cf53_4 ?_
  refine r_iload_n 5 hC 2 rfl rfl dJ9_floorMod_7cf53_5 ?_
  refine r_ixor 6 hC dJ9_floorMod_7cf53_6 ?_
  refine r_jn (P := fun j18 => Bk E C 3 M r0 18 [(2, 0, v1)] [] M 0 0 (j18)) ?_ (fun j18 hj18 => ?_)
  · refine r_iload_n 18 hC 0 rfl rfl dJ9_floorMod_7cf53_18 ?_
    exact r_ireturnP 19 hC hq (by decide) (by decide) dJ9_floorMod_7cf53_19
  refine r_if_ge 7 hC (tgt := 18) (by decide) dJ9_floorMod_7cf53_7 ?_ ?_
  · exact r_sub [0] rfl (hj18)
  · refine r_iload_n 10 hC 0 rfl rfl dJ9_floorMod_7cf53_10 ?_
    refine r_if_eq 11 hC (tgt := 18) (by decide) dJ9_floorMod_7cf53_11 ?_ ?_
    · exact r_sub [0] rfl (hj18)
    · refine r_iload_n 14 hC 0 rfl rfl dJ9_floorMod_7cf53_14 ?_
      refine r_iload_n 15 hC 2 rfl rfl dJ9_floorMod_7cf53_15 ?_
      refine r_iadd 16 hC dJ9_floorMod_7cf53_16 ?_
      exact r_ireturnP 17 hC hq (by decide) (by decide) dJ9_floorMod_7cf53_17

/-! WaterTurns$Valley.nextChange(II)I -/
theorem dX8_nextChange_0 : decode cX8_nextChange 0 = .ok (.iload_n 2, 1) := by decide +kernel
theorem dX8_nextChange_1 : decode cX8_nextChange 1 = .ok (.istore_n 3, 1) := by decide +kernel
theorem dX8_nextChange_2 : decode cX8_nextChange 2 = .ok (.iconst 0, 1) := by decide +kernel
theorem dX8_nextChange_3 : decode cX8_nextChange 3 = .ok (.istore 4, 2) := by decide +kernel
theorem dX8_nextChange_5 : decode cX8_nextChange 5 = .ok (.iload 4, 2) := by decide +kernel
theorem dX8_nextChange_7 : decode cX8_nextChange 7 = .ok (.aload_n 0, 1) := by decide +kernel
theorem dX8_nextChange_8 : decode cX8_nextChange 8 = .ok (.getfield 21, 3) := by decide +kernel
theorem dX8_nextChange_11 : decode cX8_nextChange 11 = .ok (.if_icmp .ge 100, 3) := by decide +kernel
theorem dX8_nextChange_14 : decode cX8_nextChange 14 = .ok (.aload_n 0, 1) := by decide +kernel
theorem dX8_nextChange_15 : decode cX8_nextChange 15 = .ok (.getfield 39, 3) := by decide +kernel
theorem dX8_nextChange_18 : decode cX8_nextChange 18 = .ok (.iload 4, 2) := by decide +kernel
theorem dX8_nextChange_20 : decode cX8_nextChange 20 = .ok (.aaload, 1) := by decide +kernel
theorem dX8_nextChange_21 : decode cX8_nextChange 21 = .ok (.iconst 4, 1) := by decide +kernel
theorem dX8_nextChange_22 : decode cX8_nextChange 22 = .ok (.iaload, 1) := by decide +kernel
theorem dX8_nextChange_23 : decode cX8_nextChange 23 = .ok (.iconst (-1), 1) := by decide +kernel
theorem dX8_nextChange_24 : decode cX8_nextChange 24 = .ok (.if_icmp .eq 81, 3) := by decide +kernel
theorem dX8_nextChange_27 : decode cX8_nextChange 27 = .ok (.aload_n 0, 1) := by decide +kernel
theorem dX8_nextChange_28 : decode cX8_nextChange 28 = .ok (.getfield 39, 3) := by decide +kernel
theorem dX8_nextChange_31 : decode cX8_nextChange 31 = .ok (.iload 4, 2) := by decide +kernel
theorem dX8_nextChange_33 : decode cX8_nextChange 33 = .ok (.aaload, 1) := by decide +kernel
theorem dX8_nextChange_34 : decode cX8_nextChange 34 = .ok (.iconst 4, 1) := by decide +kernel
theorem dX8_nextChange_35 : decode cX8_nextChange 35 = .ok (.iaload, 1) := by decide +kernel
theorem dX8_nextChange_36 : decode cX8_nextChange 36 = .ok (.aload_n 0, 1) := by decide +kernel
theorem dX8_nextChange_37 : decode cX8_nextChange 37 = .ok (.getfield 18, 3) := by decide +kernel
theorem dX8_nextChange_40 : decode cX8_nextChange 40 = .ok (.isub, 1) := by decide +kernel
theorem dX8_nextChange_41 : decode cX8_nextChange 41 = .ok (.sipush 1440, 3) := by decide +kernel
theorem dX8_nextChange_44 : decode cX8_nextChange 44 = .ok (.invokestatic 65, 3) := by decide +kernel
theorem dX8_nextChange_47 : decode cX8_nextChange 47 = .ok (.istore 5, 2) := by decide +kernel
theorem dX8_nextChange_49 : decode cX8_nextChange 49 = .ok (.aload_n 0, 1) := by decide +kernel
theorem dX8_nextChange_50 : decode cX8_nextChange 50 = .ok (.getfield 39, 3) := by decide +kernel
theorem dX8_nextChange_53 : decode cX8_nextChange 53 = .ok (.iload 4, 2) := by decide +kernel
theorem dX8_nextChange_55 : decode cX8_nextChange 55 = .ok (.aaload, 1) := by decide +kernel
theorem dX8_nextChange_56 : decode cX8_nextChange 56 = .ok (.iconst 5, 1) := by decide +kernel
theorem dX8_nextChange_57 : decode cX8_nextChange 57 = .ok (.iaload, 1) := by decide +kernel
theorem dX8_nextChange_58 : decode cX8_nextChange 58 = .ok (.aload_n 0, 1) := by decide +kernel
theorem dX8_nextChange_59 : decode cX8_nextChange 59 = .ok (.getfield 18, 3) := by decide +kernel
theorem dX8_nextChange_62 : decode cX8_nextChange 62 = .ok (.isub, 1) := by decide +kernel
theorem dX8_nextChange_63 : decode cX8_nextChange 63 = .ok (.sipush 1440, 3) := by decide +kernel
theorem dX8_nextChange_66 : decode cX8_nextChange 66 = .ok (.invokestatic 65, 3) := by decide +kernel
theorem dX8_nextChange_69 : decode cX8_nextChange 69 = .ok (.istore 6, 2) := by decide +kernel
theorem dX8_nextChange_71 : decode cX8_nextChange 71 = .ok (.iload 5, 2) := by decide +kernel
theorem dX8_nextChange_73 : decode cX8_nextChange 73 = .ok (.iload_n 1, 1) := by decide +kernel
theorem dX8_nextChange_74 : decode cX8_nextChange 74 = .ok (.if_icmp .le 12, 3) := by decide +kernel
theorem dX8_nextChange_77 : decode cX8_nextChange 77 = .ok (.iload_n 3, 1) := by decide +kernel
theorem dX8_nextChange_78 : decode cX8_nextChange 78 = .ok (.iload 5, 2) := by decide +kernel
theorem dX8_nextChange_80 : decode cX8_nextChange 80 = .ok (.invokestatic 71, 3) := by decide +kernel
theorem dX8_nextChange_83 : decode cX8_nextChange 83 = .ok (.goto 4, 3) := by decide +kernel
theorem dX8_nextChange_86 : decode cX8_nextChange 86 = .ok (.iload_n 3, 1) := by decide +kernel
theorem dX8_nextChange_87 : decode cX8_nextChange 87 = .ok (.istore_n 3, 1) := by decide +kernel
theorem dX8_nextChange_88 : decode cX8_nextChange 88 = .ok (.iload 6, 2) := by decide +kernel
theorem dX8_nextChange_90 : decode cX8_nextChange 90 = .ok (.iload_n 1, 1) := by decide +kernel
theorem dX8_nextChange_91 : decode cX8_nextChange 91 = .ok (.if_icmp .le 12, 3) := by decide +kernel
theorem dX8_nextChange_94 : decode cX8_nextChange 94 = .ok (.iload_n 3, 1) := by decide +kernel
theorem dX8_nextChange_95 : decode cX8_nextChange 95 = .ok (.iload 6, 2) := by decide +kernel
theorem dX8_nextChange_97 : decode cX8_nextChange 97 = .ok (.invokestatic 71, 3) := by decide +kernel
theorem dX8_nextChange_100 : decode cX8_nextChange 100 = .ok (.goto 4, 3) := by decide +kernel
theorem dX8_nextChange_103 : decode cX8_nextChange 103 = .ok (.iload_n 3, 1) := by decide +kernel
theorem dX8_nextChange_104 : decode cX8_nextChange 104 = .ok (.istore_n 3, 1) := by decide +kernel
theorem dX8_nextChange_105 : decode cX8_nextChange 105 = .ok (.iinc 4 1, 3) := by decide +kernel
theorem dX8_nextChange_108 : decode cX8_nextChange 108 = .ok (.goto (-103), 3) := by decide +kernel
theorem dX8_nextChange_111 : decode cX8_nextChange 111 = .ok (.iload_n 3, 1) := by decide +kernel
theorem dX8_nextChange_112 : decode cX8_nextChange 112 = .ok (.ireturn, 1) := by decide +kernel
set_option maxRecDepth 100000 in
theorem f_X8_nextChange_L5_ok {E : EnvT} {C : Cx} {Mi M : Mem} {x0 : Int} (h0 : x0 ≠ 0) (hC : CxOK E C cX8_nextChange 7 yX8_nextChange.cls 2 0 0) {r0 : Int} (hq : RQ E C 0 0 Mi (some .int) (some (0, r0)) M) {x1 : Int} {k : Int → Option (Int)} (hk : ∀ q22, Bk E C 7 Mi r0 111 [(3, 0, q22)] [] M 0 0 (k q22)) : ∀ (n : Nat) (p1 : Int) (p2 : Int), Bk E C 7 Mi r0 5 [(0, 27, x0), (1, 0, x1), (3, 0, p1), (4, 0, p2)] [] M 0 0 (f_X8_nextChange_L5 M x0 x1 k n p1 p2) := by
  intro n
  induction n with
  | zero =>
    intro p1 p2
    exact r_none
  | succ n ih =>
    intro p1 p2
    rw [f_X8_nextChange_L5]
    refine r_iload 5 hC 3 rfl dX8_nextChange_5 ?_
    refine r_aload_n 7 hC 0 rfl (Or.inl (by decide)) rfl dX8_nextChange_7 ?_
    refine r_get 8 hC fd_7_3 fl_X8_21 dX8_nextChange_8 (fun v3 => ?_)
    refine r_icmp_ge 11 hC (tgt := 111) (by decide) dX8_nextChange_11 ?_ ?_
    · exact r_sub [2] rfl (hk p1)
    · refine r_aload_n 14 hC 0 rfl (Or.inl (by decide)) rfl dX8_nextChange_14 ?_
      refine r_get 15 hC fd_7_8 fl_X8_39 dX8_nextChange_15 (fun v4 => ?_)
      refine r_iload 18 hC 3 rfl dX8_nextChange_18 ?_
      refine r_aaloadI 20 hC dX8_nextChange_20 (fun v5 => ?_)
      refine r_iconst 21 hC (r32c rfl) dX8_nextChange_21 ?_
      refine r_iaload 22 hC dX8_nextChange_22 (fun v6 => ?_)
      refine r_iconst 23 hC (r32c rfl) dX8_nextChange_23 ?_
      refine r_jn (P := fun j105 => ∀ (q7 : Int), Bk E C 7 Mi r0 105 [(0, 27, x0), (1, 0, x1), (3, 0, q7), (4, 0, p2)] [] M 0 0 (j105 q7)) ?_ (fun j105 hj105 => ?_)
      · intro q7
        refine r_iinc 105 hC 3 rfl (by decide) dX8_nextChange_105 (r_eqls (ls' := [(4, 0, w32 (p2 + 1)), (0, 27, x0), (1, 0, x1), (3, 0, q7)]) rfl ?_)
        refine r_goto 108 hC (tgt := 5) (by decide) dX8_nextChange_108 ?_
        exact r_sub [1, 2, 3, 0] rfl (ih q7 (w32 (p2 + 1)))
      refine r_icmp_eq 24 hC (tgt := 105) (by decide) dX8_nextChange_24 ?_ ?_
      · exact hj105 p1
      · refine r_aload_n 27 hC 0 rfl (Or.inl (by decide)) rfl dX8_nextChange_27 ?_
        refine r_get 28 hC fd_7_8 fl_X8_39 dX8_nextChange_28 (fun v8 => ?_)
        refine r_iload 31 hC 3 rfl dX8_nextChange_31 ?_
        refine r_aaloadI 33 hC dX8_nextChange_33 (fun v9 => ?_)
        refine r_iconst 34 hC (r32c rfl) dX8_nextChange_34 ?_
        refine r_iaload 35 hC dX8_nextChange_35 (fun v10 => ?_)
        refine r_aload_n 36 hC 0 rfl (Or.inl (by decide)) rfl dX8_nextChange_36 ?_
        refine r_get 37 hC fd_7_2 fl_X8_18 dX8_nextChange_37 (fun v11 => ?_)
        refine r_isub 40 hC dX8_nextChange_40 ?_
        refine r_sipush 41 hC ks_1440 dX8_nextChange_41 ?_
        refine r_callSP 44 hC [(0, w32 (v10 - v11)), (0, 1440)] [] rfl sl_X8_65 rfl (by decide) (Nat.le_of_ble_eq_true rfl) (by decide) (by decide) dX8_nextChange_44 (t_J9_floorMod_7cf53 (w32 (v10 - v11)) 1440 M) (fun v12 => ?_)
        refine r_istore 47 hC (by decide) dX8_nextChange_47 (r_eqls (ls' := [(5, 0, v12), (0, 27, x0), (1, 0, x1), (3, 0, p1), (4, 0, p2)]) rfl ?_)
        refine r_aload_n 49 hC 1 rfl (Or.inl (by decide)) rfl dX8_nextChange_49 ?_
        refine r_get 50 hC fd_7_8 fl_X8_39 dX8_nextChange_50 (fun v13 => ?_)
        refine r_iload 53 hC 4 rfl dX8_nextChange_53 ?_
        refine r_aaloadI 55 hC dX8_nextChange_55 (fun v14 => ?_)
        refine r_iconst 56 hC (r32c rfl) dX8_nextChange_56 ?_
        refine r_iaload 57 hC dX8_nextChange_57 (fun v15 => ?_)
        refine r_aload_n 58 hC 1 rfl (Or.inl (by decide)) rfl dX8_nextChange_58 ?_
        refine r_get 59 hC fd_7_2 fl_X8_18 dX8_nextChange_59 (fun v16 => ?_)
        refine r_isub 62 hC dX8_nextChange_62 ?_
        refine r_sipush 63 hC ks_1440 dX8_nextChange_63 ?_
        refine r_callSP 66 hC [(0, w32 (v15 - v16)), (0, 1440)] [] rfl sl_X8_65 rfl (by decide) (Nat.le_of_ble_eq_true rfl) (by decide) (by decide) dX8_nextChange_66 (t_J9_floorMod_7cf53 (w32 (v15 - v16)) 1440 M) (fun v17 => ?_)
        refine r_istore 69 hC (by decide) dX8_nextChange_69 (r_eqls (ls' := [(6, 0, v17), (5, 0, v12), (0, 27, x0), (1, 0, x1), (3, 0, p1), (4, 0, p2)]) rfl ?_)
        refine r_iload 71 hC 1 rfl dX8_nextChange_71 ?_
        refine r_iload_n 73 hC 3 rfl rfl dX8_nextChange_73 ?_
        refine r_jn (P := fun j87 => ∀ (q18 : Int), Bk E C 7 Mi r0 87 [(0, 27, x0), (1, 0, x1), (4, 0, p2), (6, 0, v17)] [(0, q18)] M 0 0 (j87 q18)) ?_ (fun j87 hj87 => ?_)
        · intro q18
          refine r_istore_n 87 hC rfl (by decide) dX8_nextChange_87 (r_eqls (ls' := [(3, 0, q18), (0, 27, x0), (1, 0, x1), (4, 0, p2), (6, 0, v17)]) rfl ?_)
          refine r_iload 88 hC 4 rfl dX8_nextChange_88 ?_
          refine r_iload_n 90 hC 2 rfl rfl dX8_nextChange_90 ?_
          refine r_jn (P := fun j104 => ∀ (q19 : Int), Bk E C 7 Mi r0 104 [(0, 27, x0), (1, 0, x1), (4, 0, p2)] [(0, q19)] M 0 0 (j104 q19)) ?_ (fun j104 hj104 => ?_)
          · intro q19
            refine r_istore_n 104 hC rfl (by decide) dX8_nextChange_104 (r_eqls (ls' := [(3, 0, q19), (0, 27, x0), (1, 0, x1), (4, 0, p2)]) rfl ?_)
            exact r_sub [1, 2, 0, 3] rfl (hj105 q19)
          refine r_icmp_le 91 hC (tgt := 103) (by decide) dX8_nextChange_91 ?_ ?_
          · refine r_iload_n 103 hC 0 rfl rfl dX8_nextChange_103 ?_
            exact r_sub [1, 2, 3] rfl (hj104 q18)
          · refine r_iload_n 94 hC 0 rfl rfl dX8_nextChange_94 ?_
            refine r_iload 95 hC 4 rfl dX8_nextChange_95 ?_
            refine r_callSP 97 hC [(0, q18), (0, v17)] [] rfl sl_X8_71 rfl (by decide) (Nat.le_of_ble_eq_true rfl) (by decide) (by decide) dX8_nextChange_97 (t_J9_min_7cf53 q18 v17 M) (fun v20 => ?_)
            refine r_goto 100 hC (tgt := 104) (by decide) dX8_nextChange_100 ?_
            exact r_sub [1, 2, 3] rfl (hj104 v20)
        refine r_icmp_le 74 hC (tgt := 86) (by decide) dX8_nextChange_74 ?_ ?_
        · refine r_iload_n 86 hC 4 rfl rfl dX8_nextChange_86 ?_
          exact r_sub [2, 3, 5, 0] rfl (hj87 p1)
        · refine r_iload_n 77 hC 4 rfl rfl dX8_nextChange_77 ?_
          refine r_iload 78 hC 1 rfl dX8_nextChange_78 ?_
          refine r_callSP 80 hC [(0, p1), (0, v12)] [] rfl sl_X8_71 rfl (by decide) (Nat.le_of_ble_eq_true rfl) (by decide) (by decide) dX8_nextChange_80 (t_J9_min_7cf53 p1 v12 M) (fun v21 => ?_)
          refine r_goto 83 hC (tgt := 87) (by decide) dX8_nextChange_83 ?_
          exact r_sub [2, 3, 5, 0] rfl (hj87 v21)
set_option maxRecDepth 100000 in
theorem t_X8_nextChange (x0 x1 x2 : Int) (M : Mem) (h0 : x0 ≠ 0) : MtP yX8_nextChange cX8_nextChange 7 (some .int) 2 0 0 [(27, x0), (0, x1), (0, x2)] M 0 (f_X8_nextChange x0 x1 x2 M) := by
  refine mk_P (by decide +kernel) (Nat.le_of_ble_eq_true rfl) (fun E C r0 hC hq hin => ?_)
  refine r_eqls (ls' := [(0, 27, x0), (1, 0, x1), (2, 0, x2)]) rfl ?_
  unfold f_X8_nextChange
  refine r_iload_n 0 hC 2 rfl rfl dX8_nextChange_0 ?_
  refine r_istore_n 1 hC rfl (by decide) dX8_nextChange_1 (r_eqls (ls' := [(3, 0, x2), (0, 27, x0), (1, 0, x1), (2, 0, x2)]) rfl ?_)
  refine r_iconst 2 hC (r32c rfl) dX8_nextChange_2 ?_
  refine r_istore 3 hC (by decide) dX8_nextChange_3 (r_eqls (ls' := [(4, 0, 0), (3, 0, x2), (0, 27, x0), (1, 0, x1), (2, 0, x2)]) rfl ?_)
  refine r_sub [2, 3, 1, 0] rfl (f_X8_nextChange_L5_ok h0 hC hq (fun q23 => ?_) KF x2 0)
  · refine r_iload_n 111 hC 0 rfl rfl dX8_nextChange_111 ?_
    exact r_ireturnP 112 hC hq (by decide) (by decide) dX8_nextChange_112

/-! WaterTurns$Standing.isClosed(I)Z -/
theorem dX4_isClosed_0 : decode cX4_isClosed 0 = .ok (.aload_n 0, 1) := by decide +kernel
theorem dX4_isClosed_1 : decode cX4_isClosed 1 = .ok (.getfield 18, 3) := by decide +kernel
theorem dX4_isClosed_4 : decode cX4_isClosed 4 = .ok (.iload_n 1, 1) := by decide +kernel
theorem dX4_isClosed_5 : decode cX4_isClosed 5 = .ok (.ishr, 1) := by decide +kernel
theorem dX4_isClosed_6 : decode cX4_isClosed 6 = .ok (.iconst 1, 1) := by decide +kernel
theorem dX4_isClosed_7 : decode cX4_isClosed 7 = .ok (.iand, 1) := by decide +kernel
theorem dX4_isClosed_8 : decode cX4_isClosed 8 = .ok (.iconst 1, 1) := by decide +kernel
theorem dX4_isClosed_9 : decode cX4_isClosed 9 = .ok (.if_icmp .ne 7, 3) := by decide +kernel
theorem dX4_isClosed_12 : decode cX4_isClosed 12 = .ok (.iconst 1, 1) := by decide +kernel
theorem dX4_isClosed_13 : decode cX4_isClosed 13 = .ok (.goto 4, 3) := by decide +kernel
theorem dX4_isClosed_16 : decode cX4_isClosed 16 = .ok (.iconst 0, 1) := by decide +kernel
theorem dX4_isClosed_17 : decode cX4_isClosed 17 = .ok (.ireturn, 1) := by decide +kernel
set_option maxRecDepth 100000 in
theorem t_X4_isClosed (x0 x1 : Int) (M : Mem) (h0 : x0 ≠ 0) : MtP yX4_isClosed cX4_isClosed 2 (some .boolean) 1 0 0 [(23, x0), (0, x1)] M 0 (f_X4_isClosed x0 x1 M) := by
  refine mk_P (by decide +kernel) (Nat.le_of_ble_eq_true rfl) (fun E C r0 hC hq hin => ?_)
  refine r_eqls (ls' := [(0, 23, x0), (1, 0, x1)]) rfl ?_
  unfold f_X4_isClosed
  refine r_aload_n 0 hC 0 rfl (Or.inl (by decide)) rfl dX4_isClosed_0 ?_
  refine r_get 1 hC fd_3_2 fl_X4_18 dX4_isClosed_1 (fun v1 => ?_)
  refine r_iload_n 4 hC 1 rfl rfl dX4_isClosed_4 ?_
  refine r_ishr 5 hC dX4_isClosed_5 ?_
  refine r_iconst 6 hC (r32c rfl) dX4_isClosed_6 ?_
  refine r_iand 7 hC dX4_isClosed_7 ?_
  refine r_iconst 8 hC (r32c rfl) dX4_isClosed_8 ?_
  refine r_jn (P := fun j17 => ∀ (q2 : Int), Bk E C 2 M r0 17 [] [(0, q2)] M 0 0 (j17 q2)) ?_ (fun j17 hj17 => ?_)
  · intro q2
    exact r_zreturnP 17 hC hq (by decide) (by decide) dX4_isClosed_17
  refine r_icmp_ne 9 hC (tgt := 16) (by decide) dX4_isClosed_9 ?_ ?_
  · refine r_iconst 16 hC (r32c rfl) dX4_isClosed_16 ?_
    exact r_sub [] rfl (hj17 0)
  · refine r_iconst 12 hC (r32c rfl) dX4_isClosed_12 ?_
    refine r_goto 13 hC (tgt := 17) (by decide) dX4_isClosed_13 ?_
    exact r_sub [] rfl (hj17 1)

/-! WaterTurns$Valley.isShut(II)Z -/
theorem dX8_isShut_0 : decode cX8_isShut 0 = .ok (.aload_n 0, 1) := by decide +kernel
theorem dX8_isShut_1 : decode cX8_isShut 1 = .ok (.getfield 18, 3) := by decide +kernel
theorem dX8_isShut_4 : decode cX8_isShut 4 = .ok (.iload_n 2, 1) := by decide +kernel
theorem dX8_isShut_5 : decode cX8_isShut 5 = .ok (.iadd, 1) := by decide +kernel
theorem dX8_isShut_6 : decode cX8_isShut 6 = .ok (.sipush 1440, 3) := by decide +kernel
theorem dX8_isShut_9 : decode cX8_isShut 9 = .ok (.irem, 1) := by decide +kernel
theorem dX8_isShut_10 : decode cX8_isShut 10 = .ok (.istore_n 3, 1) := by decide +kernel
theorem dX8_isShut_11 : decode cX8_isShut 11 = .ok (.aload_n 0, 1) := by decide +kernel
theorem dX8_isShut_12 : decode cX8_isShut 12 = .ok (.getfield 39, 3) := by decide +kernel
theorem dX8_isShut_15 : decode cX8_isShut 15 = .ok (.iload_n 1, 1) := by decide +kernel
theorem dX8_isShut_16 : decode cX8_isShut 16 = .ok (.aaload, 1) := by decide +kernel
theorem dX8_isShut_17 : decode cX8_isShut 17 = .ok (.iconst 4, 1) := by decide +kernel
theorem dX8_isShut_18 : decode cX8_isShut 18 = .ok (.iaload, 1) := by decide +kernel
theorem dX8_isShut_19 : decode cX8_isShut 19 = .ok (.iconst (-1), 1) := by decide +kernel
theorem dX8_isShut_20 : decode cX8_isShut 20 = .ok (.if_icmp .eq 31, 3) := by decide +kernel
theorem dX8_isShut_23 : decode cX8_isShut 23 = .ok (.iload_n 3, 1) := by decide +kernel
theorem dX8_isShut_24 : decode cX8_isShut 24 = .ok (.aload_n 0, 1) := by decide +kernel
theorem dX8_isShut_25 : decode cX8_isShut 25 = .ok (.getfield 39, 3) := by decide +kernel
theorem dX8_isShut_28 : decode cX8_isShut 28 = .ok (.iload_n 1, 1) := by decide +kernel
theorem dX8_isShut_29 : decode cX8_isShut 29 = .ok (.aaload, 1) := by decide +kernel
theorem dX8_isShut_30 : decode cX8_isShut 30 = .ok (.iconst 4, 1) := by decide +kernel
theorem dX8_isShut_31 : decode cX8_isShut 31 = .ok (.iaload, 1) := by decide +kernel
theorem dX8_isShut_32 : decode cX8_isShut 32 = .ok (.if_icmp .lt 19, 3) := by decide +kernel
theorem dX8_isShut_35 : decode cX8_isShut 35 = .ok (.iload_n 3, 1) := by decide +kernel
theorem dX8_isShut_36 : decode cX8_isShut 36 = .ok (.aload_n 0, 1) := by decide +kernel
theorem dX8_isShut_37 : decode cX8_isShut 37 = .ok (.getfield 39, 3) := by decide +kernel
theorem dX8_isShut_40 : decode cX8_isShut 40 = .ok (.iload_n 1, 1) := by decide +kernel
theorem dX8_isShut_41 : decode cX8_isShut 41 = .ok (.aaload, 1) := by decide +kernel
theorem dX8_isShut_42 : decode cX8_isShut 42 = .ok (.iconst 5, 1) := by decide +kernel
theorem dX8_isShut_43 : decode cX8_isShut 43 = .ok (.iaload, 1) := by decide +kernel
theorem dX8_isShut_44 : decode cX8_isShut 44 = .ok (.if_icmp .ge 7, 3) := by decide +kernel
theorem dX8_isShut_47 : decode cX8_isShut 47 = .ok (.iconst 1, 1) := by decide +kernel
theorem dX8_isShut_48 : decode cX8_isShut 48 = .ok (.goto 4, 3) := by decide +kernel
theorem dX8_isShut_51 : decode cX8_isShut 51 = .ok (.iconst 0, 1) := by decide +kernel
theorem dX8_isShut_52 : decode cX8_isShut 52 = .ok (.ireturn, 1) := by decide +kernel
set_option maxRecDepth 100000 in
theorem t_X8_isShut (x0 x1 x2 : Int) (M : Mem) (h0 : x0 ≠ 0) : MtP yX8_isShut cX8_isShut 4 (some .boolean) 1 0 0 [(27, x0), (0, x1), (0, x2)] M 0 (f_X8_isShut x0 x1 x2 M) := by
  refine mk_P (by decide +kernel) (Nat.le_of_ble_eq_true rfl) (fun E C r0 hC hq hin => ?_)
  refine r_eqls (ls' := [(0, 27, x0), (1, 0, x1), (2, 0, x2)]) rfl ?_
  unfold f_X8_isShut
  refine r_aload_n 0 hC 0 rfl (Or.inl (by decide)) rfl dX8_isShut_0 ?_
  refine r_get 1 hC fd_7_2 fl_X8_18 dX8_isShut_1 (fun v1 => ?_)
  refine r_iload_n 4 hC 2 rfl rfl dX8_isShut_4 ?_
  refine r_iadd 5 hC dX8_isShut_5 ?_
  refine r_sipush 6 hC ks_1440 dX8_isShut_6 ?_
  refine r_irem 9 hC dX8_isShut_9 (fun v2 => ?_)
  refine r_istore_n 10 hC rfl (by decide) dX8_isShut_10 (r_eqls (ls' := [(3, 0, v2), (0, 27, x0), (1, 0, x1), (2, 0, x2)]) rfl ?_)
  refine r_aload_n 11 hC 1 rfl (Or.inl (by decide)) rfl dX8_isShut_11 ?_
  refine r_get 12 hC fd_7_8 fl_X8_39 dX8_isShut_12 (fun v3 => ?_)
  refine r_iload_n 15 hC 2 rfl rfl dX8_isShut_15 ?_
  refine r_aaloadI 16 hC dX8_isShut_16 (fun v4 => ?_)
  refine r_iconst 17 hC (r32c rfl) dX8_isShut_17 ?_
  refine r_iaload 18 hC dX8_isShut_18 (fun v5 => ?_)
  refine r_iconst 19 hC (r32c rfl) dX8_isShut_19 ?_
  refine r_jn (P := fun j52 => ∀ (q6 : Int), Bk E C 4 M r0 52 [] [(0, q6)] M 0 0 (j52 q6)) ?_ (fun j52 hj52 => ?_)
  · intro q6
    exact r_zreturnP 52 hC hq (by decide) (by decide) dX8_isShut_52
  refine r_jn (P := fun j51 => Bk E C 4 M r0 51 [] [] M 0 0 (j51)) ?_ (fun j51 hj51 => ?_)
  · refine r_iconst 51 hC (r32c rfl) dX8_isShut_51 ?_
    exact hj52 0
  refine r_icmp_eq 20 hC (tgt := 51) (by decide) dX8_isShut_20 ?_ ?_
  · exact r_sub [] rfl (hj51)
  · refine r_iload_n 23 hC 0 rfl rfl dX8_isShut_23 ?_
    refine r_aload_n 24 hC 1 rfl (Or.inl (by decide)) rfl dX8_isShut_24 ?_
    refine r_get 25 hC fd_7_8 fl_X8_39 dX8_isShut_25 (fun v7 => ?_)
    refine r_iload_n 28 hC 2 rfl rfl dX8_isShut_28 ?_
    refine r_aaloadI 29 hC dX8_isShut_29 (fun v8 => ?_)
    refine r_iconst 30 hC (r32c rfl) dX8_isShut_30 ?_
    refine r_iaload 31 hC dX8_isShut_31 (fun v9 => ?_)
    refine r_icmp_lt 32 hC (tgt := 51) (by decide) dX8_isShut_32 ?_ ?_
    · exact r_sub [] rfl (hj51)
    · refine r_iload_n 35 hC 0 rfl rfl dX8_isShut_35 ?_
      refine r_aload_n 36 hC 1 rfl (Or.inl (by decide)) rfl dX8_isShut_36 ?_
      refine r_get 37 hC fd_7_8 fl_X8_39 dX8_isShut_37 (fun v10 => ?_)
      refine r_iload_n 40 hC 2 rfl rfl dX8_isShut_40 ?_
      refine r_aaloadI 41 hC dX8_isShut_41 (fun v11 => ?_)
      refine r_iconst 42 hC (r32c rfl) dX8_isShut_42 ?_
      refine r_iaload 43 hC dX8_isShut_43 (fun v12 => ?_)
      refine r_icmp_ge 44 hC (tgt := 51) (by decide) dX8_isShut_44 ?_ ?_
      · exact r_sub [] rfl (hj51)
      · refine r_iconst 47 hC (r32c rfl) dX8_isShut_47 ?_
        refine r_goto 48 hC (tgt := 52) (by decide) dX8_isShut_48 ?_
        exact r_sub [] rfl (hj52 1)

/-! WaterTurns$Sweep.openAt(LWaterTurns$World;I)I -/
theorem dX5_openAt_0 : decode cX5_openAt 0 = .ok (.aload_n 1, 1) := by decide +kernel
theorem dX5_openAt_1 : decode cX5_openAt 1 = .ok (.getfield 62, 3) := by decide +kernel
theorem dX5_openAt_4 : decode cX5_openAt 4 = .ok (.astore_n 3, 1) := by decide +kernel
theorem dX5_openAt_5 : decode cX5_openAt 5 = .ok (.iconst 0, 1) := by decide +kernel
theorem dX5_openAt_6 : decode cX5_openAt 6 = .ok (.istore 4, 2) := by decide +kernel
theorem dX5_openAt_8 : decode cX5_openAt 8 = .ok (.iconst 0, 1) := by decide +kernel
theorem dX5_openAt_9 : decode cX5_openAt 9 = .ok (.istore 5, 2) := by decide +kernel
theorem dX5_openAt_11 : decode cX5_openAt 11 = .ok (.iload 5, 2) := by decide +kernel
theorem dX5_openAt_13 : decode cX5_openAt 13 = .ok (.aload_n 3, 1) := by decide +kernel
theorem dX5_openAt_14 : decode cX5_openAt 14 = .ok (.getfield 94, 3) := by decide +kernel
theorem dX5_openAt_17 : decode cX5_openAt 17 = .ok (.if_icmp .ge 80, 3) := by decide +kernel
theorem dX5_openAt_20 : decode cX5_openAt 20 = .ok (.aload_n 3, 1) := by decide +kernel
theorem dX5_openAt_21 : decode cX5_openAt 21 = .ok (.getfield 99, 3) := by decide +kernel
theorem dX5_openAt_24 : decode cX5_openAt 24 = .ok (.iload 5, 2) := by decide +kernel
theorem dX5_openAt_26 : decode cX5_openAt 26 = .ok (.aaload, 1) := by decide +kernel
theorem dX5_openAt_27 : decode cX5_openAt 27 = .ok (.iconst 0, 1) := by decide +kernel
theorem dX5_openAt_28 : decode cX5_openAt 28 = .ok (.iaload, 1) := by decide +kernel
theorem dX5_openAt_29 : decode cX5_openAt 29 = .ok (.istore 6, 2) := by decide +kernel
theorem dX5_openAt_31 : decode cX5_openAt 31 = .ok (.iload 6, 2) := by decide +kernel
theorem dX5_openAt_33 : decode cX5_openAt 33 = .ok (.iconst (-1), 1) := by decide +kernel
theorem dX5_openAt_34 : decode cX5_openAt 34 = .ok (.if_icmp .eq 14, 3) := by decide +kernel
theorem dX5_openAt_37 : decode cX5_openAt 37 = .ok (.iload 4, 2) := by decide +kernel
theorem dX5_openAt_39 : decode cX5_openAt 39 = .ok (.iload 6, 2) := by decide +kernel
theorem dX5_openAt_41 : decode cX5_openAt 41 = .ok (.ishr, 1) := by decide +kernel
theorem dX5_openAt_42 : decode cX5_openAt 42 = .ok (.iconst 1, 1) := by decide +kernel
theorem dX5_openAt_43 : decode cX5_openAt 43 = .ok (.iand, 1) := by decide +kernel
theorem dX5_openAt_44 : decode cX5_openAt 44 = .ok (.iconst 1, 1) := by decide +kernel
theorem dX5_openAt_45 : decode cX5_openAt 45 = .ok (.if_icmp .ne 7, 3) := by decide +kernel
theorem dX5_openAt_48 : decode cX5_openAt 48 = .ok (.iconst 1, 1) := by decide +kernel
theorem dX5_openAt_49 : decode cX5_openAt 49 = .ok (.goto 4, 3) := by decide +kernel
theorem dX5_openAt_52 : decode cX5_openAt 52 = .ok (.iconst 0, 1) := by decide +kernel
theorem dX5_openAt_53 : decode cX5_openAt 53 = .ok (.istore 7, 2) := by decide +kernel
theorem dX5_openAt_55 : decode cX5_openAt 55 = .ok (.iload 7, 2) := by decide +kernel
theorem dX5_openAt_57 : decode cX5_openAt 57 = .ok (.ifCond .eq 34, 3) := by decide +kernel
theorem dX5_openAt_60 : decode cX5_openAt 60 = .ok (.aload_n 1, 1) := by decide +kernel
theorem dX5_openAt_61 : decode cX5_openAt 61 = .ok (.getfield 68, 3) := by decide +kernel
theorem dX5_openAt_64 : decode cX5_openAt 64 = .ok (.iload 5, 2) := by decide +kernel
theorem dX5_openAt_66 : decode cX5_openAt 66 = .ok (.invokevirtual 138, 3) := by decide +kernel
theorem dX5_openAt_69 : decode cX5_openAt 69 = .ok (.ifCond .ne 22, 3) := by decide +kernel
theorem dX5_openAt_72 : decode cX5_openAt 72 = .ok (.aload_n 3, 1) := by decide +kernel
theorem dX5_openAt_73 : decode cX5_openAt 73 = .ok (.iload 5, 2) := by decide +kernel
theorem dX5_openAt_75 : decode cX5_openAt 75 = .ok (.iload_n 2, 1) := by decide +kernel
theorem dX5_openAt_76 : decode cX5_openAt 76 = .ok (.invokevirtual 142, 3) := by decide +kernel
theorem dX5_openAt_79 : decode cX5_openAt 79 = .ok (.ifCond .ne 12, 3) := by decide +kernel
theorem dX5_openAt_82 : decode cX5_openAt 82 = .ok (.iload 4, 2) := by decide +kernel
theorem dX5_openAt_84 : decode cX5_openAt 84 = .ok (.iconst 1, 1) := by decide +kernel
theorem dX5_openAt_85 : decode cX5_openAt 85 = .ok (.iload 5, 2) := by decide +kernel
theorem dX5_openAt_87 : decode cX5_openAt 87 = .ok (.ishl, 1) := by decide +kernel
theorem dX5_openAt_88 : decode cX5_openAt 88 = .ok (.ior, 1) := by decide +kernel
theorem dX5_openAt_89 : decode cX5_openAt 89 = .ok (.istore 4, 2) := by decide +kernel
theorem dX5_openAt_91 : decode cX5_openAt 91 = .ok (.iinc 5 1, 3) := by decide +kernel
theorem dX5_openAt_94 : decode cX5_openAt 94 = .ok (.goto (-83), 3) := by decide +kernel
theorem dX5_openAt_97 : decode cX5_openAt 97 = .ok (.iload 4, 2) := by decide +kernel
theorem dX5_openAt_99 : decode cX5_openAt 99 = .ok (.ireturn, 1) := by decide +kernel
set_option maxRecDepth 100000 in
theorem f_X5_openAt_L11_ok {E : EnvT} {C : Cx} {Mi M : Mem} {x0 : Int} (h0 : x0 ≠ 0) (hC : CxOK E C cX5_openAt 8 yX5_openAt.cls 2 0 0) {r0 : Int} (hq : RQ E C 0 0 Mi (some .int) (some (0, r0)) M) {v1 x1 x2 : Int} {k : Int → Option (Int)} (hk : ∀ q16, Bk E C 8 Mi r0 97 [(4, 0, q16)] [] M 0 0 (k q16)) : ∀ (n : Nat) (p2 : Int) (p3 : Int), Bk E C 8 Mi r0 11 [(1, 28, x1), (2, 0, x2), (3, 27, v1), (4, 0, p2), (5, 0, p3)] [] M 0 0 (f_X5_openAt_L11 M v1 x1 x2 k n p2 p3) := by
  intro n
  induction n with
  | zero =>
    intro p2 p3
    exact r_none
  | succ n ih =>
    intro p2 p3
    rw [f_X5_openAt_L11]
    refine r_iload 11 hC 4 rfl dX5_openAt_11 ?_
    refine r_aload_n 13 hC 2 rfl (Or.inl (by decide)) rfl dX5_openAt_13 ?_
    refine r_get 14 hC fd_7_3 fl_X5_94 dX5_openAt_14 (fun v4 => ?_)
    refine r_icmp_ge 17 hC (tgt := 97) (by decide) dX5_openAt_17 ?_ ?_
    · exact r_sub [3] rfl (hk p2)
    · refine r_aload_n 20 hC 2 rfl (Or.inl (by decide)) rfl dX5_openAt_20 ?_
      refine r_get 21 hC fd_7_8 fl_X5_99 dX5_openAt_21 (fun v5 => ?_)
      refine r_iload 24 hC 4 rfl dX5_openAt_24 ?_
      refine r_aaloadI 26 hC dX5_openAt_26 (fun v6 => ?_)
      refine r_iconst 27 hC (r32c rfl) dX5_openAt_27 ?_
      refine r_iaload 28 hC dX5_openAt_28 (fun v7 => ?_)
      refine r_istore 29 hC (by decide) dX5_openAt_29 (r_eqls (ls' := [(6, 0, v7), (1, 28, x1), (2, 0, x2), (3, 27, v1), (4, 0, p2), (5, 0, p3)]) rfl ?_)
      refine r_iload 31 hC 0 rfl dX5_openAt_31 ?_
      refine r_iconst 33 hC (r32c rfl) dX5_openAt_33 ?_
      refine r_jn (P := fun j53 => ∀ (q8 : Int), Bk E C 8 Mi r0 53 [(1, 28, x1), (2, 0, x2), (3, 27, v1), (4, 0, p2), (5, 0, p3)] [(0, q8)] M 0 0 (j53 q8)) ?_ (fun j53 hj53 => ?_)
      · intro q8
        refine r_istore 53 hC (by decide) dX5_openAt_53 (r_eqls (ls' := [(7, 0, q8), (1, 28, x1), (2, 0, x2), (3, 27, v1), (4, 0, p2), (5, 0, p3)]) rfl ?_)
        refine r_iload 55 hC 0 rfl dX5_openAt_55 ?_
        refine r_jn (P := fun j91 => ∀ (q9 : Int), Bk E C 8 Mi r0 91 [(1, 28, x1), (2, 0, x2), (3, 27, v1), (4, 0, q9), (5, 0, p3)] [] M 0 0 (j91 q9)) ?_ (fun j91 hj91 => ?_)
        · intro q9
          refine r_iinc 91 hC 4 rfl (by decide) dX5_openAt_91 (r_eqls (ls' := [(5, 0, w32 (p3 + 1)), (1, 28, x1), (2, 0, x2), (3, 27, v1), (4, 0, q9)]) rfl ?_)
          refine r_goto 94 hC (tgt := 11) (by decide) dX5_openAt_94 ?_
          exact r_sub [1, 2, 3, 4, 0] rfl (ih q9 (w32 (p3 + 1)))
        refine r_if_eq 57 hC (tgt := 91) (by decide) dX5_openAt_57 ?_ ?_
        · exact r_sub [1, 2, 3, 4, 5] rfl (hj91 p2)
        · refine r_aload_n 60 hC 1 rfl (Or.inl (by decide)) rfl dX5_openAt_60 ?_
          refine r_get 61 hC fd_8_2 fl_X5_68 dX5_openAt_61 (fun v10 => ?_)
          refine r_iload 64 hC 5 rfl dX5_openAt_64 ?_
          refine r_nn (fun hn11 => ?_)
          refine r_callVP 66 hC [(0, p3)] [] rfl vl_X5_138 rfl hn11 (by decide) (Nat.le_of_ble_eq_true rfl) (by decide) (by decide) dX5_openAt_66 (t_X4_isClosed v10 p3 M hn11) (fun v12 => ?_)
          refine r_if_ne 69 hC (tgt := 91) (by decide) dX5_openAt_69 ?_ ?_
          · exact r_sub [1, 2, 3, 4, 5] rfl (hj91 p2)
          · refine r_aload_n 72 hC 3 rfl (Or.inl (by decide)) rfl dX5_openAt_72 ?_
            refine r_iload 73 hC 5 rfl dX5_openAt_73 ?_
            refine r_iload_n 75 hC 2 rfl rfl dX5_openAt_75 ?_
            refine r_nn (fun hn13 => ?_)
            refine r_callVP 76 hC [(0, p3), (0, x2)] [] rfl vl_X5_142 rfl hn13 (by decide) (Nat.le_of_ble_eq_true rfl) (by decide) (by decide) dX5_openAt_76 (t_X8_isShut v1 p3 x2 M hn13) (fun v14 => ?_)
            refine r_if_ne 79 hC (tgt := 91) (by decide) dX5_openAt_79 ?_ ?_
            · exact r_sub [1, 2, 3, 4, 5] rfl (hj91 p2)
            · refine r_iload 82 hC 4 rfl dX5_openAt_82 ?_
              refine r_iconst 84 hC (r32c rfl) dX5_openAt_84 ?_
              refine r_iload 85 hC 5 rfl dX5_openAt_85 ?_
              refine r_ishl 87 hC dX5_openAt_87 ?_
              refine r_ior 88 hC dX5_openAt_88 ?_
              refine r_istoreL 89 hC (by decide) dX5_openAt_89 (fun v15 => r_eqls (ls' := [(4, 0, v15), (7, 0, q8), (1, 28, x1), (2, 0, x2), (3, 27, v1), (5, 0, p3)]) rfl ?_)
              exact r_sub [2, 3, 4, 0, 5] rfl (hj91 v15)
      refine r_jn (P := fun j48 => Bk E C 8 Mi r0 48 [(1, 28, x1), (2, 0, x2), (3, 27, v1), (4, 0, p2), (5, 0, p3)] [] M 0 0 (j48)) ?_ (fun j48 hj48 => ?_)
      · refine r_iconst 48 hC (r32c rfl) dX5_openAt_48 ?_
        refine r_goto 49 hC (tgt := 53) (by decide) dX5_openAt_49 ?_
        exact hj53 1
      refine r_icmp_eq 34 hC (tgt := 48) (by decide) dX5_openAt_34 ?_ ?_
      · exact r_sub [1, 2, 3, 4, 5] rfl (hj48)
      · refine r_iload 37 hC 4 rfl dX5_openAt_37 ?_
        refine r_iload 39 hC 0 rfl dX5_openAt_39 ?_
        refine r_ishr 41 hC dX5_openAt_41 ?_
        refine r_iconst 42 hC (r32c rfl) dX5_openAt_42 ?_
        refine r_iand 43 hC dX5_openAt_43 ?_
        refine r_iconst 44 hC (r32c rfl) dX5_openAt_44 ?_
        refine r_icmp_ne 45 hC (tgt := 52) (by decide) dX5_openAt_45 ?_ ?_
        · refine r_iconst 52 hC (r32c rfl) dX5_openAt_52 ?_
          exact r_sub [1, 2, 3, 4, 5] rfl (hj53 0)
        · exact r_sub [1, 2, 3, 4, 5] rfl (hj48)
set_option maxRecDepth 100000 in
theorem t_X5_openAt (x0 x1 x2 : Int) (M : Mem) (h0 : x0 ≠ 0) : MtP yX5_openAt cX5_openAt 8 (some .int) 2 0 0 [(24, x0), (28, x1), (0, x2)] M 0 (f_X5_openAt x0 x1 x2 M) := by
  refine mk_P (by decide +kernel) (Nat.le_of_ble_eq_true rfl) (fun E C r0 hC hq hin => ?_)
  refine r_eqls (ls' := [(0, 24, x0), (1, 28, x1), (2, 0, x2)]) rfl ?_
  unfold f_X5_openAt
  refine r_aload_n 0 hC 1 rfl (Or.inl (by decide)) rfl dX5_openAt_0 ?_
  refine r_get 1 hC fd_8_0 fl_X5_62 dX5_openAt_1 (fun v1 => ?_)
  refine r_astore_n 4 hC rfl (Or.inl (by decide)) (by decide) dX5_openAt_4 (r_eqls (ls' := [(3, 27, v1), (0, 24, x0), (1, 28, x1), (2, 0, x2)]) rfl ?_)
  refine r_iconst 5 hC (r32c rfl) dX5_openAt_5 ?_
  refine r_istore 6 hC (by decide) dX5_openAt_6 (r_eqls (ls' := [(4, 0, 0), (3, 27, v1), (0, 24, x0), (1, 28, x1), (2, 0, x2)]) rfl ?_)
  refine r_iconst 8 hC (r32c rfl) dX5_openAt_8 ?_
  refine r_istore 9 hC (by decide) dX5_openAt_9 (r_eqls (ls' := [(5, 0, 0), (4, 0, 0), (3, 27, v1), (0, 24, x0), (1, 28, x1), (2, 0, x2)]) rfl ?_)
  refine r_sub [4, 5, 2, 1, 0] rfl (f_X5_openAt_L11_ok h0 hC hq (fun q17 => ?_) KF 0 0)
  · refine r_iload 97 hC 0 rfl dX5_openAt_97 ?_
    exact r_ireturnP 99 hC hq (by decide) (by decide) dX5_openAt_99

/-! WaterTurns$Sweep.count(LWaterTurns$Valley;III)V -/
theorem dX5_count_0 : decode cX5_count 0 = .ok (.aload_n 1, 1) := by decide +kernel
theorem dX5_count_1 : decode cX5_count 1 = .ok (.getfield 133, 3) := by decide +kernel
theorem dX5_count_4 : decode cX5_count 4 = .ok (.iload_n 2, 1) := by decide +kernel
theorem dX5_count_5 : decode cX5_count 5 = .ok (.aaload, 1) := by decide +kernel
theorem dX5_count_6 : decode cX5_count 6 = .ok (.iconst 0, 1) := by decide +kernel
theorem dX5_count_7 : decode cX5_count 7 = .ok (.iaload, 1) := by decide +kernel
theorem dX5_count_8 : decode cX5_count 8 = .ok (.istore 5, 2) := by decide +kernel
theorem dX5_count_10 : decode cX5_count 10 = .ok (.aload_n 0, 1) := by decide +kernel
theorem dX5_count_11 : decode cX5_count 11 = .ok (.getfield 35, 3) := by decide +kernel
theorem dX5_count_14 : decode cX5_count 14 = .ok (.iload_n 2, 1) := by decide +kernel
theorem dX5_count_15 : decode cX5_count 15 = .ok (.dup2, 1) := by decide +kernel
theorem dX5_count_16 : decode cX5_count 16 = .ok (.iaload, 1) := by decide +kernel
theorem dX5_count_17 : decode cX5_count 17 = .ok (.iload 4, 2) := by decide +kernel
theorem dX5_count_19 : decode cX5_count 19 = .ok (.iadd, 1) := by decide +kernel
theorem dX5_count_20 : decode cX5_count 20 = .ok (.iastore, 1) := by decide +kernel
theorem dX5_count_21 : decode cX5_count 21 = .ok (.aload_n 0, 1) := by decide +kernel
theorem dX5_count_22 : decode cX5_count 22 = .ok (.getfield 38, 3) := by decide +kernel
theorem dX5_count_25 : decode cX5_count 25 = .ok (.iload_n 2, 1) := by decide +kernel
theorem dX5_count_26 : decode cX5_count 26 = .ok (.dup2, 1) := by decide +kernel
theorem dX5_count_27 : decode cX5_count 27 = .ok (.iaload, 1) := by decide +kernel
theorem dX5_count_28 : decode cX5_count 28 = .ok (.iload_n 3, 1) := by decide +kernel
theorem dX5_count_29 : decode cX5_count 29 = .ok (.iload 5, 2) := by decide +kernel
theorem dX5_count_31 : decode cX5_count 31 = .ok (.ishr, 1) := by decide +kernel
theorem dX5_count_32 : decode cX5_count 32 = .ok (.iconst 1, 1) := by decide +kernel
theorem dX5_count_33 : decode cX5_count 33 = .ok (.iand, 1) := by decide +kernel
theorem dX5_count_34 : decode cX5_count 34 = .ok (.iconst 1, 1) := by decide +kernel
theorem dX5_count_35 : decode cX5_count 35 = .ok (.if_icmp .ne 8, 3) := by decide +kernel
theorem dX5_count_38 : decode cX5_count 38 = .ok (.iload 4, 2) := by decide +kernel
theorem dX5_count_40 : decode cX5_count 40 = .ok (.goto 4, 3) := by decide +kernel
theorem dX5_count_43 : decode cX5_count 43 = .ok (.iconst 0, 1) := by decide +kernel
theorem dX5_count_44 : decode cX5_count 44 = .ok (.iadd, 1) := by decide +kernel
theorem dX5_count_45 : decode cX5_count 45 = .ok (.iastore, 1) := by decide +kernel
theorem dX5_count_46 : decode cX5_count 46 = .ok (.iconst 0, 1) := by decide +kernel
theorem dX5_count_47 : decode cX5_count 47 = .ok (.istore 6, 2) := by decide +kernel
theorem dX5_count_49 : decode cX5_count 49 = .ok (.iload 6, 2) := by decide +kernel
theorem dX5_count_51 : decode cX5_count 51 = .ok (.bipush 10, 2) := by decide +kernel
theorem dX5_count_53 : decode cX5_count 53 = .ok (.if_icmp .ge 83, 3) := by decide +kernel
theorem dX5_count_56 : decode cX5_count 56 = .ok (.iload 5, 2) := by decide +kernel
theorem dX5_count_58 : decode cX5_count 58 = .ok (.iconst (-1), 1) := by decide +kernel
theorem dX5_count_59 : decode cX5_count 59 = .ok (.if_icmp .eq 77, 3) := by decide +kernel
theorem dX5_count_62 : decode cX5_count 62 = .ok (.aload_n 1, 1) := by decide +kernel
theorem dX5_count_63 : decode cX5_count 63 = .ok (.getfield 99, 3) := by decide +kernel
theorem dX5_count_66 : decode cX5_count 66 = .ok (.iload 5, 2) := by decide +kernel
theorem dX5_count_68 : decode cX5_count 68 = .ok (.aaload, 1) := by decide +kernel
theorem dX5_count_69 : decode cX5_count 69 = .ok (.iconst 0, 1) := by decide +kernel
theorem dX5_count_70 : decode cX5_count 70 = .ok (.iaload, 1) := by decide +kernel
theorem dX5_count_71 : decode cX5_count 71 = .ok (.istore 7, 2) := by decide +kernel
theorem dX5_count_73 : decode cX5_count 73 = .ok (.iload_n 3, 1) := by decide +kernel
theorem dX5_count_74 : decode cX5_count 74 = .ok (.iload 5, 2) := by decide +kernel
theorem dX5_count_76 : decode cX5_count 76 = .ok (.ishr, 1) := by decide +kernel
theorem dX5_count_77 : decode cX5_count 77 = .ok (.iconst 1, 1) := by decide +kernel
theorem dX5_count_78 : decode cX5_count 78 = .ok (.iand, 1) := by decide +kernel
theorem dX5_count_79 : decode cX5_count 79 = .ok (.iconst 1, 1) := by decide +kernel
theorem dX5_count_80 : decode cX5_count 80 = .ok (.if_icmp .ne 18, 3) := by decide +kernel
theorem dX5_count_83 : decode cX5_count 83 = .ok (.aload_n 0, 1) := by decide +kernel
theorem dX5_count_84 : decode cX5_count 84 = .ok (.getfield 28, 3) := by decide +kernel
theorem dX5_count_87 : decode cX5_count 87 = .ok (.iload 5, 2) := by decide +kernel
theorem dX5_count_89 : decode cX5_count 89 = .ok (.dup2, 1) := by decide +kernel
theorem dX5_count_90 : decode cX5_count 90 = .ok (.iaload, 1) := by decide +kernel
theorem dX5_count_91 : decode cX5_count 91 = .ok (.iload 4, 2) := by decide +kernel
theorem dX5_count_93 : decode cX5_count 93 = .ok (.iadd, 1) := by decide +kernel
theorem dX5_count_94 : decode cX5_count 94 = .ok (.iastore, 1) := by decide +kernel
theorem dX5_count_95 : decode cX5_count 95 = .ok (.goto 31, 3) := by decide +kernel
theorem dX5_count_98 : decode cX5_count 98 = .ok (.iload 7, 2) := by decide +kernel
theorem dX5_count_100 : decode cX5_count 100 = .ok (.iconst (-1), 1) := by decide +kernel
theorem dX5_count_101 : decode cX5_count 101 = .ok (.if_icmp .eq 13, 3) := by decide +kernel
theorem dX5_count_104 : decode cX5_count 104 = .ok (.iload_n 3, 1) := by decide +kernel
theorem dX5_count_105 : decode cX5_count 105 = .ok (.iload 7, 2) := by decide +kernel
theorem dX5_count_107 : decode cX5_count 107 = .ok (.ishr, 1) := by decide +kernel
theorem dX5_count_108 : decode cX5_count 108 = .ok (.iconst 1, 1) := by decide +kernel
theorem dX5_count_109 : decode cX5_count 109 = .ok (.iand, 1) := by decide +kernel
theorem dX5_count_110 : decode cX5_count 110 = .ok (.iconst 1, 1) := by decide +kernel
theorem dX5_count_111 : decode cX5_count 111 = .ok (.if_icmp .ne 15, 3) := by decide +kernel
theorem dX5_count_114 : decode cX5_count 114 = .ok (.aload_n 0, 1) := by decide +kernel
theorem dX5_count_115 : decode cX5_count 115 = .ok (.getfield 32, 3) := by decide +kernel
theorem dX5_count_118 : decode cX5_count 118 = .ok (.iload 5, 2) := by decide +kernel
theorem dX5_count_120 : decode cX5_count 120 = .ok (.dup2, 1) := by decide +kernel
theorem dX5_count_121 : decode cX5_count 121 = .ok (.iaload, 1) := by decide +kernel
theorem dX5_count_122 : decode cX5_count 122 = .ok (.iload 4, 2) := by decide +kernel
theorem dX5_count_124 : decode cX5_count 124 = .ok (.iadd, 1) := by decide +kernel
theorem dX5_count_125 : decode cX5_count 125 = .ok (.iastore, 1) := by decide +kernel
theorem dX5_count_126 : decode cX5_count 126 = .ok (.iload 7, 2) := by decide +kernel
theorem dX5_count_128 : decode cX5_count 128 = .ok (.istore 5, 2) := by decide +kernel
theorem dX5_count_130 : decode cX5_count 130 = .ok (.iinc 6 1, 3) := by decide +kernel
theorem dX5_count_133 : decode cX5_count 133 = .ok (.goto (-84), 3) := by decide +kernel
theorem dX5_count_136 : decode cX5_count 136 = .ok (.return_, 1) := by decide +kernel
set_option maxRecDepth 100000 in
theorem f_X5_count_L49_ok {E : EnvT} {C : Cx} {Mi : Mem} {x0 : Int} (h0 : x0 ≠ 0) (hC : CxOK E C cX5_count 8 yX5_count.cls 1 0 0) {M0 : Mem} (hq : RQ E C 0 0 Mi none none M0) {x1 x3 x4 : Int} {k : Mem → Option (Mem)} (hk : ∀ M24, Bk E C 8 Mi M0 136 [] [] M24 0 0 (k M24)) : ∀ (n : Nat) (p11 : Int) (p12 : Int) (M13 : Mem), Bk E C 8 Mi M0 49 [(0, 24, x0), (1, 27, x1), (3, 0, x3), (4, 0, x4), (5, 0, p11), (6, 0, p12)] [] M13 0 0 (f_X5_count_L49 x0 x1 x3 x4 k n p11 p12 M13) := by
  intro n
  induction n with
  | zero =>
    intro p11 p12 M13
    exact r_none
  | succ n ih =>
    intro p11 p12 M13
    rw [f_X5_count_L49]
    refine r_iload 49 hC 5 rfl dX5_count_49 ?_
    refine r_bipush 51 hC kb_10 dX5_count_51 ?_
    refine r_icmp_ge 53 hC (tgt := 136) (by decide) dX5_count_53 ?_ ?_
    · exact r_sub [] rfl (hk M13)
    · refine r_iload 56 hC 4 rfl dX5_count_56 ?_
      refine r_iconst 58 hC (r32c rfl) dX5_count_58 ?_
      refine r_icmp_eq 59 hC (tgt := 136) (by decide) dX5_count_59 ?_ ?_
      · exact r_sub [] rfl (hk M13)
      · refine r_aload_n 62 hC 1 rfl (Or.inl (by decide)) rfl dX5_count_62 ?_
        refine r_get 63 hC fd_7_8 fl_X5_99 dX5_count_63 (fun v14 => ?_)
        refine r_iload 66 hC 4 rfl dX5_count_66 ?_
        refine r_aaloadI 68 hC dX5_count_68 (fun v15 => ?_)
        refine r_iconst 69 hC (r32c rfl) dX5_count_69 ?_
        refine r_iaload 70 hC dX5_count_70 (fun v16 => ?_)
        refine r_istore 71 hC (by decide) dX5_count_71 (r_eqls (ls' := [(7, 0, v16), (0, 24, x0), (1, 27, x1), (3, 0, x3), (4, 0, x4), (5, 0, p11), (6, 0, p12)]) rfl ?_)
        refine r_iload_n 73 hC 3 rfl rfl dX5_count_73 ?_
        refine r_iload 74 hC 5 rfl dX5_count_74 ?_
        refine r_ishr 76 hC dX5_count_76 ?_
        refine r_iconst 77 hC (r32c rfl) dX5_count_77 ?_
        refine r_iand 78 hC dX5_count_78 ?_
        refine r_iconst 79 hC (r32c rfl) dX5_count_79 ?_
        refine r_jn (P := fun j126 => ∀ (M17 : Mem), Bk E C 8 Mi M0 126 [(0, 24, x0), (1, 27, x1), (3, 0, x3), (4, 0, x4), (6, 0, p12), (7, 0, v16)] [] M17 0 0 (j126 M17)) ?_ (fun j126 hj126 => ?_)
        · intro M17
          refine r_iload 126 hC 5 rfl dX5_count_126 ?_
          refine r_istore 128 hC (by decide) dX5_count_128 (r_eqls (ls' := [(5, 0, v16), (0, 24, x0), (1, 27, x1), (3, 0, x3), (4, 0, x4), (6, 0, p12), (7, 0, v16)]) rfl ?_)
          refine r_iinc 130 hC 5 rfl (by decide) dX5_count_130 (r_eqls (ls' := [(6, 0, w32 (p12 + 1)), (5, 0, v16), (0, 24, x0), (1, 27, x1), (3, 0, x3), (4, 0, x4), (7, 0, v16)]) rfl ?_)
          refine r_goto 133 hC (tgt := 49) (by decide) dX5_count_133 ?_
          exact r_sub [2, 3, 4, 5, 1, 0] rfl (ih v16 (w32 (p12 + 1)) M17)
        refine r_icmp_ne 80 hC (tgt := 98) (by decide) dX5_count_80 ?_ ?_
        · refine r_iload 98 hC 0 rfl dX5_count_98 ?_
          refine r_iconst 100 hC (r32c rfl) dX5_count_100 ?_
          refine r_jn (P := fun j114 => Bk E C 8 Mi M0 114 [(0, 24, x0), (1, 27, x1), (3, 0, x3), (4, 0, x4), (5, 0, p11), (6, 0, p12), (7, 0, v16)] [] M13 0 0 (j114)) ?_ (fun j114 hj114 => ?_)
          · refine r_aload_n 114 hC 0 rfl (Or.inl (by decide)) rfl dX5_count_114 ?_
            refine r_get 115 hC fd_4_5 fl_X5_32 dX5_count_115 (fun v18 => ?_)
            refine r_iload 118 hC 4 rfl dX5_count_118 ?_
            refine r_dup2 120 hC ⟨by decide, by decide⟩ dX5_count_120 ?_
            refine r_iaload 121 hC dX5_count_121 (fun v19 => ?_)
            refine r_iload 122 hC 3 rfl dX5_count_122 ?_
            refine r_iadd 124 hC dX5_count_124 ?_
            refine r_iastore 125 hC dX5_count_125 (fun M20 => ?_)
            exact r_sub [0, 1, 2, 3, 5, 6] rfl (hj126 M20)
          refine r_icmp_eq 101 hC (tgt := 114) (by decide) dX5_count_101 ?_ ?_
          · exact r_sub [1, 2, 3, 4, 5, 6, 0] rfl (hj114)
          · refine r_iload_n 104 hC 3 rfl rfl dX5_count_104 ?_
            refine r_iload 105 hC 0 rfl dX5_count_105 ?_
            refine r_ishr 107 hC dX5_count_107 ?_
            refine r_iconst 108 hC (r32c rfl) dX5_count_108 ?_
            refine r_iand 109 hC dX5_count_109 ?_
            refine r_iconst 110 hC (r32c rfl) dX5_count_110 ?_
            refine r_icmp_ne 111 hC (tgt := 126) (by decide) dX5_count_111 ?_ ?_
            · exact r_sub [1, 2, 3, 4, 6, 0] rfl (hj126 M13)
            · exact r_sub [1, 2, 3, 4, 5, 6, 0] rfl (hj114)
        · refine r_aload_n 83 hC 1 rfl (Or.inl (by decide)) rfl dX5_count_83 ?_
          refine r_get 84 hC fd_4_4 fl_X5_28 dX5_count_84 (fun v21 => ?_)
          refine r_iload 87 hC 5 rfl dX5_count_87 ?_
          refine r_dup2 89 hC ⟨by decide, by decide⟩ dX5_count_89 ?_
          refine r_iaload 90 hC dX5_count_90 (fun v22 => ?_)
          refine r_iload 91 hC 4 rfl dX5_count_91 ?_
          refine r_iadd 93 hC dX5_count_93 ?_
          refine r_iastore 94 hC dX5_count_94 (fun M23 => ?_)
          refine r_goto 95 hC (tgt := 126) (by decide) dX5_count_95 ?_
          exact r_sub [1, 2, 3, 4, 6, 0] rfl (hj126 M23)
set_option maxRecDepth 100000 in
theorem t_X5_count (x0 x1 x2 x3 x4 : Int) (M : Mem) (h0 : x0 ≠ 0) : MtV yX5_count cX5_count 8 none 1 0 0 [(24, x0), (27, x1), (0, x2), (0, x3), (0, x4)] M (f_X5_count x0 x1 x2 x3 x4 M) := by
  refine mk_V (by decide +kernel) (Nat.le_of_ble_eq_true rfl) (fun E C M0 hC hq hin => ?_)
  refine r_eqls (ls' := [(0, 24, x0), (1, 27, x1), (2, 0, x2), (3, 0, x3), (4, 0, x4)]) rfl ?_
  unfold f_X5_count
  refine r_aload_n 0 hC 1 rfl (Or.inl (by decide)) rfl dX5_count_0 ?_
  refine r_get 1 hC fd_7_9 fl_X5_133 dX5_count_1 (fun v1 => ?_)
  refine r_iload_n 4 hC 2 rfl rfl dX5_count_4 ?_
  refine r_aaloadI 5 hC dX5_count_5 (fun v2 => ?_)
  refine r_iconst 6 hC (r32c rfl) dX5_count_6 ?_
  refine r_iaload 7 hC dX5_count_7 (fun v3 => ?_)
  refine r_istore 8 hC (by decide) dX5_count_8 (r_eqls (ls' := [(5, 0, v3), (0, 24, x0), (1, 27, x1), (2, 0, x2), (3, 0, x3), (4, 0, x4)]) rfl ?_)
  refine r_aload_n 10 hC 1 rfl (Or.inl (by decide)) rfl dX5_count_10 ?_
  refine r_get 11 hC fd_4_6 fl_X5_35 dX5_count_11 (fun v4 => ?_)
  refine r_iload_n 14 hC 3 rfl rfl dX5_count_14 ?_
  refine r_dup2 15 hC ⟨by decide, by decide⟩ dX5_count_15 ?_
  refine r_iaload 16 hC dX5_count_16 (fun v5 => ?_)
  refine r_iload 17 hC 5 rfl dX5_count_17 ?_
  refine r_iadd 19 hC dX5_count_19 ?_
  refine r_iastore 20 hC dX5_count_20 (fun M6 => ?_)
  refine r_aload_n 21 hC 1 rfl (Or.inl (by decide)) rfl dX5_count_21 ?_
  refine r_get 22 hC fd_4_7 fl_X5_38 dX5_count_22 (fun v7 => ?_)
  refine r_iload_n 25 hC 3 rfl rfl dX5_count_25 ?_
  refine r_dup2 26 hC ⟨by decide, by decide⟩ dX5_count_26 ?_
  refine r_iaload 27 hC dX5_count_27 (fun v8 => ?_)
  refine r_iload_n 28 hC 4 rfl rfl dX5_count_28 ?_
  refine r_iload 29 hC 0 rfl dX5_count_29 ?_
  refine r_ishr 31 hC dX5_count_31 ?_
  refine r_iconst 32 hC (r32c rfl) dX5_count_32 ?_
  refine r_iand 33 hC dX5_count_33 ?_
  refine r_iconst 34 hC (r32c rfl) dX5_count_34 ?_
  refine r_jn (P := fun j44 => ∀ (q9 : Int), Bk E C 8 M M0 44 [(0, 24, x0), (1, 27, x1), (3, 0, x3), (4, 0, x4), (5, 0, v3)] [(0, q9), (0, v8), (0, x2), (10, v7)] M6 0 0 (j44 q9)) ?_ (fun j44 hj44 => ?_)
  · intro q9
    refine r_iadd 44 hC dX5_count_44 ?_
    refine r_iastore 45 hC dX5_count_45 (fun M10 => ?_)
    refine r_iconst 46 hC (r32c rfl) dX5_count_46 ?_
    refine r_istore 47 hC (by decide) dX5_count_47 (r_eqls (ls' := [(6, 0, 0), (0, 24, x0), (1, 27, x1), (3, 0, x3), (4, 0, x4), (5, 0, v3)]) rfl ?_)
    refine r_sub [1, 2, 3, 4, 5, 0] rfl (f_X5_count_L49_ok h0 hC hq (fun M25 => ?_) KF v3 0 M10)
    · exact r_return 136 hC hq (by decide) (by decide) dX5_count_136
  refine r_icmp_ne 35 hC (tgt := 43) (by decide) dX5_count_35 ?_ ?_
  · refine r_iconst 43 hC (r32c rfl) dX5_count_43 ?_
    exact r_sub [1, 2, 4, 5, 0] rfl (hj44 0)
  · refine r_iload 38 hC 5 rfl dX5_count_38 ?_
    refine r_goto 40 hC (tgt := 44) (by decide) dX5_count_40 ?_
    exact r_sub [1, 2, 4, 5, 0] rfl (hj44 x4)
