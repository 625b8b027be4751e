/-! WaterTurns$Days.<init>()V -/
theorem dX0_init_0 : decode cX0_init 0 = .ok (.aload_n 0, 1) := by decide +kernel
theorem dX0_init_1 : decode cX0_init 1 = .ok (.invokespecial 3, 3) := by decide +kernel
theorem dX0_init_4 : decode cX0_init 4 = .ok (.aload_n 0, 1) := by decide +kernel
theorem dX0_init_5 : decode cX0_init 5 = .ok (.iconst 0, 1) := by decide +kernel
theorem dX0_init_6 : decode cX0_init 6 = .ok (.putfield 9, 3) := by decide +kernel
theorem dX0_init_9 : decode cX0_init 9 = .ok (.aload_n 0, 1) := by decide +kernel
theorem dX0_init_10 : decode cX0_init 10 = .ok (.iconst 0, 1) := by decide +kernel
theorem dX0_init_11 : decode cX0_init 11 = .ok (.putfield 15, 3) := by decide +kernel
theorem dX0_init_14 : decode cX0_init 14 = .ok (.aload_n 0, 1) := by decide +kernel
theorem dX0_init_15 : decode cX0_init 15 = .ok (.iconst 0, 1) := by decide +kernel
theorem dX0_init_16 : decode cX0_init 16 = .ok (.putfield 19, 3) := by decide +kernel
theorem dX0_init_19 : decode cX0_init 19 = .ok (.aload_n 0, 1) := by decide +kernel
theorem dX0_init_20 : decode cX0_init 20 = .ok (.bipush 60, 2) := by decide +kernel
theorem dX0_init_22 : decode cX0_init 22 = .ok (.newarray .int, 2) := by decide +kernel
theorem dX0_init_24 : decode cX0_init 24 = .ok (.putfield 22, 3) := by decide +kernel
theorem dX0_init_27 : decode cX0_init 27 = .ok (.aload_n 0, 1) := by decide +kernel
theorem dX0_init_28 : decode cX0_init 28 = .ok (.bipush 60, 2) := by decide +kernel
theorem dX0_init_30 : decode cX0_init 30 = .ok (.newarray .int, 2) := by decide +kernel
theorem dX0_init_32 : decode cX0_init 32 = .ok (.putfield 26, 3) := by decide +kernel
theorem dX0_init_35 : decode cX0_init 35 = .ok (.aload_n 0, 1) := by decide +kernel
theorem dX0_init_36 : decode cX0_init 36 = .ok (.bipush 60, 2) := by decide +kernel
theorem dX0_init_38 : decode cX0_init 38 = .ok (.newarray .int, 2) := by decide +kernel
theorem dX0_init_40 : decode cX0_init 40 = .ok (.putfield 29, 3) := by decide +kernel
theorem dX0_init_43 : decode cX0_init 43 = .ok (.aload_n 0, 1) := by decide +kernel
theorem dX0_init_44 : decode cX0_init 44 = .ok (.bipush 60, 2) := by decide +kernel
theorem dX0_init_46 : decode cX0_init 46 = .ok (.newarray .int, 2) := by decide +kernel
theorem dX0_init_48 : decode cX0_init 48 = .ok (.putfield 32, 3) := by decide +kernel
theorem dX0_init_51 : decode cX0_init 51 = .ok (.aload_n 0, 1) := by decide +kernel
theorem dX0_init_52 : decode cX0_init 52 = .ok (.bipush 60, 2) := by decide +kernel
theorem dX0_init_54 : decode cX0_init 54 = .ok (.newarray .int, 2) := by decide +kernel
theorem dX0_init_56 : decode cX0_init 56 = .ok (.putfield 35, 3) := by decide +kernel
theorem dX0_init_59 : decode cX0_init 59 = .ok (.aload_n 0, 1) := by decide +kernel
theorem dX0_init_60 : decode cX0_init 60 = .ok (.bipush 60, 2) := by decide +kernel
theorem dX0_init_62 : decode cX0_init 62 = .ok (.newarray .int, 2) := by decide +kernel
theorem dX0_init_64 : decode cX0_init 64 = .ok (.putfield 38, 3) := by decide +kernel
theorem dX0_init_67 : decode cX0_init 67 = .ok (.aload_n 0, 1) := by decide +kernel
theorem dX0_init_68 : decode cX0_init 68 = .ok (.bipush 60, 2) := by decide +kernel
theorem dX0_init_70 : decode cX0_init 70 = .ok (.newarray .int, 2) := by decide +kernel
theorem dX0_init_72 : decode cX0_init 72 = .ok (.putfield 41, 3) := by decide +kernel
theorem dX0_init_75 : decode cX0_init 75 = .ok (.return_, 1) := by decide +kernel
set_option maxRecDepth 100000 in
theorem t_X0_init (x0 : Int) (M : Mem) (h0 : x0 ≠ 0) : MtV yX0_init cX0_init 1 none 1 7 420 [(20, x0)] M (f_X0_init x0 M) := by
  refine mk_V (by decide +kernel) (Nat.le_of_ble_eq_true rfl) (fun E C M0 hC hq hin => ?_)
  refine r_eqls (ls' := [(0, 20, x0)]) rfl ?_
  unfold f_X0_init
  refine r_aload_n 0 hC 0 rfl (Or.inl (by decide)) rfl dX0_init_0 ?_
  refine r_objinit 1 hC ob_X0_3 obj_i obj_c (by decide) h0 (by decide) (Nat.le_of_ble_eq_true rfl) dX0_init_1 ?_
  refine r_aload_n 4 hC 0 rfl (Or.inl (by decide)) rfl dX0_init_4 ?_
  refine r_iconst 5 hC (r32c rfl) dX0_init_5 ?_
  refine r_putz 6 hC fd_0_0 fl_X0_9 dX0_init_6 (fun M1 => ?_)
  refine r_aload_n 9 hC 0 rfl (Or.inl (by decide)) rfl dX0_init_9 ?_
  refine r_iconst 10 hC (r32c rfl) dX0_init_10 ?_
  refine r_put 11 hC fd_0_1 fl_X0_15 dX0_init_11 (fun M2 => ?_)
  refine r_aload_n 14 hC 0 rfl (Or.inl (by decide)) rfl dX0_init_14 ?_
  refine r_iconst 15 hC (r32c rfl) dX0_init_15 ?_
  refine r_put 16 hC fd_0_2 fl_X0_19 dX0_init_16 (fun M3 => ?_)
  refine r_aload_n 19 hC 0 rfl (Or.inl (by decide)) rfl dX0_init_19 ?_
  refine r_bipush 20 hC kb_60 dX0_init_20 ?_
  refine r_newa 22 hC (N := 60) rfl (by decide) (by decide) (by decide) rfl (fun _ _ => Iff.rfl) nad_10 (fun _ => nao_10) (by decide) nac_10 (by decide) (by decide) dX0_init_22 (fun v4 M5 => ?_)
  refine r_putF 24 hC hin fd_0_3 fl_X0_22 dX0_init_24 (fun M6 => ?_)
  refine r_aload_n 27 hC 0 rfl (Or.inl (by decide)) rfl dX0_init_27 ?_
  refine r_bipush 28 hC kb_60 dX0_init_28 ?_
  refine r_newa 30 hC (N := 60) rfl (by decide) (by decide) (by decide) rfl (fun _ _ => Iff.rfl) nad_10 (fun _ => nao_10) (by decide) nac_10 (by decide) (by decide) dX0_init_30 (fun v7 M8 => ?_)
  refine r_putF 32 hC hin fd_0_4 fl_X0_26 dX0_init_32 (fun M9 => ?_)
  refine r_aload_n 35 hC 0 rfl (Or.inl (by decide)) rfl dX0_init_35 ?_
  refine r_bipush 36 hC kb_60 dX0_init_36 ?_
  refine r_newa 38 hC (N := 60) rfl (by decide) (by decide) (by decide) rfl (fun _ _ => Iff.rfl) nad_10 (fun _ => nao_10) (by decide) nac_10 (by decide) (by decide) dX0_init_38 (fun v10 M11 => ?_)
  refine r_putF 40 hC hin fd_0_5 fl_X0_29 dX0_init_40 (fun M12 => ?_)
  refine r_aload_n 43 hC 0 rfl (Or.inl (by decide)) rfl dX0_init_43 ?_
  refine r_bipush 44 hC kb_60 dX0_init_44 ?_
  refine r_newa 46 hC (N := 60) rfl (by decide) (by decide) (by decide) rfl (fun _ _ => Iff.rfl) nad_10 (fun _ => nao_10) (by decide) nac_10 (by decide) (by decide) dX0_init_46 (fun v13 M14 => ?_)
  refine r_putF 48 hC hin fd_0_6 fl_X0_32 dX0_init_48 (fun M15 => ?_)
  refine r_aload_n 51 hC 0 rfl (Or.inl (by decide)) rfl dX0_init_51 ?_
  refine r_bipush 52 hC kb_60 dX0_init_52 ?_
  refine r_newa 54 hC (N := 60) rfl (by decide) (by decide) (by decide) rfl (fun _ _ => Iff.rfl) nad_10 (fun _ => nao_10) (by decide) nac_10 (by decide) (by decide) dX0_init_54 (fun v16 M17 => ?_)
  refine r_putF 56 hC hin fd_0_7 fl_X0_35 dX0_init_56 (fun M18 => ?_)
  refine r_aload_n 59 hC 0 rfl (Or.inl (by decide)) rfl dX0_init_59 ?_
  refine r_bipush 60 hC kb_60 dX0_init_60 ?_
  refine r_newa 62 hC (N := 60) rfl (by decide) (by decide) (by decide) rfl (fun _ _ => Iff.rfl) nad_10 (fun _ => nao_10) (by decide) nac_10 (by decide) (by decide) dX0_init_62 (fun v19 M20 => ?_)
  refine r_putF 64 hC hin fd_0_8 fl_X0_38 dX0_init_64 (fun M21 => ?_)
  refine r_aload_n 67 hC 0 rfl (Or.inl (by decide)) rfl dX0_init_67 ?_
  refine r_bipush 68 hC kb_60 dX0_init_68 ?_
  refine r_newa 70 hC (N := 60) rfl (by decide) (by decide) (by decide) rfl (fun _ _ => Iff.rfl) nad_10 (fun _ => nao_10) (by decide) nac_10 (by decide) (by decide) dX0_init_70 (fun v22 M23 => ?_)
  refine r_putF 72 hC hin fd_0_9 fl_X0_41 dX0_init_72 (fun M24 => ?_)
  exact r_return 75 hC hq (by decide) (by decide) dX0_init_75

/-! WaterTurns$Days.clear()V -/
theorem dX0_clear_0 : decode cX0_clear 0 = .ok (.aload_n 0, 1) := by decide +kernel
theorem dX0_clear_1 : decode cX0_clear 1 = .ok (.iconst 0, 1) := by decide +kernel
theorem dX0_clear_2 : decode cX0_clear 2 = .ok (.putfield 9, 3) := by decide +kernel
theorem dX0_clear_5 : decode cX0_clear 5 = .ok (.aload_n 0, 1) := by decide +kernel
theorem dX0_clear_6 : decode cX0_clear 6 = .ok (.iconst 0, 1) := by decide +kernel
theorem dX0_clear_7 : decode cX0_clear 7 = .ok (.putfield 15, 3) := by decide +kernel
theorem dX0_clear_10 : decode cX0_clear 10 = .ok (.aload_n 0, 1) := by decide +kernel
theorem dX0_clear_11 : decode cX0_clear 11 = .ok (.iconst 0, 1) := by decide +kernel
theorem dX0_clear_12 : decode cX0_clear 12 = .ok (.putfield 19, 3) := by decide +kernel
theorem dX0_clear_15 : decode cX0_clear 15 = .ok (.return_, 1) := by decide +kernel
set_option maxRecDepth 100000 in
theorem t_X0_clear (x0 : Int) (M : Mem) (h0 : x0 ≠ 0) : MtV yX0_clear cX0_clear 1 none 1 0 0 [(20, x0)] M (f_X0_clear x0 M) := by
  refine mk_V (by decide +kernel) (Nat.le_of_ble_eq_true rfl) (fun E C M0 hC hq hin => ?_)
  refine r_eqls (ls' := [(0, 20, x0)]) rfl ?_
  unfold f_X0_clear
  refine r_aload_n 0 hC 0 rfl (Or.inl (by decide)) rfl dX0_clear_0 ?_
  refine r_iconst 1 hC (r32c rfl) dX0_clear_1 ?_
  refine r_putz 2 hC fd_0_0 fl_X0_9 dX0_clear_2 (fun M1 => ?_)
  refine r_aload_n 5 hC 0 rfl (Or.inl (by decide)) rfl dX0_clear_5 ?_
  refine r_iconst 6 hC (r32c rfl) dX0_clear_6 ?_
  refine r_put 7 hC fd_0_1 fl_X0_15 dX0_clear_7 (fun M2 => ?_)
  refine r_aload_n 10 hC 0 rfl (Or.inl (by decide)) rfl dX0_clear_10 ?_
  refine r_iconst 11 hC (r32c rfl) dX0_clear_11 ?_
  refine r_put 12 hC fd_0_2 fl_X0_19 dX0_clear_12 (fun M3 => ?_)
  exact r_return 15 hC hq (by decide) (by decide) dX0_clear_15

/-! WaterTurns$Days.take(LWaterTurns$Days;)V -/
theorem dX0_take_0 : decode cX0_take 0 = .ok (.aload_n 0, 1) := by decide +kernel
theorem dX0_take_1 : decode cX0_take 1 = .ok (.aload_n 1, 1) := by decide +kernel
theorem dX0_take_2 : decode cX0_take 2 = .ok (.getfield 9, 3) := by decide +kernel
theorem dX0_take_5 : decode cX0_take 5 = .ok (.putfield 9, 3) := by decide +kernel
theorem dX0_take_8 : decode cX0_take 8 = .ok (.aload_n 0, 1) := by decide +kernel
theorem dX0_take_9 : decode cX0_take 9 = .ok (.aload_n 1, 1) := by decide +kernel
theorem dX0_take_10 : decode cX0_take 10 = .ok (.getfield 15, 3) := by decide +kernel
theorem dX0_take_13 : decode cX0_take 13 = .ok (.putfield 15, 3) := by decide +kernel
theorem dX0_take_16 : decode cX0_take 16 = .ok (.aload_n 0, 1) := by decide +kernel
theorem dX0_take_17 : decode cX0_take 17 = .ok (.aload_n 1, 1) := by decide +kernel
theorem dX0_take_18 : decode cX0_take 18 = .ok (.getfield 19, 3) := by decide +kernel
theorem dX0_take_21 : decode cX0_take 21 = .ok (.putfield 19, 3) := by decide +kernel
theorem dX0_take_24 : decode cX0_take 24 = .ok (.aload_n 1, 1) := by decide +kernel
theorem dX0_take_25 : decode cX0_take 25 = .ok (.getfield 22, 3) := by decide +kernel
theorem dX0_take_28 : decode cX0_take 28 = .ok (.iconst 0, 1) := by decide +kernel
theorem dX0_take_29 : decode cX0_take 29 = .ok (.aload_n 0, 1) := by decide +kernel
theorem dX0_take_30 : decode cX0_take 30 = .ok (.getfield 22, 3) := by decide +kernel
theorem dX0_take_33 : decode cX0_take 33 = .ok (.iconst 0, 1) := by decide +kernel
theorem dX0_take_34 : decode cX0_take 34 = .ok (.bipush 60, 2) := by decide +kernel
theorem dX0_take_36 : decode cX0_take 36 = .ok (.invokestatic 44, 3) := by decide +kernel
theorem dX0_take_39 : decode cX0_take 39 = .ok (.aload_n 1, 1) := by decide +kernel
theorem dX0_take_40 : decode cX0_take 40 = .ok (.getfield 26, 3) := by decide +kernel
theorem dX0_take_43 : decode cX0_take 43 = .ok (.iconst 0, 1) := by decide +kernel
theorem dX0_take_44 : decode cX0_take 44 = .ok (.aload_n 0, 1) := by decide +kernel
theorem dX0_take_45 : decode cX0_take 45 = .ok (.getfield 26, 3) := by decide +kernel
theorem dX0_take_48 : decode cX0_take 48 = .ok (.iconst 0, 1) := by decide +kernel
theorem dX0_take_49 : decode cX0_take 49 = .ok (.bipush 60, 2) := by decide +kernel
theorem dX0_take_51 : decode cX0_take 51 = .ok (.invokestatic 44, 3) := by decide +kernel
theorem dX0_take_54 : decode cX0_take 54 = .ok (.aload_n 1, 1) := by decide +kernel
theorem dX0_take_55 : decode cX0_take 55 = .ok (.getfield 29, 3) := by decide +kernel
theorem dX0_take_58 : decode cX0_take 58 = .ok (.iconst 0, 1) := by decide +kernel
theorem dX0_take_59 : decode cX0_take 59 = .ok (.aload_n 0, 1) := by decide +kernel
theorem dX0_take_60 : decode cX0_take 60 = .ok (.getfield 29, 3) := by decide +kernel
theorem dX0_take_63 : decode cX0_take 63 = .ok (.iconst 0, 1) := by decide +kernel
theorem dX0_take_64 : decode cX0_take 64 = .ok (.bipush 60, 2) := by decide +kernel
theorem dX0_take_66 : decode cX0_take 66 = .ok (.invokestatic 44, 3) := by decide +kernel
theorem dX0_take_69 : decode cX0_take 69 = .ok (.aload_n 1, 1) := by decide +kernel
theorem dX0_take_70 : decode cX0_take 70 = .ok (.getfield 32, 3) := by decide +kernel
theorem dX0_take_73 : decode cX0_take 73 = .ok (.iconst 0, 1) := by decide +kernel
theorem dX0_take_74 : decode cX0_take 74 = .ok (.aload_n 0, 1) := by decide +kernel
theorem dX0_take_75 : decode cX0_take 75 = .ok (.getfield 32, 3) := by decide +kernel
theorem dX0_take_78 : decode cX0_take 78 = .ok (.iconst 0, 1) := by decide +kernel
theorem dX0_take_79 : decode cX0_take 79 = .ok (.bipush 60, 2) := by decide +kernel
theorem dX0_take_81 : decode cX0_take 81 = .ok (.invokestatic 44, 3) := by decide +kernel
theorem dX0_take_84 : decode cX0_take 84 = .ok (.aload_n 1, 1) := by decide +kernel
theorem dX0_take_85 : decode cX0_take 85 = .ok (.getfield 35, 3) := by decide +kernel
theorem dX0_take_88 : decode cX0_take 88 = .ok (.iconst 0, 1) := by decide +kernel
theorem dX0_take_89 : decode cX0_take 89 = .ok (.aload_n 0, 1) := by decide +kernel
theorem dX0_take_90 : decode cX0_take 90 = .ok (.getfield 35, 3) := by decide +kernel
theorem dX0_take_93 : decode cX0_take 93 = .ok (.iconst 0, 1) := by decide +kernel
theorem dX0_take_94 : decode cX0_take 94 = .ok (.bipush 60, 2) := by decide +kernel
theorem dX0_take_96 : decode cX0_take 96 = .ok (.invokestatic 44, 3) := by decide +kernel
theorem dX0_take_99 : decode cX0_take 99 = .ok (.aload_n 1, 1) := by decide +kernel
theorem dX0_take_100 : decode cX0_take 100 = .ok (.getfield 38, 3) := by decide +kernel
theorem dX0_take_103 : decode cX0_take 103 = .ok (.iconst 0, 1) := by decide +kernel
theorem dX0_take_104 : decode cX0_take 104 = .ok (.aload_n 0, 1) := by decide +kernel
theorem dX0_take_105 : decode cX0_take 105 = .ok (.getfield 38, 3) := by decide +kernel
theorem dX0_take_108 : decode cX0_take 108 = .ok (.iconst 0, 1) := by decide +kernel
theorem dX0_take_109 : decode cX0_take 109 = .ok (.bipush 60, 2) := by decide +kernel
theorem dX0_take_111 : decode cX0_take 111 = .ok (.invokestatic 44, 3) := by decide +kernel
theorem dX0_take_114 : decode cX0_take 114 = .ok (.aload_n 1, 1) := by decide +kernel
theorem dX0_take_115 : decode cX0_take 115 = .ok (.getfield 41, 3) := by decide +kernel
theorem dX0_take_118 : decode cX0_take 118 = .ok (.iconst 0, 1) := by decide +kernel
theorem dX0_take_119 : decode cX0_take 119 = .ok (.aload_n 0, 1) := by decide +kernel
theorem dX0_take_120 : decode cX0_take 120 = .ok (.getfield 41, 3) := by decide +kernel
theorem dX0_take_123 : decode cX0_take 123 = .ok (.iconst 0, 1) := by decide +kernel
theorem dX0_take_124 : decode cX0_take 124 = .ok (.bipush 60, 2) := by decide +kernel
theorem dX0_take_126 : decode cX0_take 126 = .ok (.invokestatic 44, 3) := by decide +kernel
theorem dX0_take_129 : decode cX0_take 129 = .ok (.return_, 1) := by decide +kernel
set_option maxRecDepth 100000 in
theorem t_X0_take (x0 x1 : Int) (M : Mem) (h0 : x0 ≠ 0) : MtV yX0_take cX0_take 2 none 1 0 0 [(20, x0), (20, x1)] M (f_X0_take x0 x1 M) := by
  refine mk_V (by decide +kernel) (Nat.le_of_ble_eq_true rfl) (fun E C M0 hC hq hin => ?_)
  refine r_eqls (ls' := [(0, 20, x0), (1, 20, x1)]) rfl ?_
  unfold f_X0_take
  refine r_aload_n 0 hC 0 rfl (Or.inl (by decide)) rfl dX0_take_0 ?_
  refine r_aload_n 1 hC 1 rfl (Or.inl (by decide)) rfl dX0_take_1 ?_
  refine r_getz 2 hC fd_0_0 fl_X0_9 dX0_take_2 (fun v1 => ?_)
  refine r_putz 5 hC fd_0_0 fl_X0_9 dX0_take_5 (fun M2 => ?_)
  refine r_aload_n 8 hC 0 rfl (Or.inl (by decide)) rfl dX0_take_8 ?_
  refine r_aload_n 9 hC 1 rfl (Or.inl (by decide)) rfl dX0_take_9 ?_
  refine r_get 10 hC fd_0_1 fl_X0_15 dX0_take_10 (fun v3 => ?_)
  refine r_put 13 hC fd_0_1 fl_X0_15 dX0_take_13 (fun M4 => ?_)
  refine r_aload_n 16 hC 0 rfl (Or.inl (by decide)) rfl dX0_take_16 ?_
  refine r_aload_n 17 hC 1 rfl (Or.inl (by decide)) rfl dX0_take_17 ?_
  refine r_get 18 hC fd_0_2 fl_X0_19 dX0_take_18 (fun v5 => ?_)
  refine r_put 21 hC fd_0_2 fl_X0_19 dX0_take_21 (fun M6 => ?_)
  refine r_aload_n 24 hC 1 rfl (Or.inl (by decide)) rfl dX0_take_24 ?_
  refine r_get 25 hC fd_0_3 fl_X0_22 dX0_take_25 (fun v7 => ?_)
  refine r_iconst 28 hC (r32c rfl) dX0_take_28 ?_
  refine r_aload_n 29 hC 0 rfl (Or.inl (by decide)) rfl dX0_take_29 ?_
  refine r_get 30 hC fd_0_3 fl_X0_22 dX0_take_30 (fun v8 => ?_)
  refine r_iconst 33 hC (r32c rfl) dX0_take_33 ?_
  refine r_bipush 34 hC kb_60 dX0_take_34 ?_
  refine r_copy 36 hC (by decide) ac_X0_44 cp_n cp_s cp_i (by decide) (Nat.le_of_ble_eq_true rfl) dX0_take_36 (fun M9 => ?_)
  refine r_aload_n 39 hC 1 rfl (Or.inl (by decide)) rfl dX0_take_39 ?_
  refine r_get 40 hC fd_0_4 fl_X0_26 dX0_take_40 (fun v10 => ?_)
  refine r_iconst 43 hC (r32c rfl) dX0_take_43 ?_
  refine r_aload_n 44 hC 0 rfl (Or.inl (by decide)) rfl dX0_take_44 ?_
  refine r_get 45 hC fd_0_4 fl_X0_26 dX0_take_45 (fun v11 => ?_)
  refine r_iconst 48 hC (r32c rfl) dX0_take_48 ?_
  refine r_bipush 49 hC kb_60 dX0_take_49 ?_
  refine r_copy 51 hC (by decide) ac_X0_44 cp_n cp_s cp_i (by decide) (Nat.le_of_ble_eq_true rfl) dX0_take_51 (fun M12 => ?_)
  refine r_aload_n 54 hC 1 rfl (Or.inl (by decide)) rfl dX0_take_54 ?_
  refine r_get 55 hC fd_0_5 fl_X0_29 dX0_take_55 (fun v13 => ?_)
  refine r_iconst 58 hC (r32c rfl) dX0_take_58 ?_
  refine r_aload_n 59 hC 0 rfl (Or.inl (by decide)) rfl dX0_take_59 ?_
  refine r_get 60 hC fd_0_5 fl_X0_29 dX0_take_60 (fun v14 => ?_)
  refine r_iconst 63 hC (r32c rfl) dX0_take_63 ?_
  refine r_bipush 64 hC kb_60 dX0_take_64 ?_
  refine r_copy 66 hC (by decide) ac_X0_44 cp_n cp_s cp_i (by decide) (Nat.le_of_ble_eq_true rfl) dX0_take_66 (fun M15 => ?_)
  refine r_aload_n 69 hC 1 rfl (Or.inl (by decide)) rfl dX0_take_69 ?_
  refine r_get 70 hC fd_0_6 fl_X0_32 dX0_take_70 (fun v16 => ?_)
  refine r_iconst 73 hC (r32c rfl) dX0_take_73 ?_
  refine r_aload_n 74 hC 0 rfl (Or.inl (by decide)) rfl dX0_take_74 ?_
  refine r_get 75 hC fd_0_6 fl_X0_32 dX0_take_75 (fun v17 => ?_)
  refine r_iconst 78 hC (r32c rfl) dX0_take_78 ?_
  refine r_bipush 79 hC kb_60 dX0_take_79 ?_
  refine r_copy 81 hC (by decide) ac_X0_44 cp_n cp_s cp_i (by decide) (Nat.le_of_ble_eq_true rfl) dX0_take_81 (fun M18 => ?_)
  refine r_aload_n 84 hC 1 rfl (Or.inl (by decide)) rfl dX0_take_84 ?_
  refine r_get 85 hC fd_0_7 fl_X0_35 dX0_take_85 (fun v19 => ?_)
  refine r_iconst 88 hC (r32c rfl) dX0_take_88 ?_
  refine r_aload_n 89 hC 0 rfl (Or.inl (by decide)) rfl dX0_take_89 ?_
  refine r_get 90 hC fd_0_7 fl_X0_35 dX0_take_90 (fun v20 => ?_)
  refine r_iconst 93 hC (r32c rfl) dX0_take_93 ?_
  refine r_bipush 94 hC kb_60 dX0_take_94 ?_
  refine r_copy 96 hC (by decide) ac_X0_44 cp_n cp_s cp_i (by decide) (Nat.le_of_ble_eq_true rfl) dX0_take_96 (fun M21 => ?_)
  refine r_aload_n 99 hC 1 rfl (Or.inl (by decide)) rfl dX0_take_99 ?_
  refine r_get 100 hC fd_0_8 fl_X0_38 dX0_take_100 (fun v22 => ?_)
  refine r_iconst 103 hC (r32c rfl) dX0_take_103 ?_
  refine r_aload_n 104 hC 0 rfl (Or.inl (by decide)) rfl dX0_take_104 ?_
  refine r_get 105 hC fd_0_8 fl_X0_38 dX0_take_105 (fun v23 => ?_)
  refine r_iconst 108 hC (r32c rfl) dX0_take_108 ?_
  refine r_bipush 109 hC kb_60 dX0_take_109 ?_
  refine r_copy 111 hC (by decide) ac_X0_44 cp_n cp_s cp_i (by decide) (Nat.le_of_ble_eq_true rfl) dX0_take_111 (fun M24 => ?_)
  refine r_aload_n 114 hC 1 rfl (Or.inl (by decide)) rfl dX0_take_114 ?_
  refine r_get 115 hC fd_0_9 fl_X0_41 dX0_take_115 (fun v25 => ?_)
  refine r_iconst 118 hC (r32c rfl) dX0_take_118 ?_
  refine r_aload_n 119 hC 0 rfl (Or.inl (by decide)) rfl dX0_take_119 ?_
  refine r_get 120 hC fd_0_9 fl_X0_41 dX0_take_120 (fun v26 => ?_)
  refine r_iconst 123 hC (r32c rfl) dX0_take_123 ?_
  refine r_bipush 124 hC kb_60 dX0_take_124 ?_
  refine r_copy 126 hC (by decide) ac_X0_44 cp_n cp_s cp_i (by decide) (Nat.le_of_ble_eq_true rfl) dX0_take_126 (fun M27 => ?_)
  exact r_return 129 hC hq (by decide) (by decide) dX0_take_129

/-! java/lang/Math.min(II)I -/
theorem dJ9_min_7cf53_0 : decode cJ9_min_7cf53 0 = .ok (.iload_n 0, 1) := by decide +kernel
theorem dJ9_min_7cf53_1 : decode cJ9_min_7cf53 1 = .ok (.iload_n 1, 1) := by decide +kernel
theorem dJ9_min_7cf53_2 : decode cJ9_min_7cf53 2 = .ok (.if_icmp .gt 7, 3) := by decide +kernel
theorem dJ9_min_7cf53_5 : decode cJ9_min_7cf53 5 = .ok (.iload_n 0, 1) := by decide +kernel
theorem dJ9_min_7cf53_6 : decode cJ9_min_7cf53 6 = .ok (.goto 4, 3) := by decide +kernel
theorem dJ9_min_7cf53_9 : decode cJ9_min_7cf53 9 = .ok (.iload_n 1, 1) := by decide +kernel
theorem dJ9_min_7cf53_10 : decode cJ9_min_7cf53 10 = .ok (.ireturn, 1) := by decide +kernel
set_option maxRecDepth 100000 in
theorem t_J9_min_7cf53 (x0 x1 : Int) (M : Mem) : MtP yJ9_min_7cf53 cJ9_min_7cf53 2 (some .int) 1 0 0 [(0, x0), (0, x1)] M 0 (f_J9_min_7cf53 x0 x1 M) := by
  refine mk_P (by decide +kernel) (Nat.le_of_ble_eq_true rfl) (fun E C r0 hC hq hin => ?_)
  refine r_eqls (ls' := [(0, 0, x0), (1, 0, x1)]) rfl ?_
  unfold f_J9_min_7cf53
  refine r_iload_n 0 hC 0 rfl rfl dJ9_min_7cf53_0 ?_
  refine r_iload_n 1 hC 1 rfl rfl dJ9_min_7cf53_1 ?_
  refine r_jn (P := fun j10 => ∀ (q1 : Int), Bk E C 2 M r0 10 [] [(0, q1)] M 0 0 (j10 q1)) ?_ (fun j10 hj10 => ?_)
  · intro q1
    exact r_ireturnP 10 hC hq (by decide) (by decide) dJ9_min_7cf53_10
  refine r_icmp_gt 2 hC (tgt := 9) (by decide) dJ9_min_7cf53_2 ?_ ?_
  · refine r_iload_n 9 hC 1 rfl rfl dJ9_min_7cf53_9 ?_
    exact r_sub [] rfl (hj10 x1)
  · refine r_iload_n 5 hC 0 rfl rfl dJ9_min_7cf53_5 ?_
    refine r_goto 6 hC (tgt := 10) (by decide) dJ9_min_7cf53_6 ?_
    exact r_sub [] rfl (hj10 x0)

/-! WaterTurns$Days.addLine(I)I -/
theorem dX0_addLine_0 : decode cX0_addLine 0 = .ok (.aload_n 0, 1) := by decide +kernel
theorem dX0_addLine_1 : decode cX0_addLine 1 = .ok (.getfield 19, 3) := by decide +kernel
theorem dX0_addLine_4 : decode cX0_addLine 4 = .ok (.bipush 59, 2) := by decide +kernel
theorem dX0_addLine_6 : decode cX0_addLine 6 = .ok (.invokestatic 50, 3) := by decide +kernel
theorem dX0_addLine_9 : decode cX0_addLine 9 = .ok (.istore_n 2, 1) := by decide +kernel
theorem dX0_addLine_10 : decode cX0_addLine 10 = .ok (.aload_n 0, 1) := by decide +kernel
theorem dX0_addLine_11 : decode cX0_addLine 11 = .ok (.getfield 22, 3) := by decide +kernel
theorem dX0_addLine_14 : decode cX0_addLine 14 = .ok (.iload_n 2, 1) := by decide +kernel
theorem dX0_addLine_15 : decode cX0_addLine 15 = .ok (.iload_n 1, 1) := by decide +kernel
theorem dX0_addLine_16 : decode cX0_addLine 16 = .ok (.iastore, 1) := by decide +kernel
theorem dX0_addLine_17 : decode cX0_addLine 17 = .ok (.aload_n 0, 1) := by decide +kernel
theorem dX0_addLine_18 : decode cX0_addLine 18 = .ok (.getfield 41, 3) := by decide +kernel
theorem dX0_addLine_21 : decode cX0_addLine 21 = .ok (.iload_n 2, 1) := by decide +kernel
theorem dX0_addLine_22 : decode cX0_addLine 22 = .ok (.iconst (-1), 1) := by decide +kernel
theorem dX0_addLine_23 : decode cX0_addLine 23 = .ok (.iastore, 1) := by decide +kernel
theorem dX0_addLine_24 : decode cX0_addLine 24 = .ok (.aload_n 0, 1) := by decide +kernel
theorem dX0_addLine_25 : decode cX0_addLine 25 = .ok (.iload_n 2, 1) := by decide +kernel
theorem dX0_addLine_26 : decode cX0_addLine 26 = .ok (.iconst 1, 1) := by decide +kernel
theorem dX0_addLine_27 : decode cX0_addLine 27 = .ok (.iadd, 1) := by decide +kernel
theorem dX0_addLine_28 : decode cX0_addLine 28 = .ok (.putfield 19, 3) := by decide +kernel
theorem dX0_addLine_31 : decode cX0_addLine 31 = .ok (.iload_n 2, 1) := by decide +kernel
theorem dX0_addLine_32 : decode cX0_addLine 32 = .ok (.ireturn, 1) := by decide +kernel
set_option maxRecDepth 100000 in
theorem t_X0_addLine (x0 x1 : Int) (M : Mem) (h0 : x0 ≠ 0) : MtI yX0_addLine cX0_addLine 3 (some .int) 2 0 0 [(20, x0), (0, x1)] M 0 (f_X0_addLine x0 x1 M) := by
  refine mk_I (by decide +kernel) (Nat.le_of_ble_eq_true rfl) (fun E C r0 M0 hC hq hin => ?_)
  refine r_eqls (ls' := [(0, 20, x0), (1, 0, x1)]) rfl ?_
  unfold f_X0_addLine
  refine r_aload_n 0 hC 0 rfl (Or.inl (by decide)) rfl dX0_addLine_0 ?_
  refine r_get 1 hC fd_0_2 fl_X0_19 dX0_addLine_1 (fun v1 => ?_)
  refine r_bipush 4 hC kb_59 dX0_addLine_4 ?_
  refine r_callSP 6 hC [(0, v1), (0, 59)] [] rfl sl_X0_50 rfl (by decide) (Nat.le_of_ble_eq_true rfl) (by decide) (by decide) dX0_addLine_6 (t_J9_min_7cf53 v1 59 M) (fun v2 => ?_)
  refine r_istore_n 9 hC rfl (by decide) dX0_addLine_9 (r_eqls (ls' := [(2, 0, v2), (0, 20, x0), (1, 0, x1)]) rfl ?_)
  refine r_aload_n 10 hC 1 rfl (Or.inl (by decide)) rfl dX0_addLine_10 ?_
  refine r_get 11 hC fd_0_3 fl_X0_22 dX0_addLine_11 (fun v3 => ?_)
  refine r_iload_n 14 hC 0 rfl rfl dX0_addLine_14 ?_
  refine r_iload_n 15 hC 2 rfl rfl dX0_addLine_15 ?_
  refine r_iastore 16 hC dX0_addLine_16 (fun M4 => ?_)
  refine r_aload_n 17 hC 1 rfl (Or.inl (by decide)) rfl dX0_addLine_17 ?_
  refine r_get 18 hC fd_0_9 fl_X0_41 dX0_addLine_18 (fun v5 => ?_)
  refine r_iload_n 21 hC 0 rfl rfl dX0_addLine_21 ?_
  refine r_iconst 22 hC (r32c rfl) dX0_addLine_22 ?_
  refine r_iastore 23 hC dX0_addLine_23 (fun M6 => ?_)
  refine r_aload_n 24 hC 1 rfl (Or.inl (by decide)) rfl dX0_addLine_24 ?_
  refine r_iload_n 25 hC 0 rfl rfl dX0_addLine_25 ?_
  refine r_iconst 26 hC (r32c rfl) dX0_addLine_26 ?_
  refine r_iadd 27 hC dX0_addLine_27 ?_
  refine r_put 28 hC fd_0_2 fl_X0_19 dX0_addLine_28 (fun M7 => ?_)
  refine r_iload_n 31 hC 0 rfl rfl dX0_addLine_31 ?_
  exact r_ireturn 32 hC hq (by decide) (by decide) dX0_addLine_32

/-! WaterTurns$Days.isBlock(I)Z -/
theorem dX0_isBlock_0 : decode cX0_isBlock 0 = .ok (.iload_n 0, 1) := by decide +kernel
theorem dX0_isBlock_1 : decode cX0_isBlock 1 = .ok (.bipush 23, 2) := by decide +kernel
theorem dX0_isBlock_3 : decode cX0_isBlock 3 = .ok (.if_icmp .eq 9, 3) := by decide +kernel
theorem dX0_isBlock_6 : decode cX0_isBlock 6 = .ok (.iload_n 0, 1) := by decide +kernel
theorem dX0_isBlock_7 : decode cX0_isBlock 7 = .ok (.bipush 27, 2) := by decide +kernel
theorem dX0_isBlock_9 : decode cX0_isBlock 9 = .ok (.if_icmp .ne 7, 3) := by decide +kernel
theorem dX0_isBlock_12 : decode cX0_isBlock 12 = .ok (.iconst 1, 1) := by decide +kernel
theorem dX0_isBlock_13 : decode cX0_isBlock 13 = .ok (.goto 4, 3) := by decide +kernel
theorem dX0_isBlock_16 : decode cX0_isBlock 16 = .ok (.iconst 0, 1) := by decide +kernel
theorem dX0_isBlock_17 : decode cX0_isBlock 17 = .ok (.ireturn, 1) := by decide +kernel
set_option maxRecDepth 100000 in
theorem t_X0_isBlock (x0 : Int) (M : Mem) : MtP yX0_isBlock cX0_isBlock 1 (some .boolean) 1 0 0 [(0, x0)] M 0 (f_X0_isBlock x0 M) := by
  refine mk_P (by decide +kernel) (Nat.le_of_ble_eq_true rfl) (fun E C r0 hC hq hin => ?_)
  refine r_eqls (ls' := [(0, 0, x0)]) rfl ?_
  unfold f_X0_isBlock
  refine r_iload_n 0 hC 0 rfl rfl dX0_isBlock_0 ?_
  refine r_bipush 1 hC kb_23 dX0_isBlock_1 ?_
  refine r_jn (P := fun j17 => ∀ (q1 : Int), Bk E C 1 M r0 17 [] [(0, q1)] M 0 0 (j17 q1)) ?_ (fun j17 hj17 => ?_)
  · intro q1
    exact r_zreturnP 17 hC hq (by decide) (by decide) dX0_isBlock_17
  refine r_jn (P := fun j12 => Bk E C 1 M r0 12 [] [] M 0 0 (j12)) ?_ (fun j12 hj12 => ?_)
  · refine r_iconst 12 hC (r32c rfl) dX0_isBlock_12 ?_
    refine r_goto 13 hC (tgt := 17) (by decide) dX0_isBlock_13 ?_
    exact hj17 1
  refine r_icmp_eq 3 hC (tgt := 12) (by decide) dX0_isBlock_3 ?_ ?_
  · exact r_sub [] rfl (hj12)
  · refine r_iload_n 6 hC 0 rfl rfl dX0_isBlock_6 ?_
    refine r_bipush 7 hC kb_27 dX0_isBlock_7 ?_
    refine r_icmp_ne 9 hC (tgt := 16) (by decide) dX0_isBlock_9 ?_ ?_
    · refine r_iconst 16 hC (r32c rfl) dX0_isBlock_16 ?_
      exact r_sub [] rfl (hj17 0)
    · exact r_sub [] rfl (hj12)

/-! WaterTurns$Days.innermost()I -/
theorem dX0_innermost_0 : decode cX0_innermost 0 = .ok (.aload_n 0, 1) := by decide +kernel
theorem dX0_innermost_1 : decode cX0_innermost 1 = .ok (.getfield 19, 3) := by decide +kernel
theorem dX0_innermost_4 : decode cX0_innermost 4 = .ok (.iconst 1, 1) := by decide +kernel
theorem dX0_innermost_5 : decode cX0_innermost 5 = .ok (.isub, 1) := by decide +kernel
theorem dX0_innermost_6 : decode cX0_innermost 6 = .ok (.istore_n 1, 1) := by decide +kernel
theorem dX0_innermost_7 : decode cX0_innermost 7 = .ok (.iload_n 1, 1) := by decide +kernel
theorem dX0_innermost_8 : decode cX0_innermost 8 = .ok (.ifCond .lt 33, 3) := by decide +kernel
theorem dX0_innermost_11 : decode cX0_innermost 11 = .ok (.aload_n 0, 1) := by decide +kernel
theorem dX0_innermost_12 : decode cX0_innermost 12 = .ok (.getfield 22, 3) := by decide +kernel
theorem dX0_innermost_15 : decode cX0_innermost 15 = .ok (.iload_n 1, 1) := by decide +kernel
theorem dX0_innermost_16 : decode cX0_innermost 16 = .ok (.iaload, 1) := by decide +kernel
theorem dX0_innermost_17 : decode cX0_innermost 17 = .ok (.invokestatic 56, 3) := by decide +kernel
theorem dX0_innermost_20 : decode cX0_innermost 20 = .ok (.ifCond .eq 15, 3) := by decide +kernel
theorem dX0_innermost_23 : decode cX0_innermost 23 = .ok (.aload_n 0, 1) := by decide +kernel
theorem dX0_innermost_24 : decode cX0_innermost 24 = .ok (.getfield 41, 3) := by decide +kernel
theorem dX0_innermost_27 : decode cX0_innermost 27 = .ok (.iload_n 1, 1) := by decide +kernel
theorem dX0_innermost_28 : decode cX0_innermost 28 = .ok (.iaload, 1) := by decide +kernel
theorem dX0_innermost_29 : decode cX0_innermost 29 = .ok (.iconst (-1), 1) := by decide +kernel
theorem dX0_innermost_30 : decode cX0_innermost 30 = .ok (.if_icmp .ne 5, 3) := by decide +kernel
theorem dX0_innermost_33 : decode cX0_innermost 33 = .ok (.iload_n 1, 1) := by decide +kernel
theorem dX0_innermost_34 : decode cX0_innermost 34 = .ok (.ireturn, 1) := by decide +kernel
theorem dX0_innermost_35 : decode cX0_innermost 35 = .ok (.iinc 1 (-1), 3) := by decide +kernel
theorem dX0_innermost_38 : decode cX0_innermost 38 = .ok (.goto (-31), 3) := by decide +kernel
theorem dX0_innermost_41 : decode cX0_innermost 41 = .ok (.iconst (-1), 1) := by decide +kernel
theorem dX0_innermost_42 : decode cX0_innermost 42 = .ok (.ireturn, 1) := by decide +kernel
set_option maxRecDepth 100000 in
theorem f_X0_innermost_L7_ok {E : EnvT} {C : Cx} {Mi M : Mem} {x0 : Int} (h0 : x0 ≠ 0) (hC : CxOK E C cX0_innermost 2 yX0_innermost.cls 2 0 0) {r0 : Int} (hq : RQ E C 0 0 Mi (some .int) (some (0, r0)) M) {k : Option (Int)} (hk : Bk E C 2 Mi r0 41 [] [] M 0 0 (k)) : ∀ (n : Nat) (p3 : Int), Bk E C 2 Mi r0 7 [(0, 20, x0), (1, 0, p3)] [] M 0 0 (f_X0_innermost_L7 M x0 k n p3) := by
  intro n
  induction n with
  | zero =>
    intro p3
    exact r_none
  | succ n ih =>
    intro p3
    rw [f_X0_innermost_L7]
    refine r_iload_n 7 hC 1 rfl rfl dX0_innermost_7 ?_
    refine r_if_lt 8 hC (tgt := 41) (by decide) dX0_innermost_8 ?_ ?_
    · exact r_sub [] rfl (hk)
    · refine r_aload_n 11 hC 0 rfl (Or.inl (by decide)) rfl dX0_innermost_11 ?_
      refine r_get 12 hC fd_0_3 fl_X0_22 dX0_innermost_12 (fun v4 => ?_)
      refine r_iload_n 15 hC 1 rfl rfl dX0_innermost_15 ?_
      refine r_iaload 16 hC dX0_innermost_16 (fun v5 => ?_)
      refine r_callSP 17 hC [(0, v5)] [] rfl sl_X0_56 rfl (by decide) (Nat.le_of_ble_eq_true rfl) (by decide) (by decide) dX0_innermost_17 (t_X0_isBlock v5 M) (fun v6 => ?_)
      refine r_jn (P := fun j35 => Bk E C 2 Mi r0 35 [(0, 20, x0), (1, 0, p3)] [] M 0 0 (j35)) ?_ (fun j35 hj35 => ?_)
      · refine r_iinc 35 hC 1 rfl (by decide) dX0_innermost_35 (r_eqls (ls' := [(1, 0, w32 (p3 + (-1))), (0, 20, x0)]) rfl ?_)
        refine r_goto 38 hC (tgt := 7) (by decide) dX0_innermost_38 ?_
        exact r_sub [1, 0] rfl (ih (w32 (p3 + (-1))))
      refine r_if_eq 20 hC (tgt := 35) (by decide) dX0_innermost_20 ?_ ?_
      · exact hj35
      · refine r_aload_n 23 hC 0 rfl (Or.inl (by decide)) rfl dX0_innermost_23 ?_
        refine r_get 24 hC fd_0_9 fl_X0_41 dX0_innermost_24 (fun v7 => ?_)
        refine r_iload_n 27 hC 1 rfl rfl dX0_innermost_27 ?_
        refine r_iaload 28 hC dX0_innermost_28 (fun v8 => ?_)
        refine r_iconst 29 hC (r32c rfl) dX0_innermost_29 ?_
        refine r_icmp_ne 30 hC (tgt := 35) (by decide) dX0_innermost_30 ?_ ?_
        · exact hj35
        · refine r_iload_n 33 hC 1 rfl rfl dX0_innermost_33 ?_
          exact r_ireturnP 34 hC hq (by decide) (by decide) dX0_innermost_34
set_option maxRecDepth 100000 in
theorem t_X0_innermost (x0 : Int) (M : Mem) (h0 : x0 ≠ 0) : MtP yX0_innermost cX0_innermost 2 (some .int) 2 0 0 [(20, x0)] M 0 (f_X0_innermost x0 M) := by
  refine mk_P (by decide +kernel) (Nat.le_of_ble_eq_true rfl) (fun E C r0 hC hq hin => ?_)
  refine r_eqls (ls' := [(0, 20, x0)]) rfl ?_
  unfold f_X0_innermost
  refine r_aload_n 0 hC 0 rfl (Or.inl (by decide)) rfl dX0_innermost_0 ?_
  refine r_get 1 hC fd_0_2 fl_X0_19 dX0_innermost_1 (fun v1 => ?_)
  refine r_iconst 4 hC (r32c rfl) dX0_innermost_4 ?_
  refine r_isub 5 hC dX0_innermost_5 ?_
  refine r_istore_nL 6 hC rfl (by decide) dX0_innermost_6 (fun v2 => r_eqls (ls' := [(1, 0, v2), (0, 20, x0)]) rfl ?_)
  refine r_sub [1, 0] rfl (f_X0_innermost_L7_ok h0 hC hq ?_ KF v2)
  · refine r_iconst 41 hC (r32c rfl) dX0_innermost_41 ?_
    exact r_ireturnP 42 hC hq (by decide) (by decide) dX0_innermost_42

/-! WaterTurns$Days.openBlocks()I -/
theorem dX0_openBlocks_0 : decode cX0_openBlocks 0 = .ok (.iconst 0, 1) := by decide +kernel
theorem dX0_openBlocks_1 : decode cX0_openBlocks 1 = .ok (.istore_n 1, 1) := by decide +kernel
theorem dX0_openBlocks_2 : decode cX0_openBlocks 2 = .ok (.iconst 0, 1) := by decide +kernel
theorem dX0_openBlocks_3 : decode cX0_openBlocks 3 = .ok (.istore_n 2, 1) := by decide +kernel
theorem dX0_openBlocks_4 : decode cX0_openBlocks 4 = .ok (.iload_n 2, 1) := by decide +kernel
theorem dX0_openBlocks_5 : decode cX0_openBlocks 5 = .ok (.aload_n 0, 1) := by decide +kernel
theorem dX0_openBlocks_6 : decode cX0_openBlocks 6 = .ok (.getfield 19, 3) := by decide +kernel
theorem dX0_openBlocks_9 : decode cX0_openBlocks 9 = .ok (.if_icmp .ge 39, 3) := by decide +kernel
theorem dX0_openBlocks_12 : decode cX0_openBlocks 12 = .ok (.iload_n 1, 1) := by decide +kernel
theorem dX0_openBlocks_13 : decode cX0_openBlocks 13 = .ok (.aload_n 0, 1) := by decide +kernel
theorem dX0_openBlocks_14 : decode cX0_openBlocks 14 = .ok (.getfield 22, 3) := by decide +kernel
theorem dX0_openBlocks_17 : decode cX0_openBlocks 17 = .ok (.iload_n 2, 1) := by decide +kernel
theorem dX0_openBlocks_18 : decode cX0_openBlocks 18 = .ok (.iaload, 1) := by decide +kernel
theorem dX0_openBlocks_19 : decode cX0_openBlocks 19 = .ok (.invokestatic 56, 3) := by decide +kernel
theorem dX0_openBlocks_22 : decode cX0_openBlocks 22 = .ok (.ifCond .eq 17, 3) := by decide +kernel
theorem dX0_openBlocks_25 : decode cX0_openBlocks 25 = .ok (.aload_n 0, 1) := by decide +kernel
theorem dX0_openBlocks_26 : decode cX0_openBlocks 26 = .ok (.getfield 41, 3) := by decide +kernel
theorem dX0_openBlocks_29 : decode cX0_openBlocks 29 = .ok (.iload_n 2, 1) := by decide +kernel
theorem dX0_openBlocks_30 : decode cX0_openBlocks 30 = .ok (.iaload, 1) := by decide +kernel
theorem dX0_openBlocks_31 : decode cX0_openBlocks 31 = .ok (.iconst (-1), 1) := by decide +kernel
theorem dX0_openBlocks_32 : decode cX0_openBlocks 32 = .ok (.if_icmp .ne 7, 3) := by decide +kernel
theorem dX0_openBlocks_35 : decode cX0_openBlocks 35 = .ok (.iconst 1, 1) := by decide +kernel
theorem dX0_openBlocks_36 : decode cX0_openBlocks 36 = .ok (.goto 4, 3) := by decide +kernel
theorem dX0_openBlocks_39 : decode cX0_openBlocks 39 = .ok (.iconst 0, 1) := by decide +kernel
theorem dX0_openBlocks_40 : decode cX0_openBlocks 40 = .ok (.iadd, 1) := by decide +kernel
theorem dX0_openBlocks_41 : decode cX0_openBlocks 41 = .ok (.istore_n 1, 1) := by decide +kernel
theorem dX0_openBlocks_42 : decode cX0_openBlocks 42 = .ok (.iinc 2 1, 3) := by decide +kernel
theorem dX0_openBlocks_45 : decode cX0_openBlocks 45 = .ok (.goto (-41), 3) := by decide +kernel
theorem dX0_openBlocks_48 : decode cX0_openBlocks 48 = .ok (.iload_n 1, 1) := by decide +kernel
theorem dX0_openBlocks_49 : decode cX0_openBlocks 49 = .ok (.ireturn, 1) := by decide +kernel
set_option maxRecDepth 100000 in
theorem f_X0_openBlocks_L4_ok {E : EnvT} {C : Cx} {Mi M : Mem} {x0 : Int} (h0 : x0 ≠ 0) (hC : CxOK E C cX0_openBlocks 3 yX0_openBlocks.cls 2 0 0) {r0 : Int} (hq : RQ E C 0 0 Mi (some .int) (some (0, r0)) M) {k : Int → Option (Int)} (hk : ∀ q11, Bk E C 3 Mi r0 48 [(1, 0, q11)] [] M 0 0 (k q11)) : ∀ (n : Nat) (p1 : Int) (p2 : Int), Bk E C 3 Mi r0 4 [(0, 20, x0), (1, 0, p1), (2, 0, p2)] [] M 0 0 (f_X0_openBlocks_L4 M x0 k n p1 p2) := by
  intro n
  induction n with
  | zero =>
    intro p1 p2
    exact r_none
  | succ n ih =>
    intro p1 p2
    rw [f_X0_openBlocks_L4]
    refine r_iload_n 4 hC 2 rfl rfl dX0_openBlocks_4 ?_
    refine r_aload_n 5 hC 0 rfl (Or.inl (by decide)) rfl dX0_openBlocks_5 ?_
    refine r_get 6 hC fd_0_2 fl_X0_19 dX0_openBlocks_6 (fun v3 => ?_)
    refine r_icmp_ge 9 hC (tgt := 48) (by decide) dX0_openBlocks_9 ?_ ?_
    · exact r_sub [1] rfl (hk p1)
    · refine r_iload_n 12 hC 1 rfl rfl dX0_openBlocks_12 ?_
      refine r_aload_n 13 hC 0 rfl (Or.inl (by decide)) rfl dX0_openBlocks_13 ?_
      refine r_get 14 hC fd_0_3 fl_X0_22 dX0_openBlocks_14 (fun v4 => ?_)
      refine r_iload_n 17 hC 2 rfl rfl dX0_openBlocks_17 ?_
      refine r_iaload 18 hC dX0_openBlocks_18 (fun v5 => ?_)
      refine r_callSP 19 hC [(0, v5)] [(0, p1)] rfl sl_X0_56 rfl (by decide) (Nat.le_of_ble_eq_true rfl) (by decide) (by decide) dX0_openBlocks_19 (t_X0_isBlock v5 M) (fun v6 => ?_)
      refine r_jn (P := fun j40 => ∀ (q7 : Int), Bk E C 3 Mi r0 40 [(0, 20, x0), (2, 0, p2)] [(0, q7), (0, p1)] M 0 0 (j40 q7)) ?_ (fun j40 hj40 => ?_)
      · intro q7
        refine r_iadd 40 hC dX0_openBlocks_40 ?_
        refine r_istore_nL 41 hC rfl (by decide) dX0_openBlocks_41 (fun v8 => r_eqls (ls' := [(1, 0, v8), (0, 20, x0), (2, 0, p2)]) rfl ?_)
        refine r_iinc 42 hC 2 rfl (by decide) dX0_openBlocks_42 (r_eqls (ls' := [(2, 0, w32 (p2 + 1)), (1, 0, v8), (0, 20, x0)]) rfl ?_)
        refine r_goto 45 hC (tgt := 4) (by decide) dX0_openBlocks_45 ?_
        exact r_sub [2, 1, 0] rfl (ih v8 (w32 (p2 + 1)))
      refine r_jn (P := fun j39 => Bk E C 3 Mi r0 39 [(0, 20, x0), (2, 0, p2)] [(0, p1)] M 0 0 (j39)) ?_ (fun j39 hj39 => ?_)
      · refine r_iconst 39 hC (r32c rfl) dX0_openBlocks_39 ?_
        exact hj40 0
      refine r_if_eq 22 hC (tgt := 39) (by decide) dX0_openBlocks_22 ?_ ?_
      · exact r_sub [0, 2] rfl (hj39)
      · refine r_aload_n 25 hC 0 rfl (Or.inl (by decide)) rfl dX0_openBlocks_25 ?_
        refine r_get 26 hC fd_0_9 fl_X0_41 dX0_openBlocks_26 (fun v9 => ?_)
        refine r_iload_n 29 hC 2 rfl rfl dX0_openBlocks_29 ?_
        refine r_iaload 30 hC dX0_openBlocks_30 (fun v10 => ?_)
        refine r_iconst 31 hC (r32c rfl) dX0_openBlocks_31 ?_
        refine r_icmp_ne 32 hC (tgt := 39) (by decide) dX0_openBlocks_32 ?_ ?_
        · exact r_sub [0, 2] rfl (hj39)
        · refine r_iconst 35 hC (r32c rfl) dX0_openBlocks_35 ?_
          refine r_goto 36 hC (tgt := 40) (by decide) dX0_openBlocks_36 ?_
          exact r_sub [0, 2] rfl (hj40 1)
set_option maxRecDepth 100000 in
theorem t_X0_openBlocks (x0 : Int) (M : Mem) (h0 : x0 ≠ 0) : MtP yX0_openBlocks cX0_openBlocks 3 (some .int) 2 0 0 [(20, x0)] M 0 (f_X0_openBlocks x0 M) := by
  refine mk_P (by decide +kernel) (Nat.le_of_ble_eq_true rfl) (fun E C r0 hC hq hin => ?_)
  refine r_eqls (ls' := [(0, 20, x0)]) rfl ?_
  unfold f_X0_openBlocks
  refine r_iconst 0 hC (r32c rfl) dX0_openBlocks_0 ?_
  refine r_istore_n 1 hC rfl (by decide) dX0_openBlocks_1 (r_eqls (ls' := [(1, 0, 0), (0, 20, x0)]) rfl ?_)
  refine r_iconst 2 hC (r32c rfl) dX0_openBlocks_2 ?_
  refine r_istore_n 3 hC rfl (by decide) dX0_openBlocks_3 (r_eqls (ls' := [(2, 0, 0), (1, 0, 0), (0, 20, x0)]) rfl ?_)
  refine r_sub [2, 1, 0] rfl (f_X0_openBlocks_L4_ok h0 hC hq (fun q12 => ?_) KF 0 0)
  · refine r_iload_n 48 hC 0 rfl rfl dX0_openBlocks_48 ?_
    exact r_ireturnP 49 hC hq (by decide) (by decide) dX0_openBlocks_49

/-! WaterTurns$Tape.runEnd(CC)I -/
theorem dX6_runEnd_0 : decode cX6_runEnd 0 = .ok (.aload_n 0, 1) := by decide +kernel
theorem dX6_runEnd_1 : decode cX6_runEnd 1 = .ok (.getfield 26, 3) := by decide +kernel
theorem dX6_runEnd_4 : decode cX6_runEnd 4 = .ok (.istore_n 3, 1) := by decide +kernel
theorem dX6_runEnd_5 : decode cX6_runEnd 5 = .ok (.iload_n 3, 1) := by decide +kernel
theorem dX6_runEnd_6 : decode cX6_runEnd 6 = .ok (.aload_n 0, 1) := by decide +kernel
theorem dX6_runEnd_7 : decode cX6_runEnd 7 = .ok (.getfield 19, 3) := by decide +kernel
theorem dX6_runEnd_10 : decode cX6_runEnd 10 = .ok (.if_icmp .ge 29, 3) := by decide +kernel
theorem dX6_runEnd_13 : decode cX6_runEnd 13 = .ok (.aload_n 0, 1) := by decide +kernel
theorem dX6_runEnd_14 : decode cX6_runEnd 14 = .ok (.getfield 9, 3) := by decide +kernel
theorem dX6_runEnd_17 : decode cX6_runEnd 17 = .ok (.iload_n 3, 1) := by decide +kernel
theorem dX6_runEnd_18 : decode cX6_runEnd 18 = .ok (.baload, 1) := by decide +kernel
theorem dX6_runEnd_19 : decode cX6_runEnd 19 = .ok (.iload_n 1, 1) := by decide +kernel
theorem dX6_runEnd_20 : decode cX6_runEnd 20 = .ok (.if_icmp .lt 19, 3) := by decide +kernel
theorem dX6_runEnd_23 : decode cX6_runEnd 23 = .ok (.aload_n 0, 1) := by decide +kernel
theorem dX6_runEnd_24 : decode cX6_runEnd 24 = .ok (.getfield 9, 3) := by decide +kernel
theorem dX6_runEnd_27 : decode cX6_runEnd 27 = .ok (.iload_n 3, 1) := by decide +kernel
theorem dX6_runEnd_28 : decode cX6_runEnd 28 = .ok (.baload, 1) := by decide +kernel
theorem dX6_runEnd_29 : decode cX6_runEnd 29 = .ok (.iload_n 2, 1) := by decide +kernel
theorem dX6_runEnd_30 : decode cX6_runEnd 30 = .ok (.if_icmp .gt 9, 3) := by decide +kernel
theorem dX6_runEnd_33 : decode cX6_runEnd 33 = .ok (.iinc 3 1, 3) := by decide +kernel
theorem dX6_runEnd_36 : decode cX6_runEnd 36 = .ok (.goto (-31), 3) := by decide +kernel
theorem dX6_runEnd_39 : decode cX6_runEnd 39 = .ok (.iload_n 3, 1) := by decide +kernel
theorem dX6_runEnd_40 : decode cX6_runEnd 40 = .ok (.ireturn, 1) := by decide +kernel
set_option maxRecDepth 100000 in
theorem f_X6_runEnd_L5_ok {E : EnvT} {C : Cx} {Mi M : Mem} {x0 : Int} (h0 : x0 ≠ 0) (hC : CxOK E C cX6_runEnd 4 yX6_runEnd.cls 1 0 0) {r0 : Int} (hq : RQ E C 0 0 Mi (some .int) (some (0, r0)) M) {x1 x2 : Int} {k : Int → Option (Int)} (hk : ∀ q8, Bk E C 4 Mi r0 39 [(3, 0, q8)] [] M 0 0 (k q8)) : ∀ (n : Nat) (p2 : Int), Bk E C 4 Mi r0 5 [(0, 25, x0), (1, 0, x1), (2, 0, x2), (3, 0, p2)] [] M 0 0 (f_X6_runEnd_L5 M x0 x1 x2 k n p2) := by
  intro n
  induction n with
  | zero =>
    intro p2
    exact r_none
  | succ n ih =>
    intro p2
    rw [f_X6_runEnd_L5]
    refine r_iload_n 5 hC 3 rfl rfl dX6_runEnd_5 ?_
    refine r_aload_n 6 hC 0 rfl (Or.inl (by decide)) rfl dX6_runEnd_6 ?_
    refine r_get 7 hC fd_5_2 fl_X6_19 dX6_runEnd_7 (fun v3 => ?_)
    refine r_icmp_ge 10 hC (tgt := 39) (by decide) dX6_runEnd_10 ?_ ?_
    · exact r_sub [3] rfl (hk p2)
    · refine r_aload_n 13 hC 0 rfl (Or.inl (by decide)) rfl dX6_runEnd_13 ?_
      refine r_get 14 hC fd_5_0 fl_X6_9 dX6_runEnd_14 (fun v4 => ?_)
      refine r_iload_n 17 hC 3 rfl rfl dX6_runEnd_17 ?_
      refine r_baload 18 hC dX6_runEnd_18 (fun v5 => ?_)
      refine r_iload_n 19 hC 1 rfl rfl dX6_runEnd_19 ?_
      refine r_icmp_lt 20 hC (tgt := 39) (by decide) dX6_runEnd_20 ?_ ?_
      · exact r_sub [3] rfl (hk p2)
      · refine r_aload_n 23 hC 0 rfl (Or.inl (by decide)) rfl dX6_runEnd_23 ?_
        refine r_get 24 hC fd_5_0 fl_X6_9 dX6_runEnd_24 (fun v6 => ?_)
        refine r_iload_n 27 hC 3 rfl rfl dX6_runEnd_27 ?_
        refine r_baload 28 hC dX6_runEnd_28 (fun v7 => ?_)
        refine r_iload_n 29 hC 2 rfl rfl dX6_runEnd_29 ?_
        refine r_icmp_gt 30 hC (tgt := 39) (by decide) dX6_runEnd_30 ?_ ?_
        · exact r_sub [3] rfl (hk p2)
        · refine r_iinc 33 hC 3 rfl (by decide) dX6_runEnd_33 (r_eqls (ls' := [(3, 0, w32 (p2 + 1)), (0, 25, x0), (1, 0, x1), (2, 0, x2)]) rfl ?_)
          refine r_goto 36 hC (tgt := 5) (by decide) dX6_runEnd_36 ?_
          exact r_sub [1, 2, 3, 0] rfl (ih (w32 (p2 + 1)))
set_option maxRecDepth 100000 in
theorem t_X6_runEnd (x0 x1 x2 : Int) (M : Mem) (h0 : x0 ≠ 0) : MtP yX6_runEnd cX6_runEnd 4 (some .int) 1 0 0 [(25, x0), (0, x1), (0, x2)] M 0 (f_X6_runEnd x0 x1 x2 M) := by
  refine mk_P (by decide +kernel) (Nat.le_of_ble_eq_true rfl) (fun E C r0 hC hq hin => ?_)
  refine r_eqls (ls' := [(0, 25, x0), (1, 0, x1), (2, 0, x2)]) rfl ?_
  unfold f_X6_runEnd
  refine r_aload_n 0 hC 0 rfl (Or.inl (by decide)) rfl dX6_runEnd_0 ?_
  refine r_get 1 hC fd_5_4 fl_X6_26 dX6_runEnd_1 (fun v1 => ?_)
  refine r_istore_n 4 hC rfl (by decide) dX6_runEnd_4 (r_eqls (ls' := [(3, 0, v1), (0, 25, x0), (1, 0, x1), (2, 0, x2)]) rfl ?_)
  refine r_sub [1, 2, 3, 0] rfl (f_X6_runEnd_L5_ok h0 hC hq (fun q9 => ?_) KF v1)
  · refine r_iload_n 39 hC 0 rfl rfl dX6_runEnd_39 ?_
    exact r_ireturnP 40 hC hq (by decide) (by decide) dX6_runEnd_40

/-! WaterTurns$Tape.spell()V -/
theorem dX6_spell_0 : decode cX6_spell 0 = .ok (.aload_n 0, 1) := by decide +kernel
theorem dX6_spell_1 : decode cX6_spell 1 = .ok (.getfield 26, 3) := by decide +kernel
theorem dX6_spell_4 : decode cX6_spell 4 = .ok (.istore_n 1, 1) := by decide +kernel
theorem dX6_spell_5 : decode cX6_spell 5 = .ok (.iload_n 1, 1) := by decide +kernel
theorem dX6_spell_6 : decode cX6_spell 6 = .ok (.aload_n 0, 1) := by decide +kernel
theorem dX6_spell_7 : decode cX6_spell 7 = .ok (.getfield 23, 3) := by decide +kernel
theorem dX6_spell_10 : decode cX6_spell 10 = .ok (.if_icmp .ge 48, 3) := by decide +kernel
theorem dX6_spell_13 : decode cX6_spell 13 = .ok (.aload_n 0, 1) := by decide +kernel
theorem dX6_spell_14 : decode cX6_spell 14 = .ok (.getfield 23, 3) := by decide +kernel
theorem dX6_spell_17 : decode cX6_spell 17 = .ok (.aload_n 0, 1) := by decide +kernel
theorem dX6_spell_18 : decode cX6_spell 18 = .ok (.getfield 26, 3) := by decide +kernel
theorem dX6_spell_21 : decode cX6_spell 21 = .ok (.isub, 1) := by decide +kernel
theorem dX6_spell_22 : decode cX6_spell 22 = .ok (.bipush 8, 2) := by decide +kernel
theorem dX6_spell_24 : decode cX6_spell 24 = .ok (.if_icmp .gt 34, 3) := by decide +kernel
theorem dX6_spell_27 : decode cX6_spell 27 = .ok (.aload_n 0, 1) := by decide +kernel
theorem dX6_spell_28 : decode cX6_spell 28 = .ok (.aload_n 0, 1) := by decide +kernel
theorem dX6_spell_29 : decode cX6_spell 29 = .ok (.getfield 44, 3) := by decide +kernel
theorem dX6_spell_32 : decode cX6_spell 32 = .ok (.ldc2_w 65, 3) := by decide +kernel
theorem dX6_spell_35 : decode cX6_spell 35 = .ok (.lmul, 1) := by decide +kernel
theorem dX6_spell_36 : decode cX6_spell 36 = .ok (.aload_n 0, 1) := by decide +kernel
theorem dX6_spell_37 : decode cX6_spell 37 = .ok (.getfield 9, 3) := by decide +kernel
theorem dX6_spell_40 : decode cX6_spell 40 = .ok (.iload_n 1, 1) := by decide +kernel
theorem dX6_spell_41 : decode cX6_spell 41 = .ok (.baload, 1) := by decide +kernel
theorem dX6_spell_42 : decode cX6_spell 42 = .ok (.bipush 97, 2) := by decide +kernel
theorem dX6_spell_44 : decode cX6_spell 44 = .ok (.isub, 1) := by decide +kernel
theorem dX6_spell_45 : decode cX6_spell 45 = .ok (.iconst 1, 1) := by decide +kernel
theorem dX6_spell_46 : decode cX6_spell 46 = .ok (.iadd, 1) := by decide +kernel
theorem dX6_spell_47 : decode cX6_spell 47 = .ok (.i2l, 1) := by decide +kernel
theorem dX6_spell_48 : decode cX6_spell 48 = .ok (.ladd, 1) := by decide +kernel
theorem dX6_spell_49 : decode cX6_spell 49 = .ok (.putfield 44, 3) := by decide +kernel
theorem dX6_spell_52 : decode cX6_spell 52 = .ok (.iinc 1 1, 3) := by decide +kernel
theorem dX6_spell_55 : decode cX6_spell 55 = .ok (.goto (-50), 3) := by decide +kernel
theorem dX6_spell_58 : decode cX6_spell 58 = .ok (.iconst 0, 1) := by decide +kernel
theorem dX6_spell_59 : decode cX6_spell 59 = .ok (.istore_n 1, 1) := by decide +kernel
theorem dX6_spell_60 : decode cX6_spell 60 = .ok (.iload_n 1, 1) := by decide +kernel
theorem dX6_spell_61 : decode cX6_spell 61 = .ok (.bipush 30, 2) := by decide +kernel
theorem dX6_spell_63 : decode cX6_spell 63 = .ok (.if_icmp .ge 44, 3) := by decide +kernel
theorem dX6_spell_66 : decode cX6_spell 66 = .ok (.aload_n 0, 1) := by decide +kernel
theorem dX6_spell_67 : decode cX6_spell 67 = .ok (.getfield 44, 3) := by decide +kernel
theorem dX6_spell_70 : decode cX6_spell 70 = .ok (.lconst 0, 1) := by decide +kernel
theorem dX6_spell_71 : decode cX6_spell 71 = .ok (.lcmp, 1) := by decide +kernel
theorem dX6_spell_72 : decode cX6_spell 72 = .ok (.ifCond .eq 35, 3) := by decide +kernel
theorem dX6_spell_75 : decode cX6_spell 75 = .ok (.aload_n 0, 1) := by decide +kernel
theorem dX6_spell_76 : decode cX6_spell 76 = .ok (.aload_n 0, 1) := by decide +kernel
theorem dX6_spell_77 : decode cX6_spell 77 = .ok (.getfield 15, 3) := by decide +kernel
theorem dX6_spell_80 : decode cX6_spell 80 = .ok (.iload_n 1, 1) := by decide +kernel
theorem dX6_spell_81 : decode cX6_spell 81 = .ok (.laload, 1) := by decide +kernel
theorem dX6_spell_82 : decode cX6_spell 82 = .ok (.aload_n 0, 1) := by decide +kernel
theorem dX6_spell_83 : decode cX6_spell 83 = .ok (.getfield 44, 3) := by decide +kernel
theorem dX6_spell_86 : decode cX6_spell 86 = .ok (.lcmp, 1) := by decide +kernel
theorem dX6_spell_87 : decode cX6_spell 87 = .ok (.ifCond .ne 7, 3) := by decide +kernel
theorem dX6_spell_90 : decode cX6_spell 90 = .ok (.iload_n 1, 1) := by decide +kernel
theorem dX6_spell_91 : decode cX6_spell 91 = .ok (.goto 7, 3) := by decide +kernel
theorem dX6_spell_94 : decode cX6_spell 94 = .ok (.aload_n 0, 1) := by decide +kernel
theorem dX6_spell_95 : decode cX6_spell 95 = .ok (.getfield 41, 3) := by decide +kernel
theorem dX6_spell_98 : decode cX6_spell 98 = .ok (.putfield 41, 3) := by decide +kernel
theorem dX6_spell_101 : decode cX6_spell 101 = .ok (.iinc 1 1, 3) := by decide +kernel
theorem dX6_spell_104 : decode cX6_spell 104 = .ok (.goto (-44), 3) := by decide +kernel
theorem dX6_spell_107 : decode cX6_spell 107 = .ok (.return_, 1) := by decide +kernel
set_option maxRecDepth 100000 in
theorem f_X6_spell_L5_ok {E : EnvT} {C : Cx} {Mi : Mem} {x0 : Int} (h0 : x0 ≠ 0) (hC : CxOK E C cX6_spell 2 yX6_spell.cls 1 0 0) {M0 : Mem} (hq : RQ E C 0 0 Mi none none M0) {k : Mem → Option (Mem)} (hk : ∀ M11, Bk E C 2 Mi M0 58 [(0, 25, x0)] [] M11 0 0 (k M11)) : ∀ (n : Nat) (p2 : Int) (M3 : Mem), Bk E C 2 Mi M0 5 [(0, 25, x0), (1, 0, p2)] [] M3 0 0 (f_X6_spell_L5 x0 k n p2 M3) := by
  intro n
  induction n with
  | zero =>
    intro p2 M3
    exact r_none
  | succ n ih =>
    intro p2 M3
    rw [f_X6_spell_L5]
    refine r_iload_n 5 hC 1 rfl rfl dX6_spell_5 ?_
    refine r_aload_n 6 hC 0 rfl (Or.inl (by decide)) rfl dX6_spell_6 ?_
    refine r_get 7 hC fd_5_3 fl_X6_23 dX6_spell_7 (fun v4 => ?_)
    refine r_icmp_ge 10 hC (tgt := 58) (by decide) dX6_spell_10 ?_ ?_
    · exact r_sub [0] rfl (hk M3)
    · refine r_aload_n 13 hC 0 rfl (Or.inl (by decide)) rfl dX6_spell_13 ?_
      refine r_get 14 hC fd_5_3 fl_X6_23 dX6_spell_14 (fun v5 => ?_)
      refine r_aload_n 17 hC 0 rfl (Or.inl (by decide)) rfl dX6_spell_17 ?_
      refine r_get 18 hC fd_5_4 fl_X6_26 dX6_spell_18 (fun v6 => ?_)
      refine r_isub 21 hC dX6_spell_21 ?_
      refine r_bipush 22 hC kb_8 dX6_spell_22 ?_
      refine r_icmp_gt 24 hC (tgt := 58) (by decide) dX6_spell_24 ?_ ?_
      · exact r_sub [0] rfl (hk M3)
      · refine r_aload_n 27 hC 0 rfl (Or.inl (by decide)) rfl dX6_spell_27 ?_
        refine r_aload_n 28 hC 0 rfl (Or.inl (by decide)) rfl dX6_spell_28 ?_
        refine r_get 29 hC fd_5_10 fl_X6_44 dX6_spell_29 (fun v7 => ?_)
        refine r_ldc2 32 hC (x := 32) kl_X6_65 ⟨by decide +kernel, r64c rfl⟩ dX6_spell_32 ?_
        refine r_lmul 35 hC dX6_spell_35 ?_
        refine r_aload_n 36 hC 0 rfl (Or.inl (by decide)) rfl dX6_spell_36 ?_
        refine r_get 37 hC fd_5_0 fl_X6_9 dX6_spell_37 (fun v8 => ?_)
        refine r_iload_n 40 hC 1 rfl rfl dX6_spell_40 ?_
        refine r_baload 41 hC dX6_spell_41 (fun v9 => ?_)
        refine r_bipush 42 hC kb_97 dX6_spell_42 ?_
        refine r_isub 44 hC dX6_spell_44 ?_
        refine r_iconst 45 hC (r32c rfl) dX6_spell_45 ?_
        refine r_iadd 46 hC dX6_spell_46 ?_
        refine r_i2l 47 hC dX6_spell_47 ?_
        refine r_ladd 48 hC dX6_spell_48 ?_
        refine r_put 49 hC fd_5_10 fl_X6_44 dX6_spell_49 (fun M10 => ?_)
        refine r_iinc 52 hC 1 rfl (by decide) dX6_spell_52 (r_eqls (ls' := [(1, 0, w32 (p2 + 1)), (0, 25, x0)]) rfl ?_)
        refine r_goto 55 hC (tgt := 5) (by decide) dX6_spell_55 ?_
        exact r_sub [1, 0] rfl (ih (w32 (p2 + 1)) M10)
set_option maxRecDepth 100000 in
theorem f_X6_spell_L60_ok {E : EnvT} {C : Cx} {Mi : Mem} {x0 : Int} (h0 : x0 ≠ 0) (hC : CxOK E C cX6_spell 2 yX6_spell.cls 1 0 0) {M0 : Mem} (hq : RQ E C 0 0 Mi none none M0) {k : Mem → Option (Mem)} (hk : ∀ M22, Bk E C 2 Mi M0 107 [] [] M22 0 0 (k M22)) : ∀ (n : Nat) (p13 : Int) (M14 : Mem), Bk E C 2 Mi M0 60 [(0, 25, x0), (1, 0, p13)] [] M14 0 0 (f_X6_spell_L60 x0 k n p13 M14) := by
  intro n
  induction n with
  | zero =>
    intro p13 M14
    exact r_none
  | succ n ih =>
    intro p13 M14
    rw [f_X6_spell_L60]
    refine r_iload_n 60 hC 1 rfl rfl dX6_spell_60 ?_
    refine r_bipush 61 hC kb_30 dX6_spell_61 ?_
    refine r_icmp_ge 63 hC (tgt := 107) (by decide) dX6_spell_63 ?_ ?_
    · exact r_sub [] rfl (hk M14)
    · refine r_aload_n 66 hC 0 rfl (Or.inl (by decide)) rfl dX6_spell_66 ?_
      refine r_get 67 hC fd_5_10 fl_X6_44 dX6_spell_67 (fun v15 => ?_)
      refine r_lconst 70 hC (x := 0) ⟨by decide +kernel, r64c rfl⟩ dX6_spell_70 ?_
      refine r_lcmp_eq 71 hC (tgt := 107) (by decide) dX6_spell_71 dX6_spell_72 ?_ ?_
      · exact r_sub [] rfl (hk M14)
      · refine r_aload_n 75 hC 0 rfl (Or.inl (by decide)) rfl dX6_spell_75 ?_
        refine r_aload_n 76 hC 0 rfl (Or.inl (by decide)) rfl dX6_spell_76 ?_
        refine r_get 77 hC fd_5_1 fl_X6_15 dX6_spell_77 (fun v16 => ?_)
        refine r_iload_n 80 hC 1 rfl rfl dX6_spell_80 ?_
        refine r_laload 81 hC dX6_spell_81 (fun v17 => ?_)
        refine r_aload_n 82 hC 0 rfl (Or.inl (by decide)) rfl dX6_spell_82 ?_
        refine r_get 83 hC fd_5_10 fl_X6_44 dX6_spell_83 (fun v18 => ?_)
        refine r_jn (P := fun j98 => ∀ (q19 : Int), Bk E C 2 Mi M0 98 [(0, 25, x0), (1, 0, p13)] [(0, q19), (25, x0)] M14 0 0 (j98 q19)) ?_ (fun j98 hj98 => ?_)
        · intro q19
          refine r_put 98 hC fd_5_9 fl_X6_41 dX6_spell_98 (fun M20 => ?_)
          refine r_iinc 101 hC 1 rfl (by decide) dX6_spell_101 (r_eqls (ls' := [(1, 0, w32 (p13 + 1)), (0, 25, x0)]) rfl ?_)
          refine r_goto 104 hC (tgt := 60) (by decide) dX6_spell_104 ?_
          exact r_sub [1, 0] rfl (ih (w32 (p13 + 1)) M20)
        refine r_lcmp_ne 86 hC (tgt := 94) (by decide) dX6_spell_86 dX6_spell_87 ?_ ?_
        · refine r_aload_n 94 hC 0 rfl (Or.inl (by decide)) rfl dX6_spell_94 ?_
          refine r_get 95 hC fd_5_9 fl_X6_41 dX6_spell_95 (fun v21 => ?_)
          exact hj98 v21
        · refine r_iload_n 90 hC 1 rfl rfl dX6_spell_90 ?_
          refine r_goto 91 hC (tgt := 98) (by decide) dX6_spell_91 ?_
          exact hj98 p13
set_option maxRecDepth 100000 in
theorem t_X6_spell (x0 : Int) (M : Mem) (h0 : x0 ≠ 0) : MtV yX6_spell cX6_spell 2 none 1 0 0 [(25, x0)] M (f_X6_spell x0 M) := by
  refine mk_V (by decide +kernel) (Nat.le_of_ble_eq_true rfl) (fun E C M0 hC hq hin => ?_)
  refine r_eqls (ls' := [(0, 25, x0)]) rfl ?_
  unfold f_X6_spell
  refine r_aload_n 0 hC 0 rfl (Or.inl (by decide)) rfl dX6_spell_0 ?_
  refine r_get 1 hC fd_5_4 fl_X6_26 dX6_spell_1 (fun v1 => ?_)
  refine r_istore_n 4 hC rfl (by decide) dX6_spell_4 (r_eqls (ls' := [(1, 0, v1), (0, 25, x0)]) rfl ?_)
  refine r_sub [1, 0] rfl (f_X6_spell_L5_ok h0 hC hq (fun M12 => ?_) KF v1 M)
  · refine r_iconst 58 hC (r32c rfl) dX6_spell_58 ?_
    refine r_istore_n 59 hC rfl (by decide) dX6_spell_59 (r_eqls (ls' := [(1, 0, 0), (0, 25, x0)]) rfl ?_)
    refine r_sub [1, 0] rfl (f_X6_spell_L60_ok h0 hC hq (fun M23 => ?_) KF 0 M12)
    · exact r_return 107 hC hq (by decide) (by decide) dX6_spell_107

/-! WaterTurns$Tape.value()I -/
theorem dX6_value_0 : decode cX6_value 0 = .ok (.iconst 0, 1) := by decide +kernel
theorem dX6_value_1 : decode cX6_value 1 = .ok (.istore_n 1, 1) := by decide +kernel
theorem dX6_value_2 : decode cX6_value 2 = .ok (.aload_n 0, 1) := by decide +kernel
theorem dX6_value_3 : decode cX6_value 3 = .ok (.getfield 26, 3) := by decide +kernel
theorem dX6_value_6 : decode cX6_value 6 = .ok (.istore_n 2, 1) := by decide +kernel
theorem dX6_value_7 : decode cX6_value 7 = .ok (.iload_n 2, 1) := by decide +kernel
theorem dX6_value_8 : decode cX6_value 8 = .ok (.aload_n 0, 1) := by decide +kernel
theorem dX6_value_9 : decode cX6_value 9 = .ok (.getfield 23, 3) := by decide +kernel
theorem dX6_value_12 : decode cX6_value 12 = .ok (.if_icmp .ge 24, 3) := by decide +kernel
theorem dX6_value_15 : decode cX6_value 15 = .ok (.iload_n 1, 1) := by decide +kernel
theorem dX6_value_16 : decode cX6_value 16 = .ok (.bipush 10, 2) := by decide +kernel
theorem dX6_value_18 : decode cX6_value 18 = .ok (.imul, 1) := by decide +kernel
theorem dX6_value_19 : decode cX6_value 19 = .ok (.aload_n 0, 1) := by decide +kernel
theorem dX6_value_20 : decode cX6_value 20 = .ok (.getfield 9, 3) := by decide +kernel
theorem dX6_value_23 : decode cX6_value 23 = .ok (.iload_n 2, 1) := by decide +kernel
theorem dX6_value_24 : decode cX6_value 24 = .ok (.baload, 1) := by decide +kernel
theorem dX6_value_25 : decode cX6_value 25 = .ok (.bipush 48, 2) := by decide +kernel
theorem dX6_value_27 : decode cX6_value 27 = .ok (.isub, 1) := by decide +kernel
theorem dX6_value_28 : decode cX6_value 28 = .ok (.iadd, 1) := by decide +kernel
theorem dX6_value_29 : decode cX6_value 29 = .ok (.istore_n 1, 1) := by decide +kernel
theorem dX6_value_30 : decode cX6_value 30 = .ok (.iinc 2 1, 3) := by decide +kernel
theorem dX6_value_33 : decode cX6_value 33 = .ok (.goto (-26), 3) := by decide +kernel
theorem dX6_value_36 : decode cX6_value 36 = .ok (.iload_n 1, 1) := by decide +kernel
theorem dX6_value_37 : decode cX6_value 37 = .ok (.ireturn, 1) := by decide +kernel
set_option maxRecDepth 100000 in
theorem f_X6_value_L7_ok {E : EnvT} {C : Cx} {Mi M : Mem} {x0 : Int} (h0 : x0 ≠ 0) (hC : CxOK E C cX6_value 3 yX6_value.cls 1 0 0) {r0 : Int} (hq : RQ E C 0 0 Mi (some .int) (some (0, r0)) M) {k : Int → Option (Int)} (hk : ∀ q8, Bk E C 3 Mi r0 36 [(1, 0, q8)] [] M 0 0 (k q8)) : ∀ (n : Nat) (p2 : Int) (p3 : Int), Bk E C 3 Mi r0 7 [(0, 25, x0), (1, 0, p2), (2, 0, p3)] [] M 0 0 (f_X6_value_L7 M x0 k n p2 p3) := by
  intro n
  induction n with
  | zero =>
    intro p2 p3
    exact r_none
  | succ n ih =>
    intro p2 p3
    rw [f_X6_value_L7]
    refine r_iload_n 7 hC 2 rfl rfl dX6_value_7 ?_
    refine r_aload_n 8 hC 0 rfl (Or.inl (by decide)) rfl dX6_value_8 ?_
    refine r_get 9 hC fd_5_3 fl_X6_23 dX6_value_9 (fun v4 => ?_)
    refine r_icmp_ge 12 hC (tgt := 36) (by decide) dX6_value_12 ?_ ?_
    · exact r_sub [1] rfl (hk p2)
    · refine r_iload_n 15 hC 1 rfl rfl dX6_value_15 ?_
      refine r_bipush 16 hC kb_10 dX6_value_16 ?_
      refine r_imul 18 hC dX6_value_18 ?_
      refine r_aload_n 19 hC 0 rfl (Or.inl (by decide)) rfl dX6_value_19 ?_
      refine r_get 20 hC fd_5_0 fl_X6_9 dX6_value_20 (fun v5 => ?_)
      refine r_iload_n 23 hC 2 rfl rfl dX6_value_23 ?_
      refine r_baload 24 hC dX6_value_24 (fun v6 => ?_)
      refine r_bipush 25 hC kb_48 dX6_value_25 ?_
      refine r_isub 27 hC dX6_value_27 ?_
      refine r_iadd 28 hC dX6_value_28 ?_
      refine r_istore_nL 29 hC rfl (by decide) dX6_value_29 (fun v7 => r_eqls (ls' := [(1, 0, v7), (0, 25, x0), (2, 0, p3)]) rfl ?_)
      refine r_iinc 30 hC 2 rfl (by decide) dX6_value_30 (r_eqls (ls' := [(2, 0, w32 (p3 + 1)), (1, 0, v7), (0, 25, x0)]) rfl ?_)
      refine r_goto 33 hC (tgt := 7) (by decide) dX6_value_33 ?_
      exact r_sub [2, 1, 0] rfl (ih v7 (w32 (p3 + 1)))
set_option maxRecDepth 100000 in
theorem t_X6_value (x0 : Int) (M : Mem) (h0 : x0 ≠ 0) : MtP yX6_value cX6_value 3 (some .int) 1 0 0 [(25, x0)] M 0 (f_X6_value x0 M) := by
  refine mk_P (by decide +kernel) (Nat.le_of_ble_eq_true rfl) (fun E C r0 hC hq hin => ?_)
  refine r_eqls (ls' := [(0, 25, x0)]) rfl ?_
  unfold f_X6_value
  refine r_iconst 0 hC (r32c rfl) dX6_value_0 ?_
  refine r_istore_n 1 hC rfl (by decide) dX6_value_1 (r_eqls (ls' := [(1, 0, 0), (0, 25, x0)]) rfl ?_)
  refine r_aload_n 2 hC 1 rfl (Or.inl (by decide)) rfl dX6_value_2 ?_
  refine r_get 3 hC fd_5_4 fl_X6_26 dX6_value_3 (fun v1 => ?_)
  refine r_istore_n 6 hC rfl (by decide) dX6_value_6 (r_eqls (ls' := [(2, 0, v1), (1, 0, 0), (0, 25, x0)]) rfl ?_)
  refine r_sub [2, 1, 0] rfl (f_X6_value_L7_ok h0 hC hq (fun q9 => ?_) KF 0 v1)
  · refine r_iload_n 36 hC 0 rfl rfl dX6_value_36 ?_
    exact r_ireturnP 37 hC hq (by decide) (by decide) dX6_value_37

/-! WaterTurns$Tape.step()V -/
theorem dX6_step_0 : decode cX6_step 0 = .ok (.aload_n 0, 1) := by decide +kernel
theorem dX6_step_1 : decode cX6_step 1 = .ok (.getfield 23, 3) := by decide +kernel
theorem dX6_step_4 : decode cX6_step 4 = .ok (.aload_n 0, 1) := by decide +kernel
theorem dX6_step_5 : decode cX6_step 5 = .ok (.getfield 19, 3) := by decide +kernel
theorem dX6_step_8 : decode cX6_step 8 = .ok (.if_icmp .ge 44, 3) := by decide +kernel
theorem dX6_step_11 : decode cX6_step 11 = .ok (.aload_n 0, 1) := by decide +kernel
theorem dX6_step_12 : decode cX6_step 12 = .ok (.getfield 9, 3) := by decide +kernel
theorem dX6_step_15 : decode cX6_step 15 = .ok (.aload_n 0, 1) := by decide +kernel
theorem dX6_step_16 : decode cX6_step 16 = .ok (.getfield 23, 3) := by decide +kernel
theorem dX6_step_19 : decode cX6_step 19 = .ok (.baload, 1) := by decide +kernel
theorem dX6_step_20 : decode cX6_step 20 = .ok (.bipush 10, 2) := by decide +kernel
theorem dX6_step_22 : decode cX6_step 22 = .ok (.if_icmp .eq 17, 3) := by decide +kernel
theorem dX6_step_25 : decode cX6_step 25 = .ok (.aload_n 0, 1) := by decide +kernel
theorem dX6_step_26 : decode cX6_step 26 = .ok (.getfield 9, 3) := by decide +kernel
theorem dX6_step_29 : decode cX6_step 29 = .ok (.aload_n 0, 1) := by decide +kernel
theorem dX6_step_30 : decode cX6_step 30 = .ok (.getfield 23, 3) := by decide +kernel
theorem dX6_step_33 : decode cX6_step 33 = .ok (.baload, 1) := by decide +kernel
theorem dX6_step_34 : decode cX6_step 34 = .ok (.bipush 32, 2) := by decide +kernel
theorem dX6_step_36 : decode cX6_step 36 = .ok (.if_icmp .ne 16, 3) := by decide +kernel
theorem dX6_step_39 : decode cX6_step 39 = .ok (.aload_n 0, 1) := by decide +kernel
theorem dX6_step_40 : decode cX6_step 40 = .ok (.dup, 1) := by decide +kernel
theorem dX6_step_41 : decode cX6_step 41 = .ok (.getfield 23, 3) := by decide +kernel
theorem dX6_step_44 : decode cX6_step 44 = .ok (.iconst 1, 1) := by decide +kernel
theorem dX6_step_45 : decode cX6_step 45 = .ok (.iadd, 1) := by decide +kernel
theorem dX6_step_46 : decode cX6_step 46 = .ok (.putfield 23, 3) := by decide +kernel
theorem dX6_step_49 : decode cX6_step 49 = .ok (.goto (-49), 3) := by decide +kernel
theorem dX6_step_52 : decode cX6_step 52 = .ok (.aload_n 0, 1) := by decide +kernel
theorem dX6_step_53 : decode cX6_step 53 = .ok (.aload_n 0, 1) := by decide +kernel
theorem dX6_step_54 : decode cX6_step 54 = .ok (.getfield 23, 3) := by decide +kernel
theorem dX6_step_57 : decode cX6_step 57 = .ok (.putfield 26, 3) := by decide +kernel
theorem dX6_step_60 : decode cX6_step 60 = .ok (.aload_n 0, 1) := by decide +kernel
theorem dX6_step_61 : decode cX6_step 61 = .ok (.iconst (-1), 1) := by decide +kernel
theorem dX6_step_62 : decode cX6_step 62 = .ok (.putfield 41, 3) := by decide +kernel
theorem dX6_step_65 : decode cX6_step 65 = .ok (.aload_n 0, 1) := by decide +kernel
theorem dX6_step_66 : decode cX6_step 66 = .ok (.lconst 0, 1) := by decide +kernel
theorem dX6_step_67 : decode cX6_step 67 = .ok (.putfield 44, 3) := by decide +kernel
theorem dX6_step_70 : decode cX6_step 70 = .ok (.aload_n 0, 1) := by decide +kernel
theorem dX6_step_71 : decode cX6_step 71 = .ok (.getfield 23, 3) := by decide +kernel
theorem dX6_step_74 : decode cX6_step 74 = .ok (.aload_n 0, 1) := by decide +kernel
theorem dX6_step_75 : decode cX6_step 75 = .ok (.getfield 19, 3) := by decide +kernel
theorem dX6_step_78 : decode cX6_step 78 = .ok (.if_icmp .lt 11, 3) := by decide +kernel
theorem dX6_step_81 : decode cX6_step 81 = .ok (.aload_n 0, 1) := by decide +kernel
theorem dX6_step_82 : decode cX6_step 82 = .ok (.iconst 0, 1) := by decide +kernel
theorem dX6_step_83 : decode cX6_step 83 = .ok (.putfield 35, 3) := by decide +kernel
theorem dX6_step_86 : decode cX6_step 86 = .ok (.goto 208, 3) := by decide +kernel
theorem dX6_step_89 : decode cX6_step 89 = .ok (.aload_n 0, 1) := by decide +kernel
theorem dX6_step_90 : decode cX6_step 90 = .ok (.getfield 9, 3) := by decide +kernel
theorem dX6_step_93 : decode cX6_step 93 = .ok (.aload_n 0, 1) := by decide +kernel
theorem dX6_step_94 : decode cX6_step 94 = .ok (.getfield 23, 3) := by decide +kernel
theorem dX6_step_97 : decode cX6_step 97 = .ok (.baload, 1) := by decide +kernel
theorem dX6_step_98 : decode cX6_step 98 = .ok (.bipush 97, 2) := by decide +kernel
theorem dX6_step_100 : decode cX6_step 100 = .ok (.if_icmp .lt 41, 3) := by decide +kernel
theorem dX6_step_103 : decode cX6_step 103 = .ok (.aload_n 0, 1) := by decide +kernel
theorem dX6_step_104 : decode cX6_step 104 = .ok (.getfield 9, 3) := by decide +kernel
theorem dX6_step_107 : decode cX6_step 107 = .ok (.aload_n 0, 1) := by decide +kernel
theorem dX6_step_108 : decode cX6_step 108 = .ok (.getfield 23, 3) := by decide +kernel
theorem dX6_step_111 : decode cX6_step 111 = .ok (.baload, 1) := by decide +kernel
theorem dX6_step_112 : decode cX6_step 112 = .ok (.bipush 122, 2) := by decide +kernel
theorem dX6_step_114 : decode cX6_step 114 = .ok (.if_icmp .gt 27, 3) := by decide +kernel
theorem dX6_step_117 : decode cX6_step 117 = .ok (.aload_n 0, 1) := by decide +kernel
theorem dX6_step_118 : decode cX6_step 118 = .ok (.aload_n 0, 1) := by decide +kernel
theorem dX6_step_119 : decode cX6_step 119 = .ok (.bipush 97, 2) := by decide +kernel
theorem dX6_step_121 : decode cX6_step 121 = .ok (.bipush 122, 2) := by decide +kernel
theorem dX6_step_123 : decode cX6_step 123 = .ok (.invokevirtual 80, 3) := by decide +kernel
theorem dX6_step_126 : decode cX6_step 126 = .ok (.putfield 23, 3) := by decide +kernel
theorem dX6_step_129 : decode cX6_step 129 = .ok (.aload_n 0, 1) := by decide +kernel
theorem dX6_step_130 : decode cX6_step 130 = .ok (.iconst 1, 1) := by decide +kernel
theorem dX6_step_131 : decode cX6_step 131 = .ok (.putfield 35, 3) := by decide +kernel
theorem dX6_step_134 : decode cX6_step 134 = .ok (.aload_n 0, 1) := by decide +kernel
theorem dX6_step_135 : decode cX6_step 135 = .ok (.invokevirtual 84, 3) := by decide +kernel
theorem dX6_step_138 : decode cX6_step 138 = .ok (.goto 156, 3) := by decide +kernel
theorem dX6_step_141 : decode cX6_step 141 = .ok (.aload_n 0, 1) := by decide +kernel
theorem dX6_step_142 : decode cX6_step 142 = .ok (.getfield 9, 3) := by decide +kernel
theorem dX6_step_145 : decode cX6_step 145 = .ok (.aload_n 0, 1) := by decide +kernel
theorem dX6_step_146 : decode cX6_step 146 = .ok (.getfield 23, 3) := by decide +kernel
theorem dX6_step_149 : decode cX6_step 149 = .ok (.baload, 1) := by decide +kernel
theorem dX6_step_150 : decode cX6_step 150 = .ok (.bipush 48, 2) := by decide +kernel
theorem dX6_step_152 : decode cX6_step 152 = .ok (.if_icmp .lt 74, 3) := by decide +kernel
theorem dX6_step_155 : decode cX6_step 155 = .ok (.aload_n 0, 1) := by decide +kernel
theorem dX6_step_156 : decode cX6_step 156 = .ok (.getfield 9, 3) := by decide +kernel
theorem dX6_step_159 : decode cX6_step 159 = .ok (.aload_n 0, 1) := by decide +kernel
theorem dX6_step_160 : decode cX6_step 160 = .ok (.getfield 23, 3) := by decide +kernel
theorem dX6_step_163 : decode cX6_step 163 = .ok (.baload, 1) := by decide +kernel
theorem dX6_step_164 : decode cX6_step 164 = .ok (.bipush 57, 2) := by decide +kernel
theorem dX6_step_166 : decode cX6_step 166 = .ok (.if_icmp .gt 60, 3) := by decide +kernel
theorem dX6_step_169 : decode cX6_step 169 = .ok (.aload_n 0, 1) := by decide +kernel
theorem dX6_step_170 : decode cX6_step 170 = .ok (.aload_n 0, 1) := by decide +kernel
theorem dX6_step_171 : decode cX6_step 171 = .ok (.bipush 48, 2) := by decide +kernel
theorem dX6_step_173 : decode cX6_step 173 = .ok (.bipush 57, 2) := by decide +kernel
theorem dX6_step_175 : decode cX6_step 175 = .ok (.invokevirtual 80, 3) := by decide +kernel
theorem dX6_step_178 : decode cX6_step 178 = .ok (.putfield 23, 3) := by decide +kernel
theorem dX6_step_181 : decode cX6_step 181 = .ok (.aload_n 0, 1) := by decide +kernel
theorem dX6_step_182 : decode cX6_step 182 = .ok (.aload_n 0, 1) := by decide +kernel
theorem dX6_step_183 : decode cX6_step 183 = .ok (.getfield 23, 3) := by decide +kernel
theorem dX6_step_186 : decode cX6_step 186 = .ok (.aload_n 0, 1) := by decide +kernel
theorem dX6_step_187 : decode cX6_step 187 = .ok (.getfield 26, 3) := by decide +kernel
theorem dX6_step_190 : decode cX6_step 190 = .ok (.isub, 1) := by decide +kernel
theorem dX6_step_191 : decode cX6_step 191 = .ok (.iconst 4, 1) := by decide +kernel
theorem dX6_step_192 : decode cX6_step 192 = .ok (.if_icmp .gt 7, 3) := by decide +kernel
theorem dX6_step_195 : decode cX6_step 195 = .ok (.iconst 2, 1) := by decide +kernel
theorem dX6_step_196 : decode cX6_step 196 = .ok (.goto 4, 3) := by decide +kernel
theorem dX6_step_199 : decode cX6_step 199 = .ok (.iconst 4, 1) := by decide +kernel
theorem dX6_step_200 : decode cX6_step 200 = .ok (.putfield 35, 3) := by decide +kernel
theorem dX6_step_203 : decode cX6_step 203 = .ok (.aload_n 0, 1) := by decide +kernel
theorem dX6_step_204 : decode cX6_step 204 = .ok (.aload_n 0, 1) := by decide +kernel
theorem dX6_step_205 : decode cX6_step 205 = .ok (.getfield 35, 3) := by decide +kernel
theorem dX6_step_208 : decode cX6_step 208 = .ok (.iconst 2, 1) := by decide +kernel
theorem dX6_step_209 : decode cX6_step 209 = .ok (.if_icmp .ne 10, 3) := by decide +kernel
theorem dX6_step_212 : decode cX6_step 212 = .ok (.aload_n 0, 1) := by decide +kernel
theorem dX6_step_213 : decode cX6_step 213 = .ok (.invokevirtual 87, 3) := by decide +kernel
theorem dX6_step_216 : decode cX6_step 216 = .ok (.goto 4, 3) := by decide +kernel
theorem dX6_step_219 : decode cX6_step 219 = .ok (.iconst 0, 1) := by decide +kernel
theorem dX6_step_220 : decode cX6_step 220 = .ok (.putfield 29, 3) := by decide +kernel
theorem dX6_step_223 : decode cX6_step 223 = .ok (.goto 71, 3) := by decide +kernel
theorem dX6_step_226 : decode cX6_step 226 = .ok (.aload_n 0, 1) := by decide +kernel
theorem dX6_step_227 : decode cX6_step 227 = .ok (.aload_n 0, 1) := by decide +kernel
theorem dX6_step_228 : decode cX6_step 228 = .ok (.getfield 9, 3) := by decide +kernel
theorem dX6_step_231 : decode cX6_step 231 = .ok (.aload_n 0, 1) := by decide +kernel
theorem dX6_step_232 : decode cX6_step 232 = .ok (.getfield 23, 3) := by decide +kernel
theorem dX6_step_235 : decode cX6_step 235 = .ok (.baload, 1) := by decide +kernel
theorem dX6_step_236 : decode cX6_step 236 = .ok (.putfield 38, 3) := by decide +kernel
theorem dX6_step_239 : decode cX6_step 239 = .ok (.aload_n 0, 1) := by decide +kernel
theorem dX6_step_240 : decode cX6_step 240 = .ok (.dup, 1) := by decide +kernel
theorem dX6_step_241 : decode cX6_step 241 = .ok (.getfield 23, 3) := by decide +kernel
theorem dX6_step_244 : decode cX6_step 244 = .ok (.iconst 1, 1) := by decide +kernel
theorem dX6_step_245 : decode cX6_step 245 = .ok (.iadd, 1) := by decide +kernel
theorem dX6_step_246 : decode cX6_step 246 = .ok (.putfield 23, 3) := by decide +kernel
theorem dX6_step_249 : decode cX6_step 249 = .ok (.aload_n 0, 1) := by decide +kernel
theorem dX6_step_250 : decode cX6_step 250 = .ok (.aload_n 0, 1) := by decide +kernel
theorem dX6_step_251 : decode cX6_step 251 = .ok (.getfield 38, 3) := by decide +kernel
theorem dX6_step_254 : decode cX6_step 254 = .ok (.bipush 59, 2) := by decide +kernel
theorem dX6_step_256 : decode cX6_step 256 = .ok (.if_icmp .eq 30, 3) := by decide +kernel
theorem dX6_step_259 : decode cX6_step 259 = .ok (.aload_n 0, 1) := by decide +kernel
theorem dX6_step_260 : decode cX6_step 260 = .ok (.getfield 38, 3) := by decide +kernel
theorem dX6_step_263 : decode cX6_step 263 = .ok (.bipush 60, 2) := by decide +kernel
theorem dX6_step_265 : decode cX6_step 265 = .ok (.if_icmp .eq 21, 3) := by decide +kernel
theorem dX6_step_268 : decode cX6_step 268 = .ok (.aload_n 0, 1) := by decide +kernel
theorem dX6_step_269 : decode cX6_step 269 = .ok (.getfield 38, 3) := by decide +kernel
theorem dX6_step_272 : decode cX6_step 272 = .ok (.bipush 62, 2) := by decide +kernel
theorem dX6_step_274 : decode cX6_step 274 = .ok (.if_icmp .eq 12, 3) := by decide +kernel
theorem dX6_step_277 : decode cX6_step 277 = .ok (.aload_n 0, 1) := by decide +kernel
theorem dX6_step_278 : decode cX6_step 278 = .ok (.getfield 38, 3) := by decide +kernel
theorem dX6_step_281 : decode cX6_step 281 = .ok (.bipush 61, 2) := by decide +kernel
theorem dX6_step_283 : decode cX6_step 283 = .ok (.if_icmp .ne 7, 3) := by decide +kernel
theorem dX6_step_286 : decode cX6_step 286 = .ok (.iconst 3, 1) := by decide +kernel
theorem dX6_step_287 : decode cX6_step 287 = .ok (.goto 4, 3) := by decide +kernel
theorem dX6_step_290 : decode cX6_step 290 = .ok (.iconst 4, 1) := by decide +kernel
theorem dX6_step_291 : decode cX6_step 291 = .ok (.putfield 35, 3) := by decide +kernel
theorem dX6_step_294 : decode cX6_step 294 = .ok (.return_, 1) := by decide +kernel
set_option maxRecDepth 100000 in
theorem f_X6_step_L0_ok {E : EnvT} {C : Cx} {Mi : Mem} {x0 : Int} (h0 : x0 ≠ 0) (hC : CxOK E C cX6_step 1 yX6_step.cls 2 0 0) {M0 : Mem} (hq : RQ E C 0 0 Mi none none M0) {k : Int → Mem → Option (Mem)} (hk : ∀ q13 M14, Bk E C 1 Mi M0 52 [(0, 25, q13)] [] M14 0 0 (k q13 M14)) : ∀ (n : Nat) (p1 : Int) (M2 : Mem), Bk E C 1 Mi M0 0 [(0, 25, p1)] [] M2 0 0 (f_X6_step_L0 k n p1 M2) := by
  intro n
  induction n with
  | zero =>
    intro p1 M2
    exact r_none
  | succ n ih =>
    intro p1 M2
    rw [f_X6_step_L0]
    refine r_aload_n 0 hC 0 rfl (Or.inl (by decide)) rfl dX6_step_0 ?_
    refine r_get 1 hC fd_5_3 fl_X6_23 dX6_step_1 (fun v3 => ?_)
    refine r_aload_n 4 hC 0 rfl (Or.inl (by decide)) rfl dX6_step_4 ?_
    refine r_get 5 hC fd_5_2 fl_X6_19 dX6_step_5 (fun v4 => ?_)
    refine r_icmp_ge 8 hC (tgt := 52) (by decide) dX6_step_8 ?_ ?_
    · exact hk p1 M2
    · refine r_aload_n 11 hC 0 rfl (Or.inl (by decide)) rfl dX6_step_11 ?_
      refine r_get 12 hC fd_5_0 fl_X6_9 dX6_step_12 (fun v5 => ?_)
      refine r_aload_n 15 hC 0 rfl (Or.inl (by decide)) rfl dX6_step_15 ?_
      refine r_get 16 hC fd_5_3 fl_X6_23 dX6_step_16 (fun v6 => ?_)
      refine r_baload 19 hC dX6_step_19 (fun v7 => ?_)
      refine r_bipush 20 hC kb_10 dX6_step_20 ?_
      refine r_jn (P := fun j39 => Bk E C 1 Mi M0 39 [(0, 25, p1)] [] M2 0 0 (j39)) ?_ (fun j39 hj39 => ?_)
      · refine r_aload_n 39 hC 0 rfl (Or.inl (by decide)) rfl dX6_step_39 ?_
        refine r_dup 40 hC (by decide) dX6_step_40 ?_
        refine r_get 41 hC fd_5_3 fl_X6_23 dX6_step_41 (fun v8 => ?_)
        refine r_iconst 44 hC (r32c rfl) dX6_step_44 ?_
        refine r_iadd 45 hC dX6_step_45 ?_
        refine r_put 46 hC fd_5_3 fl_X6_23 dX6_step_46 (fun M9 => ?_)
        refine r_goto 49 hC (tgt := 0) (by decide) dX6_step_49 ?_
        exact ih p1 M9
      refine r_icmp_eq 22 hC (tgt := 39) (by decide) dX6_step_22 ?_ ?_
      · exact hj39
      · refine r_aload_n 25 hC 0 rfl (Or.inl (by decide)) rfl dX6_step_25 ?_
        refine r_get 26 hC fd_5_0 fl_X6_9 dX6_step_26 (fun v10 => ?_)
        refine r_aload_n 29 hC 0 rfl (Or.inl (by decide)) rfl dX6_step_29 ?_
        refine r_get 30 hC fd_5_3 fl_X6_23 dX6_step_30 (fun v11 => ?_)
        refine r_baload 33 hC dX6_step_33 (fun v12 => ?_)
        refine r_bipush 34 hC kb_32 dX6_step_34 ?_
        refine r_icmp_ne 36 hC (tgt := 52) (by decide) dX6_step_36 ?_ ?_
        · exact hk p1 M2
        · exact hj39
set_option maxRecDepth 100000 in
theorem t_X6_step (x0 : Int) (M : Mem) (h0 : x0 ≠ 0) : MtV yX6_step cX6_step 1 none 2 0 0 [(25, x0)] M (f_X6_step x0 M) := by
  refine mk_V (by decide +kernel) (Nat.le_of_ble_eq_true rfl) (fun E C M0 hC hq hin => ?_)
  refine r_eqls (ls' := [(0, 25, x0)]) rfl ?_
  unfold f_X6_step
  refine f_X6_step_L0_ok h0 hC hq (fun q15 M16 => ?_) KF x0 M
  · refine r_aload_n 52 hC 0 rfl (Or.inl (by decide)) rfl dX6_step_52 ?_
    refine r_aload_n 53 hC 0 rfl (Or.inl (by decide)) rfl dX6_step_53 ?_
    refine r_get 54 hC fd_5_3 fl_X6_23 dX6_step_54 (fun v17 => ?_)
    refine r_put 57 hC fd_5_4 fl_X6_26 dX6_step_57 (fun M18 => ?_)
    refine r_aload_n 60 hC 0 rfl (Or.inl (by decide)) rfl dX6_step_60 ?_
    refine r_iconst 61 hC (r32c rfl) dX6_step_61 ?_
    refine r_put 62 hC fd_5_9 fl_X6_41 dX6_step_62 (fun M19 => ?_)
    refine r_aload_n 65 hC 0 rfl (Or.inl (by decide)) rfl dX6_step_65 ?_
    refine r_lconst 66 hC (x := 0) ⟨by decide +kernel, r64c rfl⟩ dX6_step_66 ?_
    refine r_put 67 hC fd_5_10 fl_X6_44 dX6_step_67 (fun M20 => ?_)
    refine r_aload_n 70 hC 0 rfl (Or.inl (by decide)) rfl dX6_step_70 ?_
    refine r_get 71 hC fd_5_3 fl_X6_23 dX6_step_71 (fun v21 => ?_)
    refine r_aload_n 74 hC 0 rfl (Or.inl (by decide)) rfl dX6_step_74 ?_
    refine r_get 75 hC fd_5_2 fl_X6_19 dX6_step_75 (fun v22 => ?_)
    refine r_jn (P := fun j294 => ∀ (M23 : Mem), Bk E C 1 M M0 294 [] [] M23 0 0 (j294 M23)) ?_ (fun j294 hj294 => ?_)
    · intro M23
      exact r_return 294 hC hq (by decide) (by decide) dX6_step_294
    refine r_icmp_lt 78 hC (tgt := 89) (by decide) dX6_step_78 ?_ ?_
    · refine r_aload_n 89 hC 0 rfl (Or.inl (by decide)) rfl dX6_step_89 ?_
      refine r_get 90 hC fd_5_0 fl_X6_9 dX6_step_90 (fun v24 => ?_)
      refine r_aload_n 93 hC 0 rfl (Or.inl (by decide)) rfl dX6_step_93 ?_
      refine r_get 94 hC fd_5_3 fl_X6_23 dX6_step_94 (fun v25 => ?_)
      refine r_baload 97 hC dX6_step_97 (fun v26 => ?_)
      refine r_bipush 98 hC kb_97 dX6_step_98 ?_
      refine r_jn (P := fun j141 => Bk E C 1 M M0 141 [(0, 25, q15)] [] M20 0 0 (j141)) ?_ (fun j141 hj141 => ?_)
      · refine r_aload_n 141 hC 0 rfl (Or.inl (by decide)) rfl dX6_step_141 ?_
        refine r_get 142 hC fd_5_0 fl_X6_9 dX6_step_142 (fun v27 => ?_)
        refine r_aload_n 145 hC 0 rfl (Or.inl (by decide)) rfl dX6_step_145 ?_
        refine r_get 146 hC fd_5_3 fl_X6_23 dX6_step_146 (fun v28 => ?_)
        refine r_baload 149 hC dX6_step_149 (fun v29 => ?_)
        refine r_bipush 150 hC kb_48 dX6_step_150 ?_
        refine r_jn (P := fun j226 => Bk E C 1 M M0 226 [(0, 25, q15)] [] M20 0 0 (j226)) ?_ (fun j226 hj226 => ?_)
        · refine r_aload_n 226 hC 0 rfl (Or.inl (by decide)) rfl dX6_step_226 ?_
          refine r_aload_n 227 hC 0 rfl (Or.inl (by decide)) rfl dX6_step_227 ?_
          refine r_get 228 hC fd_5_0 fl_X6_9 dX6_step_228 (fun v30 => ?_)
          refine r_aload_n 231 hC 0 rfl (Or.inl (by decide)) rfl dX6_step_231 ?_
          refine r_get 232 hC fd_5_3 fl_X6_23 dX6_step_232 (fun v31 => ?_)
          refine r_baload 235 hC dX6_step_235 (fun v32 => ?_)
          refine r_put 236 hC fd_5_8 fl_X6_38 dX6_step_236 (fun M33 => ?_)
          refine r_aload_n 239 hC 0 rfl (Or.inl (by decide)) rfl dX6_step_239 ?_
          refine r_dup 240 hC (by decide) dX6_step_240 ?_
          refine r_get 241 hC fd_5_3 fl_X6_23 dX6_step_241 (fun v34 => ?_)
          refine r_iconst 244 hC (r32c rfl) dX6_step_244 ?_
          refine r_iadd 245 hC dX6_step_245 ?_
          refine r_put 246 hC fd_5_3 fl_X6_23 dX6_step_246 (fun M35 => ?_)
          refine r_aload_n 249 hC 0 rfl (Or.inl (by decide)) rfl dX6_step_249 ?_
          refine r_aload_n 250 hC 0 rfl (Or.inl (by decide)) rfl dX6_step_250 ?_
          refine r_get 251 hC fd_5_8 fl_X6_38 dX6_step_251 (fun v36 => ?_)
          refine r_bipush 254 hC kb_59 dX6_step_254 ?_
          refine r_jn (P := fun j291 => ∀ (q37 : Int), Bk E C 1 M M0 291 [] [(0, q37), (25, q15)] M35 0 0 (j291 q37)) ?_ (fun j291 hj291 => ?_)
          · intro q37
            refine r_put 291 hC fd_5_7 fl_X6_35 dX6_step_291 (fun M38 => ?_)
            exact hj294 M38
          refine r_jn (P := fun j286 => Bk E C 1 M M0 286 [] [(25, q15)] M35 0 0 (j286)) ?_ (fun j286 hj286 => ?_)
          · refine r_iconst 286 hC (r32c rfl) dX6_step_286 ?_
            refine r_goto 287 hC (tgt := 291) (by decide) dX6_step_287 ?_
            exact hj291 3
          refine r_icmp_eq 256 hC (tgt := 286) (by decide) dX6_step_256 ?_ ?_
          · exact r_sub [] rfl (hj286)
          · refine r_aload_n 259 hC 0 rfl (Or.inl (by decide)) rfl dX6_step_259 ?_
            refine r_get 260 hC fd_5_8 fl_X6_38 dX6_step_260 (fun v39 => ?_)
            refine r_bipush 263 hC kb_60 dX6_step_263 ?_
            refine r_icmp_eq 265 hC (tgt := 286) (by decide) dX6_step_265 ?_ ?_
            · exact r_sub [] rfl (hj286)
            · refine r_aload_n 268 hC 0 rfl (Or.inl (by decide)) rfl dX6_step_268 ?_
              refine r_get 269 hC fd_5_8 fl_X6_38 dX6_step_269 (fun v40 => ?_)
              refine r_bipush 272 hC kb_62 dX6_step_272 ?_
              refine r_icmp_eq 274 hC (tgt := 286) (by decide) dX6_step_274 ?_ ?_
              · exact r_sub [] rfl (hj286)
              · refine r_aload_n 277 hC 0 rfl (Or.inl (by decide)) rfl dX6_step_277 ?_
                refine r_get 278 hC fd_5_8 fl_X6_38 dX6_step_278 (fun v41 => ?_)
                refine r_bipush 281 hC kb_61 dX6_step_281 ?_
                refine r_icmp_ne 283 hC (tgt := 290) (by decide) dX6_step_283 ?_ ?_
                · refine r_iconst 290 hC (r32c rfl) dX6_step_290 ?_
                  exact r_sub [] rfl (hj291 4)
                · exact r_sub [] rfl (hj286)
        refine r_icmp_lt 152 hC (tgt := 226) (by decide) dX6_step_152 ?_ ?_
        · exact hj226
        · refine r_aload_n 155 hC 0 rfl (Or.inl (by decide)) rfl dX6_step_155 ?_
          refine r_get 156 hC fd_5_0 fl_X6_9 dX6_step_156 (fun v42 => ?_)
          refine r_aload_n 159 hC 0 rfl (Or.inl (by decide)) rfl dX6_step_159 ?_
          refine r_get 160 hC fd_5_3 fl_X6_23 dX6_step_160 (fun v43 => ?_)
          refine r_baload 163 hC dX6_step_163 (fun v44 => ?_)
          refine r_bipush 164 hC kb_57 dX6_step_164 ?_
          refine r_icmp_gt 166 hC (tgt := 226) (by decide) dX6_step_166 ?_ ?_
          · exact hj226
          · refine r_aload_n 169 hC 0 rfl (Or.inl (by decide)) rfl dX6_step_169 ?_
            refine r_aload_n 170 hC 0 rfl (Or.inl (by decide)) rfl dX6_step_170 ?_
            refine r_bipush 171 hC kb_48 dX6_step_171 ?_
            refine r_bipush 173 hC kb_57 dX6_step_173 ?_
            refine r_nn (fun hn45 => ?_)
            refine r_callVP 175 hC [(0, 48), (0, 57)] [(25, q15)] rfl vl_X6_80 rfl hn45 (by decide) (Nat.le_of_ble_eq_true rfl) (by decide) (by decide) dX6_step_175 (t_X6_runEnd q15 48 57 M20 hn45) (fun v46 => ?_)
            refine r_put 178 hC fd_5_3 fl_X6_23 dX6_step_178 (fun M47 => ?_)
            refine r_aload_n 181 hC 0 rfl (Or.inl (by decide)) rfl dX6_step_181 ?_
            refine r_aload_n 182 hC 0 rfl (Or.inl (by decide)) rfl dX6_step_182 ?_
            refine r_get 183 hC fd_5_3 fl_X6_23 dX6_step_183 (fun v48 => ?_)
            refine r_aload_n 186 hC 0 rfl (Or.inl (by decide)) rfl dX6_step_186 ?_
            refine r_get 187 hC fd_5_4 fl_X6_26 dX6_step_187 (fun v49 => ?_)
            refine r_isub 190 hC dX6_step_190 ?_
            refine r_iconst 191 hC (r32c rfl) dX6_step_191 ?_
            refine r_jn (P := fun j200 => ∀ (q50 : Int), Bk E C 1 M M0 200 [(0, 25, q15)] [(0, q50), (25, q15)] M47 0 0 (j200 q50)) ?_ (fun j200 hj200 => ?_)
            · intro q50
              refine r_put 200 hC fd_5_7 fl_X6_35 dX6_step_200 (fun M51 => ?_)
              refine r_aload_n 203 hC 0 rfl (Or.inl (by decide)) rfl dX6_step_203 ?_
              refine r_aload_n 204 hC 0 rfl (Or.inl (by decide)) rfl dX6_step_204 ?_
              refine r_get 205 hC fd_5_7 fl_X6_35 dX6_step_205 (fun v52 => ?_)
              refine r_iconst 208 hC (r32c rfl) dX6_step_208 ?_
              refine r_jn (P := fun j220 => ∀ (q53 : Int), Bk E C 1 M M0 220 [] [(0, q53), (25, q15)] M51 0 0 (j220 q53)) ?_ (fun j220 hj220 => ?_)
              · intro q53
                refine r_put 220 hC fd_5_5 fl_X6_29 dX6_step_220 (fun M54 => ?_)
                refine r_goto 223 hC (tgt := 294) (by decide) dX6_step_223 ?_
                exact hj294 M54
              refine r_icmp_ne 209 hC (tgt := 219) (by decide) dX6_step_209 ?_ ?_
              · refine r_iconst 219 hC (r32c rfl) dX6_step_219 ?_
                exact r_sub [] rfl (hj220 0)
              · refine r_aload_n 212 hC 0 rfl (Or.inl (by decide)) rfl dX6_step_212 ?_
                refine r_callVP 213 hC [] [(25, q15)] rfl vl_X6_87 rfl hn45 (by decide) (Nat.le_of_ble_eq_true rfl) (by decide) (by decide) dX6_step_213 (t_X6_value q15 M51 hn45) (fun v55 => ?_)
                refine r_goto 216 hC (tgt := 220) (by decide) dX6_step_216 ?_
                exact r_sub [] rfl (hj220 v55)
            refine r_icmp_gt 192 hC (tgt := 199) (by decide) dX6_step_192 ?_ ?_
            · refine r_iconst 199 hC (r32c rfl) dX6_step_199 ?_
              exact hj200 4
            · refine r_iconst 195 hC (r32c rfl) dX6_step_195 ?_
              refine r_goto 196 hC (tgt := 200) (by decide) dX6_step_196 ?_
              exact hj200 2
      refine r_icmp_lt 100 hC (tgt := 141) (by decide) dX6_step_100 ?_ ?_
      · exact hj141
      · refine r_aload_n 103 hC 0 rfl (Or.inl (by decide)) rfl dX6_step_103 ?_
        refine r_get 104 hC fd_5_0 fl_X6_9 dX6_step_104 (fun v56 => ?_)
        refine r_aload_n 107 hC 0 rfl (Or.inl (by decide)) rfl dX6_step_107 ?_
        refine r_get 108 hC fd_5_3 fl_X6_23 dX6_step_108 (fun v57 => ?_)
        refine r_baload 111 hC dX6_step_111 (fun v58 => ?_)
        refine r_bipush 112 hC kb_122 dX6_step_112 ?_
        refine r_icmp_gt 114 hC (tgt := 141) (by decide) dX6_step_114 ?_ ?_
        · exact hj141
        · refine r_aload_n 117 hC 0 rfl (Or.inl (by decide)) rfl dX6_step_117 ?_
          refine r_aload_n 118 hC 0 rfl (Or.inl (by decide)) rfl dX6_step_118 ?_
          refine r_bipush 119 hC kb_97 dX6_step_119 ?_
          refine r_bipush 121 hC kb_122 dX6_step_121 ?_
          refine r_nn (fun hn59 => ?_)
          refine r_callVP 123 hC [(0, 97), (0, 122)] [(25, q15)] rfl vl_X6_80 rfl hn59 (by decide) (Nat.le_of_ble_eq_true rfl) (by decide) (by decide) dX6_step_123 (t_X6_runEnd q15 97 122 M20 hn59) (fun v60 => ?_)
          refine r_put 126 hC fd_5_3 fl_X6_23 dX6_step_126 (fun M61 => ?_)
          refine r_aload_n 129 hC 0 rfl (Or.inl (by decide)) rfl dX6_step_129 ?_
          refine r_iconst 130 hC (r32c rfl) dX6_step_130 ?_
          refine r_put 131 hC fd_5_7 fl_X6_35 dX6_step_131 (fun M62 => ?_)
          refine r_aload_n 134 hC 0 rfl (Or.inl (by decide)) rfl dX6_step_134 ?_
          refine r_callVV 135 hC [] [] rfl vl_X6_84 rfl hn59 (by decide) (Nat.le_of_ble_eq_true rfl) (by decide) (by decide) dX6_step_135 (t_X6_spell q15 M62 hn59) (fun M63 => ?_)
          refine r_goto 138 hC (tgt := 294) (by decide) dX6_step_138 ?_
          exact r_sub [] rfl (hj294 M63)
    · refine r_aload_n 81 hC 0 rfl (Or.inl (by decide)) rfl dX6_step_81 ?_
      refine r_iconst 82 hC (r32c rfl) dX6_step_82 ?_
      refine r_put 83 hC fd_5_7 fl_X6_35 dX6_step_83 (fun M64 => ?_)
      refine r_goto 86 hC (tgt := 294) (by decide) dX6_step_86 ?_
      exact r_sub [] rfl (hj294 M64)

/-! WaterTurns$Tape.begin(I)V -/
theorem dX6_begin_0 : decode cX6_begin 0 = .ok (.aload_n 0, 1) := by decide +kernel
theorem dX6_begin_1 : decode cX6_begin 1 = .ok (.iload_n 1, 1) := by decide +kernel
theorem dX6_begin_2 : decode cX6_begin 2 = .ok (.aload_n 0, 1) := by decide +kernel
theorem dX6_begin_3 : decode cX6_begin 3 = .ok (.getfield 32, 3) := by decide +kernel
theorem dX6_begin_6 : decode cX6_begin 6 = .ok (.invokestatic 71, 3) := by decide +kernel
theorem dX6_begin_9 : decode cX6_begin 9 = .ok (.putfield 19, 3) := by decide +kernel
theorem dX6_begin_12 : decode cX6_begin 12 = .ok (.aload_n 0, 1) := by decide +kernel
theorem dX6_begin_13 : decode cX6_begin 13 = .ok (.iconst 0, 1) := by decide +kernel
theorem dX6_begin_14 : decode cX6_begin 14 = .ok (.putfield 23, 3) := by decide +kernel
theorem dX6_begin_17 : decode cX6_begin 17 = .ok (.aload_n 0, 1) := by decide +kernel
theorem dX6_begin_18 : decode cX6_begin 18 = .ok (.iconst 0, 1) := by decide +kernel
theorem dX6_begin_19 : decode cX6_begin 19 = .ok (.putfield 48, 3) := by decide +kernel
theorem dX6_begin_22 : decode cX6_begin 22 = .ok (.aload_n 0, 1) := by decide +kernel
theorem dX6_begin_23 : decode cX6_begin 23 = .ok (.iconst (-1), 1) := by decide +kernel
theorem dX6_begin_24 : decode cX6_begin 24 = .ok (.putfield 51, 3) := by decide +kernel
theorem dX6_begin_27 : decode cX6_begin 27 = .ok (.aload_n 0, 1) := by decide +kernel
theorem dX6_begin_28 : decode cX6_begin 28 = .ok (.invokevirtual 77, 3) := by decide +kernel
theorem dX6_begin_31 : decode cX6_begin 31 = .ok (.return_, 1) := by decide +kernel
set_option maxRecDepth 100000 in
theorem t_X6_begin (x0 x1 : Int) (M : Mem) (h0 : x0 ≠ 0) : MtV yX6_begin cX6_begin 2 none 3 0 0 [(25, x0), (0, x1)] M (f_X6_begin x0 x1 M) := by
  refine mk_V (by decide +kernel) (Nat.le_of_ble_eq_true rfl) (fun E C M0 hC hq hin => ?_)
  refine r_eqls (ls' := [(0, 25, x0), (1, 0, x1)]) rfl ?_
  unfold f_X6_begin
  refine r_aload_n 0 hC 0 rfl (Or.inl (by decide)) rfl dX6_begin_0 ?_
  refine r_iload_n 1 hC 1 rfl rfl dX6_begin_1 ?_
  refine r_aload_n 2 hC 0 rfl (Or.inl (by decide)) rfl dX6_begin_2 ?_
  refine r_get 3 hC fd_5_6 fl_X6_32 dX6_begin_3 (fun v1 => ?_)
  refine r_callSP 6 hC [(0, x1), (0, v1)] [(25, x0)] rfl sl_X6_71 rfl (by decide) (Nat.le_of_ble_eq_true rfl) (by decide) (by decide) dX6_begin_6 (t_J9_min_7cf53 x1 v1 M) (fun v2 => ?_)
  refine r_put 9 hC fd_5_2 fl_X6_19 dX6_begin_9 (fun M3 => ?_)
  refine r_aload_n 12 hC 0 rfl (Or.inl (by decide)) rfl dX6_begin_12 ?_
  refine r_iconst 13 hC (r32c rfl) dX6_begin_13 ?_
  refine r_put 14 hC fd_5_3 fl_X6_23 dX6_begin_14 (fun M4 => ?_)
  refine r_aload_n 17 hC 0 rfl (Or.inl (by decide)) rfl dX6_begin_17 ?_
  refine r_iconst 18 hC (r32c rfl) dX6_begin_18 ?_
  refine r_put 19 hC fd_5_11 fl_X6_48 dX6_begin_19 (fun M5 => ?_)
  refine r_aload_n 22 hC 0 rfl (Or.inl (by decide)) rfl dX6_begin_22 ?_
  refine r_iconst 23 hC (r32c rfl) dX6_begin_23 ?_
  refine r_put 24 hC fd_5_12 fl_X6_51 dX6_begin_24 (fun M6 => ?_)
  refine r_aload_n 27 hC 0 rfl (Or.inl (by decide)) rfl dX6_begin_27 ?_
  refine r_callVV 28 hC [] [] rfl vl_X6_77 rfl h0 (by decide) (Nat.le_of_ble_eq_true rfl) (by decide) (by decide) dX6_begin_28 (t_X6_step x0 M6 h0) (fun M7 => ?_)
  exact r_return 31 hC hq (by decide) (by decide) dX6_begin_31

/-! WaterTurns$Tape.isAtEnd()Z -/
theorem dX6_isAtEnd_0 : decode cX6_isAtEnd 0 = .ok (.aload_n 0, 1) := by decide +kernel
theorem dX6_isAtEnd_1 : decode cX6_isAtEnd 1 = .ok (.getfield 35, 3) := by decide +kernel
theorem dX6_isAtEnd_4 : decode cX6_isAtEnd 4 = .ok (.ifCond .ne 7, 3) := by decide +kernel
theorem dX6_isAtEnd_7 : decode cX6_isAtEnd 7 = .ok (.iconst 1, 1) := by decide +kernel
theorem dX6_isAtEnd_8 : decode cX6_isAtEnd 8 = .ok (.goto 4, 3) := by decide +kernel
theorem dX6_isAtEnd_11 : decode cX6_isAtEnd 11 = .ok (.iconst 0, 1) := by decide +kernel
theorem dX6_isAtEnd_12 : decode cX6_isAtEnd 12 = .ok (.ireturn, 1) := by decide +kernel
set_option maxRecDepth 100000 in
theorem t_X6_isAtEnd (x0 : Int) (M : Mem) (h0 : x0 ≠ 0) : MtP yX6_isAtEnd cX6_isAtEnd 1 (some .boolean) 1 0 0 [(25, x0)] M 0 (f_X6_isAtEnd x0 M) := by
  refine mk_P (by decide +kernel) (Nat.le_of_ble_eq_true rfl) (fun E C r0 hC hq hin => ?_)
  refine r_eqls (ls' := [(0, 25, x0)]) rfl ?_
  unfold f_X6_isAtEnd
  refine r_aload_n 0 hC 0 rfl (Or.inl (by decide)) rfl dX6_isAtEnd_0 ?_
  refine r_get 1 hC fd_5_7 fl_X6_35 dX6_isAtEnd_1 (fun v1 => ?_)
  refine r_jn (P := fun j12 => ∀ (q2 : Int), Bk E C 1 M r0 12 [] [(0, q2)] M 0 0 (j12 q2)) ?_ (fun j12 hj12 => ?_)
  · intro q2
    exact r_zreturnP 12 hC hq (by decide) (by decide) dX6_isAtEnd_12
  refine r_if_ne 4 hC (tgt := 11) (by decide) dX6_isAtEnd_4 ?_ ?_
  · refine r_iconst 11 hC (r32c rfl) dX6_isAtEnd_11 ?_
    exact r_sub [] rfl (hj12 0)
  · refine r_iconst 7 hC (r32c rfl) dX6_isAtEnd_7 ?_
    refine r_goto 8 hC (tgt := 12) (by decide) dX6_isAtEnd_8 ?_
    exact r_sub [] rfl (hj12 1)

/-! WaterTurns$Tape.isAt(I)Z -/
theorem dX6_isAt_0 : decode cX6_isAt 0 = .ok (.aload_n 0, 1) := by decide +kernel
theorem dX6_isAt_1 : decode cX6_isAt 1 = .ok (.getfield 35, 3) := by decide +kernel
theorem dX6_isAt_4 : decode cX6_isAt 4 = .ok (.iconst 1, 1) := by decide +kernel
theorem dX6_isAt_5 : decode cX6_isAt 5 = .ok (.if_icmp .ne 15, 3) := by decide +kernel
theorem dX6_isAt_8 : decode cX6_isAt 8 = .ok (.aload_n 0, 1) := by decide +kernel
theorem dX6_isAt_9 : decode cX6_isAt 9 = .ok (.getfield 41, 3) := by decide +kernel
theorem dX6_isAt_12 : decode cX6_isAt 12 = .ok (.iload_n 1, 1) := by decide +kernel
theorem dX6_isAt_13 : decode cX6_isAt 13 = .ok (.if_icmp .ne 7, 3) := by decide +kernel
theorem dX6_isAt_16 : decode cX6_isAt 16 = .ok (.iconst 1, 1) := by decide +kernel
theorem dX6_isAt_17 : decode cX6_isAt 17 = .ok (.goto 4, 3) := by decide +kernel
theorem dX6_isAt_20 : decode cX6_isAt 20 = .ok (.iconst 0, 1) := by decide +kernel
theorem dX6_isAt_21 : decode cX6_isAt 21 = .ok (.ireturn, 1) := by decide +kernel
set_option maxRecDepth 100000 in
theorem t_X6_isAt (x0 x1 : Int) (M : Mem) (h0 : x0 ≠ 0) : MtP yX6_isAt cX6_isAt 2 (some .boolean) 1 0 0 [(25, x0), (0, x1)] M 0 (f_X6_isAt x0 x1 M) := by
  refine mk_P (by decide +kernel) (Nat.le_of_ble_eq_true rfl) (fun E C r0 hC hq hin => ?_)
  refine r_eqls (ls' := [(0, 25, x0), (1, 0, x1)]) rfl ?_
  unfold f_X6_isAt
  refine r_aload_n 0 hC 0 rfl (Or.inl (by decide)) rfl dX6_isAt_0 ?_
  refine r_get 1 hC fd_5_7 fl_X6_35 dX6_isAt_1 (fun v1 => ?_)
  refine r_iconst 4 hC (r32c rfl) dX6_isAt_4 ?_
  refine r_jn (P := fun j21 => ∀ (q2 : Int), Bk E C 2 M r0 21 [] [(0, q2)] M 0 0 (j21 q2)) ?_ (fun j21 hj21 => ?_)
  · intro q2
    exact r_zreturnP 21 hC hq (by decide) (by decide) dX6_isAt_21
  refine r_jn (P := fun j20 => Bk E C 2 M r0 20 [] [] M 0 0 (j20)) ?_ (fun j20 hj20 => ?_)
  · refine r_iconst 20 hC (r32c rfl) dX6_isAt_20 ?_
    exact hj21 0
  refine r_icmp_ne 5 hC (tgt := 20) (by decide) dX6_isAt_5 ?_ ?_
  · exact r_sub [] rfl (hj20)
  · refine r_aload_n 8 hC 0 rfl (Or.inl (by decide)) rfl dX6_isAt_8 ?_
    refine r_get 9 hC fd_5_9 fl_X6_41 dX6_isAt_9 (fun v3 => ?_)
    refine r_iload_n 12 hC 1 rfl rfl dX6_isAt_12 ?_
    refine r_icmp_ne 13 hC (tgt := 20) (by decide) dX6_isAt_13 ?_ ?_
    · exact r_sub [] rfl (hj20)
    · refine r_iconst 16 hC (r32c rfl) dX6_isAt_16 ?_
      refine r_goto 17 hC (tgt := 21) (by decide) dX6_isAt_17 ?_
      exact r_sub [] rfl (hj21 1)

/-! WaterTurns$Tape.blame(I)Z -/
theorem dX6_blame_0 : decode cX6_blame 0 = .ok (.aload_n 0, 1) := by decide +kernel
theorem dX6_blame_1 : decode cX6_blame 1 = .ok (.getfield 48, 3) := by decide +kernel
theorem dX6_blame_4 : decode cX6_blame 4 = .ok (.ifCond .ne 28, 3) := by decide +kernel
theorem dX6_blame_7 : decode cX6_blame 7 = .ok (.aload_n 0, 1) := by decide +kernel
theorem dX6_blame_8 : decode cX6_blame 8 = .ok (.aload_n 0, 1) := by decide +kernel
theorem dX6_blame_9 : decode cX6_blame 9 = .ok (.getfield 35, 3) := by decide +kernel
theorem dX6_blame_12 : decode cX6_blame 12 = .ok (.iconst 4, 1) := by decide +kernel
theorem dX6_blame_13 : decode cX6_blame 13 = .ok (.if_icmp .ne 7, 3) := by decide +kernel
theorem dX6_blame_16 : decode cX6_blame 16 = .ok (.iconst 1, 1) := by decide +kernel
theorem dX6_blame_17 : decode cX6_blame 17 = .ok (.goto 4, 3) := by decide +kernel
theorem dX6_blame_20 : decode cX6_blame 20 = .ok (.iload_n 1, 1) := by decide +kernel
theorem dX6_blame_21 : decode cX6_blame 21 = .ok (.putfield 48, 3) := by decide +kernel
theorem dX6_blame_24 : decode cX6_blame 24 = .ok (.aload_n 0, 1) := by decide +kernel
theorem dX6_blame_25 : decode cX6_blame 25 = .ok (.aload_n 0, 1) := by decide +kernel
theorem dX6_blame_26 : decode cX6_blame 26 = .ok (.getfield 26, 3) := by decide +kernel
theorem dX6_blame_29 : decode cX6_blame 29 = .ok (.putfield 51, 3) := by decide +kernel
theorem dX6_blame_32 : decode cX6_blame 32 = .ok (.iconst 0, 1) := by decide +kernel
theorem dX6_blame_33 : decode cX6_blame 33 = .ok (.ireturn, 1) := by decide +kernel
set_option maxRecDepth 100000 in
theorem t_X6_blame (x0 x1 : Int) (M : Mem) (h0 : x0 ≠ 0) : MtI yX6_blame cX6_blame 2 (some .boolean) 1 0 0 [(25, x0), (0, x1)] M 0 (f_X6_blame x0 x1 M) := by
  refine mk_I (by decide +kernel) (Nat.le_of_ble_eq_true rfl) (fun E C r0 M0 hC hq hin => ?_)
  refine r_eqls (ls' := [(0, 25, x0), (1, 0, x1)]) rfl ?_
  unfold f_X6_blame
  refine r_aload_n 0 hC 0 rfl (Or.inl (by decide)) rfl dX6_blame_0 ?_
  refine r_get 1 hC fd_5_11 fl_X6_48 dX6_blame_1 (fun v1 => ?_)
  refine r_jn (P := fun j32 => ∀ (M2 : Mem), Bk E C 2 M (r0, M0) 32 [] [] M2 0 0 (j32 M2)) ?_ (fun j32 hj32 => ?_)
  · intro M2
    refine r_iconst 32 hC (r32c rfl) dX6_blame_32 ?_
    exact r_zreturn 33 hC hq (by decide) (by decide) dX6_blame_33
  refine r_if_ne 4 hC (tgt := 32) (by decide) dX6_blame_4 ?_ ?_
  · exact r_sub [] rfl (hj32 M)
  · refine r_aload_n 7 hC 0 rfl (Or.inl (by decide)) rfl dX6_blame_7 ?_
    refine r_aload_n 8 hC 0 rfl (Or.inl (by decide)) rfl dX6_blame_8 ?_
    refine r_get 9 hC fd_5_7 fl_X6_35 dX6_blame_9 (fun v3 => ?_)
    refine r_iconst 12 hC (r32c rfl) dX6_blame_12 ?_
    refine r_jn (P := fun j21 => ∀ (q4 : Int), Bk E C 2 M (r0, M0) 21 [(0, 25, x0)] [(0, q4), (25, x0)] M 0 0 (j21 q4)) ?_ (fun j21 hj21 => ?_)
    · intro q4
      refine r_put 21 hC fd_5_11 fl_X6_48 dX6_blame_21 (fun M5 => ?_)
      refine r_aload_n 24 hC 0 rfl (Or.inl (by decide)) rfl dX6_blame_24 ?_
      refine r_aload_n 25 hC 0 rfl (Or.inl (by decide)) rfl dX6_blame_25 ?_
      refine r_get 26 hC fd_5_4 fl_X6_26 dX6_blame_26 (fun v6 => ?_)
      refine r_put 29 hC fd_5_12 fl_X6_51 dX6_blame_29 (fun M7 => ?_)
      exact r_sub [] rfl (hj32 M7)
    refine r_icmp_ne 13 hC (tgt := 20) (by decide) dX6_blame_13 ?_ ?_
    · refine r_iload_n 20 hC 1 rfl rfl dX6_blame_20 ?_
      exact r_sub [0] rfl (hj21 x1)
    · refine r_iconst 16 hC (r32c rfl) dX6_blame_16 ?_
      refine r_goto 17 hC (tgt := 21) (by decide) dX6_blame_17 ?_
      exact r_sub [0] rfl (hj21 1)

/-! WaterTurns$Tape.skipSemicolon()Z -/
theorem dX6_skipSemicolon_0 : decode cX6_skipSemicolon 0 = .ok (.aload_n 0, 1) := by decide +kernel
theorem dX6_skipSemicolon_1 : decode cX6_skipSemicolon 1 = .ok (.getfield 35, 3) := by decide +kernel
theorem dX6_skipSemicolon_4 : decode cX6_skipSemicolon 4 = .ok (.iconst 3, 1) := by decide +kernel
theorem dX6_skipSemicolon_5 : decode cX6_skipSemicolon 5 = .ok (.if_icmp .ne 12, 3) := by decide +kernel
theorem dX6_skipSemicolon_8 : decode cX6_skipSemicolon 8 = .ok (.aload_n 0, 1) := by decide +kernel
theorem dX6_skipSemicolon_9 : decode cX6_skipSemicolon 9 = .ok (.getfield 38, 3) := by decide +kernel
theorem dX6_skipSemicolon_12 : decode cX6_skipSemicolon 12 = .ok (.bipush 59, 2) := by decide +kernel
theorem dX6_skipSemicolon_14 : decode cX6_skipSemicolon 14 = .ok (.if_icmp .eq 9, 3) := by decide +kernel
theorem dX6_skipSemicolon_17 : decode cX6_skipSemicolon 17 = .ok (.aload_n 0, 1) := by decide +kernel
theorem dX6_skipSemicolon_18 : decode cX6_skipSemicolon 18 = .ok (.iconst 2, 1) := by decide +kernel
theorem dX6_skipSemicolon_19 : decode cX6_skipSemicolon 19 = .ok (.invokevirtual 94, 3) := by decide +kernel
theorem dX6_skipSemicolon_22 : decode cX6_skipSemicolon 22 = .ok (.ireturn, 1) := by decide +kernel
theorem dX6_skipSemicolon_23 : decode cX6_skipSemicolon 23 = .ok (.aload_n 0, 1) := by decide +kernel
theorem dX6_skipSemicolon_24 : decode cX6_skipSemicolon 24 = .ok (.invokevirtual 77, 3) := by decide +kernel
theorem dX6_skipSemicolon_27 : decode cX6_skipSemicolon 27 = .ok (.iconst 1, 1) := by decide +kernel
theorem dX6_skipSemicolon_28 : decode cX6_skipSemicolon 28 = .ok (.ireturn, 1) := by decide +kernel
set_option maxRecDepth 100000 in
theorem t_X6_skipSemicolon (x0 : Int) (M : Mem) (h0 : x0 ≠ 0) : MtI yX6_skipSemicolon cX6_skipSemicolon 1 (some .boolean) 3 0 0 [(25, x0)] M 0 (f_X6_skipSemicolon x0 M) := by
  refine mk_I (by decide +kernel) (Nat.le_of_ble_eq_true rfl) (fun E C r0 M0 hC hq hin => ?_)
  refine r_eqls (ls' := [(0, 25, x0)]) rfl ?_
  unfold f_X6_skipSemicolon
  refine r_aload_n 0 hC 0 rfl (Or.inl (by decide)) rfl dX6_skipSemicolon_0 ?_
  refine r_get 1 hC fd_5_7 fl_X6_35 dX6_skipSemicolon_1 (fun v1 => ?_)
  refine r_iconst 4 hC (r32c rfl) dX6_skipSemicolon_4 ?_
  refine r_jn (P := fun j17 => Bk E C 1 M (r0, M0) 17 [(0, 25, x0)] [] M 0 0 (j17)) ?_ (fun j17 hj17 => ?_)
  · refine r_aload_n 17 hC 0 rfl (Or.inl (by decide)) rfl dX6_skipSemicolon_17 ?_
    refine r_iconst 18 hC (r32c rfl) dX6_skipSemicolon_18 ?_
    refine r_callVI 19 hC [(0, 2)] [] rfl vl_X6_94 rfl h0 (by decide) (Nat.le_of_ble_eq_true rfl) (by decide) (by decide) dX6_skipSemicolon_19 (t_X6_blame x0 2 M h0) (fun v2 M3 => ?_)
    exact r_zreturn 22 hC hq (by decide) (by decide) dX6_skipSemicolon_22
  refine r_icmp_ne 5 hC (tgt := 17) (by decide) dX6_skipSemicolon_5 ?_ ?_
  · exact hj17
  · refine r_aload_n 8 hC 0 rfl (Or.inl (by decide)) rfl dX6_skipSemicolon_8 ?_
    refine r_get 9 hC fd_5_8 fl_X6_38 dX6_skipSemicolon_9 (fun v4 => ?_)
    refine r_bipush 12 hC kb_59 dX6_skipSemicolon_12 ?_
    refine r_icmp_eq 14 hC (tgt := 23) (by decide) dX6_skipSemicolon_14 ?_ ?_
    · refine r_aload_n 23 hC 0 rfl (Or.inl (by decide)) rfl dX6_skipSemicolon_23 ?_
      refine r_callVV 24 hC [] [] rfl vl_X6_77 rfl h0 (by decide) (Nat.le_of_ble_eq_true rfl) (by decide) (by decide) dX6_skipSemicolon_24 (t_X6_step x0 M h0) (fun M5 => ?_)
      refine r_iconst 27 hC (r32c rfl) dX6_skipSemicolon_27 ?_
      exact r_zreturn 28 hC hq (by decide) (by decide) dX6_skipSemicolon_28
    · exact hj17

/-! WaterTurns$DaysReader.readEnd(LWaterTurns$Tape;LWaterTurns$Days;)Z -/
theorem dX1_readEnd_0 : decode cX1_readEnd 0 = .ok (.aload_n 1, 1) := by decide +kernel
theorem dX1_readEnd_1 : decode cX1_readEnd 1 = .ok (.invokevirtual 38, 3) := by decide +kernel
theorem dX1_readEnd_4 : decode cX1_readEnd 4 = .ok (.istore_n 2, 1) := by decide +kernel
theorem dX1_readEnd_5 : decode cX1_readEnd 5 = .ok (.iload_n 2, 1) := by decide +kernel
theorem dX1_readEnd_6 : decode cX1_readEnd 6 = .ok (.iconst (-1), 1) := by decide +kernel
theorem dX1_readEnd_7 : decode cX1_readEnd 7 = .ok (.if_icmp .ne 9, 3) := by decide +kernel
theorem dX1_readEnd_10 : decode cX1_readEnd 10 = .ok (.aload_n 0, 1) := by decide +kernel
theorem dX1_readEnd_11 : decode cX1_readEnd 11 = .ok (.iconst 2, 1) := by decide +kernel
theorem dX1_readEnd_12 : decode cX1_readEnd 12 = .ok (.invokevirtual 42, 3) := by decide +kernel
theorem dX1_readEnd_15 : decode cX1_readEnd 15 = .ok (.ireturn, 1) := by decide +kernel
theorem dX1_readEnd_16 : decode cX1_readEnd 16 = .ok (.aload_n 0, 1) := by decide +kernel
theorem dX1_readEnd_17 : decode cX1_readEnd 17 = .ok (.invokevirtual 49, 3) := by decide +kernel
theorem dX1_readEnd_20 : decode cX1_readEnd 20 = .ok (.aload_n 1, 1) := by decide +kernel
theorem dX1_readEnd_21 : decode cX1_readEnd 21 = .ok (.bipush 28, 2) := by decide +kernel
theorem dX1_readEnd_23 : decode cX1_readEnd 23 = .ok (.invokevirtual 52, 3) := by decide +kernel
theorem dX1_readEnd_26 : decode cX1_readEnd 26 = .ok (.istore_n 3, 1) := by decide +kernel
theorem dX1_readEnd_27 : decode cX1_readEnd 27 = .ok (.aload_n 1, 1) := by decide +kernel
theorem dX1_readEnd_28 : decode cX1_readEnd 28 = .ok (.getfield 56, 3) := by decide +kernel
theorem dX1_readEnd_31 : decode cX1_readEnd 31 = .ok (.iload_n 3, 1) := by decide +kernel
theorem dX1_readEnd_32 : decode cX1_readEnd 32 = .ok (.iload_n 2, 1) := by decide +kernel
theorem dX1_readEnd_33 : decode cX1_readEnd 33 = .ok (.iastore, 1) := by decide +kernel
theorem dX1_readEnd_34 : decode cX1_readEnd 34 = .ok (.aload_n 1, 1) := by decide +kernel
theorem dX1_readEnd_35 : decode cX1_readEnd 35 = .ok (.getfield 56, 3) := by decide +kernel
theorem dX1_readEnd_38 : decode cX1_readEnd 38 = .ok (.iload_n 2, 1) := by decide +kernel
theorem dX1_readEnd_39 : decode cX1_readEnd 39 = .ok (.iload_n 3, 1) := by decide +kernel
theorem dX1_readEnd_40 : decode cX1_readEnd 40 = .ok (.iastore, 1) := by decide +kernel
theorem dX1_readEnd_41 : decode cX1_readEnd 41 = .ok (.aload_n 0, 1) := by decide +kernel
theorem dX1_readEnd_42 : decode cX1_readEnd 42 = .ok (.invokevirtual 60, 3) := by decide +kernel
theorem dX1_readEnd_45 : decode cX1_readEnd 45 = .ok (.ireturn, 1) := by decide +kernel
set_option maxRecDepth 100000 in
theorem t_X1_readEnd (x0 x1 : Int) (M : Mem) : MtI yX1_readEnd cX1_readEnd 4 (some .boolean) 4 0 0 [(25, x0), (20, x1)] M 0 (f_X1_readEnd x0 x1 M) := by
  refine mk_I (by decide +kernel) (Nat.le_of_ble_eq_true rfl) (fun E C r0 M0 hC hq hin => ?_)
  refine r_eqls (ls' := [(0, 25, x0), (1, 20, x1)]) rfl ?_
  unfold f_X1_readEnd
  refine r_aload_n 0 hC 1 rfl (Or.inl (by decide)) rfl dX1_readEnd_0 ?_
  refine r_nn (fun hn1 => ?_)
  refine r_callVP 1 hC [] [] rfl vl_X1_38 rfl hn1 (by decide) (Nat.le_of_ble_eq_true rfl) (by decide) (by decide) dX1_readEnd_1 (t_X0_innermost x1 M hn1) (fun v2 => ?_)
  refine r_istore_n 4 hC rfl (by decide) dX1_readEnd_4 (r_eqls (ls' := [(2, 0, v2), (0, 25, x0), (1, 20, x1)]) rfl ?_)
  refine r_iload_n 5 hC 0 rfl rfl dX1_readEnd_5 ?_
  refine r_iconst 6 hC (r32c rfl) dX1_readEnd_6 ?_
  refine r_icmp_ne 7 hC (tgt := 16) (by decide) dX1_readEnd_7 ?_ ?_
  · refine r_aload_n 16 hC 1 rfl (Or.inl (by decide)) rfl dX1_readEnd_16 ?_
    refine r_nn (fun hn3 => ?_)
    refine r_callVV 17 hC [] [] rfl vl_X1_49 rfl hn3 (by decide) (Nat.le_of_ble_eq_true rfl) (by decide) (by decide) dX1_readEnd_17 (t_X6_step x0 M hn3) (fun M4 => ?_)
    refine r_aload_n 20 hC 2 rfl (Or.inl (by decide)) rfl dX1_readEnd_20 ?_
    refine r_bipush 21 hC kb_28 dX1_readEnd_21 ?_
    refine r_callVI 23 hC [(0, 28)] [] rfl vl_X1_52 rfl hn1 (by decide) (Nat.le_of_ble_eq_true rfl) (by decide) (by decide) dX1_readEnd_23 (t_X0_addLine x1 28 M4 hn1) (fun v5 M6 => ?_)
    refine r_istore_n 26 hC rfl (by decide) dX1_readEnd_26 (r_eqls (ls' := [(3, 0, v5), (2, 0, v2), (0, 25, x0), (1, 20, x1)]) rfl ?_)
    refine r_aload_n 27 hC 3 rfl (Or.inl (by decide)) rfl dX1_readEnd_27 ?_
    refine r_get 28 hC fd_0_9 fl_X1_56 dX1_readEnd_28 (fun v7 => ?_)
    refine r_iload_n 31 hC 0 rfl rfl dX1_readEnd_31 ?_
    refine r_iload_n 32 hC 1 rfl rfl dX1_readEnd_32 ?_
    refine r_iastore 33 hC dX1_readEnd_33 (fun M8 => ?_)
    refine r_aload_n 34 hC 3 rfl (Or.inl (by decide)) rfl dX1_readEnd_34 ?_
    refine r_get 35 hC fd_0_9 fl_X1_56 dX1_readEnd_35 (fun v9 => ?_)
    refine r_iload_n 38 hC 1 rfl rfl dX1_readEnd_38 ?_
    refine r_iload_n 39 hC 0 rfl rfl dX1_readEnd_39 ?_
    refine r_iastore 40 hC dX1_readEnd_40 (fun M10 => ?_)
    refine r_aload_n 41 hC 2 rfl (Or.inl (by decide)) rfl dX1_readEnd_41 ?_
    refine r_callVI 42 hC [] [] rfl vl_X1_60 rfl hn3 (by decide) (Nat.le_of_ble_eq_true rfl) (by decide) (by decide) dX1_readEnd_42 (t_X6_skipSemicolon x0 M10 hn3) (fun v11 M12 => ?_)
    exact r_zreturn 45 hC hq (by decide) (by decide) dX1_readEnd_45
  · refine r_aload_n 10 hC 1 rfl (Or.inl (by decide)) rfl dX1_readEnd_10 ?_
    refine r_iconst 11 hC (r32c rfl) dX1_readEnd_11 ?_
    refine r_nn (fun hn13 => ?_)
    refine r_callVI 12 hC [(0, 2)] [] rfl vl_X1_42 rfl hn13 (by decide) (Nat.le_of_ble_eq_true rfl) (by decide) (by decide) dX1_readEnd_12 (t_X6_blame x0 2 M hn13) (fun v14 M15 => ?_)
    exact r_zreturn 15 hC hq (by decide) (by decide) dX1_readEnd_15

/-! WaterTurns$DaysReader.isStepWord(I)Z -/
theorem dX1_isStepWord_0 : decode cX1_isStepWord 0 = .ok (.iload_n 0, 1) := by decide +kernel
theorem dX1_isStepWord_1 : decode cX1_isStepWord 1 = .ok (.bipush 8, 2) := by decide +kernel
theorem dX1_isStepWord_3 : decode cX1_isStepWord 3 = .ok (.if_icmp .eq 27, 3) := by decide +kernel
theorem dX1_isStepWord_6 : decode cX1_isStepWord 6 = .ok (.iload_n 0, 1) := by decide +kernel
theorem dX1_isStepWord_7 : decode cX1_isStepWord 7 = .ok (.bipush 16, 2) := by decide +kernel
theorem dX1_isStepWord_9 : decode cX1_isStepWord 9 = .ok (.if_icmp .lt 9, 3) := by decide +kernel
theorem dX1_isStepWord_12 : decode cX1_isStepWord 12 = .ok (.iload_n 0, 1) := by decide +kernel
theorem dX1_isStepWord_13 : decode cX1_isStepWord 13 = .ok (.bipush 23, 2) := by decide +kernel
theorem dX1_isStepWord_15 : decode cX1_isStepWord 15 = .ok (.if_icmp .le 15, 3) := by decide +kernel
theorem dX1_isStepWord_18 : decode cX1_isStepWord 18 = .ok (.iload_n 0, 1) := by decide +kernel
theorem dX1_isStepWord_19 : decode cX1_isStepWord 19 = .ok (.bipush 27, 2) := by decide +kernel
theorem dX1_isStepWord_21 : decode cX1_isStepWord 21 = .ok (.if_icmp .eq 9, 3) := by decide +kernel
theorem dX1_isStepWord_24 : decode cX1_isStepWord 24 = .ok (.iload_n 0, 1) := by decide +kernel
theorem dX1_isStepWord_25 : decode cX1_isStepWord 25 = .ok (.bipush 29, 2) := by decide +kernel
theorem dX1_isStepWord_27 : decode cX1_isStepWord 27 = .ok (.if_icmp .ne 7, 3) := by decide +kernel
theorem dX1_isStepWord_30 : decode cX1_isStepWord 30 = .ok (.iconst 1, 1) := by decide +kernel
theorem dX1_isStepWord_31 : decode cX1_isStepWord 31 = .ok (.goto 4, 3) := by decide +kernel
theorem dX1_isStepWord_34 : decode cX1_isStepWord 34 = .ok (.iconst 0, 1) := by decide +kernel
theorem dX1_isStepWord_35 : decode cX1_isStepWord 35 = .ok (.ireturn, 1) := by decide +kernel
set_option maxRecDepth 100000 in
theorem t_X1_isStepWord (x0 : Int) (M : Mem) : MtP yX1_isStepWord cX1_isStepWord 1 (some .boolean) 1 0 0 [(0, x0)] M 0 (f_X1_isStepWord x0 M) := by
  refine mk_P (by decide +kernel) (Nat.le_of_ble_eq_true rfl) (fun E C r0 hC hq hin => ?_)
  refine r_eqls (ls' := [(0, 0, x0)]) rfl ?_
  unfold f_X1_isStepWord
  refine r_iload_n 0 hC 0 rfl rfl dX1_isStepWord_0 ?_
  refine r_bipush 1 hC kb_8 dX1_isStepWord_1 ?_
  refine r_jn (P := fun j35 => ∀ (q1 : Int), Bk E C 1 M r0 35 [] [(0, q1)] M 0 0 (j35 q1)) ?_ (fun j35 hj35 => ?_)
  · intro q1
    exact r_zreturnP 35 hC hq (by decide) (by decide) dX1_isStepWord_35
  refine r_jn (P := fun j30 => Bk E C 1 M r0 30 [] [] M 0 0 (j30)) ?_ (fun j30 hj30 => ?_)
  · refine r_iconst 30 hC (r32c rfl) dX1_isStepWord_30 ?_
    refine r_goto 31 hC (tgt := 35) (by decide) dX1_isStepWord_31 ?_
    exact hj35 1
  refine r_icmp_eq 3 hC (tgt := 30) (by decide) dX1_isStepWord_3 ?_ ?_
  · exact r_sub [] rfl (hj30)
  · refine r_iload_n 6 hC 0 rfl rfl dX1_isStepWord_6 ?_
    refine r_bipush 7 hC kb_16 dX1_isStepWord_7 ?_
    refine r_jn (P := fun j18 => Bk E C 1 M r0 18 [(0, 0, x0)] [] M 0 0 (j18)) ?_ (fun j18 hj18 => ?_)
    · refine r_iload_n 18 hC 0 rfl rfl dX1_isStepWord_18 ?_
      refine r_bipush 19 hC kb_27 dX1_isStepWord_19 ?_
      refine r_icmp_eq 21 hC (tgt := 30) (by decide) dX1_isStepWord_21 ?_ ?_
      · exact r_sub [] rfl (hj30)
      · refine r_iload_n 24 hC 0 rfl rfl dX1_isStepWord_24 ?_
        refine r_bipush 25 hC kb_29 dX1_isStepWord_25 ?_
        refine r_icmp_ne 27 hC (tgt := 34) (by decide) dX1_isStepWord_27 ?_ ?_
        · refine r_iconst 34 hC (r32c rfl) dX1_isStepWord_34 ?_
          exact r_sub [] rfl (hj35 0)
        · exact r_sub [] rfl (hj30)
    refine r_icmp_lt 9 hC (tgt := 18) (by decide) dX1_isStepWord_9 ?_ ?_
    · exact hj18
    · refine r_iload_n 12 hC 0 rfl rfl dX1_isStepWord_12 ?_
      refine r_bipush 13 hC kb_23 dX1_isStepWord_13 ?_
      refine r_icmp_le 15 hC (tgt := 30) (by decide) dX1_isStepWord_15 ?_ ?_
      · exact r_sub [] rfl (hj30)
      · exact hj18

/-! WaterTurns$Tape.isAtName()Z -/
theorem dX6_isAtName_0 : decode cX6_isAtName 0 = .ok (.aload_n 0, 1) := by decide +kernel
theorem dX6_isAtName_1 : decode cX6_isAtName 1 = .ok (.getfield 35, 3) := by decide +kernel
theorem dX6_isAtName_4 : decode cX6_isAtName 4 = .ok (.iconst 1, 1) := by decide +kernel
theorem dX6_isAtName_5 : decode cX6_isAtName 5 = .ok (.if_icmp .ne 24, 3) := by decide +kernel
theorem dX6_isAtName_8 : decode cX6_isAtName 8 = .ok (.aload_n 0, 1) := by decide +kernel
theorem dX6_isAtName_9 : decode cX6_isAtName 9 = .ok (.getfield 41, 3) := by decide +kernel
theorem dX6_isAtName_12 : decode cX6_isAtName 12 = .ok (.iconst (-1), 1) := by decide +kernel
theorem dX6_isAtName_13 : decode cX6_isAtName 13 = .ok (.if_icmp .ne 16, 3) := by decide +kernel
theorem dX6_isAtName_16 : decode cX6_isAtName 16 = .ok (.aload_n 0, 1) := by decide +kernel
theorem dX6_isAtName_17 : decode cX6_isAtName 17 = .ok (.getfield 44, 3) := by decide +kernel
theorem dX6_isAtName_20 : decode cX6_isAtName 20 = .ok (.lconst 0, 1) := by decide +kernel
theorem dX6_isAtName_21 : decode cX6_isAtName 21 = .ok (.lcmp, 1) := by decide +kernel
theorem dX6_isAtName_22 : decode cX6_isAtName 22 = .ok (.ifCond .eq 7, 3) := by decide +kernel
theorem dX6_isAtName_25 : decode cX6_isAtName 25 = .ok (.iconst 1, 1) := by decide +kernel
theorem dX6_isAtName_26 : decode cX6_isAtName 26 = .ok (.goto 4, 3) := by decide +kernel
theorem dX6_isAtName_29 : decode cX6_isAtName 29 = .ok (.iconst 0, 1) := by decide +kernel
theorem dX6_isAtName_30 : decode cX6_isAtName 30 = .ok (.ireturn, 1) := by decide +kernel
set_option maxRecDepth 100000 in
theorem t_X6_isAtName (x0 : Int) (M : Mem) (h0 : x0 ≠ 0) : MtP yX6_isAtName cX6_isAtName 1 (some .boolean) 1 0 0 [(25, x0)] M 0 (f_X6_isAtName x0 M) := by
  refine mk_P (by decide +kernel) (Nat.le_of_ble_eq_true rfl) (fun E C r0 hC hq hin => ?_)
  refine r_eqls (ls' := [(0, 25, x0)]) rfl ?_
  unfold f_X6_isAtName
  refine r_aload_n 0 hC 0 rfl (Or.inl (by decide)) rfl dX6_isAtName_0 ?_
  refine r_get 1 hC fd_5_7 fl_X6_35 dX6_isAtName_1 (fun v1 => ?_)
  refine r_iconst 4 hC (r32c rfl) dX6_isAtName_4 ?_
  refine r_jn (P := fun j30 => ∀ (q2 : Int), Bk E C 1 M r0 30 [] [(0, q2)] M 0 0 (j30 q2)) ?_ (fun j30 hj30 => ?_)
  · intro q2
    exact r_zreturnP 30 hC hq (by decide) (by decide) dX6_isAtName_30
  refine r_jn (P := fun j29 => Bk E C 1 M r0 29 [] [] M 0 0 (j29)) ?_ (fun j29 hj29 => ?_)
  · refine r_iconst 29 hC (r32c rfl) dX6_isAtName_29 ?_
    exact hj30 0
  refine r_icmp_ne 5 hC (tgt := 29) (by decide) dX6_isAtName_5 ?_ ?_
  · exact r_sub [] rfl (hj29)
  · refine r_aload_n 8 hC 0 rfl (Or.inl (by decide)) rfl dX6_isAtName_8 ?_
    refine r_get 9 hC fd_5_9 fl_X6_41 dX6_isAtName_9 (fun v3 => ?_)
    refine r_iconst 12 hC (r32c rfl) dX6_isAtName_12 ?_
    refine r_icmp_ne 13 hC (tgt := 29) (by decide) dX6_isAtName_13 ?_ ?_
    · exact r_sub [] rfl (hj29)
    · refine r_aload_n 16 hC 0 rfl (Or.inl (by decide)) rfl dX6_isAtName_16 ?_
      refine r_get 17 hC fd_5_10 fl_X6_44 dX6_isAtName_17 (fun v4 => ?_)
      refine r_lconst 20 hC (x := 0) ⟨by decide +kernel, r64c rfl⟩ dX6_isAtName_20 ?_
      refine r_lcmp_eq 21 hC (tgt := 29) (by decide) dX6_isAtName_21 dX6_isAtName_22 ?_ ?_
      · exact r_sub [] rfl (hj29)
      · refine r_iconst 25 hC (r32c rfl) dX6_isAtName_25 ?_
        refine r_goto 26 hC (tgt := 30) (by decide) dX6_isAtName_26 ?_
        exact r_sub [] rfl (hj30 1)

/-! WaterTurns$Valley.find([JIJ)I -/
theorem dX8_find_0 : decode cX8_find 0 = .ok (.iconst 0, 1) := by decide +kernel
theorem dX8_find_1 : decode cX8_find 1 = .ok (.istore 4, 2) := by decide +kernel
theorem dX8_find_3 : decode cX8_find 3 = .ok (.iload 4, 2) := by decide +kernel
theorem dX8_find_5 : decode cX8_find 5 = .ok (.iload_n 1, 1) := by decide +kernel
theorem dX8_find_6 : decode cX8_find 6 = .ok (.if_icmp .ge 28, 3) := by decide +kernel
theorem dX8_find_9 : decode cX8_find 9 = .ok (.iload 4, 2) := by decide +kernel
theorem dX8_find_11 : decode cX8_find 11 = .ok (.aload_n 0, 1) := by decide +kernel
theorem dX8_find_12 : decode cX8_find 12 = .ok (.arraylength, 1) := by decide +kernel
theorem dX8_find_13 : decode cX8_find 13 = .ok (.if_icmp .ge 21, 3) := by decide +kernel
theorem dX8_find_16 : decode cX8_find 16 = .ok (.aload_n 0, 1) := by decide +kernel
theorem dX8_find_17 : decode cX8_find 17 = .ok (.iload 4, 2) := by decide +kernel
theorem dX8_find_19 : decode cX8_find 19 = .ok (.laload, 1) := by decide +kernel
theorem dX8_find_20 : decode cX8_find 20 = .ok (.lload_n 2, 1) := by decide +kernel
theorem dX8_find_21 : decode cX8_find 21 = .ok (.lcmp, 1) := by decide +kernel
theorem dX8_find_22 : decode cX8_find 22 = .ok (.ifCond .ne 6, 3) := by decide +kernel
theorem dX8_find_25 : decode cX8_find 25 = .ok (.iload 4, 2) := by decide +kernel
theorem dX8_find_27 : decode cX8_find 27 = .ok (.ireturn, 1) := by decide +kernel
theorem dX8_find_28 : decode cX8_find 28 = .ok (.iinc 4 1, 3) := by decide +kernel
theorem dX8_find_31 : decode cX8_find 31 = .ok (.goto (-28), 3) := by decide +kernel
theorem dX8_find_34 : decode cX8_find 34 = .ok (.iconst (-1), 1) := by decide +kernel
theorem dX8_find_35 : decode cX8_find 35 = .ok (.ireturn, 1) := by decide +kernel
set_option maxRecDepth 100000 in
theorem f_X8_find_L3_ok {E : EnvT} {C : Cx} {Mi M : Mem} (hC : CxOK E C cX8_find 5 yX8_find.cls 1 0 0) {r0 : Int} (hq : RQ E C 0 0 Mi (some .int) (some (0, r0)) M) {x0 x1 x2 : Int} {k : Option (Int)} (hk : Bk E C 5 Mi r0 34 [] [] M 0 0 (k)) : ∀ (n : Nat) (p1 : Int), Bk E C 5 Mi r0 3 [(0, 11, x0), (1, 0, x1), (2, 1, x2), (4, 0, p1)] [] M 0 0 (f_X8_find_L3 M x0 x1 x2 k n p1) := by
  intro n
  induction n with
  | zero =>
    intro p1
    exact r_none
  | succ n ih =>
    intro p1
    rw [f_X8_find_L3]
    refine r_iload 3 hC 3 rfl dX8_find_3 ?_
    refine r_iload_n 5 hC 1 rfl rfl dX8_find_5 ?_
    refine r_icmp_ge 6 hC (tgt := 34) (by decide) dX8_find_6 ?_ ?_
    · exact r_sub [] rfl (hk)
    · refine r_iload 9 hC 3 rfl dX8_find_9 ?_
      refine r_aload_n 11 hC 0 rfl (Or.inl (by decide)) rfl dX8_find_11 ?_
      refine r_alen 12 hC (by decide) (by decide) dX8_find_12 (fun v2 => ?_)
      refine r_icmp_ge 13 hC (tgt := 34) (by decide) dX8_find_13 ?_ ?_
      · exact r_sub [] rfl (hk)
      · refine r_aload_n 16 hC 0 rfl (Or.inl (by decide)) rfl dX8_find_16 ?_
        refine r_iload 17 hC 3 rfl dX8_find_17 ?_
        refine r_laload 19 hC dX8_find_19 (fun v3 => ?_)
        refine r_lload_n 20 hC 2 rfl rfl dX8_find_20 ?_
        refine r_lcmp_ne 21 hC (tgt := 28) (by decide) dX8_find_21 dX8_find_22 ?_ ?_
        · refine r_iinc 28 hC 3 rfl (by decide) dX8_find_28 (r_eqls (ls' := [(4, 0, w32 (p1 + 1)), (0, 11, x0), (1, 0, x1), (2, 1, x2)]) rfl ?_)
          refine r_goto 31 hC (tgt := 3) (by decide) dX8_find_31 ?_
          exact r_sub [1, 2, 3, 0] rfl (ih (w32 (p1 + 1)))
        · refine r_iload 25 hC 3 rfl dX8_find_25 ?_
          exact r_ireturnP 27 hC hq (by decide) (by decide) dX8_find_27
set_option maxRecDepth 100000 in
theorem t_X8_find (x0 x1 x2 : Int) (M : Mem) : MtP yX8_find cX8_find 5 (some .int) 1 0 0 [(11, x0), (0, x1), (1, x2)] M 0 (f_X8_find x0 x1 x2 M) := by
  refine mk_P (by decide +kernel) (Nat.le_of_ble_eq_true rfl) (fun E C r0 hC hq hin => ?_)
  refine r_eqls (ls' := [(0, 11, x0), (1, 0, x1), (2, 1, x2)]) rfl ?_
  unfold f_X8_find
  refine r_iconst 0 hC (r32c rfl) dX8_find_0 ?_
  refine r_istore 1 hC (by decide) dX8_find_1 (r_eqls (ls' := [(4, 0, 0), (0, 11, x0), (1, 0, x1), (2, 1, x2)]) rfl ?_)
  refine r_sub [1, 2, 3, 0] rfl (f_X8_find_L3_ok hC hq ?_ KF 0)
  · refine r_iconst 34 hC (r32c rfl) dX8_find_34 ?_
    exact r_ireturnP 35 hC hq (by decide) (by decide) dX8_find_35

/-! WaterTurns$Tape.takeKnown([JI)I -/
theorem dX6_takeKnown_0 : decode cX6_takeKnown 0 = .ok (.aload_n 0, 1) := by decide +kernel
theorem dX6_takeKnown_1 : decode cX6_takeKnown 1 = .ok (.invokevirtual 97, 3) := by decide +kernel
theorem dX6_takeKnown_4 : decode cX6_takeKnown 4 = .ok (.ifCond .ne 11, 3) := by decide +kernel
theorem dX6_takeKnown_7 : decode cX6_takeKnown 7 = .ok (.aload_n 0, 1) := by decide +kernel
theorem dX6_takeKnown_8 : decode cX6_takeKnown 8 = .ok (.iconst 2, 1) := by decide +kernel
theorem dX6_takeKnown_9 : decode cX6_takeKnown 9 = .ok (.invokevirtual 94, 3) := by decide +kernel
theorem dX6_takeKnown_12 : decode cX6_takeKnown 12 = .ok (.pop, 1) := by decide +kernel
theorem dX6_takeKnown_13 : decode cX6_takeKnown 13 = .ok (.iconst (-1), 1) := by decide +kernel
theorem dX6_takeKnown_14 : decode cX6_takeKnown 14 = .ok (.ireturn, 1) := by decide +kernel
theorem dX6_takeKnown_15 : decode cX6_takeKnown 15 = .ok (.aload_n 1, 1) := by decide +kernel
theorem dX6_takeKnown_16 : decode cX6_takeKnown 16 = .ok (.iload_n 2, 1) := by decide +kernel
theorem dX6_takeKnown_17 : decode cX6_takeKnown 17 = .ok (.aload_n 0, 1) := by decide +kernel
theorem dX6_takeKnown_18 : decode cX6_takeKnown 18 = .ok (.getfield 44, 3) := by decide +kernel
theorem dX6_takeKnown_21 : decode cX6_takeKnown 21 = .ok (.invokestatic 101, 3) := by decide +kernel
theorem dX6_takeKnown_24 : decode cX6_takeKnown 24 = .ok (.istore_n 3, 1) := by decide +kernel
theorem dX6_takeKnown_25 : decode cX6_takeKnown 25 = .ok (.iload_n 3, 1) := by decide +kernel
theorem dX6_takeKnown_26 : decode cX6_takeKnown 26 = .ok (.iconst (-1), 1) := by decide +kernel
theorem dX6_takeKnown_27 : decode cX6_takeKnown 27 = .ok (.if_icmp .ne 11, 3) := by decide +kernel
theorem dX6_takeKnown_30 : decode cX6_takeKnown 30 = .ok (.aload_n 0, 1) := by decide +kernel
theorem dX6_takeKnown_31 : decode cX6_takeKnown 31 = .ok (.iconst 3, 1) := by decide +kernel
theorem dX6_takeKnown_32 : decode cX6_takeKnown 32 = .ok (.invokevirtual 94, 3) := by decide +kernel
theorem dX6_takeKnown_35 : decode cX6_takeKnown 35 = .ok (.pop, 1) := by decide +kernel
theorem dX6_takeKnown_36 : decode cX6_takeKnown 36 = .ok (.iconst (-1), 1) := by decide +kernel
theorem dX6_takeKnown_37 : decode cX6_takeKnown 37 = .ok (.ireturn, 1) := by decide +kernel
theorem dX6_takeKnown_38 : decode cX6_takeKnown 38 = .ok (.aload_n 0, 1) := by decide +kernel
theorem dX6_takeKnown_39 : decode cX6_takeKnown 39 = .ok (.invokevirtual 77, 3) := by decide +kernel
theorem dX6_takeKnown_42 : decode cX6_takeKnown 42 = .ok (.iload_n 3, 1) := by decide +kernel
theorem dX6_takeKnown_43 : decode cX6_takeKnown 43 = .ok (.ireturn, 1) := by decide +kernel
set_option maxRecDepth 100000 in
theorem t_X6_takeKnown (x0 x1 x2 : Int) (M : Mem) (h0 : x0 ≠ 0) : MtI yX6_takeKnown cX6_takeKnown 4 (some .int) 3 0 0 [(25, x0), (11, x1), (0, x2)] M 0 (f_X6_takeKnown x0 x1 x2 M) := by
  refine mk_I (by decide +kernel) (Nat.le_of_ble_eq_true rfl) (fun E C r0 M0 hC hq hin => ?_)
  refine r_eqls (ls' := [(0, 25, x0), (1, 11, x1), (2, 0, x2)]) rfl ?_
  unfold f_X6_takeKnown
  refine r_aload_n 0 hC 0 rfl (Or.inl (by decide)) rfl dX6_takeKnown_0 ?_
  refine r_callVP 1 hC [] [] rfl vl_X6_97 rfl h0 (by decide) (Nat.le_of_ble_eq_true rfl) (by decide) (by decide) dX6_takeKnown_1 (t_X6_isAtName x0 M h0) (fun v1 => ?_)
  refine r_if_ne 4 hC (tgt := 15) (by decide) dX6_takeKnown_4 ?_ ?_
  · refine r_aload_n 15 hC 1 rfl (Or.inl (by decide)) rfl dX6_takeKnown_15 ?_
    refine r_iload_n 16 hC 2 rfl rfl dX6_takeKnown_16 ?_
    refine r_aload_n 17 hC 0 rfl (Or.inl (by decide)) rfl dX6_takeKnown_17 ?_
    refine r_get 18 hC fd_5_10 fl_X6_44 dX6_takeKnown_18 (fun v2 => ?_)
    refine r_callSP 21 hC [(11, x1), (0, x2), (1, v2)] [] rfl sl_X6_101 rfl (by decide) (Nat.le_of_ble_eq_true rfl) (by decide) (by decide) dX6_takeKnown_21 (t_X8_find x1 x2 v2 M) (fun v3 => ?_)
    refine r_istore_n 24 hC rfl (by decide) dX6_takeKnown_24 (r_eqls (ls' := [(3, 0, v3), (0, 25, x0), (1, 11, x1), (2, 0, x2)]) rfl ?_)
    refine r_iload_n 25 hC 0 rfl rfl dX6_takeKnown_25 ?_
    refine r_iconst 26 hC (r32c rfl) dX6_takeKnown_26 ?_
    refine r_icmp_ne 27 hC (tgt := 38) (by decide) dX6_takeKnown_27 ?_ ?_
    · refine r_aload_n 38 hC 1 rfl (Or.inl (by decide)) rfl dX6_takeKnown_38 ?_
      refine r_callVV 39 hC [] [] rfl vl_X6_77 rfl h0 (by decide) (Nat.le_of_ble_eq_true rfl) (by decide) (by decide) dX6_takeKnown_39 (t_X6_step x0 M h0) (fun M4 => ?_)
      refine r_iload_n 42 hC 0 rfl rfl dX6_takeKnown_42 ?_
      exact r_ireturn 43 hC hq (by decide) (by decide) dX6_takeKnown_43
    · refine r_aload_n 30 hC 1 rfl (Or.inl (by decide)) rfl dX6_takeKnown_30 ?_
      refine r_iconst 31 hC (r32c rfl) dX6_takeKnown_31 ?_
      refine r_callVI 32 hC [(0, 3)] [] rfl vl_X6_94 rfl h0 (by decide) (Nat.le_of_ble_eq_true rfl) (by decide) (by decide) dX6_takeKnown_32 (t_X6_blame x0 3 M h0) (fun v5 M6 => ?_)
      refine r_pop 35 hC (by decide) dX6_takeKnown_35 ?_
      refine r_iconst 36 hC (r32c rfl) dX6_takeKnown_36 ?_
      exact r_ireturn 37 hC hq (by decide) (by decide) dX6_takeKnown_37
  · refine r_aload_n 7 hC 0 rfl (Or.inl (by decide)) rfl dX6_takeKnown_7 ?_
    refine r_iconst 8 hC (r32c rfl) dX6_takeKnown_8 ?_
    refine r_callVI 9 hC [(0, 2)] [] rfl vl_X6_94 rfl h0 (by decide) (Nat.le_of_ble_eq_true rfl) (by decide) (by decide) dX6_takeKnown_9 (t_X6_blame x0 2 M h0) (fun v7 M8 => ?_)
    refine r_pop 12 hC (by decide) dX6_takeKnown_12 ?_
    refine r_iconst 13 hC (r32c rfl) dX6_takeKnown_13 ?_
    exact r_ireturn 14 hC hq (by decide) (by decide) dX6_takeKnown_14

/-! WaterTurns$DaysReader.readReachName(LWaterTurns$Tape;LWaterTurns$Valley;LWaterTurns$Days;I)Z -/
theorem dX1_readReachName_0 : decode cX1_readReachName 0 = .ok (.aload_n 2, 1) := by decide +kernel
theorem dX1_readReachName_1 : decode cX1_readReachName 1 = .ok (.getfield 99, 3) := by decide +kernel
theorem dX1_readReachName_4 : decode cX1_readReachName 4 = .ok (.iload_n 3, 1) := by decide +kernel
theorem dX1_readReachName_5 : decode cX1_readReachName 5 = .ok (.aload_n 0, 1) := by decide +kernel
theorem dX1_readReachName_6 : decode cX1_readReachName 6 = .ok (.aload_n 1, 1) := by decide +kernel
theorem dX1_readReachName_7 : decode cX1_readReachName 7 = .ok (.getfield 102, 3) := by decide +kernel
theorem dX1_readReachName_10 : decode cX1_readReachName 10 = .ok (.aload_n 1, 1) := by decide +kernel
theorem dX1_readReachName_11 : decode cX1_readReachName 11 = .ok (.getfield 108, 3) := by decide +kernel
theorem dX1_readReachName_14 : decode cX1_readReachName 14 = .ok (.invokevirtual 111, 3) := by decide +kernel
theorem dX1_readReachName_17 : decode cX1_readReachName 17 = .ok (.iastore, 1) := by decide +kernel
theorem dX1_readReachName_18 : decode cX1_readReachName 18 = .ok (.aload_n 2, 1) := by decide +kernel
theorem dX1_readReachName_19 : decode cX1_readReachName 19 = .ok (.getfield 99, 3) := by decide +kernel
theorem dX1_readReachName_22 : decode cX1_readReachName 22 = .ok (.iload_n 3, 1) := by decide +kernel
theorem dX1_readReachName_23 : decode cX1_readReachName 23 = .ok (.iaload, 1) := by decide +kernel
theorem dX1_readReachName_24 : decode cX1_readReachName 24 = .ok (.iconst (-1), 1) := by decide +kernel
theorem dX1_readReachName_25 : decode cX1_readReachName 25 = .ok (.if_icmp .eq 7, 3) := by decide +kernel
theorem dX1_readReachName_28 : decode cX1_readReachName 28 = .ok (.iconst 1, 1) := by decide +kernel
theorem dX1_readReachName_29 : decode cX1_readReachName 29 = .ok (.goto 4, 3) := by decide +kernel
theorem dX1_readReachName_32 : decode cX1_readReachName 32 = .ok (.iconst 0, 1) := by decide +kernel
theorem dX1_readReachName_33 : decode cX1_readReachName 33 = .ok (.ireturn, 1) := by decide +kernel
set_option maxRecDepth 100000 in
theorem t_X1_readReachName (x0 x1 x2 x3 : Int) (M : Mem) : MtI yX1_readReachName cX1_readReachName 4 (some .boolean) 4 0 0 [(25, x0), (27, x1), (20, x2), (0, x3)] M 0 (f_X1_readReachName x0 x1 x2 x3 M) := by
  refine mk_I (by decide +kernel) (Nat.le_of_ble_eq_true rfl) (fun E C r0 M0 hC hq hin => ?_)
  refine r_eqls (ls' := [(0, 25, x0), (1, 27, x1), (2, 20, x2), (3, 0, x3)]) rfl ?_
  unfold f_X1_readReachName
  refine r_aload_n 0 hC 2 rfl (Or.inl (by decide)) rfl dX1_readReachName_0 ?_
  refine r_get 1 hC fd_0_5 fl_X1_99 dX1_readReachName_1 (fun v1 => ?_)
  refine r_iload_n 4 hC 3 rfl rfl dX1_readReachName_4 ?_
  refine r_aload_n 5 hC 0 rfl (Or.inl (by decide)) rfl dX1_readReachName_5 ?_
  refine r_aload_n 6 hC 1 rfl (Or.inl (by decide)) rfl dX1_readReachName_6 ?_
  refine r_get 7 hC fd_7_10 fl_X1_102 dX1_readReachName_7 (fun v2 => ?_)
  refine r_aload_n 10 hC 1 rfl (Or.inl (by decide)) rfl dX1_readReachName_10 ?_
  refine r_get 11 hC fd_7_3 fl_X1_108 dX1_readReachName_11 (fun v3 => ?_)
  refine r_nn (fun hn4 => ?_)
  refine r_callVI 14 hC [(11, v2), (0, v3)] [(0, x3), (10, v1)] rfl vl_X1_111 rfl hn4 (by decide) (Nat.le_of_ble_eq_true rfl) (by decide) (by decide) dX1_readReachName_14 (t_X6_takeKnown x0 v2 v3 M hn4) (fun v5 M6 => ?_)
  refine r_iastore 17 hC dX1_readReachName_17 (fun M7 => ?_)
  refine r_aload_n 18 hC 2 rfl (Or.inl (by decide)) rfl dX1_readReachName_18 ?_
  refine r_get 19 hC fd_0_5 fl_X1_99 dX1_readReachName_19 (fun v8 => ?_)
  refine r_iload_n 22 hC 3 rfl rfl dX1_readReachName_22 ?_
  refine r_iaload 23 hC dX1_readReachName_23 (fun v9 => ?_)
  refine r_iconst 24 hC (r32c rfl) dX1_readReachName_24 ?_
  refine r_jn (P := fun j33 => ∀ (q10 : Int), Bk E C 4 M (r0, M0) 33 [] [(0, q10)] M7 0 0 (j33 q10)) ?_ (fun j33 hj33 => ?_)
  · intro q10
    exact r_zreturn 33 hC hq (by decide) (by decide) dX1_readReachName_33
  refine r_icmp_eq 25 hC (tgt := 32) (by decide) dX1_readReachName_25 ?_ ?_
  · refine r_iconst 32 hC (r32c rfl) dX1_readReachName_32 ?_
    exact r_sub [] rfl (hj33 0)
  · refine r_iconst 28 hC (r32c rfl) dX1_readReachName_28 ?_
    refine r_goto 29 hC (tgt := 33) (by decide) dX1_readReachName_29 ?_
    exact r_sub [] rfl (hj33 1)

/-! WaterTurns$DaysReader.readSign(LWaterTurns$Tape;LWaterTurns$Days;I)Z -/
theorem dX1_readSign_0 : decode cX1_readSign 0 = .ok (.aload_n 0, 1) := by decide +kernel
theorem dX1_readSign_1 : decode cX1_readSign 1 = .ok (.getfield 138, 3) := by decide +kernel
theorem dX1_readSign_4 : decode cX1_readSign 4 = .ok (.iconst 3, 1) := by decide +kernel
theorem dX1_readSign_5 : decode cX1_readSign 5 = .ok (.if_icmp .ne 12, 3) := by decide +kernel
theorem dX1_readSign_8 : decode cX1_readSign 8 = .ok (.aload_n 0, 1) := by decide +kernel
theorem dX1_readSign_9 : decode cX1_readSign 9 = .ok (.getfield 141, 3) := by decide +kernel
theorem dX1_readSign_12 : decode cX1_readSign 12 = .ok (.bipush 59, 2) := by decide +kernel
theorem dX1_readSign_14 : decode cX1_readSign 14 = .ok (.if_icmp .ne 9, 3) := by decide +kernel
theorem dX1_readSign_17 : decode cX1_readSign 17 = .ok (.aload_n 0, 1) := by decide +kernel
theorem dX1_readSign_18 : decode cX1_readSign 18 = .ok (.iconst 2, 1) := by decide +kernel
theorem dX1_readSign_19 : decode cX1_readSign 19 = .ok (.invokevirtual 42, 3) := by decide +kernel
theorem dX1_readSign_22 : decode cX1_readSign 22 = .ok (.ireturn, 1) := by decide +kernel
theorem dX1_readSign_23 : decode cX1_readSign 23 = .ok (.aload_n 1, 1) := by decide +kernel
theorem dX1_readSign_24 : decode cX1_readSign 24 = .ok (.getfield 144, 3) := by decide +kernel
theorem dX1_readSign_27 : decode cX1_readSign 27 = .ok (.iload_n 2, 1) := by decide +kernel
theorem dX1_readSign_28 : decode cX1_readSign 28 = .ok (.aload_n 0, 1) := by decide +kernel
theorem dX1_readSign_29 : decode cX1_readSign 29 = .ok (.getfield 141, 3) := by decide +kernel
theorem dX1_readSign_32 : decode cX1_readSign 32 = .ok (.iastore, 1) := by decide +kernel
theorem dX1_readSign_33 : decode cX1_readSign 33 = .ok (.aload_n 0, 1) := by decide +kernel
theorem dX1_readSign_34 : decode cX1_readSign 34 = .ok (.invokevirtual 49, 3) := by decide +kernel
theorem dX1_readSign_37 : decode cX1_readSign 37 = .ok (.iconst 1, 1) := by decide +kernel
theorem dX1_readSign_38 : decode cX1_readSign 38 = .ok (.ireturn, 1) := by decide +kernel
set_option maxRecDepth 100000 in
theorem t_X1_readSign (x0 x1 x2 : Int) (M : Mem) : MtI yX1_readSign cX1_readSign 3 (some .boolean) 3 0 0 [(25, x0), (20, x1), (0, x2)] M 0 (f_X1_readSign x0 x1 x2 M) := by
  refine mk_I (by decide +kernel) (Nat.le_of_ble_eq_true rfl) (fun E C r0 M0 hC hq hin => ?_)
  refine r_eqls (ls' := [(0, 25, x0), (1, 20, x1), (2, 0, x2)]) rfl ?_
  unfold f_X1_readSign
  refine r_aload_n 0 hC 0 rfl (Or.inl (by decide)) rfl dX1_readSign_0 ?_
  refine r_get 1 hC fd_5_7 fl_X1_138 dX1_readSign_1 (fun v1 => ?_)
  refine r_iconst 4 hC (r32c rfl) dX1_readSign_4 ?_
  refine r_jn (P := fun j17 => Bk E C 3 M (r0, M0) 17 [(0, 25, x0)] [] M 0 0 (j17)) ?_ (fun j17 hj17 => ?_)
  · refine r_aload_n 17 hC 0 rfl (Or.inl (by decide)) rfl dX1_readSign_17 ?_
    refine r_iconst 18 hC (r32c rfl) dX1_readSign_18 ?_
    refine r_nn (fun hn2 => ?_)
    refine r_callVI 19 hC [(0, 2)] [] rfl vl_X1_42 rfl hn2 (by decide) (Nat.le_of_ble_eq_true rfl) (by decide) (by decide) dX1_readSign_19 (t_X6_blame x0 2 M hn2) (fun v3 M4 => ?_)
    exact r_zreturn 22 hC hq (by decide) (by decide) dX1_readSign_22
  refine r_icmp_ne 5 hC (tgt := 17) (by decide) dX1_readSign_5 ?_ ?_
  · exact r_sub [0] rfl (hj17)
  · refine r_aload_n 8 hC 0 rfl (Or.inl (by decide)) rfl dX1_readSign_8 ?_
    refine r_get 9 hC fd_5_8 fl_X1_141 dX1_readSign_9 (fun v5 => ?_)
    refine r_bipush 12 hC kb_59 dX1_readSign_12 ?_
    refine r_icmp_ne 14 hC (tgt := 23) (by decide) dX1_readSign_14 ?_ ?_
    · refine r_aload_n 23 hC 1 rfl (Or.inl (by decide)) rfl dX1_readSign_23 ?_
      refine r_get 24 hC fd_0_7 fl_X1_144 dX1_readSign_24 (fun v6 => ?_)
      refine r_iload_n 27 hC 2 rfl rfl dX1_readSign_27 ?_
      refine r_aload_n 28 hC 0 rfl (Or.inl (by decide)) rfl dX1_readSign_28 ?_
      refine r_get 29 hC fd_5_8 fl_X1_141 dX1_readSign_29 (fun v7 => ?_)
      refine r_iastore 32 hC dX1_readSign_32 (fun M8 => ?_)
      refine r_aload_n 33 hC 0 rfl (Or.inl (by decide)) rfl dX1_readSign_33 ?_
      refine r_nn (fun hn9 => ?_)
      refine r_callVV 34 hC [] [] rfl vl_X1_49 rfl hn9 (by decide) (Nat.le_of_ble_eq_true rfl) (by decide) (by decide) dX1_readSign_34 (t_X6_step x0 M8 hn9) (fun M10 => ?_)
      refine r_iconst 37 hC (r32c rfl) dX1_readSign_37 ?_
      exact r_zreturn 38 hC hq (by decide) (by decide) dX1_readSign_38
    · exact r_sub [0] rfl (hj17)

/-! WaterTurns$Tape.takeNumber(II)I -/
theorem dX6_takeNumber_0 : decode cX6_takeNumber 0 = .ok (.aload_n 0, 1) := by decide +kernel
theorem dX6_takeNumber_1 : decode cX6_takeNumber 1 = .ok (.getfield 35, 3) := by decide +kernel
theorem dX6_takeNumber_4 : decode cX6_takeNumber 4 = .ok (.iconst 2, 1) := by decide +kernel
theorem dX6_takeNumber_5 : decode cX6_takeNumber 5 = .ok (.if_icmp .eq 11, 3) := by decide +kernel
theorem dX6_takeNumber_8 : decode cX6_takeNumber 8 = .ok (.aload_n 0, 1) := by decide +kernel
theorem dX6_takeNumber_9 : decode cX6_takeNumber 9 = .ok (.iconst 2, 1) := by decide +kernel
theorem dX6_takeNumber_10 : decode cX6_takeNumber 10 = .ok (.invokevirtual 94, 3) := by decide +kernel
theorem dX6_takeNumber_13 : decode cX6_takeNumber 13 = .ok (.pop, 1) := by decide +kernel
theorem dX6_takeNumber_14 : decode cX6_takeNumber 14 = .ok (.iconst (-1), 1) := by decide +kernel
theorem dX6_takeNumber_15 : decode cX6_takeNumber 15 = .ok (.ireturn, 1) := by decide +kernel
theorem dX6_takeNumber_16 : decode cX6_takeNumber 16 = .ok (.aload_n 0, 1) := by decide +kernel
theorem dX6_takeNumber_17 : decode cX6_takeNumber 17 = .ok (.getfield 29, 3) := by decide +kernel
theorem dX6_takeNumber_20 : decode cX6_takeNumber 20 = .ok (.iload_n 1, 1) := by decide +kernel
theorem dX6_takeNumber_21 : decode cX6_takeNumber 21 = .ok (.if_icmp .lt 11, 3) := by decide +kernel
theorem dX6_takeNumber_24 : decode cX6_takeNumber 24 = .ok (.aload_n 0, 1) := by decide +kernel
theorem dX6_takeNumber_25 : decode cX6_takeNumber 25 = .ok (.getfield 29, 3) := by decide +kernel
theorem dX6_takeNumber_28 : decode cX6_takeNumber 28 = .ok (.iload_n 2, 1) := by decide +kernel
theorem dX6_takeNumber_29 : decode cX6_takeNumber 29 = .ok (.if_icmp .le 11, 3) := by decide +kernel
theorem dX6_takeNumber_32 : decode cX6_takeNumber 32 = .ok (.aload_n 0, 1) := by decide +kernel
theorem dX6_takeNumber_33 : decode cX6_takeNumber 33 = .ok (.iconst 4, 1) := by decide +kernel
theorem dX6_takeNumber_34 : decode cX6_takeNumber 34 = .ok (.invokevirtual 94, 3) := by decide +kernel
theorem dX6_takeNumber_37 : decode cX6_takeNumber 37 = .ok (.pop, 1) := by decide +kernel
theorem dX6_takeNumber_38 : decode cX6_takeNumber 38 = .ok (.iconst (-1), 1) := by decide +kernel
theorem dX6_takeNumber_39 : decode cX6_takeNumber 39 = .ok (.ireturn, 1) := by decide +kernel
theorem dX6_takeNumber_40 : decode cX6_takeNumber 40 = .ok (.aload_n 0, 1) := by decide +kernel
theorem dX6_takeNumber_41 : decode cX6_takeNumber 41 = .ok (.getfield 29, 3) := by decide +kernel
theorem dX6_takeNumber_44 : decode cX6_takeNumber 44 = .ok (.istore_n 3, 1) := by decide +kernel
theorem dX6_takeNumber_45 : decode cX6_takeNumber 45 = .ok (.aload_n 0, 1) := by decide +kernel
theorem dX6_takeNumber_46 : decode cX6_takeNumber 46 = .ok (.invokevirtual 77, 3) := by decide +kernel
theorem dX6_takeNumber_49 : decode cX6_takeNumber 49 = .ok (.iload_n 3, 1) := by decide +kernel
theorem dX6_takeNumber_50 : decode cX6_takeNumber 50 = .ok (.ireturn, 1) := by decide +kernel
set_option maxRecDepth 100000 in
theorem t_X6_takeNumber (x0 x1 x2 : Int) (M : Mem) (h0 : x0 ≠ 0) : MtI yX6_takeNumber cX6_takeNumber 4 (some .int) 3 0 0 [(25, x0), (0, x1), (0, x2)] M 0 (f_X6_takeNumber x0 x1 x2 M) := by
  refine mk_I (by decide +kernel) (Nat.le_of_ble_eq_true rfl) (fun E C r0 M0 hC hq hin => ?_)
  refine r_eqls (ls' := [(0, 25, x0), (1, 0, x1), (2, 0, x2)]) rfl ?_
  unfold f_X6_takeNumber
  refine r_aload_n 0 hC 0 rfl (Or.inl (by decide)) rfl dX6_takeNumber_0 ?_
  refine r_get 1 hC fd_5_7 fl_X6_35 dX6_takeNumber_1 (fun v1 => ?_)
  refine r_iconst 4 hC (r32c rfl) dX6_takeNumber_4 ?_
  refine r_icmp_eq 5 hC (tgt := 16) (by decide) dX6_takeNumber_5 ?_ ?_
  · refine r_aload_n 16 hC 0 rfl (Or.inl (by decide)) rfl dX6_takeNumber_16 ?_
    refine r_get 17 hC fd_5_5 fl_X6_29 dX6_takeNumber_17 (fun v2 => ?_)
    refine r_iload_n 20 hC 1 rfl rfl dX6_takeNumber_20 ?_
    refine r_jn (P := fun j32 => Bk E C 4 M (r0, M0) 32 [(0, 25, x0)] [] M 0 0 (j32)) ?_ (fun j32 hj32 => ?_)
    · refine r_aload_n 32 hC 0 rfl (Or.inl (by decide)) rfl dX6_takeNumber_32 ?_
      refine r_iconst 33 hC (r32c rfl) dX6_takeNumber_33 ?_
      refine r_callVI 34 hC [(0, 4)] [] rfl vl_X6_94 rfl h0 (by decide) (Nat.le_of_ble_eq_true rfl) (by decide) (by decide) dX6_takeNumber_34 (t_X6_blame x0 4 M h0) (fun v3 M4 => ?_)
      refine r_pop 37 hC (by decide) dX6_takeNumber_37 ?_
      refine r_iconst 38 hC (r32c rfl) dX6_takeNumber_38 ?_
      exact r_ireturn 39 hC hq (by decide) (by decide) dX6_takeNumber_39
    refine r_icmp_lt 21 hC (tgt := 32) (by decide) dX6_takeNumber_21 ?_ ?_
    · exact r_sub [0] rfl (hj32)
    · refine r_aload_n 24 hC 0 rfl (Or.inl (by decide)) rfl dX6_takeNumber_24 ?_
      refine r_get 25 hC fd_5_5 fl_X6_29 dX6_takeNumber_25 (fun v5 => ?_)
      refine r_iload_n 28 hC 2 rfl rfl dX6_takeNumber_28 ?_
      refine r_icmp_le 29 hC (tgt := 40) (by decide) dX6_takeNumber_29 ?_ ?_
      · refine r_aload_n 40 hC 0 rfl (Or.inl (by decide)) rfl dX6_takeNumber_40 ?_
        refine r_get 41 hC fd_5_5 fl_X6_29 dX6_takeNumber_41 (fun v6 => ?_)
        refine r_istore_n 44 hC rfl (by decide) dX6_takeNumber_44 (r_eqls (ls' := [(3, 0, v6), (0, 25, x0), (1, 0, x1), (2, 0, x2)]) rfl ?_)
        refine r_aload_n 45 hC 1 rfl (Or.inl (by decide)) rfl dX6_takeNumber_45 ?_
        refine r_callVV 46 hC [] [] rfl vl_X6_77 rfl h0 (by decide) (Nat.le_of_ble_eq_true rfl) (by decide) (by decide) dX6_takeNumber_46 (t_X6_step x0 M h0) (fun M7 => ?_)
        refine r_iload_n 49 hC 0 rfl rfl dX6_takeNumber_49 ?_
        exact r_ireturn 50 hC hq (by decide) (by decide) dX6_takeNumber_50
      · exact r_sub [0] rfl (hj32)
  · refine r_aload_n 8 hC 0 rfl (Or.inl (by decide)) rfl dX6_takeNumber_8 ?_
    refine r_iconst 9 hC (r32c rfl) dX6_takeNumber_9 ?_
    refine r_callVI 10 hC [(0, 2)] [] rfl vl_X6_94 rfl h0 (by decide) (Nat.le_of_ble_eq_true rfl) (by decide) (by decide) dX6_takeNumber_10 (t_X6_blame x0 2 M h0) (fun v8 M9 => ?_)
    refine r_pop 13 hC (by decide) dX6_takeNumber_13 ?_
    refine r_iconst 14 hC (r32c rfl) dX6_takeNumber_14 ?_
    exact r_ireturn 15 hC hq (by decide) (by decide) dX6_takeNumber_15

/-! WaterTurns$DaysReader.readNumber(LWaterTurns$Tape;LWaterTurns$Days;III)Z -/
theorem dX1_readNumber_0 : decode cX1_readNumber 0 = .ok (.aload_n 1, 1) := by decide +kernel
theorem dX1_readNumber_1 : decode cX1_readNumber 1 = .ok (.getfield 124, 3) := by decide +kernel
theorem dX1_readNumber_4 : decode cX1_readNumber 4 = .ok (.iload_n 2, 1) := by decide +kernel
theorem dX1_readNumber_5 : decode cX1_readNumber 5 = .ok (.aload_n 0, 1) := by decide +kernel
theorem dX1_readNumber_6 : decode cX1_readNumber 6 = .ok (.iload_n 3, 1) := by decide +kernel
theorem dX1_readNumber_7 : decode cX1_readNumber 7 = .ok (.iload 4, 2) := by decide +kernel
theorem dX1_readNumber_9 : decode cX1_readNumber 9 = .ok (.invokevirtual 127, 3) := by decide +kernel
theorem dX1_readNumber_12 : decode cX1_readNumber 12 = .ok (.iastore, 1) := by decide +kernel
theorem dX1_readNumber_13 : decode cX1_readNumber 13 = .ok (.aload_n 1, 1) := by decide +kernel
theorem dX1_readNumber_14 : decode cX1_readNumber 14 = .ok (.getfield 124, 3) := by decide +kernel
theorem dX1_readNumber_17 : decode cX1_readNumber 17 = .ok (.iload_n 2, 1) := by decide +kernel
theorem dX1_readNumber_18 : decode cX1_readNumber 18 = .ok (.iaload, 1) := by decide +kernel
theorem dX1_readNumber_19 : decode cX1_readNumber 19 = .ok (.iconst (-1), 1) := by decide +kernel
theorem dX1_readNumber_20 : decode cX1_readNumber 20 = .ok (.if_icmp .eq 7, 3) := by decide +kernel
theorem dX1_readNumber_23 : decode cX1_readNumber 23 = .ok (.iconst 1, 1) := by decide +kernel
theorem dX1_readNumber_24 : decode cX1_readNumber 24 = .ok (.goto 4, 3) := by decide +kernel
theorem dX1_readNumber_27 : decode cX1_readNumber 27 = .ok (.iconst 0, 1) := by decide +kernel
theorem dX1_readNumber_28 : decode cX1_readNumber 28 = .ok (.ireturn, 1) := by decide +kernel
set_option maxRecDepth 100000 in
theorem t_X1_readNumber (x0 x1 x2 x3 x4 : Int) (M : Mem) : MtI yX1_readNumber cX1_readNumber 5 (some .boolean) 4 0 0 [(25, x0), (20, x1), (0, x2), (0, x3), (0, x4)] M 0 (f_X1_readNumber x0 x1 x2 x3 x4 M) := by
  refine mk_I (by decide +kernel) (Nat.le_of_ble_eq_true rfl) (fun E C r0 M0 hC hq hin => ?_)
  refine r_eqls (ls' := [(0, 25, x0), (1, 20, x1), (2, 0, x2), (3, 0, x3), (4, 0, x4)]) rfl ?_
  unfold f_X1_readNumber
  refine r_aload_n 0 hC 1 rfl (Or.inl (by decide)) rfl dX1_readNumber_0 ?_
  refine r_get 1 hC fd_0_8 fl_X1_124 dX1_readNumber_1 (fun v1 => ?_)
  refine r_iload_n 4 hC 2 rfl rfl dX1_readNumber_4 ?_
  refine r_aload_n 5 hC 0 rfl (Or.inl (by decide)) rfl dX1_readNumber_5 ?_
  refine r_iload_n 6 hC 3 rfl rfl dX1_readNumber_6 ?_
  refine r_iload 7 hC 4 rfl dX1_readNumber_7 ?_
  refine r_nn (fun hn2 => ?_)
  refine r_callVI 9 hC [(0, x3), (0, x4)] [(0, x2), (10, v1)] rfl vl_X1_127 rfl hn2 (by decide) (Nat.le_of_ble_eq_true rfl) (by decide) (by decide) dX1_readNumber_9 (t_X6_takeNumber x0 x3 x4 M hn2) (fun v3 M4 => ?_)
  refine r_iastore 12 hC dX1_readNumber_12 (fun M5 => ?_)
  refine r_aload_n 13 hC 1 rfl (Or.inl (by decide)) rfl dX1_readNumber_13 ?_
  refine r_get 14 hC fd_0_8 fl_X1_124 dX1_readNumber_14 (fun v6 => ?_)
  refine r_iload_n 17 hC 2 rfl rfl dX1_readNumber_17 ?_
  refine r_iaload 18 hC dX1_readNumber_18 (fun v7 => ?_)
  refine r_iconst 19 hC (r32c rfl) dX1_readNumber_19 ?_
  refine r_jn (P := fun j28 => ∀ (q8 : Int), Bk E C 5 M (r0, M0) 28 [] [(0, q8)] M5 0 0 (j28 q8)) ?_ (fun j28 hj28 => ?_)
  · intro q8
    exact r_zreturn 28 hC hq (by decide) (by decide) dX1_readNumber_28
  refine r_icmp_eq 20 hC (tgt := 27) (by decide) dX1_readNumber_20 ?_ ?_
  · refine r_iconst 27 hC (r32c rfl) dX1_readNumber_27 ?_
    exact r_sub [] rfl (hj28 0)
  · refine r_iconst 23 hC (r32c rfl) dX1_readNumber_23 ?_
    refine r_goto 24 hC (tgt := 28) (by decide) dX1_readNumber_24 ?_
    exact r_sub [] rfl (hj28 1)

/-! WaterTurns$DaysReader.readTest(LWaterTurns$Tape;LWaterTurns$Valley;LWaterTurns$Days;I)Z -/
theorem dX1_readTest_0 : decode cX1_readTest 0 = .ok (.aload_n 0, 1) := by decide +kernel
theorem dX1_readTest_1 : decode cX1_readTest 1 = .ok (.getfield 63, 3) := by decide +kernel
theorem dX1_readTest_4 : decode cX1_readTest 4 = .ok (.istore 4, 2) := by decide +kernel
theorem dX1_readTest_6 : decode cX1_readTest 6 = .ok (.iload 4, 2) := by decide +kernel
theorem dX1_readTest_8 : decode cX1_readTest 8 = .ok (.bipush 8, 2) := by decide +kernel
theorem dX1_readTest_10 : decode cX1_readTest 10 = .ok (.if_icmp .eq 23, 3) := by decide +kernel
theorem dX1_readTest_13 : decode cX1_readTest 13 = .ok (.iload 4, 2) := by decide +kernel
theorem dX1_readTest_15 : decode cX1_readTest 15 = .ok (.bipush 25, 2) := by decide +kernel
theorem dX1_readTest_17 : decode cX1_readTest 17 = .ok (.if_icmp .eq 16, 3) := by decide +kernel
theorem dX1_readTest_20 : decode cX1_readTest 20 = .ok (.iload 4, 2) := by decide +kernel
theorem dX1_readTest_22 : decode cX1_readTest 22 = .ok (.bipush 26, 2) := by decide +kernel
theorem dX1_readTest_24 : decode cX1_readTest 24 = .ok (.if_icmp .eq 9, 3) := by decide +kernel
theorem dX1_readTest_27 : decode cX1_readTest 27 = .ok (.aload_n 0, 1) := by decide +kernel
theorem dX1_readTest_28 : decode cX1_readTest 28 = .ok (.iconst 2, 1) := by decide +kernel
theorem dX1_readTest_29 : decode cX1_readTest 29 = .ok (.invokevirtual 42, 3) := by decide +kernel
theorem dX1_readTest_32 : decode cX1_readTest 32 = .ok (.ireturn, 1) := by decide +kernel
theorem dX1_readTest_33 : decode cX1_readTest 33 = .ok (.aload_n 2, 1) := by decide +kernel
theorem dX1_readTest_34 : decode cX1_readTest 34 = .ok (.getfield 131, 3) := by decide +kernel
theorem dX1_readTest_37 : decode cX1_readTest 37 = .ok (.iload_n 3, 1) := by decide +kernel
theorem dX1_readTest_38 : decode cX1_readTest 38 = .ok (.iload 4, 2) := by decide +kernel
theorem dX1_readTest_40 : decode cX1_readTest 40 = .ok (.iastore, 1) := by decide +kernel
theorem dX1_readTest_41 : decode cX1_readTest 41 = .ok (.aload_n 0, 1) := by decide +kernel
theorem dX1_readTest_42 : decode cX1_readTest 42 = .ok (.invokevirtual 49, 3) := by decide +kernel
theorem dX1_readTest_45 : decode cX1_readTest 45 = .ok (.iload 4, 2) := by decide +kernel
theorem dX1_readTest_47 : decode cX1_readTest 47 = .ok (.bipush 8, 2) := by decide +kernel
theorem dX1_readTest_49 : decode cX1_readTest 49 = .ok (.if_icmp .ne 11, 3) := by decide +kernel
theorem dX1_readTest_52 : decode cX1_readTest 52 = .ok (.aload_n 0, 1) := by decide +kernel
theorem dX1_readTest_53 : decode cX1_readTest 53 = .ok (.aload_n 1, 1) := by decide +kernel
theorem dX1_readTest_54 : decode cX1_readTest 54 = .ok (.aload_n 2, 1) := by decide +kernel
theorem dX1_readTest_55 : decode cX1_readTest 55 = .ok (.iload_n 3, 1) := by decide +kernel
theorem dX1_readTest_56 : decode cX1_readTest 56 = .ok (.invokestatic 79, 3) := by decide +kernel
theorem dX1_readTest_59 : decode cX1_readTest 59 = .ok (.ireturn, 1) := by decide +kernel
theorem dX1_readTest_60 : decode cX1_readTest 60 = .ok (.aload_n 2, 1) := by decide +kernel
theorem dX1_readTest_61 : decode cX1_readTest 61 = .ok (.getfield 99, 3) := by decide +kernel
theorem dX1_readTest_64 : decode cX1_readTest 64 = .ok (.iload_n 3, 1) := by decide +kernel
theorem dX1_readTest_65 : decode cX1_readTest 65 = .ok (.aload_n 0, 1) := by decide +kernel
theorem dX1_readTest_66 : decode cX1_readTest 66 = .ok (.aload_n 1, 1) := by decide +kernel
theorem dX1_readTest_67 : decode cX1_readTest 67 = .ok (.getfield 115, 3) := by decide +kernel
theorem dX1_readTest_70 : decode cX1_readTest 70 = .ok (.aload_n 1, 1) := by decide +kernel
theorem dX1_readTest_71 : decode cX1_readTest 71 = .ok (.getfield 118, 3) := by decide +kernel
theorem dX1_readTest_74 : decode cX1_readTest 74 = .ok (.invokevirtual 111, 3) := by decide +kernel
theorem dX1_readTest_77 : decode cX1_readTest 77 = .ok (.iastore, 1) := by decide +kernel
theorem dX1_readTest_78 : decode cX1_readTest 78 = .ok (.aload_n 2, 1) := by decide +kernel
theorem dX1_readTest_79 : decode cX1_readTest 79 = .ok (.getfield 99, 3) := by decide +kernel
theorem dX1_readTest_82 : decode cX1_readTest 82 = .ok (.iload_n 3, 1) := by decide +kernel
theorem dX1_readTest_83 : decode cX1_readTest 83 = .ok (.iaload, 1) := by decide +kernel
theorem dX1_readTest_84 : decode cX1_readTest 84 = .ok (.iconst (-1), 1) := by decide +kernel
theorem dX1_readTest_85 : decode cX1_readTest 85 = .ok (.if_icmp .eq 42, 3) := by decide +kernel
theorem dX1_readTest_88 : decode cX1_readTest 88 = .ok (.aload_n 0, 1) := by decide +kernel
theorem dX1_readTest_89 : decode cX1_readTest 89 = .ok (.aload_n 2, 1) := by decide +kernel
theorem dX1_readTest_90 : decode cX1_readTest 90 = .ok (.iload_n 3, 1) := by decide +kernel
theorem dX1_readTest_91 : decode cX1_readTest 91 = .ok (.invokestatic 134, 3) := by decide +kernel
theorem dX1_readTest_94 : decode cX1_readTest 94 = .ok (.ifCond .eq 33, 3) := by decide +kernel
theorem dX1_readTest_97 : decode cX1_readTest 97 = .ok (.aload_n 0, 1) := by decide +kernel
theorem dX1_readTest_98 : decode cX1_readTest 98 = .ok (.aload_n 2, 1) := by decide +kernel
theorem dX1_readTest_99 : decode cX1_readTest 99 = .ok (.iload_n 3, 1) := by decide +kernel
theorem dX1_readTest_100 : decode cX1_readTest 100 = .ok (.iconst 0, 1) := by decide +kernel
theorem dX1_readTest_101 : decode cX1_readTest 101 = .ok (.iload 4, 2) := by decide +kernel
theorem dX1_readTest_103 : decode cX1_readTest 103 = .ok (.bipush 25, 2) := by decide +kernel
theorem dX1_readTest_105 : decode cX1_readTest 105 = .ok (.if_icmp .ne 9, 3) := by decide +kernel
theorem dX1_readTest_108 : decode cX1_readTest 108 = .ok (.sipush 999, 3) := by decide +kernel
theorem dX1_readTest_111 : decode cX1_readTest 111 = .ok (.goto 6, 3) := by decide +kernel
theorem dX1_readTest_114 : decode cX1_readTest 114 = .ok (.sipush 9999, 3) := by decide +kernel
theorem dX1_readTest_117 : decode cX1_readTest 117 = .ok (.invokestatic 95, 3) := by decide +kernel
theorem dX1_readTest_120 : decode cX1_readTest 120 = .ok (.ifCond .eq 7, 3) := by decide +kernel
theorem dX1_readTest_123 : decode cX1_readTest 123 = .ok (.iconst 1, 1) := by decide +kernel
theorem dX1_readTest_124 : decode cX1_readTest 124 = .ok (.goto 4, 3) := by decide +kernel
theorem dX1_readTest_127 : decode cX1_readTest 127 = .ok (.iconst 0, 1) := by decide +kernel
theorem dX1_readTest_128 : decode cX1_readTest 128 = .ok (.ireturn, 1) := by decide +kernel
set_option maxRecDepth 100000 in
theorem t_X1_readTest (x0 x1 x2 x3 : Int) (M : Mem) : MtI yX1_readTest cX1_readTest 5 (some .boolean) 5 0 0 [(25, x0), (27, x1), (20, x2), (0, x3)] M 0 (f_X1_readTest x0 x1 x2 x3 M) := by
  refine mk_I (by decide +kernel) (Nat.le_of_ble_eq_true rfl) (fun E C r0 M0 hC hq hin => ?_)
  refine r_eqls (ls' := [(0, 25, x0), (1, 27, x1), (2, 20, x2), (3, 0, x3)]) rfl ?_
  unfold f_X1_readTest
  refine r_aload_n 0 hC 0 rfl (Or.inl (by decide)) rfl dX1_readTest_0 ?_
  refine r_get 1 hC fd_5_9 fl_X1_63 dX1_readTest_1 (fun v1 => ?_)
  refine r_istore 4 hC (by decide) dX1_readTest_4 (r_eqls (ls' := [(4, 0, v1), (0, 25, x0), (1, 27, x1), (2, 20, x2), (3, 0, x3)]) rfl ?_)
  refine r_iload 6 hC 0 rfl dX1_readTest_6 ?_
  refine r_bipush 8 hC kb_8 dX1_readTest_8 ?_
  refine r_jn (P := fun j33 => Bk E C 5 M (r0, M0) 33 [(0, 25, x0), (1, 27, x1), (2, 20, x2), (3, 0, x3), (4, 0, v1)] [] M 0 0 (j33)) ?_ (fun j33 hj33 => ?_)
  · refine r_aload_n 33 hC 2 rfl (Or.inl (by decide)) rfl dX1_readTest_33 ?_
    refine r_get 34 hC fd_0_4 fl_X1_131 dX1_readTest_34 (fun v2 => ?_)
    refine r_iload_n 37 hC 3 rfl rfl dX1_readTest_37 ?_
    refine r_iload 38 hC 4 rfl dX1_readTest_38 ?_
    refine r_iastore 40 hC dX1_readTest_40 (fun M3 => ?_)
    refine r_aload_n 41 hC 0 rfl (Or.inl (by decide)) rfl dX1_readTest_41 ?_
    refine r_nn (fun hn4 => ?_)
    refine r_callVV 42 hC [] [] rfl vl_X1_49 rfl hn4 (by decide) (Nat.le_of_ble_eq_true rfl) (by decide) (by decide) dX1_readTest_42 (t_X6_step x0 M3 hn4) (fun M5 => ?_)
    refine r_iload 45 hC 4 rfl dX1_readTest_45 ?_
    refine r_bipush 47 hC kb_8 dX1_readTest_47 ?_
    refine r_icmp_ne 49 hC (tgt := 60) (by decide) dX1_readTest_49 ?_ ?_
    · refine r_aload_n 60 hC 2 rfl (Or.inl (by decide)) rfl dX1_readTest_60 ?_
      refine r_get 61 hC fd_0_5 fl_X1_99 dX1_readTest_61 (fun v6 => ?_)
      refine r_iload_n 64 hC 3 rfl rfl dX1_readTest_64 ?_
      refine r_aload_n 65 hC 0 rfl (Or.inl (by decide)) rfl dX1_readTest_65 ?_
      refine r_aload_n 66 hC 1 rfl (Or.inl (by decide)) rfl dX1_readTest_66 ?_
      refine r_get 67 hC fd_7_12 fl_X1_115 dX1_readTest_67 (fun v7 => ?_)
      refine r_aload_n 70 hC 1 rfl (Or.inl (by decide)) rfl dX1_readTest_70 ?_
      refine r_get 71 hC fd_7_5 fl_X1_118 dX1_readTest_71 (fun v8 => ?_)
      refine r_callVI 74 hC [(11, v7), (0, v8)] [(0, x3), (10, v6)] rfl vl_X1_111 rfl hn4 (by decide) (Nat.le_of_ble_eq_true rfl) (by decide) (by decide) dX1_readTest_74 (t_X6_takeKnown x0 v7 v8 M5 hn4) (fun v9 M10 => ?_)
      refine r_iastore 77 hC dX1_readTest_77 (fun M11 => ?_)
      refine r_aload_n 78 hC 2 rfl (Or.inl (by decide)) rfl dX1_readTest_78 ?_
      refine r_get 79 hC fd_0_5 fl_X1_99 dX1_readTest_79 (fun v12 => ?_)
      refine r_iload_n 82 hC 3 rfl rfl dX1_readTest_82 ?_
      refine r_iaload 83 hC dX1_readTest_83 (fun v13 => ?_)
      refine r_iconst 84 hC (r32c rfl) dX1_readTest_84 ?_
      refine r_jn (P := fun j128 => ∀ (q14 : Int) (M15 : Mem), Bk E C 5 M (r0, M0) 128 [] [(0, q14)] M15 0 0 (j128 q14 M15)) ?_ (fun j128 hj128 => ?_)
      · intro q14 M15
        exact r_zreturn 128 hC hq (by decide) (by decide) dX1_readTest_128
      refine r_jn (P := fun j127 => ∀ (M16 : Mem), Bk E C 5 M (r0, M0) 127 [] [] M16 0 0 (j127 M16)) ?_ (fun j127 hj127 => ?_)
      · intro M16
        refine r_iconst 127 hC (r32c rfl) dX1_readTest_127 ?_
        exact hj128 0 M16
      refine r_icmp_eq 85 hC (tgt := 127) (by decide) dX1_readTest_85 ?_ ?_
      · exact r_sub [] rfl (hj127 M11)
      · refine r_aload_n 88 hC 0 rfl (Or.inl (by decide)) rfl dX1_readTest_88 ?_
        refine r_aload_n 89 hC 2 rfl (Or.inl (by decide)) rfl dX1_readTest_89 ?_
        refine r_iload_n 90 hC 3 rfl rfl dX1_readTest_90 ?_
        refine r_callSI 91 hC [(25, x0), (20, x2), (0, x3)] [] rfl sl_X1_134 rfl (by decide) (Nat.le_of_ble_eq_true rfl) (by decide) (by decide) dX1_readTest_91 (t_X1_readSign x0 x2 x3 M11) (fun v17 M18 => ?_)
        refine r_if_eq 94 hC (tgt := 127) (by decide) dX1_readTest_94 ?_ ?_
        · exact r_sub [] rfl (hj127 M18)
        · refine r_aload_n 97 hC 0 rfl (Or.inl (by decide)) rfl dX1_readTest_97 ?_
          refine r_aload_n 98 hC 2 rfl (Or.inl (by decide)) rfl dX1_readTest_98 ?_
          refine r_iload_n 99 hC 3 rfl rfl dX1_readTest_99 ?_
          refine r_iconst 100 hC (r32c rfl) dX1_readTest_100 ?_
          refine r_iload 101 hC 4 rfl dX1_readTest_101 ?_
          refine r_bipush 103 hC kb_25 dX1_readTest_103 ?_
          refine r_jn (P := fun j117 => ∀ (q19 : Int), Bk E C 5 M (r0, M0) 117 [] [(0, q19), (0, 0), (0, x3), (20, x2), (25, x0)] M18 0 0 (j117 q19)) ?_ (fun j117 hj117 => ?_)
          · intro q19
            refine r_callSI 117 hC [(25, x0), (20, x2), (0, x3), (0, 0), (0, q19)] [] rfl sl_X1_95 rfl (by decide) (Nat.le_of_ble_eq_true rfl) (by decide) (by decide) dX1_readTest_117 (t_X1_readNumber x0 x2 x3 0 q19 M18) (fun v20 M21 => ?_)
            refine r_if_eq 120 hC (tgt := 127) (by decide) dX1_readTest_120 ?_ ?_
            · exact hj127 M21
            · refine r_iconst 123 hC (r32c rfl) dX1_readTest_123 ?_
              refine r_goto 124 hC (tgt := 128) (by decide) dX1_readTest_124 ?_
              exact hj128 1 M21
          refine r_icmp_ne 105 hC (tgt := 114) (by decide) dX1_readTest_105 ?_ ?_
          · refine r_sipush 114 hC ks_9999 dX1_readTest_114 ?_
            exact r_sub [] rfl (hj117 9999)
          · refine r_sipush 108 hC ks_999 dX1_readTest_108 ?_
            refine r_goto 111 hC (tgt := 117) (by decide) dX1_readTest_111 ?_
            exact r_sub [] rfl (hj117 999)
    · refine r_aload_n 52 hC 0 rfl (Or.inl (by decide)) rfl dX1_readTest_52 ?_
      refine r_aload_n 53 hC 1 rfl (Or.inl (by decide)) rfl dX1_readTest_53 ?_
      refine r_aload_n 54 hC 2 rfl (Or.inl (by decide)) rfl dX1_readTest_54 ?_
      refine r_iload_n 55 hC 3 rfl rfl dX1_readTest_55 ?_
      refine r_callSI 56 hC [(25, x0), (27, x1), (20, x2), (0, x3)] [] rfl sl_X1_79 rfl (by decide) (Nat.le_of_ble_eq_true rfl) (by decide) (by decide) dX1_readTest_56 (t_X1_readReachName x0 x1 x2 x3 M5) (fun v22 M23 => ?_)
      exact r_zreturn 59 hC hq (by decide) (by decide) dX1_readTest_59
  refine r_icmp_eq 10 hC (tgt := 33) (by decide) dX1_readTest_10 ?_ ?_
  · exact r_sub [1, 2, 3, 4, 0] rfl (hj33)
  · refine r_iload 13 hC 0 rfl dX1_readTest_13 ?_
    refine r_bipush 15 hC kb_25 dX1_readTest_15 ?_
    refine r_icmp_eq 17 hC (tgt := 33) (by decide) dX1_readTest_17 ?_ ?_
    · exact r_sub [1, 2, 3, 4, 0] rfl (hj33)
    · refine r_iload 20 hC 0 rfl dX1_readTest_20 ?_
      refine r_bipush 22 hC kb_26 dX1_readTest_22 ?_
      refine r_icmp_eq 24 hC (tgt := 33) (by decide) dX1_readTest_24 ?_ ?_
      · exact r_sub [1, 2, 3, 4, 0] rfl (hj33)
      · refine r_aload_n 27 hC 1 rfl (Or.inl (by decide)) rfl dX1_readTest_27 ?_
        refine r_iconst 28 hC (r32c rfl) dX1_readTest_28 ?_
        refine r_nn (fun hn24 => ?_)
        refine r_callVI 29 hC [(0, 2)] [] rfl vl_X1_42 rfl hn24 (by decide) (Nat.le_of_ble_eq_true rfl) (by decide) (by decide) dX1_readTest_29 (t_X6_blame x0 2 M hn24) (fun v25 M26 => ?_)
        exact r_zreturn 32 hC hq (by decide) (by decide) dX1_readTest_32

/-! WaterTurns$DaysReader.readTwoFields(LWaterTurns$Tape;LWaterTurns$Valley;LWaterTurns$Days;I)Z -/
theorem dX1_readTwoFields_0 : decode cX1_readTwoFields 0 = .ok (.aload_n 2, 1) := by decide +kernel
theorem dX1_readTwoFields_1 : decode cX1_readTwoFields 1 = .ok (.getfield 99, 3) := by decide +kernel
theorem dX1_readTwoFields_4 : decode cX1_readTwoFields 4 = .ok (.iload_n 3, 1) := by decide +kernel
theorem dX1_readTwoFields_5 : decode cX1_readTwoFields 5 = .ok (.aload_n 0, 1) := by decide +kernel
theorem dX1_readTwoFields_6 : decode cX1_readTwoFields 6 = .ok (.aload_n 1, 1) := by decide +kernel
theorem dX1_readTwoFields_7 : decode cX1_readTwoFields 7 = .ok (.getfield 115, 3) := by decide +kernel
theorem dX1_readTwoFields_10 : decode cX1_readTwoFields 10 = .ok (.aload_n 1, 1) := by decide +kernel
theorem dX1_readTwoFields_11 : decode cX1_readTwoFields 11 = .ok (.getfield 118, 3) := by decide +kernel
theorem dX1_readTwoFields_14 : decode cX1_readTwoFields 14 = .ok (.invokevirtual 111, 3) := by decide +kernel
theorem dX1_readTwoFields_17 : decode cX1_readTwoFields 17 = .ok (.iastore, 1) := by decide +kernel
theorem dX1_readTwoFields_18 : decode cX1_readTwoFields 18 = .ok (.aload_n 2, 1) := by decide +kernel
theorem dX1_readTwoFields_19 : decode cX1_readTwoFields 19 = .ok (.getfield 99, 3) := by decide +kernel
theorem dX1_readTwoFields_22 : decode cX1_readTwoFields 22 = .ok (.iload_n 3, 1) := by decide +kernel
theorem dX1_readTwoFields_23 : decode cX1_readTwoFields 23 = .ok (.iaload, 1) := by decide +kernel
theorem dX1_readTwoFields_24 : decode cX1_readTwoFields 24 = .ok (.iconst (-1), 1) := by decide +kernel
theorem dX1_readTwoFields_25 : decode cX1_readTwoFields 25 = .ok (.if_icmp .ne 5, 3) := by decide +kernel
theorem dX1_readTwoFields_28 : decode cX1_readTwoFields 28 = .ok (.iconst 0, 1) := by decide +kernel
theorem dX1_readTwoFields_29 : decode cX1_readTwoFields 29 = .ok (.ireturn, 1) := by decide +kernel
theorem dX1_readTwoFields_30 : decode cX1_readTwoFields 30 = .ok (.aload_n 2, 1) := by decide +kernel
theorem dX1_readTwoFields_31 : decode cX1_readTwoFields 31 = .ok (.getfield 121, 3) := by decide +kernel
theorem dX1_readTwoFields_34 : decode cX1_readTwoFields 34 = .ok (.iload_n 3, 1) := by decide +kernel
theorem dX1_readTwoFields_35 : decode cX1_readTwoFields 35 = .ok (.aload_n 0, 1) := by decide +kernel
theorem dX1_readTwoFields_36 : decode cX1_readTwoFields 36 = .ok (.aload_n 1, 1) := by decide +kernel
theorem dX1_readTwoFields_37 : decode cX1_readTwoFields 37 = .ok (.getfield 115, 3) := by decide +kernel
theorem dX1_readTwoFields_40 : decode cX1_readTwoFields 40 = .ok (.aload_n 1, 1) := by decide +kernel
theorem dX1_readTwoFields_41 : decode cX1_readTwoFields 41 = .ok (.getfield 118, 3) := by decide +kernel
theorem dX1_readTwoFields_44 : decode cX1_readTwoFields 44 = .ok (.invokevirtual 111, 3) := by decide +kernel
theorem dX1_readTwoFields_47 : decode cX1_readTwoFields 47 = .ok (.iastore, 1) := by decide +kernel
theorem dX1_readTwoFields_48 : decode cX1_readTwoFields 48 = .ok (.aload_n 2, 1) := by decide +kernel
theorem dX1_readTwoFields_49 : decode cX1_readTwoFields 49 = .ok (.getfield 121, 3) := by decide +kernel
theorem dX1_readTwoFields_52 : decode cX1_readTwoFields 52 = .ok (.iload_n 3, 1) := by decide +kernel
theorem dX1_readTwoFields_53 : decode cX1_readTwoFields 53 = .ok (.iaload, 1) := by decide +kernel
theorem dX1_readTwoFields_54 : decode cX1_readTwoFields 54 = .ok (.iconst (-1), 1) := by decide +kernel
theorem dX1_readTwoFields_55 : decode cX1_readTwoFields 55 = .ok (.if_icmp .eq 7, 3) := by decide +kernel
theorem dX1_readTwoFields_58 : decode cX1_readTwoFields 58 = .ok (.iconst 1, 1) := by decide +kernel
theorem dX1_readTwoFields_59 : decode cX1_readTwoFields 59 = .ok (.goto 4, 3) := by decide +kernel
theorem dX1_readTwoFields_62 : decode cX1_readTwoFields 62 = .ok (.iconst 0, 1) := by decide +kernel
theorem dX1_readTwoFields_63 : decode cX1_readTwoFields 63 = .ok (.ireturn, 1) := by decide +kernel
set_option maxRecDepth 100000 in
theorem t_X1_readTwoFields (x0 x1 x2 x3 : Int) (M : Mem) : MtI yX1_readTwoFields cX1_readTwoFields 4 (some .boolean) 4 0 0 [(25, x0), (27, x1), (20, x2), (0, x3)] M 0 (f_X1_readTwoFields x0 x1 x2 x3 M) := by
  refine mk_I (by decide +kernel) (Nat.le_of_ble_eq_true rfl) (fun E C r0 M0 hC hq hin => ?_)
  refine r_eqls (ls' := [(0, 25, x0), (1, 27, x1), (2, 20, x2), (3, 0, x3)]) rfl ?_
  unfold f_X1_readTwoFields
  refine r_aload_n 0 hC 2 rfl (Or.inl (by decide)) rfl dX1_readTwoFields_0 ?_
  refine r_get 1 hC fd_0_5 fl_X1_99 dX1_readTwoFields_1 (fun v1 => ?_)
  refine r_iload_n 4 hC 3 rfl rfl dX1_readTwoFields_4 ?_
  refine r_aload_n 5 hC 0 rfl (Or.inl (by decide)) rfl dX1_readTwoFields_5 ?_
  refine r_aload_n 6 hC 1 rfl (Or.inl (by decide)) rfl dX1_readTwoFields_6 ?_
  refine r_get 7 hC fd_7_12 fl_X1_115 dX1_readTwoFields_7 (fun v2 => ?_)
  refine r_aload_n 10 hC 1 rfl (Or.inl (by decide)) rfl dX1_readTwoFields_10 ?_
  refine r_get 11 hC fd_7_5 fl_X1_118 dX1_readTwoFields_11 (fun v3 => ?_)
  refine r_nn (fun hn4 => ?_)
  refine r_callVI 14 hC [(11, v2), (0, v3)] [(0, x3), (10, v1)] rfl vl_X1_111 rfl hn4 (by decide) (Nat.le_of_ble_eq_true rfl) (by decide) (by decide) dX1_readTwoFields_14 (t_X6_takeKnown x0 v2 v3 M hn4) (fun v5 M6 => ?_)
  refine r_iastore 17 hC dX1_readTwoFields_17 (fun M7 => ?_)
  refine r_aload_n 18 hC 2 rfl (Or.inl (by decide)) rfl dX1_readTwoFields_18 ?_
  refine r_get 19 hC fd_0_5 fl_X1_99 dX1_readTwoFields_19 (fun v8 => ?_)
  refine r_iload_n 22 hC 3 rfl rfl dX1_readTwoFields_22 ?_
  refine r_iaload 23 hC dX1_readTwoFields_23 (fun v9 => ?_)
  refine r_iconst 24 hC (r32c rfl) dX1_readTwoFields_24 ?_
  refine r_icmp_ne 25 hC (tgt := 30) (by decide) dX1_readTwoFields_25 ?_ ?_
  · refine r_aload_n 30 hC 2 rfl (Or.inl (by decide)) rfl dX1_readTwoFields_30 ?_
    refine r_get 31 hC fd_0_6 fl_X1_121 dX1_readTwoFields_31 (fun v10 => ?_)
    refine r_iload_n 34 hC 3 rfl rfl dX1_readTwoFields_34 ?_
    refine r_aload_n 35 hC 0 rfl (Or.inl (by decide)) rfl dX1_readTwoFields_35 ?_
    refine r_aload_n 36 hC 1 rfl (Or.inl (by decide)) rfl dX1_readTwoFields_36 ?_
    refine r_get 37 hC fd_7_12 fl_X1_115 dX1_readTwoFields_37 (fun v11 => ?_)
    refine r_aload_n 40 hC 1 rfl (Or.inl (by decide)) rfl dX1_readTwoFields_40 ?_
    refine r_get 41 hC fd_7_5 fl_X1_118 dX1_readTwoFields_41 (fun v12 => ?_)
    refine r_callVI 44 hC [(11, v11), (0, v12)] [(0, x3), (10, v10)] rfl vl_X1_111 rfl hn4 (by decide) (Nat.le_of_ble_eq_true rfl) (by decide) (by decide) dX1_readTwoFields_44 (t_X6_takeKnown x0 v11 v12 M7 hn4) (fun v13 M14 => ?_)
    refine r_iastore 47 hC dX1_readTwoFields_47 (fun M15 => ?_)
    refine r_aload_n 48 hC 2 rfl (Or.inl (by decide)) rfl dX1_readTwoFields_48 ?_
    refine r_get 49 hC fd_0_6 fl_X1_121 dX1_readTwoFields_49 (fun v16 => ?_)
    refine r_iload_n 52 hC 3 rfl rfl dX1_readTwoFields_52 ?_
    refine r_iaload 53 hC dX1_readTwoFields_53 (fun v17 => ?_)
    refine r_iconst 54 hC (r32c rfl) dX1_readTwoFields_54 ?_
    refine r_jn (P := fun j63 => ∀ (q18 : Int), Bk E C 4 M (r0, M0) 63 [] [(0, q18)] M15 0 0 (j63 q18)) ?_ (fun j63 hj63 => ?_)
    · intro q18
      exact r_zreturn 63 hC hq (by decide) (by decide) dX1_readTwoFields_63
    refine r_icmp_eq 55 hC (tgt := 62) (by decide) dX1_readTwoFields_55 ?_ ?_
    · refine r_iconst 62 hC (r32c rfl) dX1_readTwoFields_62 ?_
      exact r_sub [] rfl (hj63 0)
    · refine r_iconst 58 hC (r32c rfl) dX1_readTwoFields_58 ?_
      refine r_goto 59 hC (tgt := 63) (by decide) dX1_readTwoFields_59 ?_
      exact r_sub [] rfl (hj63 1)
  · refine r_iconst 28 hC (r32c rfl) dX1_readTwoFields_28 ?_
    exact r_zreturn 29 hC hq (by decide) (by decide) dX1_readTwoFields_29

/-! WaterTurns$DaysReader.mostOf(I)I -/
theorem dX1_mostOf_0 : decode cX1_mostOf 0 = .ok (.iload_n 0, 1) := by decide +kernel
theorem dX1_mostOf_1 : decode cX1_mostOf 1 = .ok (.tableswitch 69 18 27 #[55, 69, 59, 63, 69, 69, 69, 69, 69, 66], 55) := by decide +kernel
theorem dX1_mostOf_56 : decode cX1_mostOf 56 = .ok (.sipush 999, 3) := by decide +kernel
theorem dX1_mostOf_59 : decode cX1_mostOf 59 = .ok (.ireturn, 1) := by decide +kernel
theorem dX1_mostOf_60 : decode cX1_mostOf 60 = .ok (.sipush 999, 3) := by decide +kernel
theorem dX1_mostOf_63 : decode cX1_mostOf 63 = .ok (.ireturn, 1) := by decide +kernel
theorem dX1_mostOf_64 : decode cX1_mostOf 64 = .ok (.bipush 16, 2) := by decide +kernel
theorem dX1_mostOf_66 : decode cX1_mostOf 66 = .ok (.ireturn, 1) := by decide +kernel
theorem dX1_mostOf_67 : decode cX1_mostOf 67 = .ok (.bipush 99, 2) := by decide +kernel
theorem dX1_mostOf_69 : decode cX1_mostOf 69 = .ok (.ireturn, 1) := by decide +kernel
theorem dX1_mostOf_70 : decode cX1_mostOf 70 = .ok (.iconst (-1), 1) := by decide +kernel
theorem dX1_mostOf_71 : decode cX1_mostOf 71 = .ok (.ireturn, 1) := by decide +kernel
set_option maxRecDepth 100000 in
theorem t_X1_mostOf (x0 : Int) (M : Mem) : MtP yX1_mostOf cX1_mostOf 1 (some .int) 1 0 0 [(0, x0)] M 0 (f_X1_mostOf x0 M) := by
  refine mk_P (by decide +kernel) (Nat.le_of_ble_eq_true rfl) (fun E C r0 hC hq hin => ?_)
  refine r_eqls (ls' := [(0, 0, x0)]) rfl ?_
  unfold f_X1_mostOf
  refine r_iload_n 0 hC 0 rfl rfl dX1_mostOf_0 ?_
  refine r_sw_case 1 (tgt := 56) (off := 55) hC dX1_mostOf_1 ⟨by decide, by decide, r32c rfl⟩ (by decide) (by decide) ?_ (fun hs18 => ?_)
  · refine r_sipush 56 hC ks_999 dX1_mostOf_56 ?_
    exact r_ireturnP 59 hC hq (by decide) (by decide) dX1_mostOf_59
  refine r_sw_case 1 (tgt := 60) (off := 59) hC dX1_mostOf_1 ⟨by decide, by decide, r32c rfl⟩ (by decide) (by decide) ?_ (fun hs20 => ?_)
  · refine r_sipush 60 hC ks_999 dX1_mostOf_60 ?_
    exact r_ireturnP 63 hC hq (by decide) (by decide) dX1_mostOf_63
  refine r_sw_case 1 (tgt := 64) (off := 63) hC dX1_mostOf_1 ⟨by decide, by decide, r32c rfl⟩ (by decide) (by decide) ?_ (fun hs21 => ?_)
  · refine r_bipush 64 hC kb_16 dX1_mostOf_64 ?_
    exact r_ireturnP 66 hC hq (by decide) (by decide) dX1_mostOf_66
  refine r_sw_case 1 (tgt := 67) (off := 66) hC dX1_mostOf_1 ⟨by decide, by decide, r32c rfl⟩ (by decide) (by decide) ?_ (fun hs27 => ?_)
  · refine r_bipush 67 hC kb_99 dX1_mostOf_67 ?_
    exact r_ireturnP 69 hC hq (by decide) (by decide) dX1_mostOf_69
  refine r_sw_dflt2 1 (tgt := 70) hC dX1_mostOf_1 [19, 22, 23, 24, 25, 26] (by decide) (by simp only [List.mem_cons, List.not_mem_nil, or_false]; omega) (by decide) ?_
  refine r_iconst 70 hC (r32c rfl) dX1_mostOf_70 ?_
  exact r_ireturnP 71 hC hq (by decide) (by decide) dX1_mostOf_71

/-! WaterTurns$DaysReader.leastOf(I)I -/
theorem dX1_leastOf_0 : decode cX1_leastOf 0 = .ok (.iload_n 0, 1) := by decide +kernel
theorem dX1_leastOf_1 : decode cX1_leastOf 1 = .ok (.bipush 18, 2) := by decide +kernel
theorem dX1_leastOf_3 : decode cX1_leastOf 3 = .ok (.if_icmp .eq 9, 3) := by decide +kernel
theorem dX1_leastOf_6 : decode cX1_leastOf 6 = .ok (.iload_n 0, 1) := by decide +kernel
theorem dX1_leastOf_7 : decode cX1_leastOf 7 = .ok (.bipush 27, 2) := by decide +kernel
theorem dX1_leastOf_9 : decode cX1_leastOf 9 = .ok (.if_icmp .ne 7, 3) := by decide +kernel
theorem dX1_leastOf_12 : decode cX1_leastOf 12 = .ok (.iconst 1, 1) := by decide +kernel
theorem dX1_leastOf_13 : decode cX1_leastOf 13 = .ok (.goto 4, 3) := by decide +kernel
theorem dX1_leastOf_16 : decode cX1_leastOf 16 = .ok (.iconst 0, 1) := by decide +kernel
theorem dX1_leastOf_17 : decode cX1_leastOf 17 = .ok (.ireturn, 1) := by decide +kernel
set_option maxRecDepth 100000 in
theorem t_X1_leastOf (x0 : Int) (M : Mem) : MtP yX1_leastOf cX1_leastOf 1 (some .int) 1 0 0 [(0, x0)] M 0 (f_X1_leastOf x0 M) := by
  refine mk_P (by decide +kernel) (Nat.le_of_ble_eq_true rfl) (fun E C r0 hC hq hin => ?_)
  refine r_eqls (ls' := [(0, 0, x0)]) rfl ?_
  unfold f_X1_leastOf
  refine r_iload_n 0 hC 0 rfl rfl dX1_leastOf_0 ?_
  refine r_bipush 1 hC kb_18 dX1_leastOf_1 ?_
  refine r_jn (P := fun j17 => ∀ (q1 : Int), Bk E C 1 M r0 17 [] [(0, q1)] M 0 0 (j17 q1)) ?_ (fun j17 hj17 => ?_)
  · intro q1
    exact r_ireturnP 17 hC hq (by decide) (by decide) dX1_leastOf_17
  refine r_jn (P := fun j12 => Bk E C 1 M r0 12 [] [] M 0 0 (j12)) ?_ (fun j12 hj12 => ?_)
  · refine r_iconst 12 hC (r32c rfl) dX1_leastOf_12 ?_
    refine r_goto 13 hC (tgt := 17) (by decide) dX1_leastOf_13 ?_
    exact hj17 1
  refine r_icmp_eq 3 hC (tgt := 12) (by decide) dX1_leastOf_3 ?_ ?_
  · exact r_sub [] rfl (hj12)
  · refine r_iload_n 6 hC 0 rfl rfl dX1_leastOf_6 ?_
    refine r_bipush 7 hC kb_27 dX1_leastOf_7 ?_
    refine r_icmp_ne 9 hC (tgt := 16) (by decide) dX1_leastOf_9 ?_ ?_
    · refine r_iconst 16 hC (r32c rfl) dX1_leastOf_16 ?_
      exact r_sub [] rfl (hj17 0)
    · exact r_sub [] rfl (hj12)

/-! WaterTurns$DaysReader.readStep(LWaterTurns$Tape;LWaterTurns$Valley;LWaterTurns$Days;)Z -/
theorem dX1_readStep_0 : decode cX1_readStep 0 = .ok (.aload_n 0, 1) := by decide +kernel
theorem dX1_readStep_1 : decode cX1_readStep 1 = .ok (.getfield 63, 3) := by decide +kernel
theorem dX1_readStep_4 : decode cX1_readStep 4 = .ok (.istore_n 3, 1) := by decide +kernel
theorem dX1_readStep_5 : decode cX1_readStep 5 = .ok (.iload_n 3, 1) := by decide +kernel
theorem dX1_readStep_6 : decode cX1_readStep 6 = .ok (.invokestatic 67, 3) := by decide +kernel
theorem dX1_readStep_9 : decode cX1_readStep 9 = .ok (.ifCond .ne 9, 3) := by decide +kernel
theorem dX1_readStep_12 : decode cX1_readStep 12 = .ok (.aload_n 0, 1) := by decide +kernel
theorem dX1_readStep_13 : decode cX1_readStep 13 = .ok (.iconst 2, 1) := by decide +kernel
theorem dX1_readStep_14 : decode cX1_readStep 14 = .ok (.invokevirtual 42, 3) := by decide +kernel
theorem dX1_readStep_17 : decode cX1_readStep 17 = .ok (.ireturn, 1) := by decide +kernel
theorem dX1_readStep_18 : decode cX1_readStep 18 = .ok (.aload_n 2, 1) := by decide +kernel
theorem dX1_readStep_19 : decode cX1_readStep 19 = .ok (.getfield 70, 3) := by decide +kernel
theorem dX1_readStep_22 : decode cX1_readStep 22 = .ok (.bipush 30, 2) := by decide +kernel
theorem dX1_readStep_24 : decode cX1_readStep 24 = .ok (.if_icmp .lt 10, 3) := by decide +kernel
theorem dX1_readStep_27 : decode cX1_readStep 27 = .ok (.aload_n 0, 1) := by decide +kernel
theorem dX1_readStep_28 : decode cX1_readStep 28 = .ok (.bipush 6, 2) := by decide +kernel
theorem dX1_readStep_30 : decode cX1_readStep 30 = .ok (.invokevirtual 42, 3) := by decide +kernel
theorem dX1_readStep_33 : decode cX1_readStep 33 = .ok (.ireturn, 1) := by decide +kernel
theorem dX1_readStep_34 : decode cX1_readStep 34 = .ok (.iload_n 3, 1) := by decide +kernel
theorem dX1_readStep_35 : decode cX1_readStep 35 = .ok (.invokestatic 73, 3) := by decide +kernel
theorem dX1_readStep_38 : decode cX1_readStep 38 = .ok (.ifCond .eq 18, 3) := by decide +kernel
theorem dX1_readStep_41 : decode cX1_readStep 41 = .ok (.aload_n 2, 1) := by decide +kernel
theorem dX1_readStep_42 : decode cX1_readStep 42 = .ok (.invokevirtual 76, 3) := by decide +kernel
theorem dX1_readStep_45 : decode cX1_readStep 45 = .ok (.iconst 3, 1) := by decide +kernel
theorem dX1_readStep_46 : decode cX1_readStep 46 = .ok (.if_icmp .lt 10, 3) := by decide +kernel
theorem dX1_readStep_49 : decode cX1_readStep 49 = .ok (.aload_n 0, 1) := by decide +kernel
theorem dX1_readStep_50 : decode cX1_readStep 50 = .ok (.bipush 7, 2) := by decide +kernel
theorem dX1_readStep_52 : decode cX1_readStep 52 = .ok (.invokevirtual 42, 3) := by decide +kernel
theorem dX1_readStep_55 : decode cX1_readStep 55 = .ok (.ireturn, 1) := by decide +kernel
theorem dX1_readStep_56 : decode cX1_readStep 56 = .ok (.aload_n 0, 1) := by decide +kernel
theorem dX1_readStep_57 : decode cX1_readStep 57 = .ok (.invokevirtual 49, 3) := by decide +kernel
theorem dX1_readStep_60 : decode cX1_readStep 60 = .ok (.aload_n 2, 1) := by decide +kernel
theorem dX1_readStep_61 : decode cX1_readStep 61 = .ok (.dup, 1) := by decide +kernel
theorem dX1_readStep_62 : decode cX1_readStep 62 = .ok (.getfield 70, 3) := by decide +kernel
theorem dX1_readStep_65 : decode cX1_readStep 65 = .ok (.iconst 1, 1) := by decide +kernel
theorem dX1_readStep_66 : decode cX1_readStep 66 = .ok (.iadd, 1) := by decide +kernel
theorem dX1_readStep_67 : decode cX1_readStep 67 = .ok (.putfield 70, 3) := by decide +kernel
theorem dX1_readStep_70 : decode cX1_readStep 70 = .ok (.aload_n 2, 1) := by decide +kernel
theorem dX1_readStep_71 : decode cX1_readStep 71 = .ok (.iload_n 3, 1) := by decide +kernel
theorem dX1_readStep_72 : decode cX1_readStep 72 = .ok (.invokevirtual 52, 3) := by decide +kernel
theorem dX1_readStep_75 : decode cX1_readStep 75 = .ok (.istore 4, 2) := by decide +kernel
theorem dX1_readStep_77 : decode cX1_readStep 77 = .ok (.iconst 1, 1) := by decide +kernel
theorem dX1_readStep_78 : decode cX1_readStep 78 = .ok (.istore 5, 2) := by decide +kernel
theorem dX1_readStep_80 : decode cX1_readStep 80 = .ok (.iload_n 3, 1) := by decide +kernel
theorem dX1_readStep_81 : decode cX1_readStep 81 = .ok (.bipush 8, 2) := by decide +kernel
theorem dX1_readStep_83 : decode cX1_readStep 83 = .ok (.if_icmp .eq 9, 3) := by decide +kernel
theorem dX1_readStep_86 : decode cX1_readStep 86 = .ok (.iload_n 3, 1) := by decide +kernel
theorem dX1_readStep_87 : decode cX1_readStep 87 = .ok (.bipush 16, 2) := by decide +kernel
theorem dX1_readStep_89 : decode cX1_readStep 89 = .ok (.if_icmp .ne 16, 3) := by decide +kernel
theorem dX1_readStep_92 : decode cX1_readStep 92 = .ok (.aload_n 0, 1) := by decide +kernel
theorem dX1_readStep_93 : decode cX1_readStep 93 = .ok (.aload_n 1, 1) := by decide +kernel
theorem dX1_readStep_94 : decode cX1_readStep 94 = .ok (.aload_n 2, 1) := by decide +kernel
theorem dX1_readStep_95 : decode cX1_readStep 95 = .ok (.iload 4, 2) := by decide +kernel
theorem dX1_readStep_97 : decode cX1_readStep 97 = .ok (.invokestatic 79, 3) := by decide +kernel
theorem dX1_readStep_100 : decode cX1_readStep 100 = .ok (.istore 5, 2) := by decide +kernel
theorem dX1_readStep_102 : decode cX1_readStep 102 = .ok (.goto 50, 3) := by decide +kernel
theorem dX1_readStep_105 : decode cX1_readStep 105 = .ok (.iload_n 3, 1) := by decide +kernel
theorem dX1_readStep_106 : decode cX1_readStep 106 = .ok (.bipush 23, 2) := by decide +kernel
theorem dX1_readStep_108 : decode cX1_readStep 108 = .ok (.if_icmp .ne 16, 3) := by decide +kernel
theorem dX1_readStep_111 : decode cX1_readStep 111 = .ok (.aload_n 0, 1) := by decide +kernel
theorem dX1_readStep_112 : decode cX1_readStep 112 = .ok (.aload_n 1, 1) := by decide +kernel
theorem dX1_readStep_113 : decode cX1_readStep 113 = .ok (.aload_n 2, 1) := by decide +kernel
theorem dX1_readStep_114 : decode cX1_readStep 114 = .ok (.iload 4, 2) := by decide +kernel
theorem dX1_readStep_116 : decode cX1_readStep 116 = .ok (.invokestatic 83, 3) := by decide +kernel
theorem dX1_readStep_119 : decode cX1_readStep 119 = .ok (.istore 5, 2) := by decide +kernel
theorem dX1_readStep_121 : decode cX1_readStep 121 = .ok (.goto 31, 3) := by decide +kernel
theorem dX1_readStep_124 : decode cX1_readStep 124 = .ok (.iload_n 3, 1) := by decide +kernel
theorem dX1_readStep_125 : decode cX1_readStep 125 = .ok (.bipush 17, 2) := by decide +kernel
theorem dX1_readStep_127 : decode cX1_readStep 127 = .ok (.if_icmp .eq 15, 3) := by decide +kernel
theorem dX1_readStep_130 : decode cX1_readStep 130 = .ok (.iload_n 3, 1) := by decide +kernel
theorem dX1_readStep_131 : decode cX1_readStep 131 = .ok (.bipush 19, 2) := by decide +kernel
theorem dX1_readStep_133 : decode cX1_readStep 133 = .ok (.if_icmp .eq 9, 3) := by decide +kernel
theorem dX1_readStep_136 : decode cX1_readStep 136 = .ok (.iload_n 3, 1) := by decide +kernel
theorem dX1_readStep_137 : decode cX1_readStep 137 = .ok (.bipush 18, 2) := by decide +kernel
theorem dX1_readStep_139 : decode cX1_readStep 139 = .ok (.if_icmp .ne 13, 3) := by decide +kernel
theorem dX1_readStep_142 : decode cX1_readStep 142 = .ok (.aload_n 0, 1) := by decide +kernel
theorem dX1_readStep_143 : decode cX1_readStep 143 = .ok (.aload_n 1, 1) := by decide +kernel
theorem dX1_readStep_144 : decode cX1_readStep 144 = .ok (.aload_n 2, 1) := by decide +kernel
theorem dX1_readStep_145 : decode cX1_readStep 145 = .ok (.iload 4, 2) := by decide +kernel
theorem dX1_readStep_147 : decode cX1_readStep 147 = .ok (.invokestatic 86, 3) := by decide +kernel
theorem dX1_readStep_150 : decode cX1_readStep 150 = .ok (.istore 5, 2) := by decide +kernel
theorem dX1_readStep_152 : decode cX1_readStep 152 = .ok (.iload 5, 2) := by decide +kernel
theorem dX1_readStep_154 : decode cX1_readStep 154 = .ok (.ifCond .eq 28, 3) := by decide +kernel
theorem dX1_readStep_157 : decode cX1_readStep 157 = .ok (.iload_n 3, 1) := by decide +kernel
theorem dX1_readStep_158 : decode cX1_readStep 158 = .ok (.invokestatic 89, 3) := by decide +kernel
theorem dX1_readStep_161 : decode cX1_readStep 161 = .ok (.iconst (-1), 1) := by decide +kernel
theorem dX1_readStep_162 : decode cX1_readStep 162 = .ok (.if_icmp .eq 20, 3) := by decide +kernel
theorem dX1_readStep_165 : decode cX1_readStep 165 = .ok (.aload_n 0, 1) := by decide +kernel
theorem dX1_readStep_166 : decode cX1_readStep 166 = .ok (.aload_n 2, 1) := by decide +kernel
theorem dX1_readStep_167 : decode cX1_readStep 167 = .ok (.iload 4, 2) := by decide +kernel
theorem dX1_readStep_169 : decode cX1_readStep 169 = .ok (.iload_n 3, 1) := by decide +kernel
theorem dX1_readStep_170 : decode cX1_readStep 170 = .ok (.invokestatic 92, 3) := by decide +kernel
theorem dX1_readStep_173 : decode cX1_readStep 173 = .ok (.iload_n 3, 1) := by decide +kernel
theorem dX1_readStep_174 : decode cX1_readStep 174 = .ok (.invokestatic 89, 3) := by decide +kernel
theorem dX1_readStep_177 : decode cX1_readStep 177 = .ok (.invokestatic 95, 3) := by decide +kernel
theorem dX1_readStep_180 : decode cX1_readStep 180 = .ok (.istore 5, 2) := by decide +kernel
theorem dX1_readStep_182 : decode cX1_readStep 182 = .ok (.iload 5, 2) := by decide +kernel
theorem dX1_readStep_184 : decode cX1_readStep 184 = .ok (.ifCond .eq 14, 3) := by decide +kernel
theorem dX1_readStep_187 : decode cX1_readStep 187 = .ok (.aload_n 0, 1) := by decide +kernel
theorem dX1_readStep_188 : decode cX1_readStep 188 = .ok (.invokevirtual 60, 3) := by decide +kernel
theorem dX1_readStep_191 : decode cX1_readStep 191 = .ok (.ifCond .eq 7, 3) := by decide +kernel
theorem dX1_readStep_194 : decode cX1_readStep 194 = .ok (.iconst 1, 1) := by decide +kernel
theorem dX1_readStep_195 : decode cX1_readStep 195 = .ok (.goto 4, 3) := by decide +kernel
theorem dX1_readStep_198 : decode cX1_readStep 198 = .ok (.iconst 0, 1) := by decide +kernel
theorem dX1_readStep_199 : decode cX1_readStep 199 = .ok (.ireturn, 1) := by decide +kernel
set_option maxRecDepth 100000 in
theorem t_X1_readStep (x0 x1 x2 : Int) (M : Mem) : MtI yX1_readStep cX1_readStep 6 (some .boolean) 6 0 0 [(25, x0), (27, x1), (20, x2)] M 0 (f_X1_readStep x0 x1 x2 M) := by
  refine mk_I (by decide +kernel) (Nat.le_of_ble_eq_true rfl) (fun E C r0 M0 hC hq hin => ?_)
  refine r_eqls (ls' := [(0, 25, x0), (1, 27, x1), (2, 20, x2)]) rfl ?_
  unfold f_X1_readStep
  refine r_aload_n 0 hC 0 rfl (Or.inl (by decide)) rfl dX1_readStep_0 ?_
  refine r_get 1 hC fd_5_9 fl_X1_63 dX1_readStep_1 (fun v1 => ?_)
  refine r_istore_n 4 hC rfl (by decide) dX1_readStep_4 (r_eqls (ls' := [(3, 0, v1), (0, 25, x0), (1, 27, x1), (2, 20, x2)]) rfl ?_)
  refine r_iload_n 5 hC 0 rfl rfl dX1_readStep_5 ?_
  refine r_callSP 6 hC [(0, v1)] [] rfl sl_X1_67 rfl (by decide) (Nat.le_of_ble_eq_true rfl) (by decide) (by decide) dX1_readStep_6 (t_X1_isStepWord v1 M) (fun v2 => ?_)
  refine r_if_ne 9 hC (tgt := 18) (by decide) dX1_readStep_9 ?_ ?_
  · refine r_aload_n 18 hC 3 rfl (Or.inl (by decide)) rfl dX1_readStep_18 ?_
    refine r_get 19 hC fd_0_1 fl_X1_70 dX1_readStep_19 (fun v3 => ?_)
    refine r_bipush 22 hC kb_30 dX1_readStep_22 ?_
    refine r_icmp_lt 24 hC (tgt := 34) (by decide) dX1_readStep_24 ?_ ?_
    · refine r_iload_n 34 hC 0 rfl rfl dX1_readStep_34 ?_
      refine r_callSP 35 hC [(0, v1)] [] rfl sl_X1_73 rfl (by decide) (Nat.le_of_ble_eq_true rfl) (by decide) (by decide) dX1_readStep_35 (t_X0_isBlock v1 M) (fun v4 => ?_)
      refine r_jn (P := fun j56 => Bk E C 6 M (r0, M0) 56 [(0, 25, x0), (1, 27, x1), (2, 20, x2), (3, 0, v1)] [] M 0 0 (j56)) ?_ (fun j56 hj56 => ?_)
      · refine r_aload_n 56 hC 0 rfl (Or.inl (by decide)) rfl dX1_readStep_56 ?_
        refine r_nn (fun hn5 => ?_)
        refine r_callVV 57 hC [] [] rfl vl_X1_49 rfl hn5 (by decide) (Nat.le_of_ble_eq_true rfl) (by decide) (by decide) dX1_readStep_57 (t_X6_step x0 M hn5) (fun M6 => ?_)
        refine r_aload_n 60 hC 2 rfl (Or.inl (by decide)) rfl dX1_readStep_60 ?_
        refine r_dup 61 hC (by decide) dX1_readStep_61 ?_
        refine r_get 62 hC fd_0_1 fl_X1_70 dX1_readStep_62 (fun v7 => ?_)
        refine r_iconst 65 hC (r32c rfl) dX1_readStep_65 ?_
        refine r_iadd 66 hC dX1_readStep_66 ?_
        refine r_put 67 hC fd_0_1 fl_X1_70 dX1_readStep_67 (fun M8 => ?_)
        refine r_aload_n 70 hC 2 rfl (Or.inl (by decide)) rfl dX1_readStep_70 ?_
        refine r_iload_n 71 hC 3 rfl rfl dX1_readStep_71 ?_
        refine r_nn (fun hn9 => ?_)
        refine r_callVI 72 hC [(0, v1)] [] rfl vl_X1_52 rfl hn9 (by decide) (Nat.le_of_ble_eq_true rfl) (by decide) (by decide) dX1_readStep_72 (t_X0_addLine x2 v1 M8 hn9) (fun v10 M11 => ?_)
        refine r_istore 75 hC (by decide) dX1_readStep_75 (r_eqls (ls' := [(4, 0, v10), (0, 25, x0), (1, 27, x1), (2, 20, x2), (3, 0, v1)]) rfl ?_)
        refine r_iconst 77 hC (r32c rfl) dX1_readStep_77 ?_
        refine r_istore 78 hC (by decide) dX1_readStep_78 (r_eqls (ls' := [(5, 0, 1), (4, 0, v10), (0, 25, x0), (1, 27, x1), (2, 20, x2), (3, 0, v1)]) rfl ?_)
        refine r_iload_n 80 hC 5 rfl rfl dX1_readStep_80 ?_
        refine r_bipush 81 hC kb_8 dX1_readStep_81 ?_
        refine r_jn (P := fun j152 => ∀ (q12 : Int) (M13 : Mem), Bk E C 6 M (r0, M0) 152 [(0, 25, x0), (2, 20, x2), (3, 0, v1), (4, 0, v10), (5, 0, q12)] [] M13 0 0 (j152 q12 M13)) ?_ (fun j152 hj152 => ?_)
        · intro q12 M13
          refine r_iload 152 hC 4 rfl dX1_readStep_152 ?_
          refine r_jn (P := fun j182 => ∀ (q14 : Int) (M15 : Mem), Bk E C 6 M (r0, M0) 182 [(0, 25, x0), (5, 0, q14)] [] M15 0 0 (j182 q14 M15)) ?_ (fun j182 hj182 => ?_)
          · intro q14 M15
            refine r_iload 182 hC 1 rfl dX1_readStep_182 ?_
            refine r_jn (P := fun j199 => ∀ (q16 : Int) (M17 : Mem), Bk E C 6 M (r0, M0) 199 [] [(0, q16)] M17 0 0 (j199 q16 M17)) ?_ (fun j199 hj199 => ?_)
            · intro q16 M17
              exact r_zreturn 199 hC hq (by decide) (by decide) dX1_readStep_199
            refine r_jn (P := fun j198 => ∀ (M18 : Mem), Bk E C 6 M (r0, M0) 198 [] [] M18 0 0 (j198 M18)) ?_ (fun j198 hj198 => ?_)
            · intro M18
              refine r_iconst 198 hC (r32c rfl) dX1_readStep_198 ?_
              exact hj199 0 M18
            refine r_if_eq 184 hC (tgt := 198) (by decide) dX1_readStep_184 ?_ ?_
            · exact r_sub [] rfl (hj198 M15)
            · refine r_aload_n 187 hC 0 rfl (Or.inl (by decide)) rfl dX1_readStep_187 ?_
              refine r_callVI 188 hC [] [] rfl vl_X1_60 rfl hn5 (by decide) (Nat.le_of_ble_eq_true rfl) (by decide) (by decide) dX1_readStep_188 (t_X6_skipSemicolon x0 M15 hn5) (fun v19 M20 => ?_)
              refine r_if_eq 191 hC (tgt := 198) (by decide) dX1_readStep_191 ?_ ?_
              · exact r_sub [] rfl (hj198 M20)
              · refine r_iconst 194 hC (r32c rfl) dX1_readStep_194 ?_
                refine r_goto 195 hC (tgt := 199) (by decide) dX1_readStep_195 ?_
                exact r_sub [] rfl (hj199 1 M20)
          refine r_if_eq 154 hC (tgt := 182) (by decide) dX1_readStep_154 ?_ ?_
          · exact r_sub [0, 4] rfl (hj182 q12 M13)
          · refine r_iload_n 157 hC 2 rfl rfl dX1_readStep_157 ?_
            refine r_callSP 158 hC [(0, v1)] [] rfl sl_X1_89 rfl (by decide) (Nat.le_of_ble_eq_true rfl) (by decide) (by decide) dX1_readStep_158 (t_X1_mostOf v1 M13) (fun v21 => ?_)
            refine r_iconst 161 hC (r32c rfl) dX1_readStep_161 ?_
            refine r_icmp_eq 162 hC (tgt := 182) (by decide) dX1_readStep_162 ?_ ?_
            · exact r_sub [0, 4] rfl (hj182 q12 M13)
            · refine r_aload_n 165 hC 0 rfl (Or.inl (by decide)) rfl dX1_readStep_165 ?_
              refine r_aload_n 166 hC 1 rfl (Or.inl (by decide)) rfl dX1_readStep_166 ?_
              refine r_iload 167 hC 3 rfl dX1_readStep_167 ?_
              refine r_iload_n 169 hC 2 rfl rfl dX1_readStep_169 ?_
              refine r_callSP 170 hC [(0, v1)] [(0, v10), (20, x2), (25, x0)] rfl sl_X1_92 rfl (by decide) (Nat.le_of_ble_eq_true rfl) (by decide) (by decide) dX1_readStep_170 (t_X1_leastOf v1 M13) (fun v22 => ?_)
              refine r_iload_n 173 hC 2 rfl rfl dX1_readStep_173 ?_
              refine r_callSP 174 hC [(0, v1)] [(0, v22), (0, v10), (20, x2), (25, x0)] rfl sl_X1_89 rfl (by decide) (Nat.le_of_ble_eq_true rfl) (by decide) (by decide) dX1_readStep_174 (t_X1_mostOf v1 M13) (fun v23 => ?_)
              refine r_callSI 177 hC [(25, x0), (20, x2), (0, v10), (0, v22), (0, v23)] [] rfl sl_X1_95 rfl (by decide) (Nat.le_of_ble_eq_true rfl) (by decide) (by decide) dX1_readStep_177 (t_X1_readNumber x0 x2 v10 v22 v23 M13) (fun v24 M25 => ?_)
              refine r_istore 180 hC (by decide) dX1_readStep_180 (r_eqls (ls' := [(5, 0, v24), (0, 25, x0), (2, 20, x2), (3, 0, v1), (4, 0, v10)]) rfl ?_)
              exact r_sub [1, 0] rfl (hj182 v24 M25)
        refine r_jn (P := fun j92 => Bk E C 6 M (r0, M0) 92 [(0, 25, x0), (1, 27, x1), (2, 20, x2), (3, 0, v1), (4, 0, v10)] [] M11 0 0 (j92)) ?_ (fun j92 hj92 => ?_)
        · refine r_aload_n 92 hC 0 rfl (Or.inl (by decide)) rfl dX1_readStep_92 ?_
          refine r_aload_n 93 hC 1 rfl (Or.inl (by decide)) rfl dX1_readStep_93 ?_
          refine r_aload_n 94 hC 2 rfl (Or.inl (by decide)) rfl dX1_readStep_94 ?_
          refine r_iload 95 hC 4 rfl dX1_readStep_95 ?_
          refine r_callSI 97 hC [(25, x0), (27, x1), (20, x2), (0, v10)] [] rfl sl_X1_79 rfl (by decide) (Nat.le_of_ble_eq_true rfl) (by decide) (by decide) dX1_readStep_97 (t_X1_readReachName x0 x1 x2 v10 M11) (fun v26 M27 => ?_)
          refine r_istore 100 hC (by decide) dX1_readStep_100 (r_eqls (ls' := [(5, 0, v26), (0, 25, x0), (1, 27, x1), (2, 20, x2), (3, 0, v1), (4, 0, v10)]) rfl ?_)
          refine r_goto 102 hC (tgt := 152) (by decide) dX1_readStep_102 ?_
          exact r_sub [1, 3, 4, 5, 0] rfl (hj152 v26 M27)
        refine r_icmp_eq 83 hC (tgt := 92) (by decide) dX1_readStep_83 ?_ ?_
        · exact r_sub [2, 3, 4, 5, 1] rfl (hj92)
        · refine r_iload_n 86 hC 5 rfl rfl dX1_readStep_86 ?_
          refine r_bipush 87 hC kb_16 dX1_readStep_87 ?_
          refine r_icmp_ne 89 hC (tgt := 105) (by decide) dX1_readStep_89 ?_ ?_
          · refine r_iload_n 105 hC 5 rfl rfl dX1_readStep_105 ?_
            refine r_bipush 106 hC kb_23 dX1_readStep_106 ?_
            refine r_icmp_ne 108 hC (tgt := 124) (by decide) dX1_readStep_108 ?_ ?_
            · refine r_iload_n 124 hC 5 rfl rfl dX1_readStep_124 ?_
              refine r_bipush 125 hC kb_17 dX1_readStep_125 ?_
              refine r_jn (P := fun j142 => Bk E C 6 M (r0, M0) 142 [(0, 25, x0), (1, 27, x1), (2, 20, x2), (3, 0, v1), (4, 0, v10)] [] M11 0 0 (j142)) ?_ (fun j142 hj142 => ?_)
              · refine r_aload_n 142 hC 0 rfl (Or.inl (by decide)) rfl dX1_readStep_142 ?_
                refine r_aload_n 143 hC 1 rfl (Or.inl (by decide)) rfl dX1_readStep_143 ?_
                refine r_aload_n 144 hC 2 rfl (Or.inl (by decide)) rfl dX1_readStep_144 ?_
                refine r_iload 145 hC 4 rfl dX1_readStep_145 ?_
                refine r_callSI 147 hC [(25, x0), (27, x1), (20, x2), (0, v10)] [] rfl sl_X1_86 rfl (by decide) (Nat.le_of_ble_eq_true rfl) (by decide) (by decide) dX1_readStep_147 (t_X1_readTwoFields x0 x1 x2 v10 M11) (fun v28 M29 => ?_)
                refine r_istore 150 hC (by decide) dX1_readStep_150 (r_eqls (ls' := [(5, 0, v28), (0, 25, x0), (1, 27, x1), (2, 20, x2), (3, 0, v1), (4, 0, v10)]) rfl ?_)
                exact r_sub [1, 3, 4, 5, 0] rfl (hj152 v28 M29)
              refine r_icmp_eq 127 hC (tgt := 142) (by decide) dX1_readStep_127 ?_ ?_
              · exact r_sub [2, 3, 4, 5, 1] rfl (hj142)
              · refine r_iload_n 130 hC 5 rfl rfl dX1_readStep_130 ?_
                refine r_bipush 131 hC kb_19 dX1_readStep_131 ?_
                refine r_icmp_eq 133 hC (tgt := 142) (by decide) dX1_readStep_133 ?_ ?_
                · exact r_sub [2, 3, 4, 5, 1] rfl (hj142)
                · refine r_iload_n 136 hC 5 rfl rfl dX1_readStep_136 ?_
                  refine r_bipush 137 hC kb_18 dX1_readStep_137 ?_
                  refine r_icmp_ne 139 hC (tgt := 152) (by decide) dX1_readStep_139 ?_ ?_
                  · exact r_sub [2, 4, 5, 1, 0] rfl (hj152 1 M11)
                  · exact r_sub [2, 3, 4, 5, 1] rfl (hj142)
            · refine r_aload_n 111 hC 2 rfl (Or.inl (by decide)) rfl dX1_readStep_111 ?_
              refine r_aload_n 112 hC 3 rfl (Or.inl (by decide)) rfl dX1_readStep_112 ?_
              refine r_aload_n 113 hC 4 rfl (Or.inl (by decide)) rfl dX1_readStep_113 ?_
              refine r_iload 114 hC 1 rfl dX1_readStep_114 ?_
              refine r_callSI 116 hC [(25, x0), (27, x1), (20, x2), (0, v10)] [] rfl sl_X1_83 rfl (by decide) (Nat.le_of_ble_eq_true rfl) (by decide) (by decide) dX1_readStep_116 (t_X1_readTest x0 x1 x2 v10 M11) (fun v30 M31 => ?_)
              refine r_istore 119 hC (by decide) dX1_readStep_119 (r_eqls (ls' := [(5, 0, v30), (4, 0, v10), (0, 25, x0), (1, 27, x1), (2, 20, x2), (3, 0, v1)]) rfl ?_)
              refine r_goto 121 hC (tgt := 152) (by decide) dX1_readStep_121 ?_
              exact r_sub [2, 4, 5, 1, 0] rfl (hj152 v30 M31)
          · exact r_sub [2, 3, 4, 5, 1] rfl (hj92)
      refine r_if_eq 38 hC (tgt := 56) (by decide) dX1_readStep_38 ?_ ?_
      · exact r_sub [1, 2, 3, 0] rfl (hj56)
      · refine r_aload_n 41 hC 3 rfl (Or.inl (by decide)) rfl dX1_readStep_41 ?_
        refine r_nn (fun hn32 => ?_)
        refine r_callVP 42 hC [] [] rfl vl_X1_76 rfl hn32 (by decide) (Nat.le_of_ble_eq_true rfl) (by decide) (by decide) dX1_readStep_42 (t_X0_openBlocks x2 M hn32) (fun v33 => ?_)
        refine r_iconst 45 hC (r32c rfl) dX1_readStep_45 ?_
        refine r_icmp_lt 46 hC (tgt := 56) (by decide) dX1_readStep_46 ?_ ?_
        · exact r_sub [1, 2, 3, 0] rfl (hj56)
        · refine r_aload_n 49 hC 1 rfl (Or.inl (by decide)) rfl dX1_readStep_49 ?_
          refine r_bipush 50 hC kb_7 dX1_readStep_50 ?_
          refine r_nn (fun hn34 => ?_)
          refine r_callVI 52 hC [(0, 7)] [] rfl vl_X1_42 rfl hn34 (by decide) (Nat.le_of_ble_eq_true rfl) (by decide) (by decide) dX1_readStep_52 (t_X6_blame x0 7 M hn34) (fun v35 M36 => ?_)
          exact r_zreturn 55 hC hq (by decide) (by decide) dX1_readStep_55
    · refine r_aload_n 27 hC 1 rfl (Or.inl (by decide)) rfl dX1_readStep_27 ?_
      refine r_bipush 28 hC kb_6 dX1_readStep_28 ?_
      refine r_nn (fun hn37 => ?_)
      refine r_callVI 30 hC [(0, 6)] [] rfl vl_X1_42 rfl hn37 (by decide) (Nat.le_of_ble_eq_true rfl) (by decide) (by decide) dX1_readStep_30 (t_X6_blame x0 6 M hn37) (fun v38 M39 => ?_)
      exact r_zreturn 33 hC hq (by decide) (by decide) dX1_readStep_33
  · refine r_aload_n 12 hC 1 rfl (Or.inl (by decide)) rfl dX1_readStep_12 ?_
    refine r_iconst 13 hC (r32c rfl) dX1_readStep_13 ?_
    refine r_nn (fun hn40 => ?_)
    refine r_callVI 14 hC [(0, 2)] [] rfl vl_X1_42 rfl hn40 (by decide) (Nat.le_of_ble_eq_true rfl) (by decide) (by decide) dX1_readStep_14 (t_X6_blame x0 2 M hn40) (fun v41 M42 => ?_)
    exact r_zreturn 17 hC hq (by decide) (by decide) dX1_readStep_17
