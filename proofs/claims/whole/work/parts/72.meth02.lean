/-! WaterTurns$Sweep.cutSlot(LWaterTurns$World;I)V -/
theorem dX5_cutSlot_0 : decode cX5_cutSlot 0 = .ok (.aload_n 0, 1) := by decide +kernel
theorem dX5_cutSlot_1 : decode cX5_cutSlot 1 = .ok (.getfield 12, 3) := by decide +kernel
theorem dX5_cutSlot_4 : decode cX5_cutSlot 4 = .ok (.getfield 117, 3) := by decide +kernel
theorem dX5_cutSlot_7 : decode cX5_cutSlot 7 = .ok (.iload_n 2, 1) := by decide +kernel
theorem dX5_cutSlot_8 : decode cX5_cutSlot 8 = .ok (.iaload, 1) := by decide +kernel
theorem dX5_cutSlot_9 : decode cX5_cutSlot 9 = .ok (.aload_n 0, 1) := by decide +kernel
theorem dX5_cutSlot_10 : decode cX5_cutSlot 10 = .ok (.getfield 12, 3) := by decide +kernel
theorem dX5_cutSlot_13 : decode cX5_cutSlot 13 = .ok (.getfield 120, 3) := by decide +kernel
theorem dX5_cutSlot_16 : decode cX5_cutSlot 16 = .ok (.iload_n 2, 1) := by decide +kernel
theorem dX5_cutSlot_17 : decode cX5_cutSlot 17 = .ok (.iaload, 1) := by decide +kernel
theorem dX5_cutSlot_18 : decode cX5_cutSlot 18 = .ok (.iadd, 1) := by decide +kernel
theorem dX5_cutSlot_19 : decode cX5_cutSlot 19 = .ok (.istore_n 3, 1) := by decide +kernel
theorem dX5_cutSlot_20 : decode cX5_cutSlot 20 = .ok (.aload_n 0, 1) := by decide +kernel
theorem dX5_cutSlot_21 : decode cX5_cutSlot 21 = .ok (.getfield 12, 3) := by decide +kernel
theorem dX5_cutSlot_24 : decode cX5_cutSlot 24 = .ok (.getfield 117, 3) := by decide +kernel
theorem dX5_cutSlot_27 : decode cX5_cutSlot 27 = .ok (.iload_n 2, 1) := by decide +kernel
theorem dX5_cutSlot_28 : decode cX5_cutSlot 28 = .ok (.iaload, 1) := by decide +kernel
theorem dX5_cutSlot_29 : decode cX5_cutSlot 29 = .ok (.istore 4, 2) := by decide +kernel
theorem dX5_cutSlot_31 : decode cX5_cutSlot 31 = .ok (.iload 4, 2) := by decide +kernel
theorem dX5_cutSlot_33 : decode cX5_cutSlot 33 = .ok (.iload_n 3, 1) := by decide +kernel
theorem dX5_cutSlot_34 : decode cX5_cutSlot 34 = .ok (.if_icmp .ge 146, 3) := by decide +kernel
theorem dX5_cutSlot_37 : decode cX5_cutSlot 37 = .ok (.aload_n 0, 1) := by decide +kernel
theorem dX5_cutSlot_38 : decode cX5_cutSlot 38 = .ok (.getfield 41, 3) := by decide +kernel
theorem dX5_cutSlot_41 : decode cX5_cutSlot 41 = .ok (.bipush 42, 2) := by decide +kernel
theorem dX5_cutSlot_43 : decode cX5_cutSlot 43 = .ok (.if_icmp .ge 137, 3) := by decide +kernel
theorem dX5_cutSlot_46 : decode cX5_cutSlot 46 = .ok (.aload_n 1, 1) := by decide +kernel
theorem dX5_cutSlot_47 : decode cX5_cutSlot 47 = .ok (.getfield 62, 3) := by decide +kernel
theorem dX5_cutSlot_50 : decode cX5_cutSlot 50 = .ok (.iload 4, 2) := by decide +kernel
theorem dX5_cutSlot_52 : decode cX5_cutSlot 52 = .ok (.iload_n 3, 1) := by decide +kernel
theorem dX5_cutSlot_53 : decode cX5_cutSlot 53 = .ok (.invokevirtual 123, 3) := by decide +kernel
theorem dX5_cutSlot_56 : decode cX5_cutSlot 56 = .ok (.istore 5, 2) := by decide +kernel
theorem dX5_cutSlot_58 : decode cX5_cutSlot 58 = .ok (.aload_n 0, 1) := by decide +kernel
theorem dX5_cutSlot_59 : decode cX5_cutSlot 59 = .ok (.aload_n 1, 1) := by decide +kernel
theorem dX5_cutSlot_60 : decode cX5_cutSlot 60 = .ok (.iload 4, 2) := by decide +kernel
theorem dX5_cutSlot_62 : decode cX5_cutSlot 62 = .ok (.invokevirtual 126, 3) := by decide +kernel
theorem dX5_cutSlot_65 : decode cX5_cutSlot 65 = .ok (.istore 6, 2) := by decide +kernel
theorem dX5_cutSlot_67 : decode cX5_cutSlot 67 = .ok (.aload_n 0, 1) := by decide +kernel
theorem dX5_cutSlot_68 : decode cX5_cutSlot 68 = .ok (.getfield 12, 3) := by decide +kernel
theorem dX5_cutSlot_71 : decode cX5_cutSlot 71 = .ok (.getfield 130, 3) := by decide +kernel
theorem dX5_cutSlot_74 : decode cX5_cutSlot 74 = .ok (.iload_n 2, 1) := by decide +kernel
theorem dX5_cutSlot_75 : decode cX5_cutSlot 75 = .ok (.iaload, 1) := by decide +kernel
theorem dX5_cutSlot_76 : decode cX5_cutSlot 76 = .ok (.istore 7, 2) := by decide +kernel
theorem dX5_cutSlot_78 : decode cX5_cutSlot 78 = .ok (.aload_n 0, 1) := by decide +kernel
theorem dX5_cutSlot_79 : decode cX5_cutSlot 79 = .ok (.getfield 45, 3) := by decide +kernel
theorem dX5_cutSlot_82 : decode cX5_cutSlot 82 = .ok (.aload_n 0, 1) := by decide +kernel
theorem dX5_cutSlot_83 : decode cX5_cutSlot 83 = .ok (.getfield 41, 3) := by decide +kernel
theorem dX5_cutSlot_86 : decode cX5_cutSlot 86 = .ok (.iload 4, 2) := by decide +kernel
theorem dX5_cutSlot_88 : decode cX5_cutSlot 88 = .ok (.iastore, 1) := by decide +kernel
theorem dX5_cutSlot_89 : decode cX5_cutSlot 89 = .ok (.aload_n 0, 1) := by decide +kernel
theorem dX5_cutSlot_90 : decode cX5_cutSlot 90 = .ok (.getfield 48, 3) := by decide +kernel
theorem dX5_cutSlot_93 : decode cX5_cutSlot 93 = .ok (.aload_n 0, 1) := by decide +kernel
theorem dX5_cutSlot_94 : decode cX5_cutSlot 94 = .ok (.getfield 41, 3) := by decide +kernel
theorem dX5_cutSlot_97 : decode cX5_cutSlot 97 = .ok (.iload 5, 2) := by decide +kernel
theorem dX5_cutSlot_99 : decode cX5_cutSlot 99 = .ok (.iastore, 1) := by decide +kernel
theorem dX5_cutSlot_100 : decode cX5_cutSlot 100 = .ok (.aload_n 0, 1) := by decide +kernel
theorem dX5_cutSlot_101 : decode cX5_cutSlot 101 = .ok (.getfield 51, 3) := by decide +kernel
theorem dX5_cutSlot_104 : decode cX5_cutSlot 104 = .ok (.aload_n 0, 1) := by decide +kernel
theorem dX5_cutSlot_105 : decode cX5_cutSlot 105 = .ok (.getfield 41, 3) := by decide +kernel
theorem dX5_cutSlot_108 : decode cX5_cutSlot 108 = .ok (.iload 7, 2) := by decide +kernel
theorem dX5_cutSlot_110 : decode cX5_cutSlot 110 = .ok (.iastore, 1) := by decide +kernel
theorem dX5_cutSlot_111 : decode cX5_cutSlot 111 = .ok (.aload_n 0, 1) := by decide +kernel
theorem dX5_cutSlot_112 : decode cX5_cutSlot 112 = .ok (.getfield 54, 3) := by decide +kernel
theorem dX5_cutSlot_115 : decode cX5_cutSlot 115 = .ok (.aload_n 0, 1) := by decide +kernel
theorem dX5_cutSlot_116 : decode cX5_cutSlot 116 = .ok (.getfield 41, 3) := by decide +kernel
theorem dX5_cutSlot_119 : decode cX5_cutSlot 119 = .ok (.iload 6, 2) := by decide +kernel
theorem dX5_cutSlot_121 : decode cX5_cutSlot 121 = .ok (.aload_n 1, 1) := by decide +kernel
theorem dX5_cutSlot_122 : decode cX5_cutSlot 122 = .ok (.getfield 62, 3) := by decide +kernel
theorem dX5_cutSlot_125 : decode cX5_cutSlot 125 = .ok (.getfield 133, 3) := by decide +kernel
theorem dX5_cutSlot_128 : decode cX5_cutSlot 128 = .ok (.iload 7, 2) := by decide +kernel
theorem dX5_cutSlot_130 : decode cX5_cutSlot 130 = .ok (.aaload, 1) := by decide +kernel
theorem dX5_cutSlot_131 : decode cX5_cutSlot 131 = .ok (.iconst 0, 1) := by decide +kernel
theorem dX5_cutSlot_132 : decode cX5_cutSlot 132 = .ok (.iaload, 1) := by decide +kernel
theorem dX5_cutSlot_133 : decode cX5_cutSlot 133 = .ok (.ishr, 1) := by decide +kernel
theorem dX5_cutSlot_134 : decode cX5_cutSlot 134 = .ok (.iconst 1, 1) := by decide +kernel
theorem dX5_cutSlot_135 : decode cX5_cutSlot 135 = .ok (.iand, 1) := by decide +kernel
theorem dX5_cutSlot_136 : decode cX5_cutSlot 136 = .ok (.iconst 1, 1) := by decide +kernel
theorem dX5_cutSlot_137 : decode cX5_cutSlot 137 = .ok (.if_icmp .ne 7, 3) := by decide +kernel
theorem dX5_cutSlot_140 : decode cX5_cutSlot 140 = .ok (.iconst 1, 1) := by decide +kernel
theorem dX5_cutSlot_141 : decode cX5_cutSlot 141 = .ok (.goto 4, 3) := by decide +kernel
theorem dX5_cutSlot_144 : decode cX5_cutSlot 144 = .ok (.iconst 0, 1) := by decide +kernel
theorem dX5_cutSlot_145 : decode cX5_cutSlot 145 = .ok (.bastore, 1) := by decide +kernel
theorem dX5_cutSlot_146 : decode cX5_cutSlot 146 = .ok (.aload_n 0, 1) := by decide +kernel
theorem dX5_cutSlot_147 : decode cX5_cutSlot 147 = .ok (.dup, 1) := by decide +kernel
theorem dX5_cutSlot_148 : decode cX5_cutSlot 148 = .ok (.getfield 41, 3) := by decide +kernel
theorem dX5_cutSlot_151 : decode cX5_cutSlot 151 = .ok (.iconst 1, 1) := by decide +kernel
theorem dX5_cutSlot_152 : decode cX5_cutSlot 152 = .ok (.iadd, 1) := by decide +kernel
theorem dX5_cutSlot_153 : decode cX5_cutSlot 153 = .ok (.putfield 41, 3) := by decide +kernel
theorem dX5_cutSlot_156 : decode cX5_cutSlot 156 = .ok (.aload_n 0, 1) := by decide +kernel
theorem dX5_cutSlot_157 : decode cX5_cutSlot 157 = .ok (.aload_n 1, 1) := by decide +kernel
theorem dX5_cutSlot_158 : decode cX5_cutSlot 158 = .ok (.getfield 62, 3) := by decide +kernel
theorem dX5_cutSlot_161 : decode cX5_cutSlot 161 = .ok (.iload 7, 2) := by decide +kernel
theorem dX5_cutSlot_163 : decode cX5_cutSlot 163 = .ok (.iload 6, 2) := by decide +kernel
theorem dX5_cutSlot_165 : decode cX5_cutSlot 165 = .ok (.iload 5, 2) := by decide +kernel
theorem dX5_cutSlot_167 : decode cX5_cutSlot 167 = .ok (.iload 4, 2) := by decide +kernel
theorem dX5_cutSlot_169 : decode cX5_cutSlot 169 = .ok (.isub, 1) := by decide +kernel
theorem dX5_cutSlot_170 : decode cX5_cutSlot 170 = .ok (.invokevirtual 135, 3) := by decide +kernel
theorem dX5_cutSlot_173 : decode cX5_cutSlot 173 = .ok (.iload 5, 2) := by decide +kernel
theorem dX5_cutSlot_175 : decode cX5_cutSlot 175 = .ok (.istore 4, 2) := by decide +kernel
theorem dX5_cutSlot_177 : decode cX5_cutSlot 177 = .ok (.goto (-146), 3) := by decide +kernel
theorem dX5_cutSlot_180 : decode cX5_cutSlot 180 = .ok (.return_, 1) := by decide +kernel
set_option maxRecDepth 100000 in
theorem f_X5_cutSlot_L31_ok {E : EnvT} {C : Cx} {Mi : Mem} {x0 : Int} (h0 : x0 ≠ 0) (hC : CxOK E C cX5_cutSlot 8 yX5_cutSlot.cls 3 0 0) {M0 : Mem} (hq : RQ E C 0 0 Mi none none M0) {v7 x1 x2 : Int} {k : Mem → Option (Mem)} (hk : ∀ M42, Bk E C 8 Mi M0 180 [] [] M42 0 0 (k M42)) : ∀ (n : Nat) (p11 : Int) (M12 : Mem), Bk E C 8 Mi M0 31 [(0, 24, x0), (1, 28, x1), (2, 0, x2), (3, 0, v7), (4, 0, p11)] [] M12 0 0 (f_X5_cutSlot_L31 v7 x0 x1 x2 k n p11 M12) := by
  intro n
  induction n with
  | zero =>
    intro p11 M12
    exact r_none
  | succ n ih =>
    intro p11 M12
    rw [f_X5_cutSlot_L31]
    refine r_iload 31 hC 4 rfl dX5_cutSlot_31 ?_
    refine r_iload_n 33 hC 3 rfl rfl dX5_cutSlot_33 ?_
    refine r_icmp_ge 34 hC (tgt := 180) (by decide) dX5_cutSlot_34 ?_ ?_
    · exact r_sub [] rfl (hk M12)
    · refine r_aload_n 37 hC 0 rfl (Or.inl (by decide)) rfl dX5_cutSlot_37 ?_
      refine r_get 38 hC fd_4_8 fl_X5_41 dX5_cutSlot_38 (fun v13 => ?_)
      refine r_bipush 41 hC kb_42 dX5_cutSlot_41 ?_
      refine r_icmp_ge 43 hC (tgt := 180) (by decide) dX5_cutSlot_43 ?_ ?_
      · exact r_sub [] rfl (hk M12)
      · refine r_aload_n 46 hC 1 rfl (Or.inl (by decide)) rfl dX5_cutSlot_46 ?_
        refine r_get 47 hC fd_8_0 fl_X5_62 dX5_cutSlot_47 (fun v14 => ?_)
        refine r_iload 50 hC 4 rfl dX5_cutSlot_50 ?_
        refine r_iload_n 52 hC 3 rfl rfl dX5_cutSlot_52 ?_
        refine r_nn (fun hn15 => ?_)
        refine r_callVP 53 hC [(0, p11), (0, v7)] [] rfl vl_X5_123 rfl hn15 (by decide) (Nat.le_of_ble_eq_true rfl) (by decide) (by decide) dX5_cutSlot_53 (t_X8_nextChange v14 p11 v7 M12 hn15) (fun v16 => ?_)
        refine r_istore 56 hC (by decide) dX5_cutSlot_56 (r_eqls (ls' := [(5, 0, v16), (0, 24, x0), (1, 28, x1), (2, 0, x2), (3, 0, v7), (4, 0, p11)]) rfl ?_)
        refine r_aload_n 58 hC 1 rfl (Or.inl (by decide)) rfl dX5_cutSlot_58 ?_
        refine r_aload_n 59 hC 2 rfl (Or.inl (by decide)) rfl dX5_cutSlot_59 ?_
        refine r_iload 60 hC 5 rfl dX5_cutSlot_60 ?_
        refine r_callVP 62 hC [(28, x1), (0, p11)] [] rfl vl_X5_126 rfl h0 (by decide) (Nat.le_of_ble_eq_true rfl) (by decide) (by decide) dX5_cutSlot_62 (t_X5_openAt x0 x1 p11 M12 h0) (fun v17 => ?_)
        refine r_istore 65 hC (by decide) dX5_cutSlot_65 (r_eqls (ls' := [(6, 0, v17), (5, 0, v16), (0, 24, x0), (1, 28, x1), (2, 0, x2), (3, 0, v7), (4, 0, p11)]) rfl ?_)
        refine r_aload_n 67 hC 2 rfl (Or.inl (by decide)) rfl dX5_cutSlot_67 ?_
        refine r_get 68 hC fd_4_0 fl_X5_12 dX5_cutSlot_68 (fun v18 => ?_)
        refine r_get 71 hC fd_2_4 fl_X5_130 dX5_cutSlot_71 (fun v19 => ?_)
        refine r_iload_n 74 hC 4 rfl rfl dX5_cutSlot_74 ?_
        refine r_iaload 75 hC dX5_cutSlot_75 (fun v20 => ?_)
        refine r_istore 76 hC (by decide) dX5_cutSlot_76 (r_eqls (ls' := [(7, 0, v20), (6, 0, v17), (5, 0, v16), (0, 24, x0), (1, 28, x1), (2, 0, x2), (3, 0, v7), (4, 0, p11)]) rfl ?_)
        refine r_aload_n 78 hC 3 rfl (Or.inl (by decide)) rfl dX5_cutSlot_78 ?_
        refine r_get 79 hC fd_4_9 fl_X5_45 dX5_cutSlot_79 (fun v21 => ?_)
        refine r_aload_n 82 hC 3 rfl (Or.inl (by decide)) rfl dX5_cutSlot_82 ?_
        refine r_get 83 hC fd_4_8 fl_X5_41 dX5_cutSlot_83 (fun v22 => ?_)
        refine r_iload 86 hC 7 rfl dX5_cutSlot_86 ?_
        refine r_iastore 88 hC dX5_cutSlot_88 (fun M23 => ?_)
        refine r_aload_n 89 hC 3 rfl (Or.inl (by decide)) rfl dX5_cutSlot_89 ?_
        refine r_get 90 hC fd_4_10 fl_X5_48 dX5_cutSlot_90 (fun v24 => ?_)
        refine r_aload_n 93 hC 3 rfl (Or.inl (by decide)) rfl dX5_cutSlot_93 ?_
        refine r_get 94 hC fd_4_8 fl_X5_41 dX5_cutSlot_94 (fun v25 => ?_)
        refine r_iload 97 hC 2 rfl dX5_cutSlot_97 ?_
        refine r_iastore 99 hC dX5_cutSlot_99 (fun M26 => ?_)
        refine r_aload_n 100 hC 3 rfl (Or.inl (by decide)) rfl dX5_cutSlot_100 ?_
        refine r_get 101 hC fd_4_11 fl_X5_51 dX5_cutSlot_101 (fun v27 => ?_)
        refine r_aload_n 104 hC 3 rfl (Or.inl (by decide)) rfl dX5_cutSlot_104 ?_
        refine r_get 105 hC fd_4_8 fl_X5_41 dX5_cutSlot_105 (fun v28 => ?_)
        refine r_iload 108 hC 0 rfl dX5_cutSlot_108 ?_
        refine r_iastore 110 hC dX5_cutSlot_110 (fun M29 => ?_)
        refine r_aload_n 111 hC 3 rfl (Or.inl (by decide)) rfl dX5_cutSlot_111 ?_
        refine r_get 112 hC fd_4_12 fl_X5_54 dX5_cutSlot_112 (fun v30 => ?_)
        refine r_aload_n 115 hC 3 rfl (Or.inl (by decide)) rfl dX5_cutSlot_115 ?_
        refine r_get 116 hC fd_4_8 fl_X5_41 dX5_cutSlot_116 (fun v31 => ?_)
        refine r_iload 119 hC 1 rfl dX5_cutSlot_119 ?_
        refine r_aload_n 121 hC 4 rfl (Or.inl (by decide)) rfl dX5_cutSlot_121 ?_
        refine r_get 122 hC fd_8_0 fl_X5_62 dX5_cutSlot_122 (fun v32 => ?_)
        refine r_get 125 hC fd_7_9 fl_X5_133 dX5_cutSlot_125 (fun v33 => ?_)
        refine r_iload 128 hC 0 rfl dX5_cutSlot_128 ?_
        refine r_aaloadI 130 hC dX5_cutSlot_130 (fun v34 => ?_)
        refine r_iconst 131 hC (r32c rfl) dX5_cutSlot_131 ?_
        refine r_iaload 132 hC dX5_cutSlot_132 (fun v35 => ?_)
        refine r_ishr 133 hC dX5_cutSlot_133 ?_
        refine r_iconst 134 hC (r32c rfl) dX5_cutSlot_134 ?_
        refine r_iand 135 hC dX5_cutSlot_135 ?_
        refine r_iconst 136 hC (r32c rfl) dX5_cutSlot_136 ?_
        refine r_jn (P := fun j145 => ∀ (q36 : Int), Bk E C 8 Mi M0 145 [(0, 24, x0), (1, 28, x1), (2, 0, x2), (3, 0, v7), (4, 0, p11), (5, 0, v16), (6, 0, v17), (7, 0, v20)] [(0, q36), (0, v31), (13, v30)] M29 0 0 (j145 q36)) ?_ (fun j145 hj145 => ?_)
        · intro q36
          refine r_zastore 145 hC dX5_cutSlot_145 (fun M37 => ?_)
          refine r_aload_n 146 hC 0 rfl (Or.inl (by decide)) rfl dX5_cutSlot_146 ?_
          refine r_dup 147 hC (by decide) dX5_cutSlot_147 ?_
          refine r_get 148 hC fd_4_8 fl_X5_41 dX5_cutSlot_148 (fun v38 => ?_)
          refine r_iconst 151 hC (r32c rfl) dX5_cutSlot_151 ?_
          refine r_iadd 152 hC dX5_cutSlot_152 ?_
          refine r_put 153 hC fd_4_8 fl_X5_41 dX5_cutSlot_153 (fun M39 => ?_)
          refine r_aload_n 156 hC 0 rfl (Or.inl (by decide)) rfl dX5_cutSlot_156 ?_
          refine r_aload_n 157 hC 1 rfl (Or.inl (by decide)) rfl dX5_cutSlot_157 ?_
          refine r_get 158 hC fd_8_0 fl_X5_62 dX5_cutSlot_158 (fun v40 => ?_)
          refine r_iload 161 hC 7 rfl dX5_cutSlot_161 ?_
          refine r_iload 163 hC 6 rfl dX5_cutSlot_163 ?_
          refine r_iload 165 hC 5 rfl dX5_cutSlot_165 ?_
          refine r_iload 167 hC 4 rfl dX5_cutSlot_167 ?_
          refine r_isub 169 hC dX5_cutSlot_169 ?_
          refine r_callVV 170 hC [(27, v40), (0, v20), (0, v17), (0, w32 (v16 - p11))] [] rfl vl_X5_135 rfl h0 (by decide) (Nat.le_of_ble_eq_true rfl) (by decide) (by decide) dX5_cutSlot_170 (t_X5_count x0 v40 v20 v17 (w32 (v16 - p11)) M39 h0) (fun M41 => ?_)
          refine r_iload 173 hC 5 rfl dX5_cutSlot_173 ?_
          refine r_istore 175 hC (by decide) dX5_cutSlot_175 (r_eqls (ls' := [(4, 0, v16), (0, 24, x0), (1, 28, x1), (2, 0, x2), (3, 0, v7), (5, 0, v16), (6, 0, v17), (7, 0, v20)]) rfl ?_)
          refine r_goto 177 hC (tgt := 31) (by decide) dX5_cutSlot_177 ?_
          exact r_sub [1, 2, 3, 4, 0] rfl (ih v16 M41)
        refine r_icmp_ne 137 hC (tgt := 144) (by decide) dX5_cutSlot_137 ?_ ?_
        · refine r_iconst 144 hC (r32c rfl) dX5_cutSlot_144 ?_
          exact r_sub [3, 4, 5, 6, 7, 2, 1, 0] rfl (hj145 0)
        · refine r_iconst 140 hC (r32c rfl) dX5_cutSlot_140 ?_
          refine r_goto 141 hC (tgt := 145) (by decide) dX5_cutSlot_141 ?_
          exact r_sub [3, 4, 5, 6, 7, 2, 1, 0] rfl (hj145 1)
set_option maxRecDepth 100000 in
theorem t_X5_cutSlot (x0 x1 x2 : Int) (M : Mem) (h0 : x0 ≠ 0) : MtV yX5_cutSlot cX5_cutSlot 8 none 3 0 0 [(24, x0), (28, x1), (0, x2)] M (f_X5_cutSlot x0 x1 x2 M) := by
  refine mk_V (by decide +kernel) (Nat.le_of_ble_eq_true rfl) (fun E C M0 hC hq hin => ?_)
  refine r_eqls (ls' := [(0, 24, x0), (1, 28, x1), (2, 0, x2)]) rfl ?_
  unfold f_X5_cutSlot
  refine r_aload_n 0 hC 0 rfl (Or.inl (by decide)) rfl dX5_cutSlot_0 ?_
  refine r_get 1 hC fd_4_0 fl_X5_12 dX5_cutSlot_1 (fun v1 => ?_)
  refine r_get 4 hC fd_2_5 fl_X5_117 dX5_cutSlot_4 (fun v2 => ?_)
  refine r_iload_n 7 hC 2 rfl rfl dX5_cutSlot_7 ?_
  refine r_iaload 8 hC dX5_cutSlot_8 (fun v3 => ?_)
  refine r_aload_n 9 hC 0 rfl (Or.inl (by decide)) rfl dX5_cutSlot_9 ?_
  refine r_get 10 hC fd_4_0 fl_X5_12 dX5_cutSlot_10 (fun v4 => ?_)
  refine r_get 13 hC fd_2_6 fl_X5_120 dX5_cutSlot_13 (fun v5 => ?_)
  refine r_iload_n 16 hC 2 rfl rfl dX5_cutSlot_16 ?_
  refine r_iaload 17 hC dX5_cutSlot_17 (fun v6 => ?_)
  refine r_iadd 18 hC dX5_cutSlot_18 ?_
  refine r_istore_nL 19 hC rfl (by decide) dX5_cutSlot_19 (fun v7 => r_eqls (ls' := [(3, 0, v7), (0, 24, x0), (1, 28, x1), (2, 0, x2)]) rfl ?_)
  refine r_aload_n 20 hC 1 rfl (Or.inl (by decide)) rfl dX5_cutSlot_20 ?_
  refine r_get 21 hC fd_4_0 fl_X5_12 dX5_cutSlot_21 (fun v8 => ?_)
  refine r_get 24 hC fd_2_5 fl_X5_117 dX5_cutSlot_24 (fun v9 => ?_)
  refine r_iload_n 27 hC 3 rfl rfl dX5_cutSlot_27 ?_
  refine r_iaload 28 hC dX5_cutSlot_28 (fun v10 => ?_)
  refine r_istore 29 hC (by decide) dX5_cutSlot_29 (r_eqls (ls' := [(4, 0, v10), (3, 0, v7), (0, 24, x0), (1, 28, x1), (2, 0, x2)]) rfl ?_)
  refine r_sub [2, 3, 4, 1, 0] rfl (f_X5_cutSlot_L31_ok h0 hC hq (fun M43 => ?_) KF v10 M)
  · exact r_return 180 hC hq (by decide) (by decide) dX5_cutSlot_180

/-! WaterTurns$Sweep.over(LWaterTurns$World;)V -/
theorem dX5_over_0 : decode cX5_over 0 = .ok (.aload_n 0, 1) := by decide +kernel
theorem dX5_over_1 : decode cX5_over 1 = .ok (.getfield 12, 3) := by decide +kernel
theorem dX5_over_4 : decode cX5_over 4 = .ok (.aload_n 1, 1) := by decide +kernel
theorem dX5_over_5 : decode cX5_over 5 = .ok (.invokevirtual 58, 3) := by decide +kernel
theorem dX5_over_8 : decode cX5_over 8 = .ok (.aload_n 0, 1) := by decide +kernel
theorem dX5_over_9 : decode cX5_over 9 = .ok (.aload_n 1, 1) := by decide +kernel
theorem dX5_over_10 : decode cX5_over 10 = .ok (.getfield 62, 3) := by decide +kernel
theorem dX5_over_13 : decode cX5_over 13 = .ok (.aload_n 1, 1) := by decide +kernel
theorem dX5_over_14 : decode cX5_over 14 = .ok (.getfield 68, 3) := by decide +kernel
theorem dX5_over_17 : decode cX5_over 17 = .ok (.getfield 72, 3) := by decide +kernel
theorem dX5_over_20 : decode cX5_over 20 = .ok (.iconst (-1), 1) := by decide +kernel
theorem dX5_over_21 : decode cX5_over 21 = .ok (.invokevirtual 77, 3) := by decide +kernel
theorem dX5_over_24 : decode cX5_over 24 = .ok (.aload_n 0, 1) := by decide +kernel
theorem dX5_over_25 : decode cX5_over 25 = .ok (.getfield 28, 3) := by decide +kernel
theorem dX5_over_28 : decode cX5_over 28 = .ok (.iconst 0, 1) := by decide +kernel
theorem dX5_over_29 : decode cX5_over 29 = .ok (.invokestatic 81, 3) := by decide +kernel
theorem dX5_over_32 : decode cX5_over 32 = .ok (.aload_n 0, 1) := by decide +kernel
theorem dX5_over_33 : decode cX5_over 33 = .ok (.getfield 32, 3) := by decide +kernel
theorem dX5_over_36 : decode cX5_over 36 = .ok (.iconst 0, 1) := by decide +kernel
theorem dX5_over_37 : decode cX5_over 37 = .ok (.invokestatic 81, 3) := by decide +kernel
theorem dX5_over_40 : decode cX5_over 40 = .ok (.aload_n 0, 1) := by decide +kernel
theorem dX5_over_41 : decode cX5_over 41 = .ok (.getfield 35, 3) := by decide +kernel
theorem dX5_over_44 : decode cX5_over 44 = .ok (.iconst 0, 1) := by decide +kernel
theorem dX5_over_45 : decode cX5_over 45 = .ok (.invokestatic 81, 3) := by decide +kernel
theorem dX5_over_48 : decode cX5_over 48 = .ok (.aload_n 0, 1) := by decide +kernel
theorem dX5_over_49 : decode cX5_over 49 = .ok (.getfield 38, 3) := by decide +kernel
theorem dX5_over_52 : decode cX5_over 52 = .ok (.iconst 0, 1) := by decide +kernel
theorem dX5_over_53 : decode cX5_over 53 = .ok (.invokestatic 81, 3) := by decide +kernel
theorem dX5_over_56 : decode cX5_over 56 = .ok (.aload_n 0, 1) := by decide +kernel
theorem dX5_over_57 : decode cX5_over 57 = .ok (.iconst 0, 1) := by decide +kernel
theorem dX5_over_58 : decode cX5_over 58 = .ok (.putfield 41, 3) := by decide +kernel
theorem dX5_over_61 : decode cX5_over 61 = .ok (.iconst 0, 1) := by decide +kernel
theorem dX5_over_62 : decode cX5_over 62 = .ok (.istore_n 2, 1) := by decide +kernel
theorem dX5_over_63 : decode cX5_over 63 = .ok (.iload_n 2, 1) := by decide +kernel
theorem dX5_over_64 : decode cX5_over 64 = .ok (.aload_n 0, 1) := by decide +kernel
theorem dX5_over_65 : decode cX5_over 65 = .ok (.getfield 12, 3) := by decide +kernel
theorem dX5_over_68 : decode cX5_over 68 = .ok (.getfield 87, 3) := by decide +kernel
theorem dX5_over_71 : decode cX5_over 71 = .ok (.if_icmp .ge 15, 3) := by decide +kernel
theorem dX5_over_74 : decode cX5_over 74 = .ok (.aload_n 0, 1) := by decide +kernel
theorem dX5_over_75 : decode cX5_over 75 = .ok (.aload_n 1, 1) := by decide +kernel
theorem dX5_over_76 : decode cX5_over 76 = .ok (.iload_n 2, 1) := by decide +kernel
theorem dX5_over_77 : decode cX5_over 77 = .ok (.invokevirtual 90, 3) := by decide +kernel
theorem dX5_over_80 : decode cX5_over 80 = .ok (.iinc 2 1, 3) := by decide +kernel
theorem dX5_over_83 : decode cX5_over 83 = .ok (.goto (-20), 3) := by decide +kernel
theorem dX5_over_86 : decode cX5_over 86 = .ok (.return_, 1) := by decide +kernel
set_option maxRecDepth 100000 in
theorem f_X5_over_L63_ok {E : EnvT} {C : Cx} {Mi : Mem} {x0 : Int} (h0 : x0 ≠ 0) (hC : CxOK E C cX5_over 3 yX5_over.cls 4 0 0) {M0 : Mem} (hq : RQ E C 0 0 Mi none none M0) {x1 : Int} {k : Mem → Option (Mem)} (hk : ∀ M22, Bk E C 3 Mi M0 86 [] [] M22 0 0 (k M22)) : ∀ (n : Nat) (p17 : Int) (M18 : Mem), Bk E C 3 Mi M0 63 [(0, 24, x0), (1, 28, x1), (2, 0, p17)] [] M18 0 0 (f_X5_over_L63 x0 x1 k n p17 M18) := by
  intro n
  induction n with
  | zero =>
    intro p17 M18
    exact r_none
  | succ n ih =>
    intro p17 M18
    rw [f_X5_over_L63]
    refine r_iload_n 63 hC 2 rfl rfl dX5_over_63 ?_
    refine r_aload_n 64 hC 0 rfl (Or.inl (by decide)) rfl dX5_over_64 ?_
    refine r_get 65 hC fd_4_0 fl_X5_12 dX5_over_65 (fun v19 => ?_)
    refine r_get 68 hC fd_2_3 fl_X5_87 dX5_over_68 (fun v20 => ?_)
    refine r_icmp_ge 71 hC (tgt := 86) (by decide) dX5_over_71 ?_ ?_
    · exact r_sub [] rfl (hk M18)
    · refine r_aload_n 74 hC 0 rfl (Or.inl (by decide)) rfl dX5_over_74 ?_
      refine r_aload_n 75 hC 1 rfl (Or.inl (by decide)) rfl dX5_over_75 ?_
      refine r_iload_n 76 hC 2 rfl rfl dX5_over_76 ?_
      refine r_callVV 77 hC [(28, x1), (0, p17)] [] rfl vl_X5_90 rfl h0 (by decide) (Nat.le_of_ble_eq_true rfl) (by decide) (by decide) dX5_over_77 (t_X5_cutSlot x0 x1 p17 M18 h0) (fun M21 => ?_)
      refine r_iinc 80 hC 2 rfl (by decide) dX5_over_80 (r_eqls (ls' := [(2, 0, w32 (p17 + 1)), (0, 24, x0), (1, 28, x1)]) rfl ?_)
      refine r_goto 83 hC (tgt := 63) (by decide) dX5_over_83 ?_
      exact r_sub [1, 2, 0] rfl (ih (w32 (p17 + 1)) M21)
set_option maxRecDepth 100000 in
theorem t_X5_over (x0 x1 : Int) (M : Mem) (h0 : x0 ≠ 0) : MtV yX5_over cX5_over 3 none 4 0 0 [(24, x0), (28, x1)] M (f_X5_over x0 x1 M) := by
  refine mk_V (by decide +kernel) (Nat.le_of_ble_eq_true rfl) (fun E C M0 hC hq hin => ?_)
  refine r_eqls (ls' := [(0, 24, x0), (1, 28, x1)]) rfl ?_
  unfold f_X5_over
  refine r_aload_n 0 hC 0 rfl (Or.inl (by decide)) rfl dX5_over_0 ?_
  refine r_get 1 hC fd_4_0 fl_X5_12 dX5_over_1 (fun v1 => ?_)
  refine r_aload_n 4 hC 1 rfl (Or.inl (by decide)) rfl dX5_over_4 ?_
  refine r_nn (fun hn2 => ?_)
  refine r_callVV 5 hC [(28, x1)] [] rfl vl_X5_58 rfl hn2 (by decide) (Nat.le_of_ble_eq_true rfl) (by decide) (by decide) dX5_over_5 (t_X3_lay v1 x1 M hn2) (fun M3 => ?_)
  refine r_aload_n 8 hC 0 rfl (Or.inl (by decide)) rfl dX5_over_8 ?_
  refine r_aload_n 9 hC 1 rfl (Or.inl (by decide)) rfl dX5_over_9 ?_
  refine r_get 10 hC fd_8_0 fl_X5_62 dX5_over_10 (fun v4 => ?_)
  refine r_aload_n 13 hC 1 rfl (Or.inl (by decide)) rfl dX5_over_13 ?_
  refine r_get 14 hC fd_8_2 fl_X5_68 dX5_over_14 (fun v5 => ?_)
  refine r_get 17 hC fd_3_0 fl_X5_72 dX5_over_17 (fun v6 => ?_)
  refine r_iconst 20 hC (r32c rfl) dX5_over_20 ?_
  refine r_callVV 21 hC [(27, v4), (0, v6), (0, (-1))] [] rfl vl_X5_77 rfl h0 (by decide) (Nat.le_of_ble_eq_true rfl) (by decide) (by decide) dX5_over_21 (t_X5_flow x0 v4 v6 (-1) M3 h0) (fun M7 => ?_)
  refine r_aload_n 24 hC 0 rfl (Or.inl (by decide)) rfl dX5_over_24 ?_
  refine r_get 25 hC fd_4_4 fl_X5_28 dX5_over_25 (fun v8 => ?_)
  refine r_iconst 28 hC (r32c rfl) dX5_over_28 ?_
  refine r_callSV 29 hC [(10, v8), (0, 0)] [] rfl sl_X5_81 rfl (by decide) (Nat.le_of_ble_eq_true rfl) (by decide) (by decide) dX5_over_29 (t_J7_fill_53178 v8 0 M7) (fun M9 => ?_)
  refine r_aload_n 32 hC 0 rfl (Or.inl (by decide)) rfl dX5_over_32 ?_
  refine r_get 33 hC fd_4_5 fl_X5_32 dX5_over_33 (fun v10 => ?_)
  refine r_iconst 36 hC (r32c rfl) dX5_over_36 ?_
  refine r_callSV 37 hC [(10, v10), (0, 0)] [] rfl sl_X5_81 rfl (by decide) (Nat.le_of_ble_eq_true rfl) (by decide) (by decide) dX5_over_37 (t_J7_fill_53178 v10 0 M9) (fun M11 => ?_)
  refine r_aload_n 40 hC 0 rfl (Or.inl (by decide)) rfl dX5_over_40 ?_
  refine r_get 41 hC fd_4_6 fl_X5_35 dX5_over_41 (fun v12 => ?_)
  refine r_iconst 44 hC (r32c rfl) dX5_over_44 ?_
  refine r_callSV 45 hC [(10, v12), (0, 0)] [] rfl sl_X5_81 rfl (by decide) (Nat.le_of_ble_eq_true rfl) (by decide) (by decide) dX5_over_45 (t_J7_fill_53178 v12 0 M11) (fun M13 => ?_)
  refine r_aload_n 48 hC 0 rfl (Or.inl (by decide)) rfl dX5_over_48 ?_
  refine r_get 49 hC fd_4_7 fl_X5_38 dX5_over_49 (fun v14 => ?_)
  refine r_iconst 52 hC (r32c rfl) dX5_over_52 ?_
  refine r_callSV 53 hC [(10, v14), (0, 0)] [] rfl sl_X5_81 rfl (by decide) (Nat.le_of_ble_eq_true rfl) (by decide) (by decide) dX5_over_53 (t_J7_fill_53178 v14 0 M13) (fun M15 => ?_)
  refine r_aload_n 56 hC 0 rfl (Or.inl (by decide)) rfl dX5_over_56 ?_
  refine r_iconst 57 hC (r32c rfl) dX5_over_57 ?_
  refine r_put 58 hC fd_4_8 fl_X5_41 dX5_over_58 (fun M16 => ?_)
  refine r_iconst 61 hC (r32c rfl) dX5_over_61 ?_
  refine r_istore_n 62 hC rfl (by decide) dX5_over_62 (r_eqls (ls' := [(2, 0, 0), (0, 24, x0), (1, 28, x1)]) rfl ?_)
  refine r_sub [1, 2, 0] rfl (f_X5_over_L63_ok h0 hC hq (fun M23 => ?_) KF 0 M16)
  · exact r_return 86 hC hq (by decide) (by decide) dX5_over_86

/-! WaterTurns$Sweep.rateOf(LWaterTurns$Valley;I)J -/
theorem dX5_rateOf_0 : decode cX5_rateOf 0 = .ok (.aload_n 0, 1) := by decide +kernel
theorem dX5_rateOf_1 : decode cX5_rateOf 1 = .ok (.getfield 25, 3) := by decide +kernel
theorem dX5_rateOf_4 : decode cX5_rateOf 4 = .ok (.aload_n 1, 1) := by decide +kernel
theorem dX5_rateOf_5 : decode cX5_rateOf 5 = .ok (.getfield 133, 3) := by decide +kernel
theorem dX5_rateOf_8 : decode cX5_rateOf 8 = .ok (.iload_n 2, 1) := by decide +kernel
theorem dX5_rateOf_9 : decode cX5_rateOf 9 = .ok (.aaload, 1) := by decide +kernel
theorem dX5_rateOf_10 : decode cX5_rateOf 10 = .ok (.iconst 0, 1) := by decide +kernel
theorem dX5_rateOf_11 : decode cX5_rateOf 11 = .ok (.iaload, 1) := by decide +kernel
theorem dX5_rateOf_12 : decode cX5_rateOf 12 = .ok (.laload, 1) := by decide +kernel
theorem dX5_rateOf_13 : decode cX5_rateOf 13 = .ok (.lreturn, 1) := by decide +kernel
set_option maxRecDepth 100000 in
theorem t_X5_rateOf (x0 x1 x2 : Int) (M : Mem) (h0 : x0 ≠ 0) : MtP yX5_rateOf cX5_rateOf 3 (some .long) 1 0 0 [(24, x0), (27, x1), (0, x2)] M 1 (f_X5_rateOf x0 x1 x2 M) := by
  refine mk_P (by decide +kernel) (Nat.le_of_ble_eq_true rfl) (fun E C r0 hC hq hin => ?_)
  refine r_eqls (ls' := [(0, 24, x0), (1, 27, x1), (2, 0, x2)]) rfl ?_
  unfold f_X5_rateOf
  refine r_aload_n 0 hC 0 rfl (Or.inl (by decide)) rfl dX5_rateOf_0 ?_
  refine r_get 1 hC fd_4_3 fl_X5_25 dX5_rateOf_1 (fun v1 => ?_)
  refine r_aload_n 4 hC 1 rfl (Or.inl (by decide)) rfl dX5_rateOf_4 ?_
  refine r_get 5 hC fd_7_9 fl_X5_133 dX5_rateOf_5 (fun v2 => ?_)
  refine r_iload_n 8 hC 2 rfl rfl dX5_rateOf_8 ?_
  refine r_aaloadI 9 hC dX5_rateOf_9 (fun v3 => ?_)
  refine r_iconst 10 hC (r32c rfl) dX5_rateOf_10 ?_
  refine r_iaload 11 hC dX5_rateOf_11 (fun v4 => ?_)
  refine r_laload 12 hC dX5_rateOf_12 (fun v5 => ?_)
  exact r_lreturnP 13 hC hq (by decide) (by decide) dX5_rateOf_13

/-! WaterTurns$Sweep.gets(LWaterTurns$Valley;I)J -/
theorem dX5_gets_0 : decode cX5_gets 0 = .ok (.aload_n 0, 1) := by decide +kernel
theorem dX5_gets_1 : decode cX5_gets 1 = .ok (.aload_n 1, 1) := by decide +kernel
theorem dX5_gets_2 : decode cX5_gets 2 = .ok (.iload_n 2, 1) := by decide +kernel
theorem dX5_gets_3 : decode cX5_gets 3 = .ok (.invokevirtual 146, 3) := by decide +kernel
theorem dX5_gets_6 : decode cX5_gets 6 = .ok (.aload_n 0, 1) := by decide +kernel
theorem dX5_gets_7 : decode cX5_gets 7 = .ok (.getfield 38, 3) := by decide +kernel
theorem dX5_gets_10 : decode cX5_gets 10 = .ok (.iload_n 2, 1) := by decide +kernel
theorem dX5_gets_11 : decode cX5_gets 11 = .ok (.iaload, 1) := by decide +kernel
theorem dX5_gets_12 : decode cX5_gets 12 = .ok (.i2l, 1) := by decide +kernel
theorem dX5_gets_13 : decode cX5_gets 13 = .ok (.lmul, 1) := by decide +kernel
theorem dX5_gets_14 : decode cX5_gets 14 = .ok (.lreturn, 1) := by decide +kernel
set_option maxRecDepth 100000 in
theorem t_X5_gets (x0 x1 x2 : Int) (M : Mem) (h0 : x0 ≠ 0) : MtP yX5_gets cX5_gets 3 (some .long) 2 0 0 [(24, x0), (27, x1), (0, x2)] M 1 (f_X5_gets x0 x1 x2 M) := by
  refine mk_P (by decide +kernel) (Nat.le_of_ble_eq_true rfl) (fun E C r0 hC hq hin => ?_)
  refine r_eqls (ls' := [(0, 24, x0), (1, 27, x1), (2, 0, x2)]) rfl ?_
  unfold f_X5_gets
  refine r_aload_n 0 hC 0 rfl (Or.inl (by decide)) rfl dX5_gets_0 ?_
  refine r_aload_n 1 hC 1 rfl (Or.inl (by decide)) rfl dX5_gets_1 ?_
  refine r_iload_n 2 hC 2 rfl rfl dX5_gets_2 ?_
  refine r_callVP 3 hC [(27, x1), (0, x2)] [] rfl vl_X5_146 rfl h0 (by decide) (Nat.le_of_ble_eq_true rfl) (by decide) (by decide) dX5_gets_3 (t_X5_rateOf x0 x1 x2 M h0) (fun v1 => ?_)
  refine r_aload_n 6 hC 0 rfl (Or.inl (by decide)) rfl dX5_gets_6 ?_
  refine r_get 7 hC fd_4_7 fl_X5_38 dX5_gets_7 (fun v2 => ?_)
  refine r_iload_n 10 hC 2 rfl rfl dX5_gets_10 ?_
  refine r_iaload 11 hC dX5_gets_11 (fun v3 => ?_)
  refine r_i2l 12 hC dX5_gets_12 ?_
  refine r_lmul 13 hC dX5_gets_13 ?_
  exact r_lreturnP 14 hC hq (by decide) (by decide) dX5_gets_14

/-! java/lang/Math.max(JJ)J -/
theorem dJ9_max_f86c9_0 : decode cJ9_max_f86c9 0 = .ok (.lload_n 0, 1) := by decide +kernel
theorem dJ9_max_f86c9_1 : decode cJ9_max_f86c9 1 = .ok (.lload_n 2, 1) := by decide +kernel
theorem dJ9_max_f86c9_2 : decode cJ9_max_f86c9 2 = .ok (.lcmp, 1) := by decide +kernel
theorem dJ9_max_f86c9_3 : decode cJ9_max_f86c9 3 = .ok (.ifCond .lt 7, 3) := by decide +kernel
theorem dJ9_max_f86c9_6 : decode cJ9_max_f86c9 6 = .ok (.lload_n 0, 1) := by decide +kernel
theorem dJ9_max_f86c9_7 : decode cJ9_max_f86c9 7 = .ok (.goto 4, 3) := by decide +kernel
theorem dJ9_max_f86c9_10 : decode cJ9_max_f86c9 10 = .ok (.lload_n 2, 1) := by decide +kernel
theorem dJ9_max_f86c9_11 : decode cJ9_max_f86c9 11 = .ok (.lreturn, 1) := by decide +kernel
set_option maxRecDepth 100000 in
theorem t_J9_max_f86c9 (x0 x2 : Int) (M : Mem) : MtP yJ9_max_f86c9 cJ9_max_f86c9 4 (some .long) 1 0 0 [(1, x0), (1, x2)] M 1 (f_J9_max_f86c9 x0 x2 M) := by
  refine mk_P (by decide +kernel) (Nat.le_of_ble_eq_true rfl) (fun E C r0 hC hq hin => ?_)
  refine r_eqls (ls' := [(0, 1, x0), (2, 1, x2)]) rfl ?_
  unfold f_J9_max_f86c9
  refine r_lload_n 0 hC 0 rfl rfl dJ9_max_f86c9_0 ?_
  refine r_lload_n 1 hC 1 rfl rfl dJ9_max_f86c9_1 ?_
  refine r_jn (P := fun j11 => ∀ (q1 : Int), Bk E C 4 M r0 11 [] [(1, q1)] M 0 0 (j11 q1)) ?_ (fun j11 hj11 => ?_)
  · intro q1
    exact r_lreturnP 11 hC hq (by decide) (by decide) dJ9_max_f86c9_11
  refine r_lcmp_lt 2 hC (tgt := 10) (by decide) dJ9_max_f86c9_2 dJ9_max_f86c9_3 ?_ ?_
  · refine r_lload_n 10 hC 1 rfl rfl dJ9_max_f86c9_10 ?_
    exact r_sub [] rfl (hj11 x2)
  · refine r_lload_n 6 hC 0 rfl rfl dJ9_max_f86c9_6 ?_
    refine r_goto 7 hC (tgt := 11) (by decide) dJ9_max_f86c9_7 ?_
    exact r_sub [] rfl (hj11 x0)

/-! WaterTurns$World.endSpan(LWaterTurns$Sweep;)I -/
theorem dX10_endSpan_0 : decode cX10_endSpan 0 = .ok (.aload_n 0, 1) := by decide +kernel
theorem dX10_endSpan_1 : decode cX10_endSpan 1 = .ok (.getfield 28, 3) := by decide +kernel
theorem dX10_endSpan_4 : decode cX10_endSpan 4 = .ok (.getfield 88, 3) := by decide +kernel
theorem dX10_endSpan_7 : decode cX10_endSpan 7 = .ok (.bipush 99, 2) := by decide +kernel
theorem dX10_endSpan_9 : decode cX10_endSpan 9 = .ok (.if_icmp .lt 5, 3) := by decide +kernel
theorem dX10_endSpan_12 : decode cX10_endSpan 12 = .ok (.iconst 4, 1) := by decide +kernel
theorem dX10_endSpan_13 : decode cX10_endSpan 13 = .ok (.ireturn, 1) := by decide +kernel
theorem dX10_endSpan_14 : decode cX10_endSpan 14 = .ok (.aload_n 1, 1) := by decide +kernel
theorem dX10_endSpan_15 : decode cX10_endSpan 15 = .ok (.aload_n 0, 1) := by decide +kernel
theorem dX10_endSpan_16 : decode cX10_endSpan 16 = .ok (.invokevirtual 91, 3) := by decide +kernel
theorem dX10_endSpan_19 : decode cX10_endSpan 19 = .ok (.iconst 0, 1) := by decide +kernel
theorem dX10_endSpan_20 : decode cX10_endSpan 20 = .ok (.istore_n 2, 1) := by decide +kernel
theorem dX10_endSpan_21 : decode cX10_endSpan 21 = .ok (.iload_n 2, 1) := by decide +kernel
theorem dX10_endSpan_22 : decode cX10_endSpan 22 = .ok (.aload_n 0, 1) := by decide +kernel
theorem dX10_endSpan_23 : decode cX10_endSpan 23 = .ok (.getfield 12, 3) := by decide +kernel
theorem dX10_endSpan_26 : decode cX10_endSpan 26 = .ok (.getfield 55, 3) := by decide +kernel
theorem dX10_endSpan_29 : decode cX10_endSpan 29 = .ok (.if_icmp .ge 42, 3) := by decide +kernel
theorem dX10_endSpan_32 : decode cX10_endSpan 32 = .ok (.aload_n 0, 1) := by decide +kernel
theorem dX10_endSpan_33 : decode cX10_endSpan 33 = .ok (.getfield 28, 3) := by decide +kernel
theorem dX10_endSpan_36 : decode cX10_endSpan 36 = .ok (.getfield 96, 3) := by decide +kernel
theorem dX10_endSpan_39 : decode cX10_endSpan 39 = .ok (.iload_n 2, 1) := by decide +kernel
theorem dX10_endSpan_40 : decode cX10_endSpan 40 = .ok (.dup2, 1) := by decide +kernel
theorem dX10_endSpan_41 : decode cX10_endSpan 41 = .ok (.laload, 1) := by decide +kernel
theorem dX10_endSpan_42 : decode cX10_endSpan 42 = .ok (.aload_n 1, 1) := by decide +kernel
theorem dX10_endSpan_43 : decode cX10_endSpan 43 = .ok (.aload_n 0, 1) := by decide +kernel
theorem dX10_endSpan_44 : decode cX10_endSpan 44 = .ok (.getfield 12, 3) := by decide +kernel
theorem dX10_endSpan_47 : decode cX10_endSpan 47 = .ok (.iload_n 2, 1) := by decide +kernel
theorem dX10_endSpan_48 : decode cX10_endSpan 48 = .ok (.invokevirtual 100, 3) := by decide +kernel
theorem dX10_endSpan_51 : decode cX10_endSpan 51 = .ok (.lconst 1, 1) := by decide +kernel
theorem dX10_endSpan_52 : decode cX10_endSpan 52 = .ok (.aload_n 0, 1) := by decide +kernel
theorem dX10_endSpan_53 : decode cX10_endSpan 53 = .ok (.getfield 12, 3) := by decide +kernel
theorem dX10_endSpan_56 : decode cX10_endSpan 56 = .ok (.getfield 104, 3) := by decide +kernel
theorem dX10_endSpan_59 : decode cX10_endSpan 59 = .ok (.invokestatic 108, 3) := by decide +kernel
theorem dX10_endSpan_62 : decode cX10_endSpan 62 = .ok (.ldiv, 1) := by decide +kernel
theorem dX10_endSpan_63 : decode cX10_endSpan 63 = .ok (.ladd, 1) := by decide +kernel
theorem dX10_endSpan_64 : decode cX10_endSpan 64 = .ok (.lastore, 1) := by decide +kernel
theorem dX10_endSpan_65 : decode cX10_endSpan 65 = .ok (.iinc 2 1, 3) := by decide +kernel
theorem dX10_endSpan_68 : decode cX10_endSpan 68 = .ok (.goto (-47), 3) := by decide +kernel
theorem dX10_endSpan_71 : decode cX10_endSpan 71 = .ok (.aload_n 0, 1) := by decide +kernel
theorem dX10_endSpan_72 : decode cX10_endSpan 72 = .ok (.getfield 28, 3) := by decide +kernel
theorem dX10_endSpan_75 : decode cX10_endSpan 75 = .ok (.iconst 0, 1) := by decide +kernel
theorem dX10_endSpan_76 : decode cX10_endSpan 76 = .ok (.putfield 72, 3) := by decide +kernel
theorem dX10_endSpan_79 : decode cX10_endSpan 79 = .ok (.aload_n 0, 1) := by decide +kernel
theorem dX10_endSpan_80 : decode cX10_endSpan 80 = .ok (.getfield 28, 3) := by decide +kernel
theorem dX10_endSpan_83 : decode cX10_endSpan 83 = .ok (.dup, 1) := by decide +kernel
theorem dX10_endSpan_84 : decode cX10_endSpan 84 = .ok (.getfield 88, 3) := by decide +kernel
theorem dX10_endSpan_87 : decode cX10_endSpan 87 = .ok (.iconst 1, 1) := by decide +kernel
theorem dX10_endSpan_88 : decode cX10_endSpan 88 = .ok (.iadd, 1) := by decide +kernel
theorem dX10_endSpan_89 : decode cX10_endSpan 89 = .ok (.putfield 88, 3) := by decide +kernel
theorem dX10_endSpan_92 : decode cX10_endSpan 92 = .ok (.iconst 0, 1) := by decide +kernel
theorem dX10_endSpan_93 : decode cX10_endSpan 93 = .ok (.ireturn, 1) := by decide +kernel
set_option maxRecDepth 100000 in
theorem f_X10_endSpan_L21_ok {E : EnvT} {C : Cx} {Mi : Mem} {x0 : Int} (h0 : x0 ≠ 0) (hC : CxOK E C cX10_endSpan 3 yX10_endSpan.cls 5 0 0) {r0 : Int} {M0 : Mem} (hq : RQ E C 0 0 Mi (some .int) (some (0, r0)) M0) {x1 : Int} {k : Mem → Option (Int × Mem)} (hk : ∀ M20, Bk E C 3 Mi (r0, M0) 71 [(0, 28, x0)] [] M20 0 0 (k M20)) : ∀ (n : Nat) (p5 : Int) (M6 : Mem), Bk E C 3 Mi (r0, M0) 21 [(0, 28, x0), (1, 24, x1), (2, 0, p5)] [] M6 0 0 (f_X10_endSpan_L21 x0 x1 k n p5 M6) := by
  intro n
  induction n with
  | zero =>
    intro p5 M6
    exact r_none
  | succ n ih =>
    intro p5 M6
    rw [f_X10_endSpan_L21]
    refine r_iload_n 21 hC 2 rfl rfl dX10_endSpan_21 ?_
    refine r_aload_n 22 hC 0 rfl (Or.inl (by decide)) rfl dX10_endSpan_22 ?_
    refine r_get 23 hC fd_8_0 fl_X10_12 dX10_endSpan_23 (fun v7 => ?_)
    refine r_get 26 hC fd_7_5 fl_X10_55 dX10_endSpan_26 (fun v8 => ?_)
    refine r_icmp_ge 29 hC (tgt := 71) (by decide) dX10_endSpan_29 ?_ ?_
    · exact r_sub [0] rfl (hk M6)
    · refine r_aload_n 32 hC 0 rfl (Or.inl (by decide)) rfl dX10_endSpan_32 ?_
      refine r_get 33 hC fd_8_2 fl_X10_28 dX10_endSpan_33 (fun v9 => ?_)
      refine r_get 36 hC fd_3_9 fl_X10_96 dX10_endSpan_36 (fun v10 => ?_)
      refine r_iload_n 39 hC 2 rfl rfl dX10_endSpan_39 ?_
      refine r_dup2 40 hC ⟨by decide, by decide⟩ dX10_endSpan_40 ?_
      refine r_laload 41 hC dX10_endSpan_41 (fun v11 => ?_)
      refine r_aload_n 42 hC 1 rfl (Or.inl (by decide)) rfl dX10_endSpan_42 ?_
      refine r_aload_n 43 hC 0 rfl (Or.inl (by decide)) rfl dX10_endSpan_43 ?_
      refine r_get 44 hC fd_8_0 fl_X10_12 dX10_endSpan_44 (fun v12 => ?_)
      refine r_iload_n 47 hC 2 rfl rfl dX10_endSpan_47 ?_
      refine r_nn (fun hn13 => ?_)
      refine r_callVP 48 hC [(27, v12), (0, p5)] [(1, v11), (0, p5), (11, v10)] rfl vl_X10_100 rfl hn13 (by decide) (Nat.le_of_ble_eq_true rfl) (by decide) (by decide) dX10_endSpan_48 (t_X5_gets x1 v12 p5 M6 hn13) (fun v14 => ?_)
      refine r_lconst 51 hC (x := 1) ⟨by decide +kernel, r64c rfl⟩ dX10_endSpan_51 ?_
      refine r_aload_n 52 hC 0 rfl (Or.inl (by decide)) rfl dX10_endSpan_52 ?_
      refine r_get 53 hC fd_8_0 fl_X10_12 dX10_endSpan_53 (fun v15 => ?_)
      refine r_get 56 hC fd_7_7 fl_X10_104 dX10_endSpan_56 (fun v16 => ?_)
      refine r_callSP 59 hC [(1, 1), (1, v16)] [(1, v14), (1, v11), (0, p5), (11, v10)] rfl sl_X10_108 rfl (by decide) (Nat.le_of_ble_eq_true rfl) (by decide) (by decide) dX10_endSpan_59 (t_J9_max_f86c9 1 v16 M6) (fun v17 => ?_)
      refine r_ldiv 62 hC dX10_endSpan_62 (fun v18 => ?_)
      refine r_ladd 63 hC dX10_endSpan_63 ?_
      refine r_lastore 64 hC dX10_endSpan_64 (fun M19 => ?_)
      refine r_iinc 65 hC 2 rfl (by decide) dX10_endSpan_65 (r_eqls (ls' := [(2, 0, w32 (p5 + 1)), (0, 28, x0), (1, 24, x1)]) rfl ?_)
      refine r_goto 68 hC (tgt := 21) (by decide) dX10_endSpan_68 ?_
      exact r_sub [1, 2, 0] rfl (ih (w32 (p5 + 1)) M19)
set_option maxRecDepth 100000 in
theorem t_X10_endSpan (x0 x1 : Int) (M : Mem) (h0 : x0 ≠ 0) : MtI yX10_endSpan cX10_endSpan 3 (some .int) 5 0 0 [(28, x0), (24, x1)] M 0 (f_X10_endSpan x0 x1 M) := by
  refine mk_I (by decide +kernel) (Nat.le_of_ble_eq_true rfl) (fun E C r0 M0 hC hq hin => ?_)
  refine r_eqls (ls' := [(0, 28, x0), (1, 24, x1)]) rfl ?_
  unfold f_X10_endSpan
  refine r_aload_n 0 hC 0 rfl (Or.inl (by decide)) rfl dX10_endSpan_0 ?_
  refine r_get 1 hC fd_8_2 fl_X10_28 dX10_endSpan_1 (fun v1 => ?_)
  refine r_get 4 hC fd_3_1 fl_X10_88 dX10_endSpan_4 (fun v2 => ?_)
  refine r_bipush 7 hC kb_99 dX10_endSpan_7 ?_
  refine r_icmp_lt 9 hC (tgt := 14) (by decide) dX10_endSpan_9 ?_ ?_
  · refine r_aload_n 14 hC 1 rfl (Or.inl (by decide)) rfl dX10_endSpan_14 ?_
    refine r_aload_n 15 hC 0 rfl (Or.inl (by decide)) rfl dX10_endSpan_15 ?_
    refine r_nn (fun hn3 => ?_)
    refine r_callVV 16 hC [(28, x0)] [] rfl vl_X10_91 rfl hn3 (by decide) (Nat.le_of_ble_eq_true rfl) (by decide) (by decide) dX10_endSpan_16 (t_X5_over x1 x0 M hn3) (fun M4 => ?_)
    refine r_iconst 19 hC (r32c rfl) dX10_endSpan_19 ?_
    refine r_istore_n 20 hC rfl (by decide) dX10_endSpan_20 (r_eqls (ls' := [(2, 0, 0), (0, 28, x0), (1, 24, x1)]) rfl ?_)
    refine r_sub [1, 2, 0] rfl (f_X10_endSpan_L21_ok h0 hC hq (fun M21 => ?_) KF 0 M4)
    · refine r_aload_n 71 hC 0 rfl (Or.inl (by decide)) rfl dX10_endSpan_71 ?_
      refine r_get 72 hC fd_8_2 fl_X10_28 dX10_endSpan_72 (fun v22 => ?_)
      refine r_iconst 75 hC (r32c rfl) dX10_endSpan_75 ?_
      refine r_put 76 hC fd_3_3 fl_X10_72 dX10_endSpan_76 (fun M23 => ?_)
      refine r_aload_n 79 hC 0 rfl (Or.inl (by decide)) rfl dX10_endSpan_79 ?_
      refine r_get 80 hC fd_8_2 fl_X10_28 dX10_endSpan_80 (fun v24 => ?_)
      refine r_dup 83 hC (by decide) dX10_endSpan_83 ?_
      refine r_get 84 hC fd_3_1 fl_X10_88 dX10_endSpan_84 (fun v25 => ?_)
      refine r_iconst 87 hC (r32c rfl) dX10_endSpan_87 ?_
      refine r_iadd 88 hC dX10_endSpan_88 ?_
      refine r_put 89 hC fd_3_1 fl_X10_88 dX10_endSpan_89 (fun M26 => ?_)
      refine r_iconst 92 hC (r32c rfl) dX10_endSpan_92 ?_
      exact r_ireturn 93 hC hq (by decide) (by decide) dX10_endSpan_93
  · refine r_iconst 12 hC (r32c rfl) dX10_endSpan_12 ?_
    exact r_ireturn 13 hC hq (by decide) (by decide) dX10_endSpan_13

/-! WaterTurns$Life.act(LWaterTurns$World;LWaterTurns$Sweep;I)I -/
theorem dX2_act_0 : decode cX2_act 0 = .ok (.aload_n 1, 1) := by decide +kernel
theorem dX2_act_1 : decode cX2_act 1 = .ok (.getfield 35, 3) := by decide +kernel
theorem dX2_act_4 : decode cX2_act 4 = .ok (.astore 4, 2) := by decide +kernel
theorem dX2_act_6 : decode cX2_act 6 = .ok (.aload 4, 2) := by decide +kernel
theorem dX2_act_8 : decode cX2_act 8 = .ok (.getfield 81, 3) := by decide +kernel
theorem dX2_act_11 : decode cX2_act 11 = .ok (.iload_n 3, 1) := by decide +kernel
theorem dX2_act_12 : decode cX2_act 12 = .ok (.iaload, 1) := by decide +kernel
theorem dX2_act_13 : decode cX2_act 13 = .ok (.istore 5, 2) := by decide +kernel
theorem dX2_act_15 : decode cX2_act 15 = .ok (.aload 4, 2) := by decide +kernel
theorem dX2_act_17 : decode cX2_act 17 = .ok (.getfield 102, 3) := by decide +kernel
theorem dX2_act_20 : decode cX2_act 20 = .ok (.iload_n 3, 1) := by decide +kernel
theorem dX2_act_21 : decode cX2_act 21 = .ok (.iaload, 1) := by decide +kernel
theorem dX2_act_22 : decode cX2_act 22 = .ok (.istore 6, 2) := by decide +kernel
theorem dX2_act_24 : decode cX2_act 24 = .ok (.aload 4, 2) := by decide +kernel
theorem dX2_act_26 : decode cX2_act 26 = .ok (.getfield 56, 3) := by decide +kernel
theorem dX2_act_29 : decode cX2_act 29 = .ok (.iload_n 3, 1) := by decide +kernel
theorem dX2_act_30 : decode cX2_act 30 = .ok (.iaload, 1) := by decide +kernel
theorem dX2_act_31 : decode cX2_act 31 = .ok (.tableswitch 201 8 22 #[73, 201, 201, 201, 201, 201, 201, 201, 73, 101, 121, 152, 165, 181, 195], 73) := by decide +kernel
theorem dX2_act_104 : decode cX2_act 104 = .ok (.aload_n 1, 1) := by decide +kernel
theorem dX2_act_105 : decode cX2_act 105 = .ok (.getfield 41, 3) := by decide +kernel
theorem dX2_act_108 : decode cX2_act 108 = .ok (.iload 5, 2) := by decide +kernel
theorem dX2_act_110 : decode cX2_act 110 = .ok (.aload 4, 2) := by decide +kernel
theorem dX2_act_112 : decode cX2_act 112 = .ok (.getfield 56, 3) := by decide +kernel
theorem dX2_act_115 : decode cX2_act 115 = .ok (.iload_n 3, 1) := by decide +kernel
theorem dX2_act_116 : decode cX2_act 116 = .ok (.iaload, 1) := by decide +kernel
theorem dX2_act_117 : decode cX2_act 117 = .ok (.bipush 8, 2) := by decide +kernel
theorem dX2_act_119 : decode cX2_act 119 = .ok (.if_icmp .ne 7, 3) := by decide +kernel
theorem dX2_act_122 : decode cX2_act 122 = .ok (.iconst 1, 1) := by decide +kernel
theorem dX2_act_123 : decode cX2_act 123 = .ok (.goto 4, 3) := by decide +kernel
theorem dX2_act_126 : decode cX2_act 126 = .ok (.iconst 0, 1) := by decide +kernel
theorem dX2_act_127 : decode cX2_act 127 = .ok (.invokevirtual 105, 3) := by decide +kernel
theorem dX2_act_130 : decode cX2_act 130 = .ok (.iconst 0, 1) := by decide +kernel
theorem dX2_act_131 : decode cX2_act 131 = .ok (.ireturn, 1) := by decide +kernel
theorem dX2_act_132 : decode cX2_act 132 = .ok (.iload 5, 2) := by decide +kernel
theorem dX2_act_134 : decode cX2_act 134 = .ok (.iload 6, 2) := by decide +kernel
theorem dX2_act_136 : decode cX2_act 136 = .ok (.if_icmp .ne 7, 3) := by decide +kernel
theorem dX2_act_139 : decode cX2_act 139 = .ok (.iconst 1, 1) := by decide +kernel
theorem dX2_act_140 : decode cX2_act 140 = .ok (.goto 11, 3) := by decide +kernel
theorem dX2_act_143 : decode cX2_act 143 = .ok (.aload_n 1, 1) := by decide +kernel
theorem dX2_act_144 : decode cX2_act 144 = .ok (.iload 5, 2) := by decide +kernel
theorem dX2_act_146 : decode cX2_act 146 = .ok (.iload 6, 2) := by decide +kernel
theorem dX2_act_148 : decode cX2_act 148 = .ok (.invokevirtual 109, 3) := by decide +kernel
theorem dX2_act_151 : decode cX2_act 151 = .ok (.ireturn, 1) := by decide +kernel
theorem dX2_act_152 : decode cX2_act 152 = .ok (.iload 5, 2) := by decide +kernel
theorem dX2_act_154 : decode cX2_act 154 = .ok (.iload 6, 2) := by decide +kernel
theorem dX2_act_156 : decode cX2_act 156 = .ok (.if_icmp .ne 7, 3) := by decide +kernel
theorem dX2_act_159 : decode cX2_act 159 = .ok (.iconst 1, 1) := by decide +kernel
theorem dX2_act_160 : decode cX2_act 160 = .ok (.goto 22, 3) := by decide +kernel
theorem dX2_act_163 : decode cX2_act 163 = .ok (.aload_n 1, 1) := by decide +kernel
theorem dX2_act_164 : decode cX2_act 164 = .ok (.iload 5, 2) := by decide +kernel
theorem dX2_act_166 : decode cX2_act 166 = .ok (.iload 6, 2) := by decide +kernel
theorem dX2_act_168 : decode cX2_act 168 = .ok (.aload 4, 2) := by decide +kernel
theorem dX2_act_170 : decode cX2_act 170 = .ok (.getfield 78, 3) := by decide +kernel
theorem dX2_act_173 : decode cX2_act 173 = .ok (.iload_n 3, 1) := by decide +kernel
theorem dX2_act_174 : decode cX2_act 174 = .ok (.iaload, 1) := by decide +kernel
theorem dX2_act_175 : decode cX2_act 175 = .ok (.aload_n 2, 1) := by decide +kernel
theorem dX2_act_176 : decode cX2_act 176 = .ok (.getfield 113, 3) := by decide +kernel
theorem dX2_act_179 : decode cX2_act 179 = .ok (.invokevirtual 119, 3) := by decide +kernel
theorem dX2_act_182 : decode cX2_act 182 = .ok (.ireturn, 1) := by decide +kernel
theorem dX2_act_183 : decode cX2_act 183 = .ok (.aload_n 1, 1) := by decide +kernel
theorem dX2_act_184 : decode cX2_act 184 = .ok (.aload_n 2, 1) := by decide +kernel
theorem dX2_act_185 : decode cX2_act 185 = .ok (.getfield 113, 3) := by decide +kernel
theorem dX2_act_188 : decode cX2_act 188 = .ok (.iload 5, 2) := by decide +kernel
theorem dX2_act_190 : decode cX2_act 190 = .ok (.iload 6, 2) := by decide +kernel
theorem dX2_act_192 : decode cX2_act 192 = .ok (.invokestatic 123, 3) := by decide +kernel
theorem dX2_act_195 : decode cX2_act 195 = .ok (.ireturn, 1) := by decide +kernel
theorem dX2_act_196 : decode cX2_act 196 = .ok (.aload_n 1, 1) := by decide +kernel
theorem dX2_act_197 : decode cX2_act 197 = .ok (.getfield 41, 3) := by decide +kernel
theorem dX2_act_200 : decode cX2_act 200 = .ok (.aload 4, 2) := by decide +kernel
theorem dX2_act_202 : decode cX2_act 202 = .ok (.getfield 78, 3) := by decide +kernel
theorem dX2_act_205 : decode cX2_act 205 = .ok (.iload_n 3, 1) := by decide +kernel
theorem dX2_act_206 : decode cX2_act 206 = .ok (.iaload, 1) := by decide +kernel
theorem dX2_act_207 : decode cX2_act 207 = .ok (.putfield 127, 3) := by decide +kernel
theorem dX2_act_210 : decode cX2_act 210 = .ok (.iconst 0, 1) := by decide +kernel
theorem dX2_act_211 : decode cX2_act 211 = .ok (.ireturn, 1) := by decide +kernel
theorem dX2_act_212 : decode cX2_act 212 = .ok (.aload_n 0, 1) := by decide +kernel
theorem dX2_act_213 : decode cX2_act 213 = .ok (.aload_n 1, 1) := by decide +kernel
theorem dX2_act_214 : decode cX2_act 214 = .ok (.aload 4, 2) := by decide +kernel
theorem dX2_act_216 : decode cX2_act 216 = .ok (.getfield 78, 3) := by decide +kernel
theorem dX2_act_219 : decode cX2_act 219 = .ok (.iload_n 3, 1) := by decide +kernel
theorem dX2_act_220 : decode cX2_act 220 = .ok (.iaload, 1) := by decide +kernel
theorem dX2_act_221 : decode cX2_act 221 = .ok (.invokevirtual 130, 3) := by decide +kernel
theorem dX2_act_224 : decode cX2_act 224 = .ok (.iconst 0, 1) := by decide +kernel
theorem dX2_act_225 : decode cX2_act 225 = .ok (.ireturn, 1) := by decide +kernel
theorem dX2_act_226 : decode cX2_act 226 = .ok (.aload_n 1, 1) := by decide +kernel
theorem dX2_act_227 : decode cX2_act 227 = .ok (.aload_n 2, 1) := by decide +kernel
theorem dX2_act_228 : decode cX2_act 228 = .ok (.invokevirtual 134, 3) := by decide +kernel
theorem dX2_act_231 : decode cX2_act 231 = .ok (.ireturn, 1) := by decide +kernel
theorem dX2_act_232 : decode cX2_act 232 = .ok (.iconst 0, 1) := by decide +kernel
theorem dX2_act_233 : decode cX2_act 233 = .ok (.ireturn, 1) := by decide +kernel
set_option maxRecDepth 100000 in
theorem t_X2_act (x0 x1 x2 x3 : Int) (M : Mem) (h0 : x0 ≠ 0) : MtI yX2_act cX2_act 7 (some .int) 6 0 0 [(21, x0), (28, x1), (24, x2), (0, x3)] M 0 (f_X2_act x0 x1 x2 x3 M) := by
  refine mk_I (by decide +kernel) (Nat.le_of_ble_eq_true rfl) (fun E C r0 M0 hC hq hin => ?_)
  refine r_eqls (ls' := [(0, 21, x0), (1, 28, x1), (2, 24, x2), (3, 0, x3)]) rfl ?_
  unfold f_X2_act
  refine r_aload_n 0 hC 1 rfl (Or.inl (by decide)) rfl dX2_act_0 ?_
  refine r_get 1 hC fd_8_1 fl_X2_35 dX2_act_1 (fun v1 => ?_)
  refine r_astore 4 hC (Or.inl (by decide)) (by decide) dX2_act_4 (r_eqls (ls' := [(4, 20, v1), (0, 21, x0), (1, 28, x1), (2, 24, x2), (3, 0, x3)]) rfl ?_)
  refine r_aload 6 hC 0 (Or.inl (by decide)) rfl dX2_act_6 ?_
  refine r_get 8 hC fd_0_5 fl_X2_81 dX2_act_8 (fun v2 => ?_)
  refine r_iload_n 11 hC 4 rfl rfl dX2_act_11 ?_
  refine r_iaload 12 hC dX2_act_12 (fun v3 => ?_)
  refine r_istore 13 hC (by decide) dX2_act_13 (r_eqls (ls' := [(5, 0, v3), (4, 20, v1), (0, 21, x0), (1, 28, x1), (2, 24, x2), (3, 0, x3)]) rfl ?_)
  refine r_aload 15 hC 1 (Or.inl (by decide)) rfl dX2_act_15 ?_
  refine r_get 17 hC fd_0_6 fl_X2_102 dX2_act_17 (fun v4 => ?_)
  refine r_iload_n 20 hC 5 rfl rfl dX2_act_20 ?_
  refine r_iaload 21 hC dX2_act_21 (fun v5 => ?_)
  refine r_istore 22 hC (by decide) dX2_act_22 (r_eqls (ls' := [(6, 0, v5), (5, 0, v3), (4, 20, v1), (0, 21, x0), (1, 28, x1), (2, 24, x2), (3, 0, x3)]) rfl ?_)
  refine r_aload 24 hC 2 (Or.inl (by decide)) rfl dX2_act_24 ?_
  refine r_get 26 hC fd_0_3 fl_X2_56 dX2_act_26 (fun v6 => ?_)
  refine r_iload_n 29 hC 6 rfl rfl dX2_act_29 ?_
  refine r_iaload 30 hC dX2_act_30 (fun v7 => ?_)
  refine r_sw_case 31 (tgt := 104) (off := 73) hC dX2_act_31 ⟨by decide, by decide, r32c rfl⟩ (by decide) (by decide) ?_ (fun hs8 => ?_)
  · refine r_aload_n 104 hC 4 rfl (Or.inl (by decide)) rfl dX2_act_104 ?_
    refine r_get 105 hC fd_8_2 fl_X2_41 dX2_act_105 (fun v8 => ?_)
    refine r_iload 108 hC 1 rfl dX2_act_108 ?_
    refine r_aload 110 hC 2 (Or.inl (by decide)) rfl dX2_act_110 ?_
    refine r_get 112 hC fd_0_3 fl_X2_56 dX2_act_112 (fun v9 => ?_)
    refine r_iload_n 115 hC 6 rfl rfl dX2_act_115 ?_
    refine r_iaload 116 hC dX2_act_116 (fun v10 => ?_)
    refine r_bipush 117 hC kb_8 dX2_act_117 ?_
    refine r_jn (P := fun j127 => ∀ (q11 : Int), Bk E C 7 M (r0, M0) 127 [] [(0, q11), (0, v3), (23, v8)] M 0 0 (j127 q11)) ?_ (fun j127 hj127 => ?_)
    · intro q11
      refine r_nn (fun hn12 => ?_)
      refine r_callVV 127 hC [(0, v3), (0, q11)] [] rfl vl_X2_105 rfl hn12 (by decide) (Nat.le_of_ble_eq_true rfl) (by decide) (by decide) dX2_act_127 (t_X4_setClosed v8 v3 q11 M hn12) (fun M13 => ?_)
      refine r_iconst 130 hC (r32c rfl) dX2_act_130 ?_
      exact r_ireturn 131 hC hq (by decide) (by decide) dX2_act_131
    refine r_icmp_ne 119 hC (tgt := 126) (by decide) dX2_act_119 ?_ ?_
    · refine r_iconst 126 hC (r32c rfl) dX2_act_126 ?_
      exact r_sub [] rfl (hj127 0)
    · refine r_iconst 122 hC (r32c rfl) dX2_act_122 ?_
      refine r_goto 123 hC (tgt := 127) (by decide) dX2_act_123 ?_
      exact r_sub [] rfl (hj127 1)
  refine r_sw_case 31 (tgt := 104) (off := 73) hC dX2_act_31 ⟨by decide, by decide, r32c rfl⟩ (by decide) (by decide) ?_ (fun hs16 => ?_)
  · refine r_aload_n 104 hC 4 rfl (Or.inl (by decide)) rfl dX2_act_104 ?_
    refine r_get 105 hC fd_8_2 fl_X2_41 dX2_act_105 (fun v14 => ?_)
    refine r_iload 108 hC 1 rfl dX2_act_108 ?_
    refine r_aload 110 hC 2 (Or.inl (by decide)) rfl dX2_act_110 ?_
    refine r_get 112 hC fd_0_3 fl_X2_56 dX2_act_112 (fun v15 => ?_)
    refine r_iload_n 115 hC 6 rfl rfl dX2_act_115 ?_
    refine r_iaload 116 hC dX2_act_116 (fun v16 => ?_)
    refine r_bipush 117 hC kb_8 dX2_act_117 ?_
    refine r_jn (P := fun j127 => ∀ (q17 : Int), Bk E C 7 M (r0, M0) 127 [] [(0, q17), (0, v3), (23, v14)] M 0 0 (j127 q17)) ?_ (fun j127 hj127 => ?_)
    · intro q17
      refine r_nn (fun hn18 => ?_)
      refine r_callVV 127 hC [(0, v3), (0, q17)] [] rfl vl_X2_105 rfl hn18 (by decide) (Nat.le_of_ble_eq_true rfl) (by decide) (by decide) dX2_act_127 (t_X4_setClosed v14 v3 q17 M hn18) (fun M19 => ?_)
      refine r_iconst 130 hC (r32c rfl) dX2_act_130 ?_
      exact r_ireturn 131 hC hq (by decide) (by decide) dX2_act_131
    refine r_icmp_ne 119 hC (tgt := 126) (by decide) dX2_act_119 ?_ ?_
    · refine r_iconst 126 hC (r32c rfl) dX2_act_126 ?_
      exact r_sub [] rfl (hj127 0)
    · refine r_iconst 122 hC (r32c rfl) dX2_act_122 ?_
      refine r_goto 123 hC (tgt := 127) (by decide) dX2_act_123 ?_
      exact r_sub [] rfl (hj127 1)
  refine r_sw_case 31 (tgt := 132) (off := 101) hC dX2_act_31 ⟨by decide, by decide, r32c rfl⟩ (by decide) (by decide) ?_ (fun hs17 => ?_)
  · refine r_iload 132 hC 1 rfl dX2_act_132 ?_
    refine r_iload 134 hC 0 rfl dX2_act_134 ?_
    refine r_jn (P := fun j151 => ∀ (q20 : Int) (M21 : Mem), Bk E C 7 M (r0, M0) 151 [] [(0, q20)] M21 0 0 (j151 q20 M21)) ?_ (fun j151 hj151 => ?_)
    · intro q20 M21
      exact r_ireturn 151 hC hq (by decide) (by decide) dX2_act_151
    refine r_icmp_ne 136 hC (tgt := 143) (by decide) dX2_act_136 ?_ ?_
    · refine r_aload_n 143 hC 4 rfl (Or.inl (by decide)) rfl dX2_act_143 ?_
      refine r_iload 144 hC 1 rfl dX2_act_144 ?_
      refine r_iload 146 hC 0 rfl dX2_act_146 ?_
      refine r_nn (fun hn22 => ?_)
      refine r_callVI 148 hC [(0, v3), (0, v5)] [] rfl vl_X2_109 rfl hn22 (by decide) (Nat.le_of_ble_eq_true rfl) (by decide) (by decide) dX2_act_148 (t_X10_changePlaces x1 v3 v5 M hn22) (fun v23 M24 => ?_)
      exact r_sub [] rfl (hj151 v23 M24)
    · refine r_iconst 139 hC (r32c rfl) dX2_act_139 ?_
      refine r_goto 140 hC (tgt := 151) (by decide) dX2_act_140 ?_
      exact r_sub [] rfl (hj151 1 M)
  refine r_sw_case 31 (tgt := 152) (off := 121) hC dX2_act_31 ⟨by decide, by decide, r32c rfl⟩ (by decide) (by decide) ?_ (fun hs18 => ?_)
  · refine r_iload 152 hC 1 rfl dX2_act_152 ?_
    refine r_iload 154 hC 0 rfl dX2_act_154 ?_
    refine r_jn (P := fun j182 => ∀ (q25 : Int) (M26 : Mem), Bk E C 7 M (r0, M0) 182 [] [(0, q25)] M26 0 0 (j182 q25 M26)) ?_ (fun j182 hj182 => ?_)
    · intro q25 M26
      exact r_ireturn 182 hC hq (by decide) (by decide) dX2_act_182
    refine r_icmp_ne 156 hC (tgt := 163) (by decide) dX2_act_156 ?_ ?_
    · refine r_aload_n 163 hC 4 rfl (Or.inl (by decide)) rfl dX2_act_163 ?_
      refine r_iload 164 hC 1 rfl dX2_act_164 ?_
      refine r_iload 166 hC 0 rfl dX2_act_166 ?_
      refine r_aload 168 hC 2 (Or.inl (by decide)) rfl dX2_act_168 ?_
      refine r_get 170 hC fd_0_8 fl_X2_78 dX2_act_170 (fun v27 => ?_)
      refine r_iload_n 173 hC 6 rfl rfl dX2_act_173 ?_
      refine r_iaload 174 hC dX2_act_174 (fun v28 => ?_)
      refine r_aload_n 175 hC 5 rfl (Or.inl (by decide)) rfl dX2_act_175 ?_
      refine r_get 176 hC fd_4_0 fl_X2_113 dX2_act_176 (fun v29 => ?_)
      refine r_nn (fun hn30 => ?_)
      refine r_callVI 179 hC [(0, v3), (0, v5), (0, v28), (22, v29)] [] rfl vl_X2_119 rfl hn30 (by decide) (Nat.le_of_ble_eq_true rfl) (by decide) (by decide) dX2_act_179 (t_X10_makeLoan x1 v3 v5 v28 v29 M hn30) (fun v31 M32 => ?_)
      exact r_sub [] rfl (hj182 v31 M32)
    · refine r_iconst 159 hC (r32c rfl) dX2_act_159 ?_
      refine r_goto 160 hC (tgt := 182) (by decide) dX2_act_160 ?_
      exact r_sub [] rfl (hj182 1 M)
  refine r_sw_case 31 (tgt := 183) (off := 152) hC dX2_act_31 ⟨by decide, by decide, r32c rfl⟩ (by decide) (by decide) ?_ (fun hs19 => ?_)
  · refine r_aload_n 183 hC 4 rfl (Or.inl (by decide)) rfl dX2_act_183 ?_
    refine r_aload_n 184 hC 5 rfl (Or.inl (by decide)) rfl dX2_act_184 ?_
    refine r_get 185 hC fd_4_0 fl_X2_113 dX2_act_185 (fun v33 => ?_)
    refine r_iload 188 hC 1 rfl dX2_act_188 ?_
    refine r_iload 190 hC 0 rfl dX2_act_190 ?_
    refine r_callSI 192 hC [(28, x1), (22, v33), (0, v3), (0, v5)] [] rfl sl_X2_123 rfl (by decide) (Nat.le_of_ble_eq_true rfl) (by decide) (by decide) dX2_act_192 (t_X2_pay x1 v33 v3 v5 M) (fun v34 M35 => ?_)
    exact r_ireturn 195 hC hq (by decide) (by decide) dX2_act_195
  refine r_sw_case 31 (tgt := 196) (off := 165) hC dX2_act_31 ⟨by decide, by decide, r32c rfl⟩ (by decide) (by decide) ?_ (fun hs20 => ?_)
  · refine r_aload_n 196 hC 4 rfl (Or.inl (by decide)) rfl dX2_act_196 ?_
    refine r_get 197 hC fd_8_2 fl_X2_41 dX2_act_197 (fun v36 => ?_)
    refine r_aload 200 hC 2 (Or.inl (by decide)) rfl dX2_act_200 ?_
    refine r_get 202 hC fd_0_8 fl_X2_78 dX2_act_202 (fun v37 => ?_)
    refine r_iload_n 205 hC 6 rfl rfl dX2_act_205 ?_
    refine r_iaload 206 hC dX2_act_206 (fun v38 => ?_)
    refine r_put 207 hC fd_3_0 fl_X2_127 dX2_act_207 (fun M39 => ?_)
    refine r_iconst 210 hC (r32c rfl) dX2_act_210 ?_
    exact r_ireturn 211 hC hq (by decide) (by decide) dX2_act_211
  refine r_sw_case 31 (tgt := 212) (off := 181) hC dX2_act_31 ⟨by decide, by decide, r32c rfl⟩ (by decide) (by decide) ?_ (fun hs21 => ?_)
  · refine r_aload_n 212 hC 3 rfl (Or.inl (by decide)) rfl dX2_act_212 ?_
    refine r_aload_n 213 hC 4 rfl (Or.inl (by decide)) rfl dX2_act_213 ?_
    refine r_aload 214 hC 2 (Or.inl (by decide)) rfl dX2_act_214 ?_
    refine r_get 216 hC fd_0_8 fl_X2_78 dX2_act_216 (fun v40 => ?_)
    refine r_iload_n 219 hC 6 rfl rfl dX2_act_219 ?_
    refine r_iaload 220 hC dX2_act_220 (fun v41 => ?_)
    refine r_callVV 221 hC [(28, x1), (0, v41)] [] rfl vl_X2_130 rfl h0 (by decide) (Nat.le_of_ble_eq_true rfl) (by decide) (by decide) dX2_act_221 (t_X2_draw x0 x1 v41 M h0) (fun M42 => ?_)
    refine r_iconst 224 hC (r32c rfl) dX2_act_224 ?_
    exact r_ireturn 225 hC hq (by decide) (by decide) dX2_act_225
  refine r_sw_case 31 (tgt := 226) (off := 195) hC dX2_act_31 ⟨by decide, by decide, r32c rfl⟩ (by decide) (by decide) ?_ (fun hs22 => ?_)
  · refine r_aload_n 226 hC 4 rfl (Or.inl (by decide)) rfl dX2_act_226 ?_
    refine r_aload_n 227 hC 5 rfl (Or.inl (by decide)) rfl dX2_act_227 ?_
    refine r_nn (fun hn43 => ?_)
    refine r_callVI 228 hC [(24, x2)] [] rfl vl_X2_134 rfl hn43 (by decide) (Nat.le_of_ble_eq_true rfl) (by decide) (by decide) dX2_act_228 (t_X10_endSpan x1 x2 M hn43) (fun v44 M45 => ?_)
    exact r_ireturn 231 hC hq (by decide) (by decide) dX2_act_231
  refine r_sw_dflt2 31 (tgt := 232) hC dX2_act_31 [9, 10, 11, 12, 13, 14, 15] (by decide) (by simp only [List.mem_cons, List.not_mem_nil, or_false]; omega) (by decide) ?_
  refine r_iconst 232 hC (r32c rfl) dX2_act_232 ?_
  exact r_ireturn 233 hC hq (by decide) (by decide) dX2_act_233

/-! WaterTurns$Standing.allDebtBy(I)I -/
theorem dX4_allDebtBy_0 : decode cX4_allDebtBy 0 = .ok (.iconst 0, 1) := by decide +kernel
theorem dX4_allDebtBy_1 : decode cX4_allDebtBy 1 = .ok (.istore_n 2, 1) := by decide +kernel
theorem dX4_allDebtBy_2 : decode cX4_allDebtBy 2 = .ok (.iconst 0, 1) := by decide +kernel
theorem dX4_allDebtBy_3 : decode cX4_allDebtBy 3 = .ok (.istore_n 3, 1) := by decide +kernel
theorem dX4_allDebtBy_4 : decode cX4_allDebtBy 4 = .ok (.iload_n 3, 1) := by decide +kernel
theorem dX4_allDebtBy_5 : decode cX4_allDebtBy 5 = .ok (.bipush 10, 2) := by decide +kernel
theorem dX4_allDebtBy_7 : decode cX4_allDebtBy 7 = .ok (.if_icmp .ge 18, 3) := by decide +kernel
theorem dX4_allDebtBy_10 : decode cX4_allDebtBy 10 = .ok (.iload_n 2, 1) := by decide +kernel
theorem dX4_allDebtBy_11 : decode cX4_allDebtBy 11 = .ok (.aload_n 0, 1) := by decide +kernel
theorem dX4_allDebtBy_12 : decode cX4_allDebtBy 12 = .ok (.iload_n 1, 1) := by decide +kernel
theorem dX4_allDebtBy_13 : decode cX4_allDebtBy 13 = .ok (.iload_n 3, 1) := by decide +kernel
theorem dX4_allDebtBy_14 : decode cX4_allDebtBy 14 = .ok (.invokevirtual 59, 3) := by decide +kernel
theorem dX4_allDebtBy_17 : decode cX4_allDebtBy 17 = .ok (.iadd, 1) := by decide +kernel
theorem dX4_allDebtBy_18 : decode cX4_allDebtBy 18 = .ok (.istore_n 2, 1) := by decide +kernel
theorem dX4_allDebtBy_19 : decode cX4_allDebtBy 19 = .ok (.iinc 3 1, 3) := by decide +kernel
theorem dX4_allDebtBy_22 : decode cX4_allDebtBy 22 = .ok (.goto (-18), 3) := by decide +kernel
theorem dX4_allDebtBy_25 : decode cX4_allDebtBy 25 = .ok (.iload_n 2, 1) := by decide +kernel
theorem dX4_allDebtBy_26 : decode cX4_allDebtBy 26 = .ok (.ireturn, 1) := by decide +kernel
set_option maxRecDepth 100000 in
theorem f_X4_allDebtBy_L4_ok {E : EnvT} {C : Cx} {Mi M : Mem} {x0 : Int} (h0 : x0 ≠ 0) (hC : CxOK E C cX4_allDebtBy 4 yX4_allDebtBy.cls 2 0 0) {r0 : Int} (hq : RQ E C 0 0 Mi (some .int) (some (0, r0)) M) {x1 : Int} {k : Int → Option (Int)} (hk : ∀ q5, Bk E C 4 Mi r0 25 [(2, 0, q5)] [] M 0 0 (k q5)) : ∀ (n : Nat) (p1 : Int) (p2 : Int), Bk E C 4 Mi r0 4 [(0, 23, x0), (1, 0, x1), (2, 0, p1), (3, 0, p2)] [] M 0 0 (f_X4_allDebtBy_L4 M x0 x1 k n p1 p2) := by
  intro n
  induction n with
  | zero =>
    intro p1 p2
    exact r_none
  | succ n ih =>
    intro p1 p2
    rw [f_X4_allDebtBy_L4]
    refine r_iload_n 4 hC 3 rfl rfl dX4_allDebtBy_4 ?_
    refine r_bipush 5 hC kb_10 dX4_allDebtBy_5 ?_
    refine r_icmp_ge 7 hC (tgt := 25) (by decide) dX4_allDebtBy_7 ?_ ?_
    · exact r_sub [2] rfl (hk p1)
    · refine r_iload_n 10 hC 2 rfl rfl dX4_allDebtBy_10 ?_
      refine r_aload_n 11 hC 0 rfl (Or.inl (by decide)) rfl dX4_allDebtBy_11 ?_
      refine r_iload_n 12 hC 1 rfl rfl dX4_allDebtBy_12 ?_
      refine r_iload_n 13 hC 3 rfl rfl dX4_allDebtBy_13 ?_
      refine r_callVP 14 hC [(0, x1), (0, p2)] [(0, p1)] rfl vl_X4_59 rfl h0 (by decide) (Nat.le_of_ble_eq_true rfl) (by decide) (by decide) dX4_allDebtBy_14 (t_X4_debt x0 x1 p2 M h0) (fun v3 => ?_)
      refine r_iadd 17 hC dX4_allDebtBy_17 ?_
      refine r_istore_nL 18 hC rfl (by decide) dX4_allDebtBy_18 (fun v4 => r_eqls (ls' := [(2, 0, v4), (0, 23, x0), (1, 0, x1), (3, 0, p2)]) rfl ?_)
      refine r_iinc 19 hC 3 rfl (by decide) dX4_allDebtBy_19 (r_eqls (ls' := [(3, 0, w32 (p2 + 1)), (2, 0, v4), (0, 23, x0), (1, 0, x1)]) rfl ?_)
      refine r_goto 22 hC (tgt := 4) (by decide) dX4_allDebtBy_22 ?_
      exact r_sub [2, 3, 1, 0] rfl (ih v4 (w32 (p2 + 1)))
set_option maxRecDepth 100000 in
theorem t_X4_allDebtBy (x0 x1 : Int) (M : Mem) (h0 : x0 ≠ 0) : MtP yX4_allDebtBy cX4_allDebtBy 4 (some .int) 2 0 0 [(23, x0), (0, x1)] M 0 (f_X4_allDebtBy x0 x1 M) := by
  refine mk_P (by decide +kernel) (Nat.le_of_ble_eq_true rfl) (fun E C r0 hC hq hin => ?_)
  refine r_eqls (ls' := [(0, 23, x0), (1, 0, x1)]) rfl ?_
  unfold f_X4_allDebtBy
  refine r_iconst 0 hC (r32c rfl) dX4_allDebtBy_0 ?_
  refine r_istore_n 1 hC rfl (by decide) dX4_allDebtBy_1 (r_eqls (ls' := [(2, 0, 0), (0, 23, x0), (1, 0, x1)]) rfl ?_)
  refine r_iconst 2 hC (r32c rfl) dX4_allDebtBy_2 ?_
  refine r_istore_n 3 hC rfl (by decide) dX4_allDebtBy_3 (r_eqls (ls' := [(3, 0, 0), (2, 0, 0), (0, 23, x0), (1, 0, x1)]) rfl ?_)
  refine r_sub [2, 3, 1, 0] rfl (f_X4_allDebtBy_L4_ok h0 hC hq (fun q6 => ?_) KF 0 0)
  · refine r_iload_n 25 hC 0 rfl rfl dX4_allDebtBy_25 ?_
    exact r_ireturnP 26 hC hq (by decide) (by decide) dX4_allDebtBy_26

/-! WaterTurns$Life.isSo(LWaterTurns$World;I)Z -/
theorem dX2_isSo_0 : decode cX2_isSo 0 = .ok (.aload_n 0, 1) := by decide +kernel
theorem dX2_isSo_1 : decode cX2_isSo 1 = .ok (.getfield 35, 3) := by decide +kernel
theorem dX2_isSo_4 : decode cX2_isSo 4 = .ok (.astore_n 2, 1) := by decide +kernel
theorem dX2_isSo_5 : decode cX2_isSo 5 = .ok (.aload_n 2, 1) := by decide +kernel
theorem dX2_isSo_6 : decode cX2_isSo 6 = .ok (.getfield 81, 3) := by decide +kernel
theorem dX2_isSo_9 : decode cX2_isSo 9 = .ok (.iload_n 1, 1) := by decide +kernel
theorem dX2_isSo_10 : decode cX2_isSo 10 = .ok (.iaload, 1) := by decide +kernel
theorem dX2_isSo_11 : decode cX2_isSo 11 = .ok (.istore_n 3, 1) := by decide +kernel
theorem dX2_isSo_12 : decode cX2_isSo 12 = .ok (.aload_n 2, 1) := by decide +kernel
theorem dX2_isSo_13 : decode cX2_isSo 13 = .ok (.getfield 84, 3) := by decide +kernel
theorem dX2_isSo_16 : decode cX2_isSo 16 = .ok (.iload_n 1, 1) := by decide +kernel
theorem dX2_isSo_17 : decode cX2_isSo 17 = .ok (.iaload, 1) := by decide +kernel
theorem dX2_isSo_18 : decode cX2_isSo 18 = .ok (.bipush 8, 2) := by decide +kernel
theorem dX2_isSo_20 : decode cX2_isSo 20 = .ok (.if_icmp .ne 12, 3) := by decide +kernel
theorem dX2_isSo_23 : decode cX2_isSo 23 = .ok (.aload_n 0, 1) := by decide +kernel
theorem dX2_isSo_24 : decode cX2_isSo 24 = .ok (.getfield 41, 3) := by decide +kernel
theorem dX2_isSo_27 : decode cX2_isSo 27 = .ok (.iload_n 3, 1) := by decide +kernel
theorem dX2_isSo_28 : decode cX2_isSo 28 = .ok (.invokevirtual 87, 3) := by decide +kernel
theorem dX2_isSo_31 : decode cX2_isSo 31 = .ok (.ireturn, 1) := by decide +kernel
theorem dX2_isSo_32 : decode cX2_isSo 32 = .ok (.aload_n 2, 1) := by decide +kernel
theorem dX2_isSo_33 : decode cX2_isSo 33 = .ok (.getfield 84, 3) := by decide +kernel
theorem dX2_isSo_36 : decode cX2_isSo 36 = .ok (.iload_n 1, 1) := by decide +kernel
theorem dX2_isSo_37 : decode cX2_isSo 37 = .ok (.iaload, 1) := by decide +kernel
theorem dX2_isSo_38 : decode cX2_isSo 38 = .ok (.bipush 25, 2) := by decide +kernel
theorem dX2_isSo_40 : decode cX2_isSo 40 = .ok (.if_icmp .ne 7, 3) := by decide +kernel
theorem dX2_isSo_43 : decode cX2_isSo 43 = .ok (.iconst 1, 1) := by decide +kernel
theorem dX2_isSo_44 : decode cX2_isSo 44 = .ok (.goto 4, 3) := by decide +kernel
theorem dX2_isSo_47 : decode cX2_isSo 47 = .ok (.iconst 0, 1) := by decide +kernel
theorem dX2_isSo_48 : decode cX2_isSo 48 = .ok (.istore 4, 2) := by decide +kernel
theorem dX2_isSo_50 : decode cX2_isSo 50 = .ok (.iload 4, 2) := by decide +kernel
theorem dX2_isSo_52 : decode cX2_isSo 52 = .ok (.ifCond .eq 15, 3) := by decide +kernel
theorem dX2_isSo_55 : decode cX2_isSo 55 = .ok (.aload_n 0, 1) := by decide +kernel
theorem dX2_isSo_56 : decode cX2_isSo 56 = .ok (.getfield 41, 3) := by decide +kernel
theorem dX2_isSo_59 : decode cX2_isSo 59 = .ok (.iload_n 3, 1) := by decide +kernel
theorem dX2_isSo_60 : decode cX2_isSo 60 = .ok (.invokevirtual 91, 3) := by decide +kernel
theorem dX2_isSo_63 : decode cX2_isSo 63 = .ok (.i2l, 1) := by decide +kernel
theorem dX2_isSo_64 : decode cX2_isSo 64 = .ok (.goto 12, 3) := by decide +kernel
theorem dX2_isSo_67 : decode cX2_isSo 67 = .ok (.aload_n 0, 1) := by decide +kernel
theorem dX2_isSo_68 : decode cX2_isSo 68 = .ok (.getfield 41, 3) := by decide +kernel
theorem dX2_isSo_71 : decode cX2_isSo 71 = .ok (.getfield 95, 3) := by decide +kernel
theorem dX2_isSo_74 : decode cX2_isSo 74 = .ok (.iload_n 3, 1) := by decide +kernel
theorem dX2_isSo_75 : decode cX2_isSo 75 = .ok (.laload, 1) := by decide +kernel
theorem dX2_isSo_76 : decode cX2_isSo 76 = .ok (.lstore 5, 2) := by decide +kernel
theorem dX2_isSo_78 : decode cX2_isSo 78 = .ok (.aload_n 2, 1) := by decide +kernel
theorem dX2_isSo_79 : decode cX2_isSo 79 = .ok (.getfield 78, 3) := by decide +kernel
theorem dX2_isSo_82 : decode cX2_isSo 82 = .ok (.iload_n 1, 1) := by decide +kernel
theorem dX2_isSo_83 : decode cX2_isSo 83 = .ok (.iaload, 1) := by decide +kernel
theorem dX2_isSo_84 : decode cX2_isSo 84 = .ok (.i2l, 1) := by decide +kernel
theorem dX2_isSo_85 : decode cX2_isSo 85 = .ok (.lstore 7, 2) := by decide +kernel
theorem dX2_isSo_87 : decode cX2_isSo 87 = .ok (.aload_n 2, 1) := by decide +kernel
theorem dX2_isSo_88 : decode cX2_isSo 88 = .ok (.getfield 99, 3) := by decide +kernel
theorem dX2_isSo_91 : decode cX2_isSo 91 = .ok (.iload_n 1, 1) := by decide +kernel
theorem dX2_isSo_92 : decode cX2_isSo 92 = .ok (.iaload, 1) := by decide +kernel
theorem dX2_isSo_93 : decode cX2_isSo 93 = .ok (.bipush 60, 2) := by decide +kernel
theorem dX2_isSo_95 : decode cX2_isSo 95 = .ok (.if_icmp .ne 19, 3) := by decide +kernel
theorem dX2_isSo_98 : decode cX2_isSo 98 = .ok (.lload 5, 2) := by decide +kernel
theorem dX2_isSo_100 : decode cX2_isSo 100 = .ok (.lload 7, 2) := by decide +kernel
theorem dX2_isSo_102 : decode cX2_isSo 102 = .ok (.lcmp, 1) := by decide +kernel
theorem dX2_isSo_103 : decode cX2_isSo 103 = .ok (.ifCond .ge 7, 3) := by decide +kernel
theorem dX2_isSo_106 : decode cX2_isSo 106 = .ok (.iconst 1, 1) := by decide +kernel
theorem dX2_isSo_107 : decode cX2_isSo 107 = .ok (.goto 47, 3) := by decide +kernel
theorem dX2_isSo_110 : decode cX2_isSo 110 = .ok (.iconst 0, 1) := by decide +kernel
theorem dX2_isSo_111 : decode cX2_isSo 111 = .ok (.goto 43, 3) := by decide +kernel
theorem dX2_isSo_114 : decode cX2_isSo 114 = .ok (.aload_n 2, 1) := by decide +kernel
theorem dX2_isSo_115 : decode cX2_isSo 115 = .ok (.getfield 99, 3) := by decide +kernel
theorem dX2_isSo_118 : decode cX2_isSo 118 = .ok (.iload_n 1, 1) := by decide +kernel
theorem dX2_isSo_119 : decode cX2_isSo 119 = .ok (.iaload, 1) := by decide +kernel
theorem dX2_isSo_120 : decode cX2_isSo 120 = .ok (.bipush 62, 2) := by decide +kernel
theorem dX2_isSo_122 : decode cX2_isSo 122 = .ok (.if_icmp .ne 19, 3) := by decide +kernel
theorem dX2_isSo_125 : decode cX2_isSo 125 = .ok (.lload 5, 2) := by decide +kernel
theorem dX2_isSo_127 : decode cX2_isSo 127 = .ok (.lload 7, 2) := by decide +kernel
theorem dX2_isSo_129 : decode cX2_isSo 129 = .ok (.lcmp, 1) := by decide +kernel
theorem dX2_isSo_130 : decode cX2_isSo 130 = .ok (.ifCond .le 7, 3) := by decide +kernel
theorem dX2_isSo_133 : decode cX2_isSo 133 = .ok (.iconst 1, 1) := by decide +kernel
theorem dX2_isSo_134 : decode cX2_isSo 134 = .ok (.goto 20, 3) := by decide +kernel
theorem dX2_isSo_137 : decode cX2_isSo 137 = .ok (.iconst 0, 1) := by decide +kernel
theorem dX2_isSo_138 : decode cX2_isSo 138 = .ok (.goto 16, 3) := by decide +kernel
theorem dX2_isSo_141 : decode cX2_isSo 141 = .ok (.lload 5, 2) := by decide +kernel
theorem dX2_isSo_143 : decode cX2_isSo 143 = .ok (.lload 7, 2) := by decide +kernel
theorem dX2_isSo_145 : decode cX2_isSo 145 = .ok (.lcmp, 1) := by decide +kernel
theorem dX2_isSo_146 : decode cX2_isSo 146 = .ok (.ifCond .ne 7, 3) := by decide +kernel
theorem dX2_isSo_149 : decode cX2_isSo 149 = .ok (.iconst 1, 1) := by decide +kernel
theorem dX2_isSo_150 : decode cX2_isSo 150 = .ok (.goto 4, 3) := by decide +kernel
theorem dX2_isSo_153 : decode cX2_isSo 153 = .ok (.iconst 0, 1) := by decide +kernel
theorem dX2_isSo_154 : decode cX2_isSo 154 = .ok (.ireturn, 1) := by decide +kernel
set_option maxRecDepth 100000 in
theorem t_X2_isSo (x0 x1 : Int) (M : Mem) : MtP yX2_isSo cX2_isSo 9 (some .boolean) 3 0 0 [(28, x0), (0, x1)] M 0 (f_X2_isSo x0 x1 M) := by
  refine mk_P (by decide +kernel) (Nat.le_of_ble_eq_true rfl) (fun E C r0 hC hq hin => ?_)
  refine r_eqls (ls' := [(0, 28, x0), (1, 0, x1)]) rfl ?_
  unfold f_X2_isSo
  refine r_aload_n 0 hC 0 rfl (Or.inl (by decide)) rfl dX2_isSo_0 ?_
  refine r_get 1 hC fd_8_1 fl_X2_35 dX2_isSo_1 (fun v1 => ?_)
  refine r_astore_n 4 hC rfl (Or.inl (by decide)) (by decide) dX2_isSo_4 (r_eqls (ls' := [(2, 20, v1), (0, 28, x0), (1, 0, x1)]) rfl ?_)
  refine r_aload_n 5 hC 0 rfl (Or.inl (by decide)) rfl dX2_isSo_5 ?_
  refine r_get 6 hC fd_0_5 fl_X2_81 dX2_isSo_6 (fun v2 => ?_)
  refine r_iload_n 9 hC 2 rfl rfl dX2_isSo_9 ?_
  refine r_iaload 10 hC dX2_isSo_10 (fun v3 => ?_)
  refine r_istore_n 11 hC rfl (by decide) dX2_isSo_11 (r_eqls (ls' := [(3, 0, v3), (2, 20, v1), (0, 28, x0), (1, 0, x1)]) rfl ?_)
  refine r_aload_n 12 hC 1 rfl (Or.inl (by decide)) rfl dX2_isSo_12 ?_
  refine r_get 13 hC fd_0_4 fl_X2_84 dX2_isSo_13 (fun v4 => ?_)
  refine r_iload_n 16 hC 3 rfl rfl dX2_isSo_16 ?_
  refine r_iaload 17 hC dX2_isSo_17 (fun v5 => ?_)
  refine r_bipush 18 hC kb_8 dX2_isSo_18 ?_
  refine r_icmp_ne 20 hC (tgt := 32) (by decide) dX2_isSo_20 ?_ ?_
  · refine r_aload_n 32 hC 1 rfl (Or.inl (by decide)) rfl dX2_isSo_32 ?_
    refine r_get 33 hC fd_0_4 fl_X2_84 dX2_isSo_33 (fun v6 => ?_)
    refine r_iload_n 36 hC 3 rfl rfl dX2_isSo_36 ?_
    refine r_iaload 37 hC dX2_isSo_37 (fun v7 => ?_)
    refine r_bipush 38 hC kb_25 dX2_isSo_38 ?_
    refine r_jn (P := fun j48 => ∀ (q8 : Int), Bk E C 9 M r0 48 [(0, 28, x0), (1, 0, x1), (2, 20, v1), (3, 0, v3)] [(0, q8)] M 0 0 (j48 q8)) ?_ (fun j48 hj48 => ?_)
    · intro q8
      refine r_istore 48 hC (by decide) dX2_isSo_48 (r_eqls (ls' := [(4, 0, q8), (0, 28, x0), (1, 0, x1), (2, 20, v1), (3, 0, v3)]) rfl ?_)
      refine r_iload 50 hC 0 rfl dX2_isSo_50 ?_
      refine r_jn (P := fun j76 => ∀ (q9 : Int), Bk E C 9 M r0 76 [(1, 0, x1), (2, 20, v1)] [(1, q9)] M 0 0 (j76 q9)) ?_ (fun j76 hj76 => ?_)
      · intro q9
        refine r_lstore 76 hC (by decide) dX2_isSo_76 (r_eqls (ls' := [(5, 1, q9), (1, 0, x1), (2, 20, v1)]) rfl ?_)
        refine r_aload_n 78 hC 2 rfl (Or.inl (by decide)) rfl dX2_isSo_78 ?_
        refine r_get 79 hC fd_0_8 fl_X2_78 dX2_isSo_79 (fun v10 => ?_)
        refine r_iload_n 82 hC 1 rfl rfl dX2_isSo_82 ?_
        refine r_iaload 83 hC dX2_isSo_83 (fun v11 => ?_)
        refine r_i2l 84 hC dX2_isSo_84 ?_
        refine r_lstore 85 hC (by decide) dX2_isSo_85 (r_eqls (ls' := [(7, 1, v11), (5, 1, q9), (1, 0, x1), (2, 20, v1)]) rfl ?_)
        refine r_aload_n 87 hC 3 rfl (Or.inl (by decide)) rfl dX2_isSo_87 ?_
        refine r_get 88 hC fd_0_7 fl_X2_99 dX2_isSo_88 (fun v12 => ?_)
        refine r_iload_n 91 hC 2 rfl rfl dX2_isSo_91 ?_
        refine r_iaload 92 hC dX2_isSo_92 (fun v13 => ?_)
        refine r_bipush 93 hC kb_60 dX2_isSo_93 ?_
        refine r_jn (P := fun j154 => ∀ (q14 : Int), Bk E C 9 M r0 154 [] [(0, q14)] M 0 0 (j154 q14)) ?_ (fun j154 hj154 => ?_)
        · intro q14
          exact r_zreturnP 154 hC hq (by decide) (by decide) dX2_isSo_154
        refine r_icmp_ne 95 hC (tgt := 114) (by decide) dX2_isSo_95 ?_ ?_
        · refine r_aload_n 114 hC 3 rfl (Or.inl (by decide)) rfl dX2_isSo_114 ?_
          refine r_get 115 hC fd_0_7 fl_X2_99 dX2_isSo_115 (fun v15 => ?_)
          refine r_iload_n 118 hC 2 rfl rfl dX2_isSo_118 ?_
          refine r_iaload 119 hC dX2_isSo_119 (fun v16 => ?_)
          refine r_bipush 120 hC kb_62 dX2_isSo_120 ?_
          refine r_icmp_ne 122 hC (tgt := 141) (by decide) dX2_isSo_122 ?_ ?_
          · refine r_lload 141 hC 1 rfl dX2_isSo_141 ?_
            refine r_lload 143 hC 0 rfl dX2_isSo_143 ?_
            refine r_lcmp_ne 145 hC (tgt := 153) (by decide) dX2_isSo_145 dX2_isSo_146 ?_ ?_
            · refine r_iconst 153 hC (r32c rfl) dX2_isSo_153 ?_
              exact r_sub [] rfl (hj154 0)
            · refine r_iconst 149 hC (r32c rfl) dX2_isSo_149 ?_
              refine r_goto 150 hC (tgt := 154) (by decide) dX2_isSo_150 ?_
              exact r_sub [] rfl (hj154 1)
          · refine r_lload 125 hC 1 rfl dX2_isSo_125 ?_
            refine r_lload 127 hC 0 rfl dX2_isSo_127 ?_
            refine r_lcmp_le 129 hC (tgt := 137) (by decide) dX2_isSo_129 dX2_isSo_130 ?_ ?_
            · refine r_iconst 137 hC (r32c rfl) dX2_isSo_137 ?_
              refine r_goto 138 hC (tgt := 154) (by decide) dX2_isSo_138 ?_
              exact r_sub [] rfl (hj154 0)
            · refine r_iconst 133 hC (r32c rfl) dX2_isSo_133 ?_
              refine r_goto 134 hC (tgt := 154) (by decide) dX2_isSo_134 ?_
              exact r_sub [] rfl (hj154 1)
        · refine r_lload 98 hC 1 rfl dX2_isSo_98 ?_
          refine r_lload 100 hC 0 rfl dX2_isSo_100 ?_
          refine r_lcmp_ge 102 hC (tgt := 110) (by decide) dX2_isSo_102 dX2_isSo_103 ?_ ?_
          · refine r_iconst 110 hC (r32c rfl) dX2_isSo_110 ?_
            refine r_goto 111 hC (tgt := 154) (by decide) dX2_isSo_111 ?_
            exact r_sub [] rfl (hj154 0)
          · refine r_iconst 106 hC (r32c rfl) dX2_isSo_106 ?_
            refine r_goto 107 hC (tgt := 154) (by decide) dX2_isSo_107 ?_
            exact r_sub [] rfl (hj154 1)
      refine r_if_eq 52 hC (tgt := 67) (by decide) dX2_isSo_52 ?_ ?_
      · refine r_aload_n 67 hC 1 rfl (Or.inl (by decide)) rfl dX2_isSo_67 ?_
        refine r_get 68 hC fd_8_2 fl_X2_41 dX2_isSo_68 (fun v17 => ?_)
        refine r_get 71 hC fd_3_9 fl_X2_95 dX2_isSo_71 (fun v18 => ?_)
        refine r_iload_n 74 hC 4 rfl rfl dX2_isSo_74 ?_
        refine r_laload 75 hC dX2_isSo_75 (fun v19 => ?_)
        exact r_sub [2, 3] rfl (hj76 v19)
      · refine r_aload_n 55 hC 1 rfl (Or.inl (by decide)) rfl dX2_isSo_55 ?_
        refine r_get 56 hC fd_8_2 fl_X2_41 dX2_isSo_56 (fun v20 => ?_)
        refine r_iload_n 59 hC 4 rfl rfl dX2_isSo_59 ?_
        refine r_nn (fun hn21 => ?_)
        refine r_callVP 60 hC [(0, v3)] [] rfl vl_X2_91 rfl hn21 (by decide) (Nat.le_of_ble_eq_true rfl) (by decide) (by decide) dX2_isSo_60 (t_X4_allDebtBy v20 v3 M hn21) (fun v22 => ?_)
        refine r_i2l 63 hC dX2_isSo_63 ?_
        refine r_goto 64 hC (tgt := 76) (by decide) dX2_isSo_64 ?_
        exact r_sub [2, 3] rfl (hj76 v22)
    refine r_icmp_ne 40 hC (tgt := 47) (by decide) dX2_isSo_40 ?_ ?_
    · refine r_iconst 47 hC (r32c rfl) dX2_isSo_47 ?_
      exact r_sub [2, 3, 1, 0] rfl (hj48 0)
    · refine r_iconst 43 hC (r32c rfl) dX2_isSo_43 ?_
      refine r_goto 44 hC (tgt := 48) (by decide) dX2_isSo_44 ?_
      exact r_sub [2, 3, 1, 0] rfl (hj48 1)
  · refine r_aload_n 23 hC 2 rfl (Or.inl (by decide)) rfl dX2_isSo_23 ?_
    refine r_get 24 hC fd_8_2 fl_X2_41 dX2_isSo_24 (fun v23 => ?_)
    refine r_iload_n 27 hC 0 rfl rfl dX2_isSo_27 ?_
    refine r_nn (fun hn24 => ?_)
    refine r_callVP 28 hC [(0, v3)] [] rfl vl_X2_87 rfl hn24 (by decide) (Nat.le_of_ble_eq_true rfl) (by decide) (by decide) dX2_isSo_28 (t_X4_isClosed v23 v3 M hn24) (fun v25 => ?_)
    exact r_zreturnP 31 hC hq (by decide) (by decide) dX2_isSo_31

/-! WaterTurns$Life.behindStep(LWaterTurns$World;I)I -/
theorem dX2_behindStep_0 : decode cX2_behindStep 0 = .ok (.aload_n 1, 1) := by decide +kernel
theorem dX2_behindStep_1 : decode cX2_behindStep 1 = .ok (.getfield 35, 3) := by decide +kernel
theorem dX2_behindStep_4 : decode cX2_behindStep 4 = .ok (.astore_n 3, 1) := by decide +kernel
theorem dX2_behindStep_5 : decode cX2_behindStep 5 = .ok (.aload_n 3, 1) := by decide +kernel
theorem dX2_behindStep_6 : decode cX2_behindStep 6 = .ok (.getfield 56, 3) := by decide +kernel
theorem dX2_behindStep_9 : decode cX2_behindStep 9 = .ok (.iload_n 2, 1) := by decide +kernel
theorem dX2_behindStep_10 : decode cX2_behindStep 10 = .ok (.iaload, 1) := by decide +kernel
theorem dX2_behindStep_11 : decode cX2_behindStep 11 = .ok (.lookupswitch 77 #[(23, 38), (27, 61), (29, 33)], 33) := by decide +kernel
theorem dX2_behindStep_44 : decode cX2_behindStep 44 = .ok (.aload_n 3, 1) := by decide +kernel
theorem dX2_behindStep_45 : decode cX2_behindStep 45 = .ok (.getfield 51, 3) := by decide +kernel
theorem dX2_behindStep_48 : decode cX2_behindStep 48 = .ok (.ireturn, 1) := by decide +kernel
theorem dX2_behindStep_49 : decode cX2_behindStep 49 = .ok (.aload_n 1, 1) := by decide +kernel
theorem dX2_behindStep_50 : decode cX2_behindStep 50 = .ok (.iload_n 2, 1) := by decide +kernel
theorem dX2_behindStep_51 : decode cX2_behindStep 51 = .ok (.invokestatic 74, 3) := by decide +kernel
theorem dX2_behindStep_54 : decode cX2_behindStep 54 = .ok (.ifCond .eq 9, 3) := by decide +kernel
theorem dX2_behindStep_57 : decode cX2_behindStep 57 = .ok (.iload_n 2, 1) := by decide +kernel
theorem dX2_behindStep_58 : decode cX2_behindStep 58 = .ok (.iconst 1, 1) := by decide +kernel
theorem dX2_behindStep_59 : decode cX2_behindStep 59 = .ok (.iadd, 1) := by decide +kernel
theorem dX2_behindStep_60 : decode cX2_behindStep 60 = .ok (.goto 11, 3) := by decide +kernel
theorem dX2_behindStep_63 : decode cX2_behindStep 63 = .ok (.aload_n 3, 1) := by decide +kernel
theorem dX2_behindStep_64 : decode cX2_behindStep 64 = .ok (.getfield 71, 3) := by decide +kernel
theorem dX2_behindStep_67 : decode cX2_behindStep 67 = .ok (.iload_n 2, 1) := by decide +kernel
theorem dX2_behindStep_68 : decode cX2_behindStep 68 = .ok (.iaload, 1) := by decide +kernel
theorem dX2_behindStep_69 : decode cX2_behindStep 69 = .ok (.iconst 1, 1) := by decide +kernel
theorem dX2_behindStep_70 : decode cX2_behindStep 70 = .ok (.iadd, 1) := by decide +kernel
theorem dX2_behindStep_71 : decode cX2_behindStep 71 = .ok (.ireturn, 1) := by decide +kernel
theorem dX2_behindStep_72 : decode cX2_behindStep 72 = .ok (.aload_n 0, 1) := by decide +kernel
theorem dX2_behindStep_73 : decode cX2_behindStep 73 = .ok (.getfield 31, 3) := by decide +kernel
theorem dX2_behindStep_76 : decode cX2_behindStep 76 = .ok (.iload_n 2, 1) := by decide +kernel
theorem dX2_behindStep_77 : decode cX2_behindStep 77 = .ok (.aload_n 3, 1) := by decide +kernel
theorem dX2_behindStep_78 : decode cX2_behindStep 78 = .ok (.getfield 78, 3) := by decide +kernel
theorem dX2_behindStep_81 : decode cX2_behindStep 81 = .ok (.iload_n 2, 1) := by decide +kernel
theorem dX2_behindStep_82 : decode cX2_behindStep 82 = .ok (.iaload, 1) := by decide +kernel
theorem dX2_behindStep_83 : decode cX2_behindStep 83 = .ok (.iastore, 1) := by decide +kernel
theorem dX2_behindStep_84 : decode cX2_behindStep 84 = .ok (.iload_n 2, 1) := by decide +kernel
theorem dX2_behindStep_85 : decode cX2_behindStep 85 = .ok (.iconst 1, 1) := by decide +kernel
theorem dX2_behindStep_86 : decode cX2_behindStep 86 = .ok (.iadd, 1) := by decide +kernel
theorem dX2_behindStep_87 : decode cX2_behindStep 87 = .ok (.ireturn, 1) := by decide +kernel
theorem dX2_behindStep_88 : decode cX2_behindStep 88 = .ok (.iload_n 2, 1) := by decide +kernel
theorem dX2_behindStep_89 : decode cX2_behindStep 89 = .ok (.iconst 1, 1) := by decide +kernel
theorem dX2_behindStep_90 : decode cX2_behindStep 90 = .ok (.iadd, 1) := by decide +kernel
theorem dX2_behindStep_91 : decode cX2_behindStep 91 = .ok (.ireturn, 1) := by decide +kernel
set_option maxRecDepth 100000 in
theorem t_X2_behindStep (x0 x1 x2 : Int) (M : Mem) (h0 : x0 ≠ 0) : MtI yX2_behindStep cX2_behindStep 4 (some .int) 4 0 0 [(21, x0), (28, x1), (0, x2)] M 0 (f_X2_behindStep x0 x1 x2 M) := by
  refine mk_I (by decide +kernel) (Nat.le_of_ble_eq_true rfl) (fun E C r0 M0 hC hq hin => ?_)
  refine r_eqls (ls' := [(0, 21, x0), (1, 28, x1), (2, 0, x2)]) rfl ?_
  unfold f_X2_behindStep
  refine r_aload_n 0 hC 1 rfl (Or.inl (by decide)) rfl dX2_behindStep_0 ?_
  refine r_get 1 hC fd_8_1 fl_X2_35 dX2_behindStep_1 (fun v1 => ?_)
  refine r_astore_n 4 hC rfl (Or.inl (by decide)) (by decide) dX2_behindStep_4 (r_eqls (ls' := [(3, 20, v1), (0, 21, x0), (1, 28, x1), (2, 0, x2)]) rfl ?_)
  refine r_aload_n 5 hC 0 rfl (Or.inl (by decide)) rfl dX2_behindStep_5 ?_
  refine r_get 6 hC fd_0_3 fl_X2_56 dX2_behindStep_6 (fun v2 => ?_)
  refine r_iload_n 9 hC 3 rfl rfl dX2_behindStep_9 ?_
  refine r_iaload 10 hC dX2_behindStep_10 (fun v3 => ?_)
  refine r_lk_case 11 (tgt := 49) (off := 38) hC dX2_behindStep_11 (by decide) (r32c rfl) (by decide) (by decide) ?_ (fun hs23 => ?_)
  · refine r_aload_n 49 hC 2 rfl (Or.inl (by decide)) rfl dX2_behindStep_49 ?_
    refine r_iload_n 50 hC 3 rfl rfl dX2_behindStep_50 ?_
    refine r_callSP 51 hC [(28, x1), (0, x2)] [] rfl sl_X2_74 rfl (by decide) (Nat.le_of_ble_eq_true rfl) (by decide) (by decide) dX2_behindStep_51 (t_X2_isSo x1 x2 M) (fun v4 => ?_)
    refine r_jn (P := fun j71 => ∀ (q5 : Int), Bk E C 4 M (r0, M0) 71 [] [(0, q5)] M 0 0 (j71 q5)) ?_ (fun j71 hj71 => ?_)
    · intro q5
      exact r_ireturn 71 hC hq (by decide) (by decide) dX2_behindStep_71
    refine r_if_eq 54 hC (tgt := 63) (by decide) dX2_behindStep_54 ?_ ?_
    · refine r_aload_n 63 hC 0 rfl (Or.inl (by decide)) rfl dX2_behindStep_63 ?_
      refine r_get 64 hC fd_0_9 fl_X2_71 dX2_behindStep_64 (fun v6 => ?_)
      refine r_iload_n 67 hC 3 rfl rfl dX2_behindStep_67 ?_
      refine r_iaload 68 hC dX2_behindStep_68 (fun v7 => ?_)
      refine r_iconst 69 hC (r32c rfl) dX2_behindStep_69 ?_
      refine r_iadd 70 hC dX2_behindStep_70 ?_
      exact r_sub [] rfl (hj71 (w32 (v7 + 1)))
    · refine r_iload_n 57 hC 3 rfl rfl dX2_behindStep_57 ?_
      refine r_iconst 58 hC (r32c rfl) dX2_behindStep_58 ?_
      refine r_iadd 59 hC dX2_behindStep_59 ?_
      refine r_goto 60 hC (tgt := 71) (by decide) dX2_behindStep_60 ?_
      exact r_sub [] rfl (hj71 (w32 (x2 + 1)))
  refine r_lk_case 11 (tgt := 72) (off := 61) hC dX2_behindStep_11 (by decide) (r32c rfl) (by decide) (by decide) ?_ (fun hs27 => ?_)
  · refine r_aload_n 72 hC 1 rfl (Or.inl (by decide)) rfl dX2_behindStep_72 ?_
    refine r_get 73 hC fd_1_6 fl_X2_31 dX2_behindStep_73 (fun v8 => ?_)
    refine r_iload_n 76 hC 3 rfl rfl dX2_behindStep_76 ?_
    refine r_aload_n 77 hC 0 rfl (Or.inl (by decide)) rfl dX2_behindStep_77 ?_
    refine r_get 78 hC fd_0_8 fl_X2_78 dX2_behindStep_78 (fun v9 => ?_)
    refine r_iload_n 81 hC 3 rfl rfl dX2_behindStep_81 ?_
    refine r_iaload 82 hC dX2_behindStep_82 (fun v10 => ?_)
    refine r_iastore 83 hC dX2_behindStep_83 (fun M11 => ?_)
    refine r_iload_n 84 hC 3 rfl rfl dX2_behindStep_84 ?_
    refine r_iconst 85 hC (r32c rfl) dX2_behindStep_85 ?_
    refine r_iadd 86 hC dX2_behindStep_86 ?_
    exact r_ireturn 87 hC hq (by decide) (by decide) dX2_behindStep_87
  refine r_lk_case 11 (tgt := 44) (off := 33) hC dX2_behindStep_11 (by decide) (r32c rfl) (by decide) (by decide) ?_ (fun hs29 => ?_)
  · refine r_aload_n 44 hC 0 rfl (Or.inl (by decide)) rfl dX2_behindStep_44 ?_
    refine r_get 45 hC fd_0_2 fl_X2_51 dX2_behindStep_45 (fun v12 => ?_)
    exact r_ireturn 48 hC hq (by decide) (by decide) dX2_behindStep_48
  refine r_lk_dflt 11 (tgt := 88) hC dX2_behindStep_11 (by decide) (by simp [Op.lookupswitch.offset_cons, Ne.symm hs23, hs23, Ne.symm hs27, hs27, Ne.symm hs29, hs29]; rfl) (by decide) ?_
  refine r_iload_n 88 hC 3 rfl rfl dX2_behindStep_88 ?_
  refine r_iconst 89 hC (r32c rfl) dX2_behindStep_89 ?_
  refine r_iadd 90 hC dX2_behindStep_90 ?_
  exact r_ireturn 91 hC hq (by decide) (by decide) dX2_behindStep_91

/-! WaterTurns$Life.run(LWaterTurns$World;LWaterTurns$Sweep;I)V -/
theorem dX2_run_0 : decode cX2_run 0 = .ok (.aload_n 0, 1) := by decide +kernel
theorem dX2_run_1 : decode cX2_run 1 = .ok (.iconst 0, 1) := by decide +kernel
theorem dX2_run_2 : decode cX2_run 2 = .ok (.putfield 9, 3) := by decide +kernel
theorem dX2_run_5 : decode cX2_run 5 = .ok (.aload_n 0, 1) := by decide +kernel
theorem dX2_run_6 : decode cX2_run 6 = .ok (.iconst 0, 1) := by decide +kernel
theorem dX2_run_7 : decode cX2_run 7 = .ok (.putfield 18, 3) := by decide +kernel
theorem dX2_run_10 : decode cX2_run 10 = .ok (.aload_n 0, 1) := by decide +kernel
theorem dX2_run_11 : decode cX2_run 11 = .ok (.iconst 0, 1) := by decide +kernel
theorem dX2_run_12 : decode cX2_run 12 = .ok (.putfield 21, 3) := by decide +kernel
theorem dX2_run_15 : decode cX2_run 15 = .ok (.aload_n 0, 1) := by decide +kernel
theorem dX2_run_16 : decode cX2_run 16 = .ok (.iconst 0, 1) := by decide +kernel
theorem dX2_run_17 : decode cX2_run 17 = .ok (.putfield 24, 3) := by decide +kernel
theorem dX2_run_20 : decode cX2_run 20 = .ok (.aload_n 0, 1) := by decide +kernel
theorem dX2_run_21 : decode cX2_run 21 = .ok (.iload_n 3, 1) := by decide +kernel
theorem dX2_run_22 : decode cX2_run 22 = .ok (.putfield 28, 3) := by decide +kernel
theorem dX2_run_25 : decode cX2_run 25 = .ok (.aload_n 1, 1) := by decide +kernel
theorem dX2_run_26 : decode cX2_run 26 = .ok (.getfield 35, 3) := by decide +kernel
theorem dX2_run_29 : decode cX2_run 29 = .ok (.astore 4, 2) := by decide +kernel
theorem dX2_run_31 : decode cX2_run 31 = .ok (.aload_n 1, 1) := by decide +kernel
theorem dX2_run_32 : decode cX2_run 32 = .ok (.getfield 41, 3) := by decide +kernel
theorem dX2_run_35 : decode cX2_run 35 = .ok (.getfield 45, 3) := by decide +kernel
theorem dX2_run_38 : decode cX2_run 38 = .ok (.istore 5, 2) := by decide +kernel
theorem dX2_run_40 : decode cX2_run 40 = .ok (.iconst 0, 1) := by decide +kernel
theorem dX2_run_41 : decode cX2_run 41 = .ok (.istore 6, 2) := by decide +kernel
theorem dX2_run_43 : decode cX2_run 43 = .ok (.iconst 0, 1) := by decide +kernel
theorem dX2_run_44 : decode cX2_run 44 = .ok (.istore 7, 2) := by decide +kernel
theorem dX2_run_46 : decode cX2_run 46 = .ok (.iload 7, 2) := by decide +kernel
theorem dX2_run_48 : decode cX2_run 48 = .ok (.ldc 50, 2) := by decide +kernel
theorem dX2_run_50 : decode cX2_run 50 = .ok (.if_icmp .ge 114, 3) := by decide +kernel
theorem dX2_run_53 : decode cX2_run 53 = .ok (.iload 6, 2) := by decide +kernel
theorem dX2_run_55 : decode cX2_run 55 = .ok (.aload 4, 2) := by decide +kernel
theorem dX2_run_57 : decode cX2_run 57 = .ok (.getfield 51, 3) := by decide +kernel
theorem dX2_run_60 : decode cX2_run 60 = .ok (.if_icmp .ge 104, 3) := by decide +kernel
theorem dX2_run_63 : decode cX2_run 63 = .ok (.aload_n 0, 1) := by decide +kernel
theorem dX2_run_64 : decode cX2_run 64 = .ok (.getfield 24, 3) := by decide +kernel
theorem dX2_run_67 : decode cX2_run 67 = .ok (.ifCond .ne 97, 3) := by decide +kernel
theorem dX2_run_70 : decode cX2_run 70 = .ok (.aload 4, 2) := by decide +kernel
theorem dX2_run_72 : decode cX2_run 72 = .ok (.getfield 56, 3) := by decide +kernel
theorem dX2_run_75 : decode cX2_run 75 = .ok (.iload 6, 2) := by decide +kernel
theorem dX2_run_77 : decode cX2_run 77 = .ok (.iaload, 1) := by decide +kernel
theorem dX2_run_78 : decode cX2_run 78 = .ok (.bipush 28, 2) := by decide +kernel
theorem dX2_run_80 : decode cX2_run 80 = .ok (.if_icmp .ne 16, 3) := by decide +kernel
theorem dX2_run_83 : decode cX2_run 83 = .ok (.aload_n 0, 1) := by decide +kernel
theorem dX2_run_84 : decode cX2_run 84 = .ok (.aload 4, 2) := by decide +kernel
theorem dX2_run_86 : decode cX2_run 86 = .ok (.iload 6, 2) := by decide +kernel
theorem dX2_run_88 : decode cX2_run 88 = .ok (.invokevirtual 59, 3) := by decide +kernel
theorem dX2_run_91 : decode cX2_run 91 = .ok (.istore 6, 2) := by decide +kernel
theorem dX2_run_93 : decode cX2_run 93 = .ok (.goto 65, 3) := by decide +kernel
theorem dX2_run_96 : decode cX2_run 96 = .ok (.aload_n 0, 1) := by decide +kernel
theorem dX2_run_97 : decode cX2_run 97 = .ok (.getfield 9, 3) := by decide +kernel
theorem dX2_run_100 : decode cX2_run 100 = .ok (.sipush 300, 3) := by decide +kernel
theorem dX2_run_103 : decode cX2_run 103 = .ok (.if_icmp .lt 11, 3) := by decide +kernel
theorem dX2_run_106 : decode cX2_run 106 = .ok (.aload_n 0, 1) := by decide +kernel
theorem dX2_run_107 : decode cX2_run 107 = .ok (.iconst 1, 1) := by decide +kernel
theorem dX2_run_108 : decode cX2_run 108 = .ok (.putfield 24, 3) := by decide +kernel
theorem dX2_run_111 : decode cX2_run 111 = .ok (.goto 47, 3) := by decide +kernel
theorem dX2_run_114 : decode cX2_run 114 = .ok (.aload_n 0, 1) := by decide +kernel
theorem dX2_run_115 : decode cX2_run 115 = .ok (.dup, 1) := by decide +kernel
theorem dX2_run_116 : decode cX2_run 116 = .ok (.getfield 9, 3) := by decide +kernel
theorem dX2_run_119 : decode cX2_run 119 = .ok (.iconst 1, 1) := by decide +kernel
theorem dX2_run_120 : decode cX2_run 120 = .ok (.iadd, 1) := by decide +kernel
theorem dX2_run_121 : decode cX2_run 121 = .ok (.putfield 9, 3) := by decide +kernel
theorem dX2_run_124 : decode cX2_run 124 = .ok (.aload_n 0, 1) := by decide +kernel
theorem dX2_run_125 : decode cX2_run 125 = .ok (.dup, 1) := by decide +kernel
theorem dX2_run_126 : decode cX2_run 126 = .ok (.getfield 18, 3) := by decide +kernel
theorem dX2_run_129 : decode cX2_run 129 = .ok (.aload_n 0, 1) := by decide +kernel
theorem dX2_run_130 : decode cX2_run 130 = .ok (.aload_n 1, 1) := by decide +kernel
theorem dX2_run_131 : decode cX2_run 131 = .ok (.aload_n 2, 1) := by decide +kernel
theorem dX2_run_132 : decode cX2_run 132 = .ok (.iload 6, 2) := by decide +kernel
theorem dX2_run_134 : decode cX2_run 134 = .ok (.invokevirtual 63, 3) := by decide +kernel
theorem dX2_run_137 : decode cX2_run 137 = .ok (.ifCond .ne 7, 3) := by decide +kernel
theorem dX2_run_140 : decode cX2_run 140 = .ok (.iconst 0, 1) := by decide +kernel
theorem dX2_run_141 : decode cX2_run 141 = .ok (.goto 4, 3) := by decide +kernel
theorem dX2_run_144 : decode cX2_run 144 = .ok (.iconst 1, 1) := by decide +kernel
theorem dX2_run_145 : decode cX2_run 145 = .ok (.iadd, 1) := by decide +kernel
theorem dX2_run_146 : decode cX2_run 146 = .ok (.putfield 18, 3) := by decide +kernel
theorem dX2_run_149 : decode cX2_run 149 = .ok (.aload_n 0, 1) := by decide +kernel
theorem dX2_run_150 : decode cX2_run 150 = .ok (.aload_n 1, 1) := by decide +kernel
theorem dX2_run_151 : decode cX2_run 151 = .ok (.iload 6, 2) := by decide +kernel
theorem dX2_run_153 : decode cX2_run 153 = .ok (.invokevirtual 67, 3) := by decide +kernel
theorem dX2_run_156 : decode cX2_run 156 = .ok (.istore 6, 2) := by decide +kernel
theorem dX2_run_158 : decode cX2_run 158 = .ok (.iinc 7 1, 3) := by decide +kernel
theorem dX2_run_161 : decode cX2_run 161 = .ok (.goto (-115), 3) := by decide +kernel
theorem dX2_run_164 : decode cX2_run 164 = .ok (.aload_n 0, 1) := by decide +kernel
theorem dX2_run_165 : decode cX2_run 165 = .ok (.aload_n 1, 1) := by decide +kernel
theorem dX2_run_166 : decode cX2_run 166 = .ok (.getfield 41, 3) := by decide +kernel
theorem dX2_run_169 : decode cX2_run 169 = .ok (.getfield 45, 3) := by decide +kernel
theorem dX2_run_172 : decode cX2_run 172 = .ok (.iload 5, 2) := by decide +kernel
theorem dX2_run_174 : decode cX2_run 174 = .ok (.isub, 1) := by decide +kernel
theorem dX2_run_175 : decode cX2_run 175 = .ok (.putfield 15, 3) := by decide +kernel
theorem dX2_run_178 : decode cX2_run 178 = .ok (.return_, 1) := by decide +kernel
set_option maxRecDepth 100000 in
theorem f_X2_run_L46_ok {E : EnvT} {C : Cx} {Mi : Mem} {x0 : Int} (h0 : x0 ≠ 0) (hC : CxOK E C cX2_run 8 yX2_run.cls 7 0 0) {M0 : Mem} (hq : RQ E C 0 0 Mi none none M0) {v6 v8 x1 x2 : Int} {k : Mem → Option (Mem)} (hk : ∀ M31, Bk E C 8 Mi M0 164 [(0, 21, x0), (1, 28, x1), (5, 0, v8)] [] M31 0 0 (k M31)) : ∀ (n : Nat) (p9 : Int) (p10 : Int) (M11 : Mem), Bk E C 8 Mi M0 46 [(0, 21, x0), (1, 28, x1), (2, 24, x2), (4, 20, v6), (5, 0, v8), (6, 0, p9), (7, 0, p10)] [] M11 0 0 (f_X2_run_L46 v6 v8 x0 x1 x2 k n p9 p10 M11) := by
  intro n
  induction n with
  | zero =>
    intro p9 p10 M11
    exact r_none
  | succ n ih =>
    intro p9 p10 M11
    rw [f_X2_run_L46]
    refine r_iload 46 hC 6 rfl dX2_run_46 ?_
    refine r_ldc 48 hC (x := 100000) kc_X2_50 ⟨by decide +kernel, r32c rfl⟩ dX2_run_48 ?_
    refine r_icmp_ge 50 hC (tgt := 164) (by decide) dX2_run_50 ?_ ?_
    · exact r_sub [0, 1, 4] rfl (hk M11)
    · refine r_iload 53 hC 5 rfl dX2_run_53 ?_
      refine r_aload 55 hC 3 (Or.inl (by decide)) rfl dX2_run_55 ?_
      refine r_get 57 hC fd_0_2 fl_X2_51 dX2_run_57 (fun v12 => ?_)
      refine r_icmp_ge 60 hC (tgt := 164) (by decide) dX2_run_60 ?_ ?_
      · exact r_sub [0, 1, 4] rfl (hk M11)
      · refine r_aload_n 63 hC 0 rfl (Or.inl (by decide)) rfl dX2_run_63 ?_
        refine r_getz 64 hC fd_1_4 fl_X2_24 dX2_run_64 (fun v13 => ?_)
        refine r_if_ne 67 hC (tgt := 164) (by decide) dX2_run_67 ?_ ?_
        · exact r_sub [0, 1, 4] rfl (hk M11)
        · refine r_aload 70 hC 3 (Or.inl (by decide)) rfl dX2_run_70 ?_
          refine r_get 72 hC fd_0_3 fl_X2_56 dX2_run_72 (fun v14 => ?_)
          refine r_iload 75 hC 5 rfl dX2_run_75 ?_
          refine r_iaload 77 hC dX2_run_77 (fun v15 => ?_)
          refine r_bipush 78 hC kb_28 dX2_run_78 ?_
          refine r_jn (P := fun j158 => ∀ (q16 : Int) (M17 : Mem), Bk E C 8 Mi M0 158 [(0, 21, x0), (1, 28, x1), (2, 24, x2), (4, 20, v6), (5, 0, v8), (6, 0, q16), (7, 0, p10)] [] M17 0 0 (j158 q16 M17)) ?_ (fun j158 hj158 => ?_)
          · intro q16 M17
            refine r_iinc 158 hC 6 rfl (by decide) dX2_run_158 (r_eqls (ls' := [(7, 0, w32 (p10 + 1)), (0, 21, x0), (1, 28, x1), (2, 24, x2), (4, 20, v6), (5, 0, v8), (6, 0, q16)]) rfl ?_)
            refine r_goto 161 hC (tgt := 46) (by decide) dX2_run_161 ?_
            exact r_sub [1, 2, 3, 4, 5, 6, 0] rfl (ih q16 (w32 (p10 + 1)) M17)
          refine r_icmp_ne 80 hC (tgt := 96) (by decide) dX2_run_80 ?_ ?_
          · refine r_aload_n 96 hC 0 rfl (Or.inl (by decide)) rfl dX2_run_96 ?_
            refine r_get 97 hC fd_1_0 fl_X2_9 dX2_run_97 (fun v18 => ?_)
            refine r_sipush 100 hC ks_300 dX2_run_100 ?_
            refine r_icmp_lt 103 hC (tgt := 114) (by decide) dX2_run_103 ?_ ?_
            · refine r_aload_n 114 hC 0 rfl (Or.inl (by decide)) rfl dX2_run_114 ?_
              refine r_dup 115 hC (by decide) dX2_run_115 ?_
              refine r_get 116 hC fd_1_0 fl_X2_9 dX2_run_116 (fun v19 => ?_)
              refine r_iconst 119 hC (r32c rfl) dX2_run_119 ?_
              refine r_iadd 120 hC dX2_run_120 ?_
              refine r_put 121 hC fd_1_0 fl_X2_9 dX2_run_121 (fun M20 => ?_)
              refine r_aload_n 124 hC 0 rfl (Or.inl (by decide)) rfl dX2_run_124 ?_
              refine r_dup 125 hC (by decide) dX2_run_125 ?_
              refine r_get 126 hC fd_1_2 fl_X2_18 dX2_run_126 (fun v21 => ?_)
              refine r_aload_n 129 hC 0 rfl (Or.inl (by decide)) rfl dX2_run_129 ?_
              refine r_aload_n 130 hC 1 rfl (Or.inl (by decide)) rfl dX2_run_130 ?_
              refine r_aload_n 131 hC 2 rfl (Or.inl (by decide)) rfl dX2_run_131 ?_
              refine r_iload 132 hC 5 rfl dX2_run_132 ?_
              refine r_callVI 134 hC [(28, x1), (24, x2), (0, p9)] [(0, v21), (21, x0)] rfl vl_X2_63 rfl h0 (by decide) (Nat.le_of_ble_eq_true rfl) (by decide) (by decide) dX2_run_134 (t_X2_act x0 x1 x2 p9 M20 h0) (fun v22 M23 => ?_)
              refine r_jn (P := fun j145 => ∀ (q24 : Int), Bk E C 8 Mi M0 145 [(0, 21, x0), (1, 28, x1), (2, 24, x2), (4, 20, v6), (5, 0, v8), (6, 0, p9), (7, 0, p10)] [(0, q24), (0, v21), (21, x0)] M23 0 0 (j145 q24)) ?_ (fun j145 hj145 => ?_)
              · intro q24
                refine r_iadd 145 hC dX2_run_145 ?_
                refine r_put 146 hC fd_1_2 fl_X2_18 dX2_run_146 (fun M25 => ?_)
                refine r_aload_n 149 hC 0 rfl (Or.inl (by decide)) rfl dX2_run_149 ?_
                refine r_aload_n 150 hC 1 rfl (Or.inl (by decide)) rfl dX2_run_150 ?_
                refine r_iload 151 hC 5 rfl dX2_run_151 ?_
                refine r_callVI 153 hC [(28, x1), (0, p9)] [] rfl vl_X2_67 rfl h0 (by decide) (Nat.le_of_ble_eq_true rfl) (by decide) (by decide) dX2_run_153 (t_X2_behindStep x0 x1 p9 M25 h0) (fun v26 M27 => ?_)
                refine r_istore 156 hC (by decide) dX2_run_156 (r_eqls (ls' := [(6, 0, v26), (0, 21, x0), (1, 28, x1), (2, 24, x2), (4, 20, v6), (5, 0, v8), (7, 0, p10)]) rfl ?_)
                exact r_sub [1, 2, 3, 4, 5, 0, 6] rfl (hj158 v26 M27)
              refine r_if_ne 137 hC (tgt := 144) (by decide) dX2_run_137 ?_ ?_
              · refine r_iconst 144 hC (r32c rfl) dX2_run_144 ?_
                exact hj145 1
              · refine r_iconst 140 hC (r32c rfl) dX2_run_140 ?_
                refine r_goto 141 hC (tgt := 145) (by decide) dX2_run_141 ?_
                exact hj145 0
            · refine r_aload_n 106 hC 0 rfl (Or.inl (by decide)) rfl dX2_run_106 ?_
              refine r_iconst 107 hC (r32c rfl) dX2_run_107 ?_
              refine r_putz 108 hC fd_1_4 fl_X2_24 dX2_run_108 (fun M28 => ?_)
              refine r_goto 111 hC (tgt := 158) (by decide) dX2_run_111 ?_
              exact hj158 p9 M28
          · refine r_aload_n 83 hC 0 rfl (Or.inl (by decide)) rfl dX2_run_83 ?_
            refine r_aload 84 hC 3 (Or.inl (by decide)) rfl dX2_run_84 ?_
            refine r_iload 86 hC 5 rfl dX2_run_86 ?_
            refine r_callVI 88 hC [(20, v6), (0, p9)] [] rfl vl_X2_59 rfl h0 (by decide) (Nat.le_of_ble_eq_true rfl) (by decide) (by decide) dX2_run_88 (t_X2_behindEnd x0 v6 p9 M11 h0) (fun v29 M30 => ?_)
            refine r_istore 91 hC (by decide) dX2_run_91 (r_eqls (ls' := [(6, 0, v29), (0, 21, x0), (1, 28, x1), (2, 24, x2), (4, 20, v6), (5, 0, v8), (7, 0, p10)]) rfl ?_)
            refine r_goto 93 hC (tgt := 158) (by decide) dX2_run_93 ?_
            exact r_sub [1, 2, 3, 4, 5, 0, 6] rfl (hj158 v29 M30)
set_option maxRecDepth 100000 in
theorem t_X2_run (x0 x1 x2 x3 : Int) (M : Mem) (h0 : x0 ≠ 0) : MtV yX2_run cX2_run 8 none 7 0 0 [(21, x0), (28, x1), (24, x2), (0, x3)] M (f_X2_run x0 x1 x2 x3 M) := by
  refine mk_V (by decide +kernel) (Nat.le_of_ble_eq_true rfl) (fun E C M0 hC hq hin => ?_)
  refine r_eqls (ls' := [(0, 21, x0), (1, 28, x1), (2, 24, x2), (3, 0, x3)]) rfl ?_
  unfold f_X2_run
  refine r_aload_n 0 hC 0 rfl (Or.inl (by decide)) rfl dX2_run_0 ?_
  refine r_iconst 1 hC (r32c rfl) dX2_run_1 ?_
  refine r_put 2 hC fd_1_0 fl_X2_9 dX2_run_2 (fun M1 => ?_)
  refine r_aload_n 5 hC 0 rfl (Or.inl (by decide)) rfl dX2_run_5 ?_
  refine r_iconst 6 hC (r32c rfl) dX2_run_6 ?_
  refine r_put 7 hC fd_1_2 fl_X2_18 dX2_run_7 (fun M2 => ?_)
  refine r_aload_n 10 hC 0 rfl (Or.inl (by decide)) rfl dX2_run_10 ?_
  refine r_iconst 11 hC (r32c rfl) dX2_run_11 ?_
  refine r_put 12 hC fd_1_3 fl_X2_21 dX2_run_12 (fun M3 => ?_)
  refine r_aload_n 15 hC 0 rfl (Or.inl (by decide)) rfl dX2_run_15 ?_
  refine r_iconst 16 hC (r32c rfl) dX2_run_16 ?_
  refine r_putz 17 hC fd_1_4 fl_X2_24 dX2_run_17 (fun M4 => ?_)
  refine r_aload_n 20 hC 0 rfl (Or.inl (by decide)) rfl dX2_run_20 ?_
  refine r_iload_n 21 hC 3 rfl rfl dX2_run_21 ?_
  refine r_put 22 hC fd_1_5 fl_X2_28 dX2_run_22 (fun M5 => ?_)
  refine r_aload_n 25 hC 1 rfl (Or.inl (by decide)) rfl dX2_run_25 ?_
  refine r_get 26 hC fd_8_1 fl_X2_35 dX2_run_26 (fun v6 => ?_)
  refine r_astore 29 hC (Or.inl (by decide)) (by decide) dX2_run_29 (r_eqls (ls' := [(4, 20, v6), (0, 21, x0), (1, 28, x1), (2, 24, x2), (3, 0, x3)]) rfl ?_)
  refine r_aload_n 31 hC 2 rfl (Or.inl (by decide)) rfl dX2_run_31 ?_
  refine r_get 32 hC fd_8_2 fl_X2_41 dX2_run_32 (fun v7 => ?_)
  refine r_get 35 hC fd_3_1 fl_X2_45 dX2_run_35 (fun v8 => ?_)
  refine r_istore 38 hC (by decide) dX2_run_38 (r_eqls (ls' := [(5, 0, v8), (4, 20, v6), (0, 21, x0), (1, 28, x1), (2, 24, x2), (3, 0, x3)]) rfl ?_)
  refine r_iconst 40 hC (r32c rfl) dX2_run_40 ?_
  refine r_istore 41 hC (by decide) dX2_run_41 (r_eqls (ls' := [(6, 0, 0), (5, 0, v8), (4, 20, v6), (0, 21, x0), (1, 28, x1), (2, 24, x2), (3, 0, x3)]) rfl ?_)
  refine r_iconst 43 hC (r32c rfl) dX2_run_43 ?_
  refine r_istore 44 hC (by decide) dX2_run_44 (r_eqls (ls' := [(7, 0, 0), (6, 0, 0), (5, 0, v8), (4, 20, v6), (0, 21, x0), (1, 28, x1), (2, 24, x2), (3, 0, x3)]) rfl ?_)
  refine r_sub [4, 5, 6, 3, 2, 1, 0] rfl (f_X2_run_L46_ok h0 hC hq (fun M32 => ?_) KF 0 0 M5)
  · refine r_aload_n 164 hC 0 rfl (Or.inl (by decide)) rfl dX2_run_164 ?_
    refine r_aload_n 165 hC 1 rfl (Or.inl (by decide)) rfl dX2_run_165 ?_
    refine r_get 166 hC fd_8_2 fl_X2_41 dX2_run_166 (fun v33 => ?_)
    refine r_get 169 hC fd_3_1 fl_X2_45 dX2_run_169 (fun v34 => ?_)
    refine r_iload 172 hC 2 rfl dX2_run_172 ?_
    refine r_isub 174 hC dX2_run_174 ?_
    refine r_put 175 hC fd_1_1 fl_X2_15 dX2_run_175 (fun M35 => ?_)
    exact r_return 178 hC hq (by decide) (by decide) dX2_run_178

/-! WaterTurns$Slots.<init>()V -/
theorem dX3_init_0 : decode cX3_init 0 = .ok (.aload_n 0, 1) := by decide +kernel
theorem dX3_init_1 : decode cX3_init 1 = .ok (.invokespecial 3, 3) := by decide +kernel
theorem dX3_init_4 : decode cX3_init 4 = .ok (.aload_n 0, 1) := by decide +kernel
theorem dX3_init_5 : decode cX3_init 5 = .ok (.bipush 10, 2) := by decide +kernel
theorem dX3_init_7 : decode cX3_init 7 = .ok (.newarray .int, 2) := by decide +kernel
theorem dX3_init_9 : decode cX3_init 9 = .ok (.putfield 9, 3) := by decide +kernel
theorem dX3_init_12 : decode cX3_init 12 = .ok (.aload_n 0, 1) := by decide +kernel
theorem dX3_init_13 : decode cX3_init 13 = .ok (.bipush 10, 2) := by decide +kernel
theorem dX3_init_15 : decode cX3_init 15 = .ok (.newarray .int, 2) := by decide +kernel
theorem dX3_init_17 : decode cX3_init 17 = .ok (.putfield 15, 3) := by decide +kernel
theorem dX3_init_20 : decode cX3_init 20 = .ok (.aload_n 0, 1) := by decide +kernel
theorem dX3_init_21 : decode cX3_init 21 = .ok (.bipush 10, 2) := by decide +kernel
theorem dX3_init_23 : decode cX3_init 23 = .ok (.newarray .int, 2) := by decide +kernel
theorem dX3_init_25 : decode cX3_init 25 = .ok (.putfield 18, 3) := by decide +kernel
theorem dX3_init_28 : decode cX3_init 28 = .ok (.aload_n 0, 1) := by decide +kernel
theorem dX3_init_29 : decode cX3_init 29 = .ok (.iconst 0, 1) := by decide +kernel
theorem dX3_init_30 : decode cX3_init 30 = .ok (.putfield 21, 3) := by decide +kernel
theorem dX3_init_33 : decode cX3_init 33 = .ok (.aload_n 0, 1) := by decide +kernel
theorem dX3_init_34 : decode cX3_init 34 = .ok (.bipush 22, 2) := by decide +kernel
theorem dX3_init_36 : decode cX3_init 36 = .ok (.newarray .int, 2) := by decide +kernel
theorem dX3_init_38 : decode cX3_init 38 = .ok (.putfield 25, 3) := by decide +kernel
theorem dX3_init_41 : decode cX3_init 41 = .ok (.aload_n 0, 1) := by decide +kernel
theorem dX3_init_42 : decode cX3_init 42 = .ok (.bipush 22, 2) := by decide +kernel
theorem dX3_init_44 : decode cX3_init 44 = .ok (.newarray .int, 2) := by decide +kernel
theorem dX3_init_46 : decode cX3_init 46 = .ok (.putfield 28, 3) := by decide +kernel
theorem dX3_init_49 : decode cX3_init 49 = .ok (.aload_n 0, 1) := by decide +kernel
theorem dX3_init_50 : decode cX3_init 50 = .ok (.bipush 22, 2) := by decide +kernel
theorem dX3_init_52 : decode cX3_init 52 = .ok (.newarray .int, 2) := by decide +kernel
theorem dX3_init_54 : decode cX3_init 54 = .ok (.putfield 31, 3) := by decide +kernel
theorem dX3_init_57 : decode cX3_init 57 = .ok (.return_, 1) := by decide +kernel
set_option maxRecDepth 100000 in
theorem t_X3_init (x0 : Int) (M : Mem) (h0 : x0 ≠ 0) : MtV yX3_init cX3_init 1 none 1 6 96 [(22, x0)] M (f_X3_init x0 M) := by
  refine mk_V (by decide +kernel) (Nat.le_of_ble_eq_true rfl) (fun E C M0 hC hq hin => ?_)
  refine r_eqls (ls' := [(0, 22, x0)]) rfl ?_
  unfold f_X3_init
  refine r_aload_n 0 hC 0 rfl (Or.inl (by decide)) rfl dX3_init_0 ?_
  refine r_objinit 1 hC ob_X3_3 obj_i obj_c (by decide) h0 (by decide) (Nat.le_of_ble_eq_true rfl) dX3_init_1 ?_
  refine r_aload_n 4 hC 0 rfl (Or.inl (by decide)) rfl dX3_init_4 ?_
  refine r_bipush 5 hC kb_10 dX3_init_5 ?_
  refine r_newa 7 hC (N := 10) rfl (by decide) (by decide) (by decide) rfl (fun _ _ => Iff.rfl) nad_10 (fun _ => nao_10) (by decide) nac_10 (by decide) (by decide) dX3_init_7 (fun v1 M2 => ?_)
  refine r_putF 9 hC hin fd_2_0 fl_X3_9 dX3_init_9 (fun M3 => ?_)
  refine r_aload_n 12 hC 0 rfl (Or.inl (by decide)) rfl dX3_init_12 ?_
  refine r_bipush 13 hC kb_10 dX3_init_13 ?_
  refine r_newa 15 hC (N := 10) rfl (by decide) (by decide) (by decide) rfl (fun _ _ => Iff.rfl) nad_10 (fun _ => nao_10) (by decide) nac_10 (by decide) (by decide) dX3_init_15 (fun v4 M5 => ?_)
  refine r_putF 17 hC hin fd_2_1 fl_X3_15 dX3_init_17 (fun M6 => ?_)
  refine r_aload_n 20 hC 0 rfl (Or.inl (by decide)) rfl dX3_init_20 ?_
  refine r_bipush 21 hC kb_10 dX3_init_21 ?_
  refine r_newa 23 hC (N := 10) rfl (by decide) (by decide) (by decide) rfl (fun _ _ => Iff.rfl) nad_10 (fun _ => nao_10) (by decide) nac_10 (by decide) (by decide) dX3_init_23 (fun v7 M8 => ?_)
  refine r_putF 25 hC hin fd_2_2 fl_X3_18 dX3_init_25 (fun M9 => ?_)
  refine r_aload_n 28 hC 0 rfl (Or.inl (by decide)) rfl dX3_init_28 ?_
  refine r_iconst 29 hC (r32c rfl) dX3_init_29 ?_
  refine r_put 30 hC fd_2_3 fl_X3_21 dX3_init_30 (fun M10 => ?_)
  refine r_aload_n 33 hC 0 rfl (Or.inl (by decide)) rfl dX3_init_33 ?_
  refine r_bipush 34 hC kb_22 dX3_init_34 ?_
  refine r_newa 36 hC (N := 22) rfl (by decide) (by decide) (by decide) rfl (fun _ _ => Iff.rfl) nad_10 (fun _ => nao_10) (by decide) nac_10 (by decide) (by decide) dX3_init_36 (fun v11 M12 => ?_)
  refine r_putF 38 hC hin fd_2_4 fl_X3_25 dX3_init_38 (fun M13 => ?_)
  refine r_aload_n 41 hC 0 rfl (Or.inl (by decide)) rfl dX3_init_41 ?_
  refine r_bipush 42 hC kb_22 dX3_init_42 ?_
  refine r_newa 44 hC (N := 22) rfl (by decide) (by decide) (by decide) rfl (fun _ _ => Iff.rfl) nad_10 (fun _ => nao_10) (by decide) nac_10 (by decide) (by decide) dX3_init_44 (fun v14 M15 => ?_)
  refine r_putF 46 hC hin fd_2_5 fl_X3_28 dX3_init_46 (fun M16 => ?_)
  refine r_aload_n 49 hC 0 rfl (Or.inl (by decide)) rfl dX3_init_49 ?_
  refine r_bipush 50 hC kb_22 dX3_init_50 ?_
  refine r_newa 52 hC (N := 22) rfl (by decide) (by decide) (by decide) rfl (fun _ _ => Iff.rfl) nad_10 (fun _ => nao_10) (by decide) nac_10 (by decide) (by decide) dX3_init_52 (fun v17 M18 => ?_)
  refine r_putF 54 hC hin fd_2_6 fl_X3_31 dX3_init_54 (fun M19 => ?_)
  exact r_return 57 hC hq (by decide) (by decide) dX3_init_57

/-! WaterTurns$Standing.<init>()V -/
theorem dX4_init_0 : decode cX4_init 0 = .ok (.aload_n 0, 1) := by decide +kernel
theorem dX4_init_1 : decode cX4_init 1 = .ok (.invokespecial 3, 3) := by decide +kernel
theorem dX4_init_4 : decode cX4_init 4 = .ok (.aload_n 0, 1) := by decide +kernel
theorem dX4_init_5 : decode cX4_init 5 = .ok (.bipush 100, 2) := by decide +kernel
theorem dX4_init_7 : decode cX4_init 7 = .ok (.putfield 9, 3) := by decide +kernel
theorem dX4_init_10 : decode cX4_init 10 = .ok (.aload_n 0, 1) := by decide +kernel
theorem dX4_init_11 : decode cX4_init 11 = .ok (.iconst 0, 1) := by decide +kernel
theorem dX4_init_12 : decode cX4_init 12 = .ok (.putfield 15, 3) := by decide +kernel
theorem dX4_init_15 : decode cX4_init 15 = .ok (.aload_n 0, 1) := by decide +kernel
theorem dX4_init_16 : decode cX4_init 16 = .ok (.iconst 0, 1) := by decide +kernel
theorem dX4_init_17 : decode cX4_init 17 = .ok (.putfield 18, 3) := by decide +kernel
theorem dX4_init_20 : decode cX4_init 20 = .ok (.aload_n 0, 1) := by decide +kernel
theorem dX4_init_21 : decode cX4_init 21 = .ok (.iconst 0, 1) := by decide +kernel
theorem dX4_init_22 : decode cX4_init 22 = .ok (.putfield 21, 3) := by decide +kernel
theorem dX4_init_25 : decode cX4_init 25 = .ok (.aload_n 0, 1) := by decide +kernel
theorem dX4_init_26 : decode cX4_init 26 = .ok (.bipush 10, 2) := by decide +kernel
theorem dX4_init_28 : decode cX4_init 28 = .ok (.newarray .int, 2) := by decide +kernel
theorem dX4_init_30 : decode cX4_init 30 = .ok (.putfield 24, 3) := by decide +kernel
theorem dX4_init_33 : decode cX4_init 33 = .ok (.aload_n 0, 1) := by decide +kernel
theorem dX4_init_34 : decode cX4_init 34 = .ok (.bipush 12, 2) := by decide +kernel
theorem dX4_init_36 : decode cX4_init 36 = .ok (.newarray .int, 2) := by decide +kernel
theorem dX4_init_38 : decode cX4_init 38 = .ok (.putfield 28, 3) := by decide +kernel
theorem dX4_init_41 : decode cX4_init 41 = .ok (.aload_n 0, 1) := by decide +kernel
theorem dX4_init_42 : decode cX4_init 42 = .ok (.bipush 12, 2) := by decide +kernel
theorem dX4_init_44 : decode cX4_init 44 = .ok (.newarray .int, 2) := by decide +kernel
theorem dX4_init_46 : decode cX4_init 46 = .ok (.putfield 31, 3) := by decide +kernel
theorem dX4_init_49 : decode cX4_init 49 = .ok (.aload_n 0, 1) := by decide +kernel
theorem dX4_init_50 : decode cX4_init 50 = .ok (.bipush 12, 2) := by decide +kernel
theorem dX4_init_52 : decode cX4_init 52 = .ok (.newarray .int, 2) := by decide +kernel
theorem dX4_init_54 : decode cX4_init 54 = .ok (.putfield 34, 3) := by decide +kernel
theorem dX4_init_57 : decode cX4_init 57 = .ok (.aload_n 0, 1) := by decide +kernel
theorem dX4_init_58 : decode cX4_init 58 = .ok (.bipush 100, 2) := by decide +kernel
theorem dX4_init_60 : decode cX4_init 60 = .ok (.newarray .int, 2) := by decide +kernel
theorem dX4_init_62 : decode cX4_init 62 = .ok (.putfield 37, 3) := by decide +kernel
theorem dX4_init_65 : decode cX4_init 65 = .ok (.aload_n 0, 1) := by decide +kernel
theorem dX4_init_66 : decode cX4_init 66 = .ok (.bipush 10, 2) := by decide +kernel
theorem dX4_init_68 : decode cX4_init 68 = .ok (.newarray .long, 2) := by decide +kernel
theorem dX4_init_70 : decode cX4_init 70 = .ok (.putfield 40, 3) := by decide +kernel
theorem dX4_init_73 : decode cX4_init 73 = .ok (.return_, 1) := by decide +kernel
set_option maxRecDepth 100000 in
theorem t_X4_init (x0 : Int) (M : Mem) (h0 : x0 ≠ 0) : MtV yX4_init cX4_init 1 none 1 6 156 [(23, x0)] M (f_X4_init x0 M) := by
  refine mk_V (by decide +kernel) (Nat.le_of_ble_eq_true rfl) (fun E C M0 hC hq hin => ?_)
  refine r_eqls (ls' := [(0, 23, x0)]) rfl ?_
  unfold f_X4_init
  refine r_aload_n 0 hC 0 rfl (Or.inl (by decide)) rfl dX4_init_0 ?_
  refine r_objinit 1 hC ob_X4_3 obj_i obj_c (by decide) h0 (by decide) (Nat.le_of_ble_eq_true rfl) dX4_init_1 ?_
  refine r_aload_n 4 hC 0 rfl (Or.inl (by decide)) rfl dX4_init_4 ?_
  refine r_bipush 5 hC kb_100 dX4_init_5 ?_
  refine r_put 7 hC fd_3_0 fl_X4_9 dX4_init_7 (fun M1 => ?_)
  refine r_aload_n 10 hC 0 rfl (Or.inl (by decide)) rfl dX4_init_10 ?_
  refine r_iconst 11 hC (r32c rfl) dX4_init_11 ?_
  refine r_put 12 hC fd_3_1 fl_X4_15 dX4_init_12 (fun M2 => ?_)
  refine r_aload_n 15 hC 0 rfl (Or.inl (by decide)) rfl dX4_init_15 ?_
  refine r_iconst 16 hC (r32c rfl) dX4_init_16 ?_
  refine r_put 17 hC fd_3_2 fl_X4_18 dX4_init_17 (fun M3 => ?_)
  refine r_aload_n 20 hC 0 rfl (Or.inl (by decide)) rfl dX4_init_20 ?_
  refine r_iconst 21 hC (r32c rfl) dX4_init_21 ?_
  refine r_put 22 hC fd_3_3 fl_X4_21 dX4_init_22 (fun M4 => ?_)
  refine r_aload_n 25 hC 0 rfl (Or.inl (by decide)) rfl dX4_init_25 ?_
  refine r_bipush 26 hC kb_10 dX4_init_26 ?_
  refine r_newa 28 hC (N := 10) rfl (by decide) (by decide) (by decide) rfl (fun _ _ => Iff.rfl) nad_10 (fun _ => nao_10) (by decide) nac_10 (by decide) (by decide) dX4_init_28 (fun v5 M6 => ?_)
  refine r_putF 30 hC hin fd_3_4 fl_X4_24 dX4_init_30 (fun M7 => ?_)
  refine r_aload_n 33 hC 0 rfl (Or.inl (by decide)) rfl dX4_init_33 ?_
  refine r_bipush 34 hC kb_12 dX4_init_34 ?_
  refine r_newa 36 hC (N := 12) rfl (by decide) (by decide) (by decide) rfl (fun _ _ => Iff.rfl) nad_10 (fun _ => nao_10) (by decide) nac_10 (by decide) (by decide) dX4_init_36 (fun v8 M9 => ?_)
  refine r_putF 38 hC hin fd_3_5 fl_X4_28 dX4_init_38 (fun M10 => ?_)
  refine r_aload_n 41 hC 0 rfl (Or.inl (by decide)) rfl dX4_init_41 ?_
  refine r_bipush 42 hC kb_12 dX4_init_42 ?_
  refine r_newa 44 hC (N := 12) rfl (by decide) (by decide) (by decide) rfl (fun _ _ => Iff.rfl) nad_10 (fun _ => nao_10) (by decide) nac_10 (by decide) (by decide) dX4_init_44 (fun v11 M12 => ?_)
  refine r_putF 46 hC hin fd_3_6 fl_X4_31 dX4_init_46 (fun M13 => ?_)
  refine r_aload_n 49 hC 0 rfl (Or.inl (by decide)) rfl dX4_init_49 ?_
  refine r_bipush 50 hC kb_12 dX4_init_50 ?_
  refine r_newa 52 hC (N := 12) rfl (by decide) (by decide) (by decide) rfl (fun _ _ => Iff.rfl) nad_10 (fun _ => nao_10) (by decide) nac_10 (by decide) (by decide) dX4_init_52 (fun v14 M15 => ?_)
  refine r_putF 54 hC hin fd_3_7 fl_X4_34 dX4_init_54 (fun M16 => ?_)
  refine r_aload_n 57 hC 0 rfl (Or.inl (by decide)) rfl dX4_init_57 ?_
  refine r_bipush 58 hC kb_100 dX4_init_58 ?_
  refine r_newa 60 hC (N := 100) rfl (by decide) (by decide) (by decide) rfl (fun _ _ => Iff.rfl) nad_10 (fun _ => nao_10) (by decide) nac_10 (by decide) (by decide) dX4_init_60 (fun v17 M18 => ?_)
  refine r_putF 62 hC hin fd_3_8 fl_X4_37 dX4_init_62 (fun M19 => ?_)
  refine r_aload_n 65 hC 0 rfl (Or.inl (by decide)) rfl dX4_init_65 ?_
  refine r_bipush 66 hC kb_10 dX4_init_66 ?_
  refine r_newa 68 hC (N := 10) rfl (by decide) (by decide) (by decide) rfl (fun _ _ => Iff.rfl) nad_11 (fun _ => nao_11) (by decide) nac_11 (by decide) (by decide) dX4_init_68 (fun v20 M21 => ?_)
  refine r_putF 70 hC hin fd_3_9 fl_X4_40 dX4_init_70 (fun M22 => ?_)
  exact r_return 73 hC hq (by decide) (by decide) dX4_init_73

/-! WaterTurns$Standing.take(LWaterTurns$Standing;)V -/
theorem dX4_take_0 : decode cX4_take 0 = .ok (.aload_n 0, 1) := by decide +kernel
theorem dX4_take_1 : decode cX4_take 1 = .ok (.aload_n 1, 1) := by decide +kernel
theorem dX4_take_2 : decode cX4_take 2 = .ok (.getfield 9, 3) := by decide +kernel
theorem dX4_take_5 : decode cX4_take 5 = .ok (.putfield 9, 3) := by decide +kernel
theorem dX4_take_8 : decode cX4_take 8 = .ok (.aload_n 0, 1) := by decide +kernel
theorem dX4_take_9 : decode cX4_take 9 = .ok (.aload_n 1, 1) := by decide +kernel
theorem dX4_take_10 : decode cX4_take 10 = .ok (.getfield 15, 3) := by decide +kernel
theorem dX4_take_13 : decode cX4_take 13 = .ok (.putfield 15, 3) := by decide +kernel
theorem dX4_take_16 : decode cX4_take 16 = .ok (.aload_n 0, 1) := by decide +kernel
theorem dX4_take_17 : decode cX4_take 17 = .ok (.aload_n 1, 1) := by decide +kernel
theorem dX4_take_18 : decode cX4_take 18 = .ok (.getfield 18, 3) := by decide +kernel
theorem dX4_take_21 : decode cX4_take 21 = .ok (.putfield 18, 3) := by decide +kernel
theorem dX4_take_24 : decode cX4_take 24 = .ok (.aload_n 0, 1) := by decide +kernel
theorem dX4_take_25 : decode cX4_take 25 = .ok (.aload_n 1, 1) := by decide +kernel
theorem dX4_take_26 : decode cX4_take 26 = .ok (.getfield 21, 3) := by decide +kernel
theorem dX4_take_29 : decode cX4_take 29 = .ok (.putfield 21, 3) := by decide +kernel
theorem dX4_take_32 : decode cX4_take 32 = .ok (.aload_n 1, 1) := by decide +kernel
theorem dX4_take_33 : decode cX4_take 33 = .ok (.getfield 24, 3) := by decide +kernel
theorem dX4_take_36 : decode cX4_take 36 = .ok (.iconst 0, 1) := by decide +kernel
theorem dX4_take_37 : decode cX4_take 37 = .ok (.aload_n 0, 1) := by decide +kernel
theorem dX4_take_38 : decode cX4_take 38 = .ok (.getfield 24, 3) := by decide +kernel
theorem dX4_take_41 : decode cX4_take 41 = .ok (.iconst 0, 1) := by decide +kernel
theorem dX4_take_42 : decode cX4_take 42 = .ok (.bipush 10, 2) := by decide +kernel
theorem dX4_take_44 : decode cX4_take 44 = .ok (.invokestatic 44, 3) := by decide +kernel
theorem dX4_take_47 : decode cX4_take 47 = .ok (.aload_n 1, 1) := by decide +kernel
theorem dX4_take_48 : decode cX4_take 48 = .ok (.getfield 28, 3) := by decide +kernel
theorem dX4_take_51 : decode cX4_take 51 = .ok (.iconst 0, 1) := by decide +kernel
theorem dX4_take_52 : decode cX4_take 52 = .ok (.aload_n 0, 1) := by decide +kernel
theorem dX4_take_53 : decode cX4_take 53 = .ok (.getfield 28, 3) := by decide +kernel
theorem dX4_take_56 : decode cX4_take 56 = .ok (.iconst 0, 1) := by decide +kernel
theorem dX4_take_57 : decode cX4_take 57 = .ok (.bipush 12, 2) := by decide +kernel
theorem dX4_take_59 : decode cX4_take 59 = .ok (.invokestatic 44, 3) := by decide +kernel
theorem dX4_take_62 : decode cX4_take 62 = .ok (.aload_n 1, 1) := by decide +kernel
theorem dX4_take_63 : decode cX4_take 63 = .ok (.getfield 31, 3) := by decide +kernel
theorem dX4_take_66 : decode cX4_take 66 = .ok (.iconst 0, 1) := by decide +kernel
theorem dX4_take_67 : decode cX4_take 67 = .ok (.aload_n 0, 1) := by decide +kernel
theorem dX4_take_68 : decode cX4_take 68 = .ok (.getfield 31, 3) := by decide +kernel
theorem dX4_take_71 : decode cX4_take 71 = .ok (.iconst 0, 1) := by decide +kernel
theorem dX4_take_72 : decode cX4_take 72 = .ok (.bipush 12, 2) := by decide +kernel
theorem dX4_take_74 : decode cX4_take 74 = .ok (.invokestatic 44, 3) := by decide +kernel
theorem dX4_take_77 : decode cX4_take 77 = .ok (.aload_n 1, 1) := by decide +kernel
theorem dX4_take_78 : decode cX4_take 78 = .ok (.getfield 34, 3) := by decide +kernel
theorem dX4_take_81 : decode cX4_take 81 = .ok (.iconst 0, 1) := by decide +kernel
theorem dX4_take_82 : decode cX4_take 82 = .ok (.aload_n 0, 1) := by decide +kernel
theorem dX4_take_83 : decode cX4_take 83 = .ok (.getfield 34, 3) := by decide +kernel
theorem dX4_take_86 : decode cX4_take 86 = .ok (.iconst 0, 1) := by decide +kernel
theorem dX4_take_87 : decode cX4_take 87 = .ok (.bipush 12, 2) := by decide +kernel
theorem dX4_take_89 : decode cX4_take 89 = .ok (.invokestatic 44, 3) := by decide +kernel
theorem dX4_take_92 : decode cX4_take 92 = .ok (.aload_n 1, 1) := by decide +kernel
theorem dX4_take_93 : decode cX4_take 93 = .ok (.getfield 37, 3) := by decide +kernel
theorem dX4_take_96 : decode cX4_take 96 = .ok (.iconst 0, 1) := by decide +kernel
theorem dX4_take_97 : decode cX4_take 97 = .ok (.aload_n 0, 1) := by decide +kernel
theorem dX4_take_98 : decode cX4_take 98 = .ok (.getfield 37, 3) := by decide +kernel
theorem dX4_take_101 : decode cX4_take 101 = .ok (.iconst 0, 1) := by decide +kernel
theorem dX4_take_102 : decode cX4_take 102 = .ok (.aload_n 0, 1) := by decide +kernel
theorem dX4_take_103 : decode cX4_take 103 = .ok (.getfield 37, 3) := by decide +kernel
theorem dX4_take_106 : decode cX4_take 106 = .ok (.arraylength, 1) := by decide +kernel
theorem dX4_take_107 : decode cX4_take 107 = .ok (.invokestatic 44, 3) := by decide +kernel
theorem dX4_take_110 : decode cX4_take 110 = .ok (.aload_n 1, 1) := by decide +kernel
theorem dX4_take_111 : decode cX4_take 111 = .ok (.getfield 40, 3) := by decide +kernel
theorem dX4_take_114 : decode cX4_take 114 = .ok (.iconst 0, 1) := by decide +kernel
theorem dX4_take_115 : decode cX4_take 115 = .ok (.aload_n 0, 1) := by decide +kernel
theorem dX4_take_116 : decode cX4_take 116 = .ok (.getfield 40, 3) := by decide +kernel
theorem dX4_take_119 : decode cX4_take 119 = .ok (.iconst 0, 1) := by decide +kernel
theorem dX4_take_120 : decode cX4_take 120 = .ok (.bipush 10, 2) := by decide +kernel
theorem dX4_take_122 : decode cX4_take 122 = .ok (.invokestatic 44, 3) := by decide +kernel
theorem dX4_take_125 : decode cX4_take 125 = .ok (.return_, 1) := by decide +kernel
set_option maxRecDepth 100000 in
theorem t_X4_take (x0 x1 : Int) (M : Mem) (h0 : x0 ≠ 0) : MtV yX4_take cX4_take 2 none 1 0 0 [(23, x0), (23, x1)] M (f_X4_take x0 x1 M) := by
  refine mk_V (by decide +kernel) (Nat.le_of_ble_eq_true rfl) (fun E C M0 hC hq hin => ?_)
  refine r_eqls (ls' := [(0, 23, x0), (1, 23, x1)]) rfl ?_
  unfold f_X4_take
  refine r_aload_n 0 hC 0 rfl (Or.inl (by decide)) rfl dX4_take_0 ?_
  refine r_aload_n 1 hC 1 rfl (Or.inl (by decide)) rfl dX4_take_1 ?_
  refine r_get 2 hC fd_3_0 fl_X4_9 dX4_take_2 (fun v1 => ?_)
  refine r_put 5 hC fd_3_0 fl_X4_9 dX4_take_5 (fun M2 => ?_)
  refine r_aload_n 8 hC 0 rfl (Or.inl (by decide)) rfl dX4_take_8 ?_
  refine r_aload_n 9 hC 1 rfl (Or.inl (by decide)) rfl dX4_take_9 ?_
  refine r_get 10 hC fd_3_1 fl_X4_15 dX4_take_10 (fun v3 => ?_)
  refine r_put 13 hC fd_3_1 fl_X4_15 dX4_take_13 (fun M4 => ?_)
  refine r_aload_n 16 hC 0 rfl (Or.inl (by decide)) rfl dX4_take_16 ?_
  refine r_aload_n 17 hC 1 rfl (Or.inl (by decide)) rfl dX4_take_17 ?_
  refine r_get 18 hC fd_3_2 fl_X4_18 dX4_take_18 (fun v5 => ?_)
  refine r_put 21 hC fd_3_2 fl_X4_18 dX4_take_21 (fun M6 => ?_)
  refine r_aload_n 24 hC 0 rfl (Or.inl (by decide)) rfl dX4_take_24 ?_
  refine r_aload_n 25 hC 1 rfl (Or.inl (by decide)) rfl dX4_take_25 ?_
  refine r_get 26 hC fd_3_3 fl_X4_21 dX4_take_26 (fun v7 => ?_)
  refine r_put 29 hC fd_3_3 fl_X4_21 dX4_take_29 (fun M8 => ?_)
  refine r_aload_n 32 hC 1 rfl (Or.inl (by decide)) rfl dX4_take_32 ?_
  refine r_get 33 hC fd_3_4 fl_X4_24 dX4_take_33 (fun v9 => ?_)
  refine r_iconst 36 hC (r32c rfl) dX4_take_36 ?_
  refine r_aload_n 37 hC 0 rfl (Or.inl (by decide)) rfl dX4_take_37 ?_
  refine r_get 38 hC fd_3_4 fl_X4_24 dX4_take_38 (fun v10 => ?_)
  refine r_iconst 41 hC (r32c rfl) dX4_take_41 ?_
  refine r_bipush 42 hC kb_10 dX4_take_42 ?_
  refine r_copy 44 hC (by decide) ac_X4_44 cp_n cp_s cp_i (by decide) (Nat.le_of_ble_eq_true rfl) dX4_take_44 (fun M11 => ?_)
  refine r_aload_n 47 hC 1 rfl (Or.inl (by decide)) rfl dX4_take_47 ?_
  refine r_get 48 hC fd_3_5 fl_X4_28 dX4_take_48 (fun v12 => ?_)
  refine r_iconst 51 hC (r32c rfl) dX4_take_51 ?_
  refine r_aload_n 52 hC 0 rfl (Or.inl (by decide)) rfl dX4_take_52 ?_
  refine r_get 53 hC fd_3_5 fl_X4_28 dX4_take_53 (fun v13 => ?_)
  refine r_iconst 56 hC (r32c rfl) dX4_take_56 ?_
  refine r_bipush 57 hC kb_12 dX4_take_57 ?_
  refine r_copy 59 hC (by decide) ac_X4_44 cp_n cp_s cp_i (by decide) (Nat.le_of_ble_eq_true rfl) dX4_take_59 (fun M14 => ?_)
  refine r_aload_n 62 hC 1 rfl (Or.inl (by decide)) rfl dX4_take_62 ?_
  refine r_get 63 hC fd_3_6 fl_X4_31 dX4_take_63 (fun v15 => ?_)
  refine r_iconst 66 hC (r32c rfl) dX4_take_66 ?_
  refine r_aload_n 67 hC 0 rfl (Or.inl (by decide)) rfl dX4_take_67 ?_
  refine r_get 68 hC fd_3_6 fl_X4_31 dX4_take_68 (fun v16 => ?_)
  refine r_iconst 71 hC (r32c rfl) dX4_take_71 ?_
  refine r_bipush 72 hC kb_12 dX4_take_72 ?_
  refine r_copy 74 hC (by decide) ac_X4_44 cp_n cp_s cp_i (by decide) (Nat.le_of_ble_eq_true rfl) dX4_take_74 (fun M17 => ?_)
  refine r_aload_n 77 hC 1 rfl (Or.inl (by decide)) rfl dX4_take_77 ?_
  refine r_get 78 hC fd_3_7 fl_X4_34 dX4_take_78 (fun v18 => ?_)
  refine r_iconst 81 hC (r32c rfl) dX4_take_81 ?_
  refine r_aload_n 82 hC 0 rfl (Or.inl (by decide)) rfl dX4_take_82 ?_
  refine r_get 83 hC fd_3_7 fl_X4_34 dX4_take_83 (fun v19 => ?_)
  refine r_iconst 86 hC (r32c rfl) dX4_take_86 ?_
  refine r_bipush 87 hC kb_12 dX4_take_87 ?_
  refine r_copy 89 hC (by decide) ac_X4_44 cp_n cp_s cp_i (by decide) (Nat.le_of_ble_eq_true rfl) dX4_take_89 (fun M20 => ?_)
  refine r_aload_n 92 hC 1 rfl (Or.inl (by decide)) rfl dX4_take_92 ?_
  refine r_get 93 hC fd_3_8 fl_X4_37 dX4_take_93 (fun v21 => ?_)
  refine r_iconst 96 hC (r32c rfl) dX4_take_96 ?_
  refine r_aload_n 97 hC 0 rfl (Or.inl (by decide)) rfl dX4_take_97 ?_
  refine r_get 98 hC fd_3_8 fl_X4_37 dX4_take_98 (fun v22 => ?_)
  refine r_iconst 101 hC (r32c rfl) dX4_take_101 ?_
  refine r_aload_n 102 hC 0 rfl (Or.inl (by decide)) rfl dX4_take_102 ?_
  refine r_get 103 hC fd_3_8 fl_X4_37 dX4_take_103 (fun v23 => ?_)
  refine r_alen 106 hC (by decide) (by decide) dX4_take_106 (fun v24 => ?_)
  refine r_copy 107 hC (by decide) ac_X4_44 cp_n cp_s cp_i (by decide) (Nat.le_of_ble_eq_true rfl) dX4_take_107 (fun M25 => ?_)
  refine r_aload_n 110 hC 1 rfl (Or.inl (by decide)) rfl dX4_take_110 ?_
  refine r_get 111 hC fd_3_9 fl_X4_40 dX4_take_111 (fun v26 => ?_)
  refine r_iconst 114 hC (r32c rfl) dX4_take_114 ?_
  refine r_aload_n 115 hC 0 rfl (Or.inl (by decide)) rfl dX4_take_115 ?_
  refine r_get 116 hC fd_3_9 fl_X4_40 dX4_take_116 (fun v27 => ?_)
  refine r_iconst 119 hC (r32c rfl) dX4_take_119 ?_
  refine r_bipush 120 hC kb_10 dX4_take_120 ?_
  refine r_copy 122 hC (by decide) ac_X4_44 cp_n cp_s cp_i (by decide) (Nat.le_of_ble_eq_true rfl) dX4_take_122 (fun M28 => ?_)
  exact r_return 125 hC hq (by decide) (by decide) dX4_take_125

/-! java/util/Arrays.fill([JJ)V -/
theorem dJ7_fill_d0a16_0 : decode cJ7_fill_d0a16 0 = .ok (.iconst 0, 1) := by decide +kernel
theorem dJ7_fill_d0a16_1 : decode cJ7_fill_d0a16 1 = .ok (.istore_n 3, 1) := by decide +kernel
theorem dJ7_fill_d0a16_2 : decode cJ7_fill_d0a16 2 = .ok (.aload_n 0, 1) := by decide +kernel
theorem dJ7_fill_d0a16_3 : decode cJ7_fill_d0a16 3 = .ok (.arraylength, 1) := by decide +kernel
theorem dJ7_fill_d0a16_4 : decode cJ7_fill_d0a16 4 = .ok (.istore 4, 2) := by decide +kernel
theorem dJ7_fill_d0a16_6 : decode cJ7_fill_d0a16 6 = .ok (.iload_n 3, 1) := by decide +kernel
theorem dJ7_fill_d0a16_7 : decode cJ7_fill_d0a16 7 = .ok (.iload 4, 2) := by decide +kernel
theorem dJ7_fill_d0a16_9 : decode cJ7_fill_d0a16 9 = .ok (.if_icmp .ge 13, 3) := by decide +kernel
theorem dJ7_fill_d0a16_12 : decode cJ7_fill_d0a16 12 = .ok (.aload_n 0, 1) := by decide +kernel
theorem dJ7_fill_d0a16_13 : decode cJ7_fill_d0a16 13 = .ok (.iload_n 3, 1) := by decide +kernel
theorem dJ7_fill_d0a16_14 : decode cJ7_fill_d0a16 14 = .ok (.lload_n 1, 1) := by decide +kernel
theorem dJ7_fill_d0a16_15 : decode cJ7_fill_d0a16 15 = .ok (.lastore, 1) := by decide +kernel
theorem dJ7_fill_d0a16_16 : decode cJ7_fill_d0a16 16 = .ok (.iinc 3 1, 3) := by decide +kernel
theorem dJ7_fill_d0a16_19 : decode cJ7_fill_d0a16 19 = .ok (.goto (-13), 3) := by decide +kernel
theorem dJ7_fill_d0a16_22 : decode cJ7_fill_d0a16 22 = .ok (.return_, 1) := by decide +kernel
set_option maxRecDepth 100000 in
theorem f_J7_fill_d0a16_L6_ok {E : EnvT} {C : Cx} {Mi : Mem} (hC : CxOK E C cJ7_fill_d0a16 5 yJ7_fill_d0a16.cls 1 0 0) {M0 : Mem} (hq : RQ E C 0 0 Mi none none M0) {v1 x0 x1 : Int} {k : Mem → Option (Mem)} (hk : ∀ M5, Bk E C 5 Mi M0 22 [] [] M5 0 0 (k M5)) : ∀ (n : Nat) (p2 : Int) (M3 : Mem), Bk E C 5 Mi M0 6 [(0, 11, x0), (1, 1, x1), (3, 0, p2), (4, 0, v1)] [] M3 0 0 (f_J7_fill_d0a16_L6 v1 x0 x1 k n p2 M3) := by
  intro n
  induction n with
  | zero =>
    intro p2 M3
    exact r_none
  | succ n ih =>
    intro p2 M3
    rw [f_J7_fill_d0a16_L6]
    refine r_iload_n 6 hC 2 rfl rfl dJ7_fill_d0a16_6 ?_
    refine r_iload 7 hC 3 rfl dJ7_fill_d0a16_7 ?_
    refine r_icmp_ge 9 hC (tgt := 22) (by decide) dJ7_fill_d0a16_9 ?_ ?_
    · exact r_sub [] rfl (hk M3)
    · refine r_aload_n 12 hC 0 rfl (Or.inl (by decide)) rfl dJ7_fill_d0a16_12 ?_
      refine r_iload_n 13 hC 2 rfl rfl dJ7_fill_d0a16_13 ?_
      refine r_lload_n 14 hC 1 rfl rfl dJ7_fill_d0a16_14 ?_
      refine r_lastore 15 hC dJ7_fill_d0a16_15 (fun M4 => ?_)
      refine r_iinc 16 hC 2 rfl (by decide) dJ7_fill_d0a16_16 (r_eqls (ls' := [(3, 0, w32 (p2 + 1)), (0, 11, x0), (1, 1, x1), (4, 0, v1)]) rfl ?_)
      refine r_goto 19 hC (tgt := 6) (by decide) dJ7_fill_d0a16_19 ?_
      exact r_sub [1, 2, 0, 3] rfl (ih (w32 (p2 + 1)) M4)
set_option maxRecDepth 100000 in
theorem t_J7_fill_d0a16 (x0 x1 : Int) (M : Mem) : MtV yJ7_fill_d0a16 cJ7_fill_d0a16 5 none 1 0 0 [(11, x0), (1, x1)] M (f_J7_fill_d0a16 x0 x1 M) := by
  refine mk_V (by decide +kernel) (Nat.le_of_ble_eq_true rfl) (fun E C M0 hC hq hin => ?_)
  refine r_eqls (ls' := [(0, 11, x0), (1, 1, x1)]) rfl ?_
  unfold f_J7_fill_d0a16
  refine r_iconst 0 hC (r32c rfl) dJ7_fill_d0a16_0 ?_
  refine r_istore_n 1 hC rfl (by decide) dJ7_fill_d0a16_1 (r_eqls (ls' := [(3, 0, 0), (0, 11, x0), (1, 1, x1)]) rfl ?_)
  refine r_aload_n 2 hC 1 rfl (Or.inl (by decide)) rfl dJ7_fill_d0a16_2 ?_
  refine r_alen 3 hC (by decide) (by decide) dJ7_fill_d0a16_3 (fun v1 => ?_)
  refine r_istore 4 hC (by decide) dJ7_fill_d0a16_4 (r_eqls (ls' := [(4, 0, v1), (3, 0, 0), (0, 11, x0), (1, 1, x1)]) rfl ?_)
  refine r_sub [2, 3, 1, 0] rfl (f_J7_fill_d0a16_L6_ok hC hq (fun M6 => ?_) KF 0 M)
  · exact r_return 22 hC hq (by decide) (by decide) dJ7_fill_d0a16_22

/-! WaterTurns$Standing.clear()V -/
theorem dX4_clear_0 : decode cX4_clear 0 = .ok (.aload_n 0, 1) := by decide +kernel
theorem dX4_clear_1 : decode cX4_clear 1 = .ok (.iconst 0, 1) := by decide +kernel
theorem dX4_clear_2 : decode cX4_clear 2 = .ok (.putfield 15, 3) := by decide +kernel
theorem dX4_clear_5 : decode cX4_clear 5 = .ok (.aload_n 0, 1) := by decide +kernel
theorem dX4_clear_6 : decode cX4_clear 6 = .ok (.iconst 0, 1) := by decide +kernel
theorem dX4_clear_7 : decode cX4_clear 7 = .ok (.putfield 18, 3) := by decide +kernel
theorem dX4_clear_10 : decode cX4_clear 10 = .ok (.aload_n 0, 1) := by decide +kernel
theorem dX4_clear_11 : decode cX4_clear 11 = .ok (.iconst 0, 1) := by decide +kernel
theorem dX4_clear_12 : decode cX4_clear 12 = .ok (.putfield 21, 3) := by decide +kernel
theorem dX4_clear_15 : decode cX4_clear 15 = .ok (.aload_n 0, 1) := by decide +kernel
theorem dX4_clear_16 : decode cX4_clear 16 = .ok (.getfield 37, 3) := by decide +kernel
theorem dX4_clear_19 : decode cX4_clear 19 = .ok (.iconst 0, 1) := by decide +kernel
theorem dX4_clear_20 : decode cX4_clear 20 = .ok (.invokestatic 50, 3) := by decide +kernel
theorem dX4_clear_23 : decode cX4_clear 23 = .ok (.aload_n 0, 1) := by decide +kernel
theorem dX4_clear_24 : decode cX4_clear 24 = .ok (.getfield 40, 3) := by decide +kernel
theorem dX4_clear_27 : decode cX4_clear 27 = .ok (.lconst 0, 1) := by decide +kernel
theorem dX4_clear_28 : decode cX4_clear 28 = .ok (.invokestatic 56, 3) := by decide +kernel
theorem dX4_clear_31 : decode cX4_clear 31 = .ok (.return_, 1) := by decide +kernel
set_option maxRecDepth 100000 in
theorem t_X4_clear (x0 : Int) (M : Mem) (h0 : x0 ≠ 0) : MtV yX4_clear cX4_clear 1 none 2 0 0 [(23, x0)] M (f_X4_clear x0 M) := by
  refine mk_V (by decide +kernel) (Nat.le_of_ble_eq_true rfl) (fun E C M0 hC hq hin => ?_)
  refine r_eqls (ls' := [(0, 23, x0)]) rfl ?_
  unfold f_X4_clear
  refine r_aload_n 0 hC 0 rfl (Or.inl (by decide)) rfl dX4_clear_0 ?_
  refine r_iconst 1 hC (r32c rfl) dX4_clear_1 ?_
  refine r_put 2 hC fd_3_1 fl_X4_15 dX4_clear_2 (fun M1 => ?_)
  refine r_aload_n 5 hC 0 rfl (Or.inl (by decide)) rfl dX4_clear_5 ?_
  refine r_iconst 6 hC (r32c rfl) dX4_clear_6 ?_
  refine r_put 7 hC fd_3_2 fl_X4_18 dX4_clear_7 (fun M2 => ?_)
  refine r_aload_n 10 hC 0 rfl (Or.inl (by decide)) rfl dX4_clear_10 ?_
  refine r_iconst 11 hC (r32c rfl) dX4_clear_11 ?_
  refine r_put 12 hC fd_3_3 fl_X4_21 dX4_clear_12 (fun M3 => ?_)
  refine r_aload_n 15 hC 0 rfl (Or.inl (by decide)) rfl dX4_clear_15 ?_
  refine r_get 16 hC fd_3_8 fl_X4_37 dX4_clear_16 (fun v4 => ?_)
  refine r_iconst 19 hC (r32c rfl) dX4_clear_19 ?_
  refine r_callSV 20 hC [(10, v4), (0, 0)] [] rfl sl_X4_50 rfl (by decide) (Nat.le_of_ble_eq_true rfl) (by decide) (by decide) dX4_clear_20 (t_J7_fill_53178 v4 0 M3) (fun M5 => ?_)
  refine r_aload_n 23 hC 0 rfl (Or.inl (by decide)) rfl dX4_clear_23 ?_
  refine r_get 24 hC fd_3_9 fl_X4_40 dX4_clear_24 (fun v6 => ?_)
  refine r_lconst 27 hC (x := 0) ⟨by decide +kernel, r64c rfl⟩ dX4_clear_27 ?_
  refine r_callSV 28 hC [(11, v6), (1, 0)] [] rfl sl_X4_56 rfl (by decide) (Nat.le_of_ble_eq_true rfl) (by decide) (by decide) dX4_clear_28 (t_J7_fill_d0a16 v6 0 M5) (fun M7 => ?_)
  exact r_return 31 hC hq (by decide) (by decide) dX4_clear_31

/-! WaterTurns$Standing.allDebtTo(I)I -/
theorem dX4_allDebtTo_0 : decode cX4_allDebtTo 0 = .ok (.iconst 0, 1) := by decide +kernel
theorem dX4_allDebtTo_1 : decode cX4_allDebtTo 1 = .ok (.istore_n 2, 1) := by decide +kernel
theorem dX4_allDebtTo_2 : decode cX4_allDebtTo 2 = .ok (.iconst 0, 1) := by decide +kernel
theorem dX4_allDebtTo_3 : decode cX4_allDebtTo 3 = .ok (.istore_n 3, 1) := by decide +kernel
theorem dX4_allDebtTo_4 : decode cX4_allDebtTo 4 = .ok (.iload_n 3, 1) := by decide +kernel
theorem dX4_allDebtTo_5 : decode cX4_allDebtTo 5 = .ok (.bipush 10, 2) := by decide +kernel
theorem dX4_allDebtTo_7 : decode cX4_allDebtTo 7 = .ok (.if_icmp .ge 18, 3) := by decide +kernel
theorem dX4_allDebtTo_10 : decode cX4_allDebtTo 10 = .ok (.iload_n 2, 1) := by decide +kernel
theorem dX4_allDebtTo_11 : decode cX4_allDebtTo 11 = .ok (.aload_n 0, 1) := by decide +kernel
theorem dX4_allDebtTo_12 : decode cX4_allDebtTo 12 = .ok (.iload_n 3, 1) := by decide +kernel
theorem dX4_allDebtTo_13 : decode cX4_allDebtTo 13 = .ok (.iload_n 1, 1) := by decide +kernel
theorem dX4_allDebtTo_14 : decode cX4_allDebtTo 14 = .ok (.invokevirtual 59, 3) := by decide +kernel
theorem dX4_allDebtTo_17 : decode cX4_allDebtTo 17 = .ok (.iadd, 1) := by decide +kernel
theorem dX4_allDebtTo_18 : decode cX4_allDebtTo 18 = .ok (.istore_n 2, 1) := by decide +kernel
theorem dX4_allDebtTo_19 : decode cX4_allDebtTo 19 = .ok (.iinc 3 1, 3) := by decide +kernel
theorem dX4_allDebtTo_22 : decode cX4_allDebtTo 22 = .ok (.goto (-18), 3) := by decide +kernel
theorem dX4_allDebtTo_25 : decode cX4_allDebtTo 25 = .ok (.iload_n 2, 1) := by decide +kernel
theorem dX4_allDebtTo_26 : decode cX4_allDebtTo 26 = .ok (.ireturn, 1) := by decide +kernel
set_option maxRecDepth 100000 in
theorem f_X4_allDebtTo_L4_ok {E : EnvT} {C : Cx} {Mi M : Mem} {x0 : Int} (h0 : x0 ≠ 0) (hC : CxOK E C cX4_allDebtTo 4 yX4_allDebtTo.cls 2 0 0) {r0 : Int} (hq : RQ E C 0 0 Mi (some .int) (some (0, r0)) M) {x1 : Int} {k : Int → Option (Int)} (hk : ∀ q5, Bk E C 4 Mi r0 25 [(2, 0, q5)] [] M 0 0 (k q5)) : ∀ (n : Nat) (p1 : Int) (p2 : Int), Bk E C 4 Mi r0 4 [(0, 23, x0), (1, 0, x1), (2, 0, p1), (3, 0, p2)] [] M 0 0 (f_X4_allDebtTo_L4 M x0 x1 k n p1 p2) := by
  intro n
  induction n with
  | zero =>
    intro p1 p2
    exact r_none
  | succ n ih =>
    intro p1 p2
    rw [f_X4_allDebtTo_L4]
    refine r_iload_n 4 hC 3 rfl rfl dX4_allDebtTo_4 ?_
    refine r_bipush 5 hC kb_10 dX4_allDebtTo_5 ?_
    refine r_icmp_ge 7 hC (tgt := 25) (by decide) dX4_allDebtTo_7 ?_ ?_
    · exact r_sub [2] rfl (hk p1)
    · refine r_iload_n 10 hC 2 rfl rfl dX4_allDebtTo_10 ?_
      refine r_aload_n 11 hC 0 rfl (Or.inl (by decide)) rfl dX4_allDebtTo_11 ?_
      refine r_iload_n 12 hC 3 rfl rfl dX4_allDebtTo_12 ?_
      refine r_iload_n 13 hC 1 rfl rfl dX4_allDebtTo_13 ?_
      refine r_callVP 14 hC [(0, p2), (0, x1)] [(0, p1)] rfl vl_X4_59 rfl h0 (by decide) (Nat.le_of_ble_eq_true rfl) (by decide) (by decide) dX4_allDebtTo_14 (t_X4_debt x0 p2 x1 M h0) (fun v3 => ?_)
      refine r_iadd 17 hC dX4_allDebtTo_17 ?_
      refine r_istore_nL 18 hC rfl (by decide) dX4_allDebtTo_18 (fun v4 => r_eqls (ls' := [(2, 0, v4), (0, 23, x0), (1, 0, x1), (3, 0, p2)]) rfl ?_)
      refine r_iinc 19 hC 3 rfl (by decide) dX4_allDebtTo_19 (r_eqls (ls' := [(3, 0, w32 (p2 + 1)), (2, 0, v4), (0, 23, x0), (1, 0, x1)]) rfl ?_)
      refine r_goto 22 hC (tgt := 4) (by decide) dX4_allDebtTo_22 ?_
      exact r_sub [2, 3, 1, 0] rfl (ih v4 (w32 (p2 + 1)))
set_option maxRecDepth 100000 in
theorem t_X4_allDebtTo (x0 x1 : Int) (M : Mem) (h0 : x0 ≠ 0) : MtP yX4_allDebtTo cX4_allDebtTo 4 (some .int) 2 0 0 [(23, x0), (0, x1)] M 0 (f_X4_allDebtTo x0 x1 M) := by
  refine mk_P (by decide +kernel) (Nat.le_of_ble_eq_true rfl) (fun E C r0 hC hq hin => ?_)
  refine r_eqls (ls' := [(0, 23, x0), (1, 0, x1)]) rfl ?_
  unfold f_X4_allDebtTo
  refine r_iconst 0 hC (r32c rfl) dX4_allDebtTo_0 ?_
  refine r_istore_n 1 hC rfl (by decide) dX4_allDebtTo_1 (r_eqls (ls' := [(2, 0, 0), (0, 23, x0), (1, 0, x1)]) rfl ?_)
  refine r_iconst 2 hC (r32c rfl) dX4_allDebtTo_2 ?_
  refine r_istore_n 3 hC rfl (by decide) dX4_allDebtTo_3 (r_eqls (ls' := [(3, 0, 0), (2, 0, 0), (0, 23, x0), (1, 0, x1)]) rfl ?_)
  refine r_sub [2, 3, 1, 0] rfl (f_X4_allDebtTo_L4_ok h0 hC hq (fun q6 => ?_) KF 0 0)
  · refine r_iload_n 25 hC 0 rfl rfl dX4_allDebtTo_25 ?_
    exact r_ireturnP 26 hC hq (by decide) (by decide) dX4_allDebtTo_26

/-! WaterTurns$Sweep.<init>()V -/
theorem dX5_init_0 : decode cX5_init 0 = .ok (.aload_n 0, 1) := by decide +kernel
theorem dX5_init_1 : decode cX5_init 1 = .ok (.invokespecial 3, 3) := by decide +kernel
theorem dX5_init_4 : decode cX5_init 4 = .ok (.aload_n 0, 1) := by decide +kernel
theorem dX5_init_5 : decode cX5_init 5 = .ok (.new 9, 3) := by decide +kernel
theorem dX5_init_8 : decode cX5_init 8 = .ok (.dup, 1) := by decide +kernel
theorem dX5_init_9 : decode cX5_init 9 = .ok (.invokespecial 11, 3) := by decide +kernel
theorem dX5_init_12 : decode cX5_init 12 = .ok (.putfield 12, 3) := by decide +kernel
theorem dX5_init_15 : decode cX5_init 15 = .ok (.aload_n 0, 1) := by decide +kernel
theorem dX5_init_16 : decode cX5_init 16 = .ok (.bipush 10, 2) := by decide +kernel
theorem dX5_init_18 : decode cX5_init 18 = .ok (.newarray .long, 2) := by decide +kernel
theorem dX5_init_20 : decode cX5_init 20 = .ok (.putfield 18, 3) := by decide +kernel
theorem dX5_init_23 : decode cX5_init 23 = .ok (.aload_n 0, 1) := by decide +kernel
theorem dX5_init_24 : decode cX5_init 24 = .ok (.bipush 10, 2) := by decide +kernel
theorem dX5_init_26 : decode cX5_init 26 = .ok (.newarray .long, 2) := by decide +kernel
theorem dX5_init_28 : decode cX5_init 28 = .ok (.putfield 22, 3) := by decide +kernel
theorem dX5_init_31 : decode cX5_init 31 = .ok (.aload_n 0, 1) := by decide +kernel
theorem dX5_init_32 : decode cX5_init 32 = .ok (.bipush 10, 2) := by decide +kernel
theorem dX5_init_34 : decode cX5_init 34 = .ok (.newarray .long, 2) := by decide +kernel
theorem dX5_init_36 : decode cX5_init 36 = .ok (.putfield 25, 3) := by decide +kernel
theorem dX5_init_39 : decode cX5_init 39 = .ok (.aload_n 0, 1) := by decide +kernel
theorem dX5_init_40 : decode cX5_init 40 = .ok (.bipush 10, 2) := by decide +kernel
theorem dX5_init_42 : decode cX5_init 42 = .ok (.newarray .int, 2) := by decide +kernel
theorem dX5_init_44 : decode cX5_init 44 = .ok (.putfield 28, 3) := by decide +kernel
theorem dX5_init_47 : decode cX5_init 47 = .ok (.aload_n 0, 1) := by decide +kernel
theorem dX5_init_48 : decode cX5_init 48 = .ok (.bipush 10, 2) := by decide +kernel
theorem dX5_init_50 : decode cX5_init 50 = .ok (.newarray .int, 2) := by decide +kernel
theorem dX5_init_52 : decode cX5_init 52 = .ok (.putfield 32, 3) := by decide +kernel
theorem dX5_init_55 : decode cX5_init 55 = .ok (.aload_n 0, 1) := by decide +kernel
theorem dX5_init_56 : decode cX5_init 56 = .ok (.bipush 10, 2) := by decide +kernel
theorem dX5_init_58 : decode cX5_init 58 = .ok (.newarray .int, 2) := by decide +kernel
theorem dX5_init_60 : decode cX5_init 60 = .ok (.putfield 35, 3) := by decide +kernel
theorem dX5_init_63 : decode cX5_init 63 = .ok (.aload_n 0, 1) := by decide +kernel
theorem dX5_init_64 : decode cX5_init 64 = .ok (.bipush 10, 2) := by decide +kernel
theorem dX5_init_66 : decode cX5_init 66 = .ok (.newarray .int, 2) := by decide +kernel
theorem dX5_init_68 : decode cX5_init 68 = .ok (.putfield 38, 3) := by decide +kernel
theorem dX5_init_71 : decode cX5_init 71 = .ok (.aload_n 0, 1) := by decide +kernel
theorem dX5_init_72 : decode cX5_init 72 = .ok (.iconst 0, 1) := by decide +kernel
theorem dX5_init_73 : decode cX5_init 73 = .ok (.putfield 41, 3) := by decide +kernel
theorem dX5_init_76 : decode cX5_init 76 = .ok (.aload_n 0, 1) := by decide +kernel
theorem dX5_init_77 : decode cX5_init 77 = .ok (.bipush 42, 2) := by decide +kernel
theorem dX5_init_79 : decode cX5_init 79 = .ok (.newarray .int, 2) := by decide +kernel
theorem dX5_init_81 : decode cX5_init 81 = .ok (.putfield 45, 3) := by decide +kernel
theorem dX5_init_84 : decode cX5_init 84 = .ok (.aload_n 0, 1) := by decide +kernel
theorem dX5_init_85 : decode cX5_init 85 = .ok (.bipush 42, 2) := by decide +kernel
theorem dX5_init_87 : decode cX5_init 87 = .ok (.newarray .int, 2) := by decide +kernel
theorem dX5_init_89 : decode cX5_init 89 = .ok (.putfield 48, 3) := by decide +kernel
theorem dX5_init_92 : decode cX5_init 92 = .ok (.aload_n 0, 1) := by decide +kernel
theorem dX5_init_93 : decode cX5_init 93 = .ok (.bipush 42, 2) := by decide +kernel
theorem dX5_init_95 : decode cX5_init 95 = .ok (.newarray .int, 2) := by decide +kernel
theorem dX5_init_97 : decode cX5_init 97 = .ok (.putfield 51, 3) := by decide +kernel
theorem dX5_init_100 : decode cX5_init 100 = .ok (.aload_n 0, 1) := by decide +kernel
theorem dX5_init_101 : decode cX5_init 101 = .ok (.bipush 42, 2) := by decide +kernel
theorem dX5_init_103 : decode cX5_init 103 = .ok (.newarray .boolean, 2) := by decide +kernel
theorem dX5_init_105 : decode cX5_init 105 = .ok (.putfield 54, 3) := by decide +kernel
theorem dX5_init_108 : decode cX5_init 108 = .ok (.return_, 1) := by decide +kernel
set_option maxRecDepth 100000 in
theorem t_X5_init (x0 : Int) (M : Mem) (h0 : x0 ≠ 0) : MtV yX5_init cX5_init 1 none 2 18 341 [(24, x0)] M (f_X5_init x0 M) := by
  refine mk_V (by decide +kernel) (Nat.le_of_ble_eq_true rfl) (fun E C M0 hC hq hin => ?_)
  refine r_eqls (ls' := [(0, 24, x0)]) rfl ?_
  unfold f_X5_init
  refine r_aload_n 0 hC 0 rfl (Or.inl (by decide)) rfl dX5_init_0 ?_
  refine r_objinit 1 hC ob_X5_3 obj_i obj_c (by decide) h0 (by decide) (Nat.le_of_ble_eq_true rfl) dX5_init_1 ?_
  refine r_aload_n 4 hC 0 rfl (Or.inl (by decide)) rfl dX5_init_4 ?_
  refine r_new 5 hC cl_2 rfl (by decide) cq_X5_9 in_X3 ini_X3 (by decide) (by decide) dX5_init_5 (fun v1 M2 => ?_)
  refine r_dup 8 hC (by decide) dX5_init_8 ?_
  refine r_nn (fun hn3 => ?_)
  refine r_ctor 9 hC il_X5_11 (by decide) hn3 (by decide) (Nat.le_of_ble_eq_true rfl) (by decide) (by decide) dX5_init_9 (t_X3_init v1 M2 hn3) (fun M4 => ?_)
  refine r_putF 12 hC hin fd_4_0 fl_X5_12 dX5_init_12 (fun M5 => ?_)
  refine r_aload_n 15 hC 0 rfl (Or.inl (by decide)) rfl dX5_init_15 ?_
  refine r_bipush 16 hC kb_10 dX5_init_16 ?_
  refine r_newa 18 hC (N := 10) rfl (by decide) (by decide) (by decide) rfl (fun _ _ => Iff.rfl) nad_11 (fun _ => nao_11) (by decide) nac_11 (by decide) (by decide) dX5_init_18 (fun v6 M7 => ?_)
  refine r_putF 20 hC hin fd_4_1 fl_X5_18 dX5_init_20 (fun M8 => ?_)
  refine r_aload_n 23 hC 0 rfl (Or.inl (by decide)) rfl dX5_init_23 ?_
  refine r_bipush 24 hC kb_10 dX5_init_24 ?_
  refine r_newa 26 hC (N := 10) rfl (by decide) (by decide) (by decide) rfl (fun _ _ => Iff.rfl) nad_11 (fun _ => nao_11) (by decide) nac_11 (by decide) (by decide) dX5_init_26 (fun v9 M10 => ?_)
  refine r_putF 28 hC hin fd_4_2 fl_X5_22 dX5_init_28 (fun M11 => ?_)
  refine r_aload_n 31 hC 0 rfl (Or.inl (by decide)) rfl dX5_init_31 ?_
  refine r_bipush 32 hC kb_10 dX5_init_32 ?_
  refine r_newa 34 hC (N := 10) rfl (by decide) (by decide) (by decide) rfl (fun _ _ => Iff.rfl) nad_11 (fun _ => nao_11) (by decide) nac_11 (by decide) (by decide) dX5_init_34 (fun v12 M13 => ?_)
  refine r_putF 36 hC hin fd_4_3 fl_X5_25 dX5_init_36 (fun M14 => ?_)
  refine r_aload_n 39 hC 0 rfl (Or.inl (by decide)) rfl dX5_init_39 ?_
  refine r_bipush 40 hC kb_10 dX5_init_40 ?_
  refine r_newa 42 hC (N := 10) rfl (by decide) (by decide) (by decide) rfl (fun _ _ => Iff.rfl) nad_10 (fun _ => nao_10) (by decide) nac_10 (by decide) (by decide) dX5_init_42 (fun v15 M16 => ?_)
  refine r_putF 44 hC hin fd_4_4 fl_X5_28 dX5_init_44 (fun M17 => ?_)
  refine r_aload_n 47 hC 0 rfl (Or.inl (by decide)) rfl dX5_init_47 ?_
  refine r_bipush 48 hC kb_10 dX5_init_48 ?_
  refine r_newa 50 hC (N := 10) rfl (by decide) (by decide) (by decide) rfl (fun _ _ => Iff.rfl) nad_10 (fun _ => nao_10) (by decide) nac_10 (by decide) (by decide) dX5_init_50 (fun v18 M19 => ?_)
  refine r_putF 52 hC hin fd_4_5 fl_X5_32 dX5_init_52 (fun M20 => ?_)
  refine r_aload_n 55 hC 0 rfl (Or.inl (by decide)) rfl dX5_init_55 ?_
  refine r_bipush 56 hC kb_10 dX5_init_56 ?_
  refine r_newa 58 hC (N := 10) rfl (by decide) (by decide) (by decide) rfl (fun _ _ => Iff.rfl) nad_10 (fun _ => nao_10) (by decide) nac_10 (by decide) (by decide) dX5_init_58 (fun v21 M22 => ?_)
  refine r_putF 60 hC hin fd_4_6 fl_X5_35 dX5_init_60 (fun M23 => ?_)
  refine r_aload_n 63 hC 0 rfl (Or.inl (by decide)) rfl dX5_init_63 ?_
  refine r_bipush 64 hC kb_10 dX5_init_64 ?_
  refine r_newa 66 hC (N := 10) rfl (by decide) (by decide) (by decide) rfl (fun _ _ => Iff.rfl) nad_10 (fun _ => nao_10) (by decide) nac_10 (by decide) (by decide) dX5_init_66 (fun v24 M25 => ?_)
  refine r_putF 68 hC hin fd_4_7 fl_X5_38 dX5_init_68 (fun M26 => ?_)
  refine r_aload_n 71 hC 0 rfl (Or.inl (by decide)) rfl dX5_init_71 ?_
  refine r_iconst 72 hC (r32c rfl) dX5_init_72 ?_
  refine r_put 73 hC fd_4_8 fl_X5_41 dX5_init_73 (fun M27 => ?_)
  refine r_aload_n 76 hC 0 rfl (Or.inl (by decide)) rfl dX5_init_76 ?_
  refine r_bipush 77 hC kb_42 dX5_init_77 ?_
  refine r_newa 79 hC (N := 42) rfl (by decide) (by decide) (by decide) rfl (fun _ _ => Iff.rfl) nad_10 (fun _ => nao_10) (by decide) nac_10 (by decide) (by decide) dX5_init_79 (fun v28 M29 => ?_)
  refine r_putF 81 hC hin fd_4_9 fl_X5_45 dX5_init_81 (fun M30 => ?_)
  refine r_aload_n 84 hC 0 rfl (Or.inl (by decide)) rfl dX5_init_84 ?_
  refine r_bipush 85 hC kb_42 dX5_init_85 ?_
  refine r_newa 87 hC (N := 42) rfl (by decide) (by decide) (by decide) rfl (fun _ _ => Iff.rfl) nad_10 (fun _ => nao_10) (by decide) nac_10 (by decide) (by decide) dX5_init_87 (fun v31 M32 => ?_)
  refine r_putF 89 hC hin fd_4_10 fl_X5_48 dX5_init_89 (fun M33 => ?_)
  refine r_aload_n 92 hC 0 rfl (Or.inl (by decide)) rfl dX5_init_92 ?_
  refine r_bipush 93 hC kb_42 dX5_init_93 ?_
  refine r_newa 95 hC (N := 42) rfl (by decide) (by decide) (by decide) rfl (fun _ _ => Iff.rfl) nad_10 (fun _ => nao_10) (by decide) nac_10 (by decide) (by decide) dX5_init_95 (fun v34 M35 => ?_)
  refine r_putF 97 hC hin fd_4_11 fl_X5_51 dX5_init_97 (fun M36 => ?_)
  refine r_aload_n 100 hC 0 rfl (Or.inl (by decide)) rfl dX5_init_100 ?_
  refine r_bipush 101 hC kb_42 dX5_init_101 ?_
  refine r_newa 103 hC (N := 42) rfl (by decide) (by decide) (by decide) rfl (fun _ _ => Iff.rfl) nad_13 (fun _ => nao_13) (by decide) nac_13 (by decide) (by decide) dX5_init_103 (fun v37 M38 => ?_)
  refine r_putF 105 hC hin fd_4_12 fl_X5_54 dX5_init_105 (fun M39 => ?_)
  exact r_return 108 hC hq (by decide) (by decide) dX5_init_108

/-! WaterTurns$Sweep.waterIn(LWaterTurns$Valley;I)J -/
theorem dX5_waterIn_0 : decode cX5_waterIn 0 = .ok (.lconst 0, 1) := by decide +kernel
theorem dX5_waterIn_1 : decode cX5_waterIn 1 = .ok (.lstore_n 3, 1) := by decide +kernel
theorem dX5_waterIn_2 : decode cX5_waterIn 2 = .ok (.iconst 0, 1) := by decide +kernel
theorem dX5_waterIn_3 : decode cX5_waterIn 3 = .ok (.istore 5, 2) := by decide +kernel
theorem dX5_waterIn_5 : decode cX5_waterIn 5 = .ok (.iload 5, 2) := by decide +kernel
theorem dX5_waterIn_7 : decode cX5_waterIn 7 = .ok (.aload_n 1, 1) := by decide +kernel
theorem dX5_waterIn_8 : decode cX5_waterIn 8 = .ok (.getfield 150, 3) := by decide +kernel
theorem dX5_waterIn_11 : decode cX5_waterIn 11 = .ok (.if_icmp .ge 33, 3) := by decide +kernel
theorem dX5_waterIn_14 : decode cX5_waterIn 14 = .ok (.lload_n 3, 1) := by decide +kernel
theorem dX5_waterIn_15 : decode cX5_waterIn 15 = .ok (.iload_n 2, 1) := by decide +kernel
theorem dX5_waterIn_16 : decode cX5_waterIn 16 = .ok (.iload 5, 2) := by decide +kernel
theorem dX5_waterIn_18 : decode cX5_waterIn 18 = .ok (.ishr, 1) := by decide +kernel
theorem dX5_waterIn_19 : decode cX5_waterIn 19 = .ok (.iconst 1, 1) := by decide +kernel
theorem dX5_waterIn_20 : decode cX5_waterIn 20 = .ok (.iand, 1) := by decide +kernel
theorem dX5_waterIn_21 : decode cX5_waterIn 21 = .ok (.iconst 1, 1) := by decide +kernel
theorem dX5_waterIn_22 : decode cX5_waterIn 22 = .ok (.if_icmp .ne 13, 3) := by decide +kernel
theorem dX5_waterIn_25 : decode cX5_waterIn 25 = .ok (.aload_n 0, 1) := by decide +kernel
theorem dX5_waterIn_26 : decode cX5_waterIn 26 = .ok (.aload_n 1, 1) := by decide +kernel
theorem dX5_waterIn_27 : decode cX5_waterIn 27 = .ok (.iload 5, 2) := by decide +kernel
theorem dX5_waterIn_29 : decode cX5_waterIn 29 = .ok (.invokevirtual 153, 3) := by decide +kernel
theorem dX5_waterIn_32 : decode cX5_waterIn 32 = .ok (.goto 4, 3) := by decide +kernel
theorem dX5_waterIn_35 : decode cX5_waterIn 35 = .ok (.lconst 0, 1) := by decide +kernel
theorem dX5_waterIn_36 : decode cX5_waterIn 36 = .ok (.ladd, 1) := by decide +kernel
theorem dX5_waterIn_37 : decode cX5_waterIn 37 = .ok (.lstore_n 3, 1) := by decide +kernel
theorem dX5_waterIn_38 : decode cX5_waterIn 38 = .ok (.iinc 5 1, 3) := by decide +kernel
theorem dX5_waterIn_41 : decode cX5_waterIn 41 = .ok (.goto (-36), 3) := by decide +kernel
theorem dX5_waterIn_44 : decode cX5_waterIn 44 = .ok (.lload_n 3, 1) := by decide +kernel
theorem dX5_waterIn_45 : decode cX5_waterIn 45 = .ok (.lreturn, 1) := by decide +kernel
set_option maxRecDepth 100000 in
theorem f_X5_waterIn_L5_ok {E : EnvT} {C : Cx} {Mi M : Mem} {x0 : Int} (h0 : x0 ≠ 0) (hC : CxOK E C cX5_waterIn 6 yX5_waterIn.cls 3 0 0) {r0 : Int} (hq : RQ E C 0 0 Mi (some .long) (some (1, r0)) M) {x1 x2 : Int} {k : Int → Option (Int)} (hk : ∀ q7, Bk E C 6 Mi r0 44 [(3, 1, q7)] [] M 0 0 (k q7)) : ∀ (n : Nat) (p1 : Int) (p2 : Int), Bk E C 6 Mi r0 5 [(0, 24, x0), (1, 27, x1), (2, 0, x2), (3, 1, p1), (5, 0, p2)] [] M 0 0 (f_X5_waterIn_L5 M x0 x1 x2 k n p1 p2) := by
  intro n
  induction n with
  | zero =>
    intro p1 p2
    exact r_none
  | succ n ih =>
    intro p1 p2
    rw [f_X5_waterIn_L5]
    refine r_iload 5 hC 4 rfl dX5_waterIn_5 ?_
    refine r_aload_n 7 hC 1 rfl (Or.inl (by decide)) rfl dX5_waterIn_7 ?_
    refine r_get 8 hC fd_7_5 fl_X5_150 dX5_waterIn_8 (fun v3 => ?_)
    refine r_icmp_ge 11 hC (tgt := 44) (by decide) dX5_waterIn_11 ?_ ?_
    · exact r_sub [3] rfl (hk p1)
    · refine r_lload_n 14 hC 3 rfl rfl dX5_waterIn_14 ?_
      refine r_iload_n 15 hC 2 rfl rfl dX5_waterIn_15 ?_
      refine r_iload 16 hC 4 rfl dX5_waterIn_16 ?_
      refine r_ishr 18 hC dX5_waterIn_18 ?_
      refine r_iconst 19 hC (r32c rfl) dX5_waterIn_19 ?_
      refine r_iand 20 hC dX5_waterIn_20 ?_
      refine r_iconst 21 hC (r32c rfl) dX5_waterIn_21 ?_
      refine r_jn (P := fun j36 => ∀ (q4 : Int), Bk E C 6 Mi r0 36 [(0, 24, x0), (1, 27, x1), (2, 0, x2), (5, 0, p2)] [(1, q4), (1, p1)] M 0 0 (j36 q4)) ?_ (fun j36 hj36 => ?_)
      · intro q4
        refine r_ladd 36 hC dX5_waterIn_36 ?_
        refine r_lstore_nL 37 hC rfl (by decide) dX5_waterIn_37 (fun v5 => r_eqls (ls' := [(3, 1, v5), (0, 24, x0), (1, 27, x1), (2, 0, x2), (5, 0, p2)]) rfl ?_)
        refine r_iinc 38 hC 4 rfl (by decide) dX5_waterIn_38 (r_eqls (ls' := [(5, 0, w32 (p2 + 1)), (3, 1, v5), (0, 24, x0), (1, 27, x1), (2, 0, x2)]) rfl ?_)
        refine r_goto 41 hC (tgt := 5) (by decide) dX5_waterIn_41 ?_
        exact r_sub [2, 3, 4, 1, 0] rfl (ih v5 (w32 (p2 + 1)))
      refine r_icmp_ne 22 hC (tgt := 35) (by decide) dX5_waterIn_22 ?_ ?_
      · refine r_lconst 35 hC (x := 0) ⟨by decide +kernel, r64c rfl⟩ dX5_waterIn_35 ?_
        exact r_sub [0, 1, 2, 4] rfl (hj36 0)
      · refine r_aload_n 25 hC 0 rfl (Or.inl (by decide)) rfl dX5_waterIn_25 ?_
        refine r_aload_n 26 hC 1 rfl (Or.inl (by decide)) rfl dX5_waterIn_26 ?_
        refine r_iload 27 hC 4 rfl dX5_waterIn_27 ?_
        refine r_callVP 29 hC [(27, x1), (0, p2)] [(1, p1)] rfl vl_X5_153 rfl h0 (by decide) (Nat.le_of_ble_eq_true rfl) (by decide) (by decide) dX5_waterIn_29 (t_X5_gets x0 x1 p2 M h0) (fun v6 => ?_)
        refine r_goto 32 hC (tgt := 36) (by decide) dX5_waterIn_32 ?_
        exact r_sub [0, 1, 2, 4] rfl (hj36 v6)
set_option maxRecDepth 100000 in
theorem t_X5_waterIn (x0 x1 x2 : Int) (M : Mem) (h0 : x0 ≠ 0) : MtP yX5_waterIn cX5_waterIn 6 (some .long) 3 0 0 [(24, x0), (27, x1), (0, x2)] M 1 (f_X5_waterIn x0 x1 x2 M) := by
  refine mk_P (by decide +kernel) (Nat.le_of_ble_eq_true rfl) (fun E C r0 hC hq hin => ?_)
  refine r_eqls (ls' := [(0, 24, x0), (1, 27, x1), (2, 0, x2)]) rfl ?_
  unfold f_X5_waterIn
  refine r_lconst 0 hC (x := 0) ⟨by decide +kernel, r64c rfl⟩ dX5_waterIn_0 ?_
  refine r_lstore_n 1 hC rfl (by decide) dX5_waterIn_1 (r_eqls (ls' := [(3, 1, 0), (0, 24, x0), (1, 27, x1), (2, 0, x2)]) rfl ?_)
  refine r_iconst 2 hC (r32c rfl) dX5_waterIn_2 ?_
  refine r_istore 3 hC (by decide) dX5_waterIn_3 (r_eqls (ls' := [(5, 0, 0), (3, 1, 0), (0, 24, x0), (1, 27, x1), (2, 0, x2)]) rfl ?_)
  refine r_sub [2, 3, 4, 1, 0] rfl (f_X5_waterIn_L5_ok h0 hC hq (fun q8 => ?_) KF 0 0)
  · refine r_lload_n 44 hC 0 rfl rfl dX5_waterIn_44 ?_
    exact r_lreturnP 45 hC hq (by decide) (by decide) dX5_waterIn_45

/-! WaterTurns$Sweep.allWater(LWaterTurns$Valley;)J -/
theorem dX5_allWater_0 : decode cX5_allWater 0 = .ok (.aload_n 0, 1) := by decide +kernel
theorem dX5_allWater_1 : decode cX5_allWater 1 = .ok (.aload_n 1, 1) := by decide +kernel
theorem dX5_allWater_2 : decode cX5_allWater 2 = .ok (.iconst (-1), 1) := by decide +kernel
theorem dX5_allWater_3 : decode cX5_allWater 3 = .ok (.invokevirtual 156, 3) := by decide +kernel
theorem dX5_allWater_6 : decode cX5_allWater 6 = .ok (.lreturn, 1) := by decide +kernel
set_option maxRecDepth 100000 in
theorem t_X5_allWater (x0 x1 : Int) (M : Mem) (h0 : x0 ≠ 0) : MtP yX5_allWater cX5_allWater 2 (some .long) 4 0 0 [(24, x0), (27, x1)] M 1 (f_X5_allWater x0 x1 M) := by
  refine mk_P (by decide +kernel) (Nat.le_of_ble_eq_true rfl) (fun E C r0 hC hq hin => ?_)
  refine r_eqls (ls' := [(0, 24, x0), (1, 27, x1)]) rfl ?_
  unfold f_X5_allWater
  refine r_aload_n 0 hC 0 rfl (Or.inl (by decide)) rfl dX5_allWater_0 ?_
  refine r_aload_n 1 hC 1 rfl (Or.inl (by decide)) rfl dX5_allWater_1 ?_
  refine r_iconst 2 hC (r32c rfl) dX5_allWater_2 ?_
  refine r_callVP 3 hC [(27, x1), (0, (-1))] [] rfl vl_X5_156 rfl h0 (by decide) (Nat.le_of_ble_eq_true rfl) (by decide) (by decide) dX5_allWater_3 (t_X5_waterIn x0 x1 (-1) M h0) (fun v1 => ?_)
  exact r_lreturnP 6 hC hq (by decide) (by decide) dX5_allWater_6

/-! WaterTurns$Sweep.losesAt(I)J -/
theorem dX5_losesAt_0 : decode cX5_losesAt 0 = .ok (.aload_n 0, 1) := by decide +kernel
theorem dX5_losesAt_1 : decode cX5_losesAt 1 = .ok (.getfield 22, 3) := by decide +kernel
theorem dX5_losesAt_4 : decode cX5_losesAt 4 = .ok (.iload_n 1, 1) := by decide +kernel
theorem dX5_losesAt_5 : decode cX5_losesAt 5 = .ok (.laload, 1) := by decide +kernel
theorem dX5_losesAt_6 : decode cX5_losesAt 6 = .ok (.aload_n 0, 1) := by decide +kernel
theorem dX5_losesAt_7 : decode cX5_losesAt 7 = .ok (.getfield 25, 3) := by decide +kernel
theorem dX5_losesAt_10 : decode cX5_losesAt 10 = .ok (.iload_n 1, 1) := by decide +kernel
theorem dX5_losesAt_11 : decode cX5_losesAt 11 = .ok (.laload, 1) := by decide +kernel
theorem dX5_losesAt_12 : decode cX5_losesAt 12 = .ok (.lsub, 1) := by decide +kernel
theorem dX5_losesAt_13 : decode cX5_losesAt 13 = .ok (.aload_n 0, 1) := by decide +kernel
theorem dX5_losesAt_14 : decode cX5_losesAt 14 = .ok (.getfield 28, 3) := by decide +kernel
theorem dX5_losesAt_17 : decode cX5_losesAt 17 = .ok (.iload_n 1, 1) := by decide +kernel
theorem dX5_losesAt_18 : decode cX5_losesAt 18 = .ok (.iaload, 1) := by decide +kernel
theorem dX5_losesAt_19 : decode cX5_losesAt 19 = .ok (.i2l, 1) := by decide +kernel
theorem dX5_losesAt_20 : decode cX5_losesAt 20 = .ok (.lmul, 1) := by decide +kernel
theorem dX5_losesAt_21 : decode cX5_losesAt 21 = .ok (.lreturn, 1) := by decide +kernel
set_option maxRecDepth 100000 in
theorem t_X5_losesAt (x0 x1 : Int) (M : Mem) (h0 : x0 ≠ 0) : MtP yX5_losesAt cX5_losesAt 2 (some .long) 1 0 0 [(24, x0), (0, x1)] M 1 (f_X5_losesAt x0 x1 M) := by
  refine mk_P (by decide +kernel) (Nat.le_of_ble_eq_true rfl) (fun E C r0 hC hq hin => ?_)
  refine r_eqls (ls' := [(0, 24, x0), (1, 0, x1)]) rfl ?_
  unfold f_X5_losesAt
  refine r_aload_n 0 hC 0 rfl (Or.inl (by decide)) rfl dX5_losesAt_0 ?_
  refine r_get 1 hC fd_4_2 fl_X5_22 dX5_losesAt_1 (fun v1 => ?_)
  refine r_iload_n 4 hC 1 rfl rfl dX5_losesAt_4 ?_
  refine r_laload 5 hC dX5_losesAt_5 (fun v2 => ?_)
  refine r_aload_n 6 hC 0 rfl (Or.inl (by decide)) rfl dX5_losesAt_6 ?_
  refine r_get 7 hC fd_4_3 fl_X5_25 dX5_losesAt_7 (fun v3 => ?_)
  refine r_iload_n 10 hC 1 rfl rfl dX5_losesAt_10 ?_
  refine r_laload 11 hC dX5_losesAt_11 (fun v4 => ?_)
  refine r_lsub 12 hC dX5_losesAt_12 ?_
  refine r_aload_n 13 hC 0 rfl (Or.inl (by decide)) rfl dX5_losesAt_13 ?_
  refine r_get 14 hC fd_4_4 fl_X5_28 dX5_losesAt_14 (fun v5 => ?_)
  refine r_iload_n 17 hC 1 rfl rfl dX5_losesAt_17 ?_
  refine r_iaload 18 hC dX5_losesAt_18 (fun v6 => ?_)
  refine r_i2l 19 hC dX5_losesAt_19 ?_
  refine r_lmul 20 hC dX5_losesAt_20 ?_
  exact r_lreturnP 21 hC hq (by decide) (by decide) dX5_losesAt_21

/-! WaterTurns$Sweep.spillsAt(I)J -/
theorem dX5_spillsAt_0 : decode cX5_spillsAt 0 = .ok (.aload_n 0, 1) := by decide +kernel
theorem dX5_spillsAt_1 : decode cX5_spillsAt 1 = .ok (.getfield 18, 3) := by decide +kernel
theorem dX5_spillsAt_4 : decode cX5_spillsAt 4 = .ok (.iload_n 1, 1) := by decide +kernel
theorem dX5_spillsAt_5 : decode cX5_spillsAt 5 = .ok (.laload, 1) := by decide +kernel
theorem dX5_spillsAt_6 : decode cX5_spillsAt 6 = .ok (.aload_n 0, 1) := by decide +kernel
theorem dX5_spillsAt_7 : decode cX5_spillsAt 7 = .ok (.getfield 22, 3) := by decide +kernel
theorem dX5_spillsAt_10 : decode cX5_spillsAt 10 = .ok (.iload_n 1, 1) := by decide +kernel
theorem dX5_spillsAt_11 : decode cX5_spillsAt 11 = .ok (.laload, 1) := by decide +kernel
theorem dX5_spillsAt_12 : decode cX5_spillsAt 12 = .ok (.lsub, 1) := by decide +kernel
theorem dX5_spillsAt_13 : decode cX5_spillsAt 13 = .ok (.aload_n 0, 1) := by decide +kernel
theorem dX5_spillsAt_14 : decode cX5_spillsAt 14 = .ok (.getfield 28, 3) := by decide +kernel
theorem dX5_spillsAt_17 : decode cX5_spillsAt 17 = .ok (.iload_n 1, 1) := by decide +kernel
theorem dX5_spillsAt_18 : decode cX5_spillsAt 18 = .ok (.iaload, 1) := by decide +kernel
theorem dX5_spillsAt_19 : decode cX5_spillsAt 19 = .ok (.i2l, 1) := by decide +kernel
theorem dX5_spillsAt_20 : decode cX5_spillsAt 20 = .ok (.lmul, 1) := by decide +kernel
theorem dX5_spillsAt_21 : decode cX5_spillsAt 21 = .ok (.aload_n 0, 1) := by decide +kernel
theorem dX5_spillsAt_22 : decode cX5_spillsAt 22 = .ok (.getfield 18, 3) := by decide +kernel
theorem dX5_spillsAt_25 : decode cX5_spillsAt 25 = .ok (.iload_n 1, 1) := by decide +kernel
theorem dX5_spillsAt_26 : decode cX5_spillsAt 26 = .ok (.laload, 1) := by decide +kernel
theorem dX5_spillsAt_27 : decode cX5_spillsAt 27 = .ok (.aload_n 0, 1) := by decide +kernel
theorem dX5_spillsAt_28 : decode cX5_spillsAt 28 = .ok (.getfield 32, 3) := by decide +kernel
theorem dX5_spillsAt_31 : decode cX5_spillsAt 31 = .ok (.iload_n 1, 1) := by decide +kernel
theorem dX5_spillsAt_32 : decode cX5_spillsAt 32 = .ok (.iaload, 1) := by decide +kernel
theorem dX5_spillsAt_33 : decode cX5_spillsAt 33 = .ok (.i2l, 1) := by decide +kernel
theorem dX5_spillsAt_34 : decode cX5_spillsAt 34 = .ok (.lmul, 1) := by decide +kernel
theorem dX5_spillsAt_35 : decode cX5_spillsAt 35 = .ok (.ladd, 1) := by decide +kernel
theorem dX5_spillsAt_36 : decode cX5_spillsAt 36 = .ok (.lreturn, 1) := by decide +kernel
set_option maxRecDepth 100000 in
theorem t_X5_spillsAt (x0 x1 : Int) (M : Mem) (h0 : x0 ≠ 0) : MtP yX5_spillsAt cX5_spillsAt 2 (some .long) 1 0 0 [(24, x0), (0, x1)] M 1 (f_X5_spillsAt x0 x1 M) := by
  refine mk_P (by decide +kernel) (Nat.le_of_ble_eq_true rfl) (fun E C r0 hC hq hin => ?_)
  refine r_eqls (ls' := [(0, 24, x0), (1, 0, x1)]) rfl ?_
  unfold f_X5_spillsAt
  refine r_aload_n 0 hC 0 rfl (Or.inl (by decide)) rfl dX5_spillsAt_0 ?_
  refine r_get 1 hC fd_4_1 fl_X5_18 dX5_spillsAt_1 (fun v1 => ?_)
  refine r_iload_n 4 hC 1 rfl rfl dX5_spillsAt_4 ?_
  refine r_laload 5 hC dX5_spillsAt_5 (fun v2 => ?_)
  refine r_aload_n 6 hC 0 rfl (Or.inl (by decide)) rfl dX5_spillsAt_6 ?_
  refine r_get 7 hC fd_4_2 fl_X5_22 dX5_spillsAt_7 (fun v3 => ?_)
  refine r_iload_n 10 hC 1 rfl rfl dX5_spillsAt_10 ?_
  refine r_laload 11 hC dX5_spillsAt_11 (fun v4 => ?_)
  refine r_lsub 12 hC dX5_spillsAt_12 ?_
  refine r_aload_n 13 hC 0 rfl (Or.inl (by decide)) rfl dX5_spillsAt_13 ?_
  refine r_get 14 hC fd_4_4 fl_X5_28 dX5_spillsAt_14 (fun v5 => ?_)
  refine r_iload_n 17 hC 1 rfl rfl dX5_spillsAt_17 ?_
  refine r_iaload 18 hC dX5_spillsAt_18 (fun v6 => ?_)
  refine r_i2l 19 hC dX5_spillsAt_19 ?_
  refine r_lmul 20 hC dX5_spillsAt_20 ?_
  refine r_aload_n 21 hC 0 rfl (Or.inl (by decide)) rfl dX5_spillsAt_21 ?_
  refine r_get 22 hC fd_4_1 fl_X5_18 dX5_spillsAt_22 (fun v7 => ?_)
  refine r_iload_n 25 hC 1 rfl rfl dX5_spillsAt_25 ?_
  refine r_laload 26 hC dX5_spillsAt_26 (fun v8 => ?_)
  refine r_aload_n 27 hC 0 rfl (Or.inl (by decide)) rfl dX5_spillsAt_27 ?_
  refine r_get 28 hC fd_4_5 fl_X5_32 dX5_spillsAt_28 (fun v9 => ?_)
  refine r_iload_n 31 hC 1 rfl rfl dX5_spillsAt_31 ?_
  refine r_iaload 32 hC dX5_spillsAt_32 (fun v10 => ?_)
  refine r_i2l 33 hC dX5_spillsAt_33 ?_
  refine r_lmul 34 hC dX5_spillsAt_34 ?_
  refine r_ladd 35 hC dX5_spillsAt_35 ?_
  exact r_lreturnP 36 hC hq (by decide) (by decide) dX5_spillsAt_36

/-! WaterTurns$Sweep.isWet(LWaterTurns$Valley;I)Z -/
theorem dX5_isWet_0 : decode cX5_isWet 0 = .ok (.aload_n 0, 1) := by decide +kernel
theorem dX5_isWet_1 : decode cX5_isWet 1 = .ok (.getfield 54, 3) := by decide +kernel
theorem dX5_isWet_4 : decode cX5_isWet 4 = .ok (.iload_n 2, 1) := by decide +kernel
theorem dX5_isWet_5 : decode cX5_isWet 5 = .ok (.baload, 1) := by decide +kernel
theorem dX5_isWet_6 : decode cX5_isWet 6 = .ok (.ifCond .eq 23, 3) := by decide +kernel
theorem dX5_isWet_9 : decode cX5_isWet 9 = .ok (.aload_n 0, 1) := by decide +kernel
theorem dX5_isWet_10 : decode cX5_isWet 10 = .ok (.aload_n 1, 1) := by decide +kernel
theorem dX5_isWet_11 : decode cX5_isWet 11 = .ok (.aload_n 0, 1) := by decide +kernel
theorem dX5_isWet_12 : decode cX5_isWet 12 = .ok (.getfield 51, 3) := by decide +kernel
theorem dX5_isWet_15 : decode cX5_isWet 15 = .ok (.iload_n 2, 1) := by decide +kernel
theorem dX5_isWet_16 : decode cX5_isWet 16 = .ok (.iaload, 1) := by decide +kernel
theorem dX5_isWet_17 : decode cX5_isWet 17 = .ok (.invokevirtual 146, 3) := by decide +kernel
theorem dX5_isWet_20 : decode cX5_isWet 20 = .ok (.lconst 0, 1) := by decide +kernel
theorem dX5_isWet_21 : decode cX5_isWet 21 = .ok (.lcmp, 1) := by decide +kernel
theorem dX5_isWet_22 : decode cX5_isWet 22 = .ok (.ifCond .le 7, 3) := by decide +kernel
theorem dX5_isWet_25 : decode cX5_isWet 25 = .ok (.iconst 1, 1) := by decide +kernel
theorem dX5_isWet_26 : decode cX5_isWet 26 = .ok (.goto 4, 3) := by decide +kernel
theorem dX5_isWet_29 : decode cX5_isWet 29 = .ok (.iconst 0, 1) := by decide +kernel
theorem dX5_isWet_30 : decode cX5_isWet 30 = .ok (.ireturn, 1) := by decide +kernel
set_option maxRecDepth 100000 in
theorem t_X5_isWet (x0 x1 x2 : Int) (M : Mem) (h0 : x0 ≠ 0) : MtP yX5_isWet cX5_isWet 3 (some .boolean) 2 0 0 [(24, x0), (27, x1), (0, x2)] M 0 (f_X5_isWet x0 x1 x2 M) := by
  refine mk_P (by decide +kernel) (Nat.le_of_ble_eq_true rfl) (fun E C r0 hC hq hin => ?_)
  refine r_eqls (ls' := [(0, 24, x0), (1, 27, x1), (2, 0, x2)]) rfl ?_
  unfold f_X5_isWet
  refine r_aload_n 0 hC 0 rfl (Or.inl (by decide)) rfl dX5_isWet_0 ?_
  refine r_get 1 hC fd_4_12 fl_X5_54 dX5_isWet_1 (fun v1 => ?_)
  refine r_iload_n 4 hC 2 rfl rfl dX5_isWet_4 ?_
  refine r_zaload 5 hC dX5_isWet_5 (fun v2 => ?_)
  refine r_jn (P := fun j30 => ∀ (q3 : Int), Bk E C 3 M r0 30 [] [(0, q3)] M 0 0 (j30 q3)) ?_ (fun j30 hj30 => ?_)
  · intro q3
    exact r_zreturnP 30 hC hq (by decide) (by decide) dX5_isWet_30
  refine r_jn (P := fun j29 => Bk E C 3 M r0 29 [] [] M 0 0 (j29)) ?_ (fun j29 hj29 => ?_)
  · refine r_iconst 29 hC (r32c rfl) dX5_isWet_29 ?_
    exact hj30 0
  refine r_if_eq 6 hC (tgt := 29) (by decide) dX5_isWet_6 ?_ ?_
  · exact r_sub [] rfl (hj29)
  · refine r_aload_n 9 hC 0 rfl (Or.inl (by decide)) rfl dX5_isWet_9 ?_
    refine r_aload_n 10 hC 1 rfl (Or.inl (by decide)) rfl dX5_isWet_10 ?_
    refine r_aload_n 11 hC 0 rfl (Or.inl (by decide)) rfl dX5_isWet_11 ?_
    refine r_get 12 hC fd_4_11 fl_X5_51 dX5_isWet_12 (fun v4 => ?_)
    refine r_iload_n 15 hC 2 rfl rfl dX5_isWet_15 ?_
    refine r_iaload 16 hC dX5_isWet_16 (fun v5 => ?_)
    refine r_callVP 17 hC [(27, x1), (0, v5)] [] rfl vl_X5_146 rfl h0 (by decide) (Nat.le_of_ble_eq_true rfl) (by decide) (by decide) dX5_isWet_17 (t_X5_rateOf x0 x1 v5 M h0) (fun v6 => ?_)
    refine r_lconst 20 hC (x := 0) ⟨by decide +kernel, r64c rfl⟩ dX5_isWet_20 ?_
    refine r_lcmp_le 21 hC (tgt := 29) (by decide) dX5_isWet_21 dX5_isWet_22 ?_ ?_
    · exact r_sub [] rfl (hj29)
    · refine r_iconst 25 hC (r32c rfl) dX5_isWet_25 ?_
      refine r_goto 26 hC (tgt := 30) (by decide) dX5_isWet_26 ?_
      exact r_sub [] rfl (hj30 1)

/-! WaterTurns$Sweep.shortOf(LWaterTurns$Valley;I)I -/
theorem dX5_shortOf_0 : decode cX5_shortOf 0 = .ok (.aload_n 1, 1) := by decide +kernel
theorem dX5_shortOf_1 : decode cX5_shortOf 1 = .ok (.getfield 133, 3) := by decide +kernel
theorem dX5_shortOf_4 : decode cX5_shortOf 4 = .ok (.iload_n 2, 1) := by decide +kernel
theorem dX5_shortOf_5 : decode cX5_shortOf 5 = .ok (.aaload, 1) := by decide +kernel
theorem dX5_shortOf_6 : decode cX5_shortOf 6 = .ok (.iconst 2, 1) := by decide +kernel
theorem dX5_shortOf_7 : decode cX5_shortOf 7 = .ok (.iaload, 1) := by decide +kernel
theorem dX5_shortOf_8 : decode cX5_shortOf 8 = .ok (.i2l, 1) := by decide +kernel
theorem dX5_shortOf_9 : decode cX5_shortOf 9 = .ok (.aload_n 1, 1) := by decide +kernel
theorem dX5_shortOf_10 : decode cX5_shortOf 10 = .ok (.getfield 103, 3) := by decide +kernel
theorem dX5_shortOf_13 : decode cX5_shortOf 13 = .ok (.lmul, 1) := by decide +kernel
theorem dX5_shortOf_14 : decode cX5_shortOf 14 = .ok (.aload_n 0, 1) := by decide +kernel
theorem dX5_shortOf_15 : decode cX5_shortOf 15 = .ok (.aload_n 1, 1) := by decide +kernel
theorem dX5_shortOf_16 : decode cX5_shortOf 16 = .ok (.iload_n 2, 1) := by decide +kernel
theorem dX5_shortOf_17 : decode cX5_shortOf 17 = .ok (.invokevirtual 153, 3) := by decide +kernel
theorem dX5_shortOf_20 : decode cX5_shortOf 20 = .ok (.lsub, 1) := by decide +kernel
theorem dX5_shortOf_21 : decode cX5_shortOf 21 = .ok (.lstore_n 3, 1) := by decide +kernel
theorem dX5_shortOf_22 : decode cX5_shortOf 22 = .ok (.aload_n 0, 1) := by decide +kernel
theorem dX5_shortOf_23 : decode cX5_shortOf 23 = .ok (.aload_n 1, 1) := by decide +kernel
theorem dX5_shortOf_24 : decode cX5_shortOf 24 = .ok (.iload_n 2, 1) := by decide +kernel
theorem dX5_shortOf_25 : decode cX5_shortOf 25 = .ok (.invokevirtual 146, 3) := by decide +kernel
theorem dX5_shortOf_28 : decode cX5_shortOf 28 = .ok (.lstore 5, 2) := by decide +kernel
theorem dX5_shortOf_30 : decode cX5_shortOf 30 = .ok (.lload_n 3, 1) := by decide +kernel
theorem dX5_shortOf_31 : decode cX5_shortOf 31 = .ok (.lconst 0, 1) := by decide +kernel
theorem dX5_shortOf_32 : decode cX5_shortOf 32 = .ok (.lcmp, 1) := by decide +kernel
theorem dX5_shortOf_33 : decode cX5_shortOf 33 = .ok (.ifCond .gt 5, 3) := by decide +kernel
theorem dX5_shortOf_36 : decode cX5_shortOf 36 = .ok (.iconst 0, 1) := by decide +kernel
theorem dX5_shortOf_37 : decode cX5_shortOf 37 = .ok (.ireturn, 1) := by decide +kernel
theorem dX5_shortOf_38 : decode cX5_shortOf 38 = .ok (.lload 5, 2) := by decide +kernel
theorem dX5_shortOf_40 : decode cX5_shortOf 40 = .ok (.lconst 1, 1) := by decide +kernel
theorem dX5_shortOf_41 : decode cX5_shortOf 41 = .ok (.lcmp, 1) := by decide +kernel
theorem dX5_shortOf_42 : decode cX5_shortOf 42 = .ok (.ifCond .ge 7, 3) := by decide +kernel
theorem dX5_shortOf_45 : decode cX5_shortOf 45 = .ok (.iconst (-1), 1) := by decide +kernel
theorem dX5_shortOf_46 : decode cX5_shortOf 46 = .ok (.goto 19, 3) := by decide +kernel
theorem dX5_shortOf_49 : decode cX5_shortOf 49 = .ok (.ldc2_w 159, 3) := by decide +kernel
theorem dX5_shortOf_52 : decode cX5_shortOf 52 = .ok (.lload_n 3, 1) := by decide +kernel
theorem dX5_shortOf_53 : decode cX5_shortOf 53 = .ok (.lload 5, 2) := by decide +kernel
theorem dX5_shortOf_55 : decode cX5_shortOf 55 = .ok (.ladd, 1) := by decide +kernel
theorem dX5_shortOf_56 : decode cX5_shortOf 56 = .ok (.lconst 1, 1) := by decide +kernel
theorem dX5_shortOf_57 : decode cX5_shortOf 57 = .ok (.lsub, 1) := by decide +kernel
theorem dX5_shortOf_58 : decode cX5_shortOf 58 = .ok (.lload 5, 2) := by decide +kernel
theorem dX5_shortOf_60 : decode cX5_shortOf 60 = .ok (.ldiv, 1) := by decide +kernel
theorem dX5_shortOf_61 : decode cX5_shortOf 61 = .ok (.invokestatic 107, 3) := by decide +kernel
theorem dX5_shortOf_64 : decode cX5_shortOf 64 = .ok (.l2i, 1) := by decide +kernel
theorem dX5_shortOf_65 : decode cX5_shortOf 65 = .ok (.ireturn, 1) := by decide +kernel
set_option maxRecDepth 100000 in
theorem t_X5_shortOf (x0 x1 x2 : Int) (M : Mem) (h0 : x0 ≠ 0) : MtP yX5_shortOf cX5_shortOf 7 (some .int) 3 0 0 [(24, x0), (27, x1), (0, x2)] M 0 (f_X5_shortOf x0 x1 x2 M) := by
  refine mk_P (by decide +kernel) (Nat.le_of_ble_eq_true rfl) (fun E C r0 hC hq hin => ?_)
  refine r_eqls (ls' := [(0, 24, x0), (1, 27, x1), (2, 0, x2)]) rfl ?_
  unfold f_X5_shortOf
  refine r_aload_n 0 hC 1 rfl (Or.inl (by decide)) rfl dX5_shortOf_0 ?_
  refine r_get 1 hC fd_7_9 fl_X5_133 dX5_shortOf_1 (fun v1 => ?_)
  refine r_iload_n 4 hC 2 rfl rfl dX5_shortOf_4 ?_
  refine r_aaloadI 5 hC dX5_shortOf_5 (fun v2 => ?_)
  refine r_iconst 6 hC (r32c rfl) dX5_shortOf_6 ?_
  refine r_iaload 7 hC dX5_shortOf_7 (fun v3 => ?_)
  refine r_i2l 8 hC dX5_shortOf_8 ?_
  refine r_aload_n 9 hC 1 rfl (Or.inl (by decide)) rfl dX5_shortOf_9 ?_
  refine r_get 10 hC fd_7_7 fl_X5_103 dX5_shortOf_10 (fun v4 => ?_)
  refine r_lmul 13 hC dX5_shortOf_13 ?_
  refine r_aload_n 14 hC 0 rfl (Or.inl (by decide)) rfl dX5_shortOf_14 ?_
  refine r_aload_n 15 hC 1 rfl (Or.inl (by decide)) rfl dX5_shortOf_15 ?_
  refine r_iload_n 16 hC 2 rfl rfl dX5_shortOf_16 ?_
  refine r_callVP 17 hC [(27, x1), (0, x2)] [(1, w64 (v3 * v4))] rfl vl_X5_153 rfl h0 (by decide) (Nat.le_of_ble_eq_true rfl) (by decide) (by decide) dX5_shortOf_17 (t_X5_gets x0 x1 x2 M h0) (fun v5 => ?_)
  refine r_lsub 20 hC dX5_shortOf_20 ?_
  refine r_lstore_nL 21 hC rfl (by decide) dX5_shortOf_21 (fun v6 => r_eqls (ls' := [(3, 1, v6), (0, 24, x0), (1, 27, x1), (2, 0, x2)]) rfl ?_)
  refine r_aload_n 22 hC 1 rfl (Or.inl (by decide)) rfl dX5_shortOf_22 ?_
  refine r_aload_n 23 hC 2 rfl (Or.inl (by decide)) rfl dX5_shortOf_23 ?_
  refine r_iload_n 24 hC 3 rfl rfl dX5_shortOf_24 ?_
  refine r_callVP 25 hC [(27, x1), (0, x2)] [] rfl vl_X5_146 rfl h0 (by decide) (Nat.le_of_ble_eq_true rfl) (by decide) (by decide) dX5_shortOf_25 (t_X5_rateOf x0 x1 x2 M h0) (fun v7 => ?_)
  refine r_lstore 28 hC (by decide) dX5_shortOf_28 (r_eqls (ls' := [(5, 1, v7), (3, 1, v6), (0, 24, x0), (1, 27, x1), (2, 0, x2)]) rfl ?_)
  refine r_lload_n 30 hC 1 rfl rfl dX5_shortOf_30 ?_
  refine r_lconst 31 hC (x := 0) ⟨by decide +kernel, r64c rfl⟩ dX5_shortOf_31 ?_
  refine r_lcmp_gt 32 hC (tgt := 38) (by decide) dX5_shortOf_32 dX5_shortOf_33 ?_ ?_
  · refine r_lload 38 hC 0 rfl dX5_shortOf_38 ?_
    refine r_lconst 40 hC (x := 1) ⟨by decide +kernel, r64c rfl⟩ dX5_shortOf_40 ?_
    refine r_jn (P := fun j65 => ∀ (q8 : Int), Bk E C 7 M r0 65 [] [(0, q8)] M 0 0 (j65 q8)) ?_ (fun j65 hj65 => ?_)
    · intro q8
      exact r_ireturnP 65 hC hq (by decide) (by decide) dX5_shortOf_65
    refine r_lcmp_ge 41 hC (tgt := 49) (by decide) dX5_shortOf_41 dX5_shortOf_42 ?_ ?_
    · refine r_ldc2 49 hC (x := 999999) kl_X5_159 ⟨by decide +kernel, r64c rfl⟩ dX5_shortOf_49 ?_
      refine r_lload_n 52 hC 1 rfl rfl dX5_shortOf_52 ?_
      refine r_lload 53 hC 0 rfl dX5_shortOf_53 ?_
      refine r_ladd 55 hC dX5_shortOf_55 ?_
      refine r_lconst 56 hC (x := 1) ⟨by decide +kernel, r64c rfl⟩ dX5_shortOf_56 ?_
      refine r_lsub 57 hC dX5_shortOf_57 ?_
      refine r_lload 58 hC 0 rfl dX5_shortOf_58 ?_
      refine r_ldiv 60 hC dX5_shortOf_60 (fun v9 => ?_)
      refine r_callSP 61 hC [(1, 999999), (1, v9)] [] rfl sl_X5_107 rfl (by decide) (Nat.le_of_ble_eq_true rfl) (by decide) (by decide) dX5_shortOf_61 (t_J9_min_f86c9 999999 v9 M) (fun v10 => ?_)
      refine r_l2i 64 hC dX5_shortOf_64 ?_
      exact r_sub [] rfl (hj65 (w32 v10))
    · refine r_iconst 45 hC (r32c rfl) dX5_shortOf_45 ?_
      refine r_goto 46 hC (tgt := 65) (by decide) dX5_shortOf_46 ?_
      exact r_sub [] rfl (hj65 (-1))
  · refine r_iconst 36 hC (r32c rfl) dX5_shortOf_36 ?_
    exact r_ireturnP 37 hC hq (by decide) (by decide) dX5_shortOf_37
