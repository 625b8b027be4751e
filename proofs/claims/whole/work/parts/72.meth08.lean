/-! WaterTurnsModel.wantSign(I)Z -/
theorem dX12_wantSign_0 : decode cX12_wantSign 0 = .ok (.aload_n 0, 1) := by decide +kernel
theorem dX12_wantSign_1 : decode cX12_wantSign 1 = .ok (.iload_n 1, 1) := by decide +kernel
theorem dX12_wantSign_2 : decode cX12_wantSign 2 = .ok (.invokevirtual 166, 3) := by decide +kernel
theorem dX12_wantSign_5 : decode cX12_wantSign 5 = .ok (.ifCond .ne 9, 3) := by decide +kernel
theorem dX12_wantSign_8 : decode cX12_wantSign 8 = .ok (.aload_n 0, 1) := by decide +kernel
theorem dX12_wantSign_9 : decode cX12_wantSign 9 = .ok (.iconst 2, 1) := by decide +kernel
theorem dX12_wantSign_10 : decode cX12_wantSign 10 = .ok (.invokevirtual 169, 3) := by decide +kernel
theorem dX12_wantSign_13 : decode cX12_wantSign 13 = .ok (.ireturn, 1) := by decide +kernel
theorem dX12_wantSign_14 : decode cX12_wantSign 14 = .ok (.aload_n 0, 1) := by decide +kernel
theorem dX12_wantSign_15 : decode cX12_wantSign 15 = .ok (.invokevirtual 163, 3) := by decide +kernel
theorem dX12_wantSign_18 : decode cX12_wantSign 18 = .ok (.iconst 1, 1) := by decide +kernel
theorem dX12_wantSign_19 : decode cX12_wantSign 19 = .ok (.ireturn, 1) := by decide +kernel
set_option maxRecDepth 100000 in
theorem t_X12_wantSign (x0 x1 : Int) (M : Mem) (h0 : x0 ≠ 0) : MtI yX12_wantSign cX12_wantSign 2 (some .boolean) 3 0 0 [(30, x0), (0, x1)] M 0 (f_X12_wantSign x0 x1 M) := by
  refine mk_I (by decide +kernel) (Nat.le_of_ble_eq_true rfl) (fun E C r0 M0 hC hq hin => ?_)
  refine r_eqls (ls' := [(0, 30, x0), (1, 0, x1)]) rfl ?_
  unfold f_X12_wantSign
  refine r_aload_n 0 hC 0 rfl (Or.inl (by decide)) rfl dX12_wantSign_0 ?_
  refine r_iload_n 1 hC 1 rfl rfl dX12_wantSign_1 ?_
  refine r_callVP 2 hC [(0, x1)] [] rfl vl_X12_166 rfl h0 (by decide) (Nat.le_of_ble_eq_true rfl) (by decide) (by decide) dX12_wantSign_2 (t_X12_isSign x0 x1 M h0) (fun v1 => ?_)
  refine r_if_ne 5 hC (tgt := 14) (by decide) dX12_wantSign_5 ?_ ?_
  · refine r_aload_n 14 hC 0 rfl (Or.inl (by decide)) rfl dX12_wantSign_14 ?_
    refine r_callVV 15 hC [] [] rfl vl_X12_163 rfl h0 (by decide) (Nat.le_of_ble_eq_true rfl) (by decide) (by decide) dX12_wantSign_15 (t_X12_ahead x0 M h0) (fun M2 => ?_)
    refine r_iconst 18 hC (r32c rfl) dX12_wantSign_18 ?_
    exact r_zreturn 19 hC hq (by decide) (by decide) dX12_wantSign_19
  · refine r_aload_n 8 hC 0 rfl (Or.inl (by decide)) rfl dX12_wantSign_8 ?_
    refine r_iconst 9 hC (r32c rfl) dX12_wantSign_9 ?_
    refine r_callVI 10 hC [(0, 2)] [] rfl vl_X12_169 rfl h0 (by decide) (Nat.le_of_ble_eq_true rfl) (by decide) (by decide) dX12_wantSign_10 (t_X12_fails x0 2 M h0) (fun v3 M4 => ?_)
    exact r_zreturn 13 hC hq (by decide) (by decide) dX12_wantSign_13

/-! WaterTurnsModel.wantWord(Ljava/lang/String;I)Z -/
theorem dX12_wantWord_0 : decode cX12_wantWord 0 = .ok (.aload_n 0, 1) := by decide +kernel
theorem dX12_wantWord_1 : decode cX12_wantWord 1 = .ok (.aload_n 1, 1) := by decide +kernel
theorem dX12_wantWord_2 : decode cX12_wantWord 2 = .ok (.invokevirtual 172, 3) := by decide +kernel
theorem dX12_wantWord_5 : decode cX12_wantWord 5 = .ok (.iload_n 2, 1) := by decide +kernel
theorem dX12_wantWord_6 : decode cX12_wantWord 6 = .ok (.if_icmp .eq 9, 3) := by decide +kernel
theorem dX12_wantWord_9 : decode cX12_wantWord 9 = .ok (.aload_n 0, 1) := by decide +kernel
theorem dX12_wantWord_10 : decode cX12_wantWord 10 = .ok (.iconst 2, 1) := by decide +kernel
theorem dX12_wantWord_11 : decode cX12_wantWord 11 = .ok (.invokevirtual 169, 3) := by decide +kernel
theorem dX12_wantWord_14 : decode cX12_wantWord 14 = .ok (.ireturn, 1) := by decide +kernel
theorem dX12_wantWord_15 : decode cX12_wantWord 15 = .ok (.aload_n 0, 1) := by decide +kernel
theorem dX12_wantWord_16 : decode cX12_wantWord 16 = .ok (.invokevirtual 163, 3) := by decide +kernel
theorem dX12_wantWord_19 : decode cX12_wantWord 19 = .ok (.iconst 1, 1) := by decide +kernel
theorem dX12_wantWord_20 : decode cX12_wantWord 20 = .ok (.ireturn, 1) := by decide +kernel
set_option maxRecDepth 100000 in
theorem t_X12_wantWord (x0 x1 x2 : Int) (M : Mem) (h0 : x0 ≠ 0) : MtI yX12_wantWord cX12_wantWord 3 (some .boolean) 7 0 0 [(30, x0), (2, x1), (0, x2)] M 0 (f_X12_wantWord x0 x1 x2 M) := by
  refine mk_I (by decide +kernel) (Nat.le_of_ble_eq_true rfl) (fun E C r0 M0 hC hq hin => ?_)
  refine r_eqls (ls' := [(0, 30, x0), (1, 2, x1), (2, 0, x2)]) rfl ?_
  unfold f_X12_wantWord
  refine r_aload_n 0 hC 0 rfl (Or.inl (by decide)) rfl dX12_wantWord_0 ?_
  refine r_aload_n 1 hC 1 rfl (Or.inr rfl) rfl dX12_wantWord_1 ?_
  refine r_callVP 2 hC [(2, x1)] [] rfl vl_X12_172 rfl h0 (by decide) (Nat.le_of_ble_eq_true rfl) (by decide) (by decide) dX12_wantWord_2 (t_X12_inWords x0 x1 M h0) (fun v1 => ?_)
  refine r_iload_n 5 hC 2 rfl rfl dX12_wantWord_5 ?_
  refine r_icmp_eq 6 hC (tgt := 15) (by decide) dX12_wantWord_6 ?_ ?_
  · refine r_aload_n 15 hC 0 rfl (Or.inl (by decide)) rfl dX12_wantWord_15 ?_
    refine r_callVV 16 hC [] [] rfl vl_X12_163 rfl h0 (by decide) (Nat.le_of_ble_eq_true rfl) (by decide) (by decide) dX12_wantWord_16 (t_X12_ahead x0 M h0) (fun M2 => ?_)
    refine r_iconst 19 hC (r32c rfl) dX12_wantWord_19 ?_
    exact r_zreturn 20 hC hq (by decide) (by decide) dX12_wantWord_20
  · refine r_aload_n 9 hC 0 rfl (Or.inl (by decide)) rfl dX12_wantWord_9 ?_
    refine r_iconst 10 hC (r32c rfl) dX12_wantWord_10 ?_
    refine r_callVI 11 hC [(0, 2)] [] rfl vl_X12_169 rfl h0 (by decide) (Nat.le_of_ble_eq_true rfl) (by decide) (by decide) dX12_wantWord_11 (t_X12_fails x0 2 M h0) (fun v3 M4 => ?_)
    exact r_zreturn 14 hC hq (by decide) (by decide) dX12_wantWord_14

/-! WaterTurnsModel.number(III)Z -/
theorem dX12_number_0 : decode cX12_number 0 = .ok (.aload_n 0, 1) := by decide +kernel
theorem dX12_number_1 : decode cX12_number 1 = .ok (.getfield 132, 3) := by decide +kernel
theorem dX12_number_4 : decode cX12_number 4 = .ok (.iconst 3, 1) := by decide +kernel
theorem dX12_number_5 : decode cX12_number 5 = .ok (.if_icmp .eq 9, 3) := by decide +kernel
theorem dX12_number_8 : decode cX12_number 8 = .ok (.aload_n 0, 1) := by decide +kernel
theorem dX12_number_9 : decode cX12_number 9 = .ok (.iconst 2, 1) := by decide +kernel
theorem dX12_number_10 : decode cX12_number 10 = .ok (.invokevirtual 169, 3) := by decide +kernel
theorem dX12_number_13 : decode cX12_number 13 = .ok (.ireturn, 1) := by decide +kernel
theorem dX12_number_14 : decode cX12_number 14 = .ok (.aload_n 0, 1) := by decide +kernel
theorem dX12_number_15 : decode cX12_number 15 = .ok (.getfield 129, 3) := by decide +kernel
theorem dX12_number_18 : decode cX12_number 18 = .ok (.iload_n 2, 1) := by decide +kernel
theorem dX12_number_19 : decode cX12_number 19 = .ok (.if_icmp .lt 11, 3) := by decide +kernel
theorem dX12_number_22 : decode cX12_number 22 = .ok (.aload_n 0, 1) := by decide +kernel
theorem dX12_number_23 : decode cX12_number 23 = .ok (.getfield 129, 3) := by decide +kernel
theorem dX12_number_26 : decode cX12_number 26 = .ok (.iload_n 3, 1) := by decide +kernel
theorem dX12_number_27 : decode cX12_number 27 = .ok (.if_icmp .le 9, 3) := by decide +kernel
theorem dX12_number_30 : decode cX12_number 30 = .ok (.aload_n 0, 1) := by decide +kernel
theorem dX12_number_31 : decode cX12_number 31 = .ok (.iconst 4, 1) := by decide +kernel
theorem dX12_number_32 : decode cX12_number 32 = .ok (.invokevirtual 169, 3) := by decide +kernel
theorem dX12_number_35 : decode cX12_number 35 = .ok (.ireturn, 1) := by decide +kernel
theorem dX12_number_36 : decode cX12_number 36 = .ok (.aload_n 0, 1) := by decide +kernel
theorem dX12_number_37 : decode cX12_number 37 = .ok (.getfield 7, 3) := by decide +kernel
theorem dX12_number_40 : decode cX12_number 40 = .ok (.iload_n 1, 1) := by decide +kernel
theorem dX12_number_41 : decode cX12_number 41 = .ok (.aload_n 0, 1) := by decide +kernel
theorem dX12_number_42 : decode cX12_number 42 = .ok (.getfield 129, 3) := by decide +kernel
theorem dX12_number_45 : decode cX12_number 45 = .ok (.iastore, 1) := by decide +kernel
theorem dX12_number_46 : decode cX12_number 46 = .ok (.aload_n 0, 1) := by decide +kernel
theorem dX12_number_47 : decode cX12_number 47 = .ok (.invokevirtual 163, 3) := by decide +kernel
theorem dX12_number_50 : decode cX12_number 50 = .ok (.iconst 1, 1) := by decide +kernel
theorem dX12_number_51 : decode cX12_number 51 = .ok (.ireturn, 1) := by decide +kernel
set_option maxRecDepth 100000 in
theorem t_X12_number (x0 x1 x2 x3 : Int) (M : Mem) (h0 : x0 ≠ 0) : MtI yX12_number cX12_number 4 (some .boolean) 3 0 0 [(30, x0), (0, x1), (0, x2), (0, x3)] M 0 (f_X12_number x0 x1 x2 x3 M) := by
  refine mk_I (by decide +kernel) (Nat.le_of_ble_eq_true rfl) (fun E C r0 M0 hC hq hin => ?_)
  refine r_eqls (ls' := [(0, 30, x0), (1, 0, x1), (2, 0, x2), (3, 0, x3)]) rfl ?_
  unfold f_X12_number
  refine r_aload_n 0 hC 0 rfl (Or.inl (by decide)) rfl dX12_number_0 ?_
  refine r_get 1 hC fd_10_12 fl_X12_132 dX12_number_1 (fun v1 => ?_)
  refine r_iconst 4 hC (r32c rfl) dX12_number_4 ?_
  refine r_icmp_eq 5 hC (tgt := 14) (by decide) dX12_number_5 ?_ ?_
  · refine r_aload_n 14 hC 0 rfl (Or.inl (by decide)) rfl dX12_number_14 ?_
    refine r_get 15 hC fd_10_15 fl_X12_129 dX12_number_15 (fun v2 => ?_)
    refine r_iload_n 18 hC 2 rfl rfl dX12_number_18 ?_
    refine r_jn (P := fun j30 => Bk E C 4 M (r0, M0) 30 [(0, 30, x0)] [] M 0 0 (j30)) ?_ (fun j30 hj30 => ?_)
    · refine r_aload_n 30 hC 0 rfl (Or.inl (by decide)) rfl dX12_number_30 ?_
      refine r_iconst 31 hC (r32c rfl) dX12_number_31 ?_
      refine r_callVI 32 hC [(0, 4)] [] rfl vl_X12_169 rfl h0 (by decide) (Nat.le_of_ble_eq_true rfl) (by decide) (by decide) dX12_number_32 (t_X12_fails x0 4 M h0) (fun v3 M4 => ?_)
      exact r_zreturn 35 hC hq (by decide) (by decide) dX12_number_35
    refine r_icmp_lt 19 hC (tgt := 30) (by decide) dX12_number_19 ?_ ?_
    · exact r_sub [0] rfl (hj30)
    · refine r_aload_n 22 hC 0 rfl (Or.inl (by decide)) rfl dX12_number_22 ?_
      refine r_get 23 hC fd_10_15 fl_X12_129 dX12_number_23 (fun v5 => ?_)
      refine r_iload_n 26 hC 3 rfl rfl dX12_number_26 ?_
      refine r_icmp_le 27 hC (tgt := 36) (by decide) dX12_number_27 ?_ ?_
      · refine r_aload_n 36 hC 0 rfl (Or.inl (by decide)) rfl dX12_number_36 ?_
        refine r_get 37 hC fd_10_0 fl_X12_7 dX12_number_37 (fun v6 => ?_)
        refine r_iload_n 40 hC 1 rfl rfl dX12_number_40 ?_
        refine r_aload_n 41 hC 0 rfl (Or.inl (by decide)) rfl dX12_number_41 ?_
        refine r_get 42 hC fd_10_15 fl_X12_129 dX12_number_42 (fun v7 => ?_)
        refine r_iastore 45 hC dX12_number_45 (fun M8 => ?_)
        refine r_aload_n 46 hC 0 rfl (Or.inl (by decide)) rfl dX12_number_46 ?_
        refine r_callVV 47 hC [] [] rfl vl_X12_163 rfl h0 (by decide) (Nat.le_of_ble_eq_true rfl) (by decide) (by decide) dX12_number_47 (t_X12_ahead x0 M8 h0) (fun M9 => ?_)
        refine r_iconst 50 hC (r32c rfl) dX12_number_50 ?_
        exact r_zreturn 51 hC hq (by decide) (by decide) dX12_number_51
      · exact r_sub [0] rfl (hj30)
  · refine r_aload_n 8 hC 0 rfl (Or.inl (by decide)) rfl dX12_number_8 ?_
    refine r_iconst 9 hC (r32c rfl) dX12_number_9 ?_
    refine r_callVI 10 hC [(0, 2)] [] rfl vl_X12_169 rfl h0 (by decide) (Nat.le_of_ble_eq_true rfl) (by decide) (by decide) dX12_number_10 (t_X12_fails x0 2 M h0) (fun v10 M11 => ?_)
    exact r_zreturn 13 hC hq (by decide) (by decide) dX12_number_13

/-! WaterTurnsModel.isName(Ljava/lang/String;)Z -/
theorem dX12_isName_0 : decode cX12_isName 0 = .ok (.aload_n 0, 1) := by decide +kernel
theorem dX12_isName_1 : decode cX12_isName 1 = .ok (.getfield 132, 3) := by decide +kernel
theorem dX12_isName_4 : decode cX12_isName 4 = .ok (.iconst 2, 1) := by decide +kernel
theorem dX12_isName_5 : decode cX12_isName 5 = .ok (.if_icmp .ne 30, 3) := by decide +kernel
theorem dX12_isName_8 : decode cX12_isName 8 = .ok (.aload_n 0, 1) := by decide +kernel
theorem dX12_isName_9 : decode cX12_isName 9 = .ok (.getfield 120, 3) := by decide +kernel
theorem dX12_isName_12 : decode cX12_isName 12 = .ok (.aload_n 0, 1) := by decide +kernel
theorem dX12_isName_13 : decode cX12_isName 13 = .ok (.getfield 126, 3) := by decide +kernel
theorem dX12_isName_16 : decode cX12_isName 16 = .ok (.isub, 1) := by decide +kernel
theorem dX12_isName_17 : decode cX12_isName 17 = .ok (.bipush 8, 2) := by decide +kernel
theorem dX12_isName_19 : decode cX12_isName 19 = .ok (.if_icmp .gt 16, 3) := by decide +kernel
theorem dX12_isName_22 : decode cX12_isName 22 = .ok (.aload_n 0, 1) := by decide +kernel
theorem dX12_isName_23 : decode cX12_isName 23 = .ok (.aload_n 1, 1) := by decide +kernel
theorem dX12_isName_24 : decode cX12_isName 24 = .ok (.invokevirtual 172, 3) := by decide +kernel
theorem dX12_isName_27 : decode cX12_isName 27 = .ok (.iconst (-1), 1) := by decide +kernel
theorem dX12_isName_28 : decode cX12_isName 28 = .ok (.if_icmp .ne 7, 3) := by decide +kernel
theorem dX12_isName_31 : decode cX12_isName 31 = .ok (.iconst 1, 1) := by decide +kernel
theorem dX12_isName_32 : decode cX12_isName 32 = .ok (.goto 4, 3) := by decide +kernel
theorem dX12_isName_35 : decode cX12_isName 35 = .ok (.iconst 0, 1) := by decide +kernel
theorem dX12_isName_36 : decode cX12_isName 36 = .ok (.ireturn, 1) := by decide +kernel
set_option maxRecDepth 100000 in
theorem t_X12_isName (x0 x1 : Int) (M : Mem) (h0 : x0 ≠ 0) : MtP yX12_isName cX12_isName 2 (some .boolean) 7 0 0 [(30, x0), (2, x1)] M 0 (f_X12_isName x0 x1 M) := by
  refine mk_P (by decide +kernel) (Nat.le_of_ble_eq_true rfl) (fun E C r0 hC hq hin => ?_)
  refine r_eqls (ls' := [(0, 30, x0), (1, 2, x1)]) rfl ?_
  unfold f_X12_isName
  refine r_aload_n 0 hC 0 rfl (Or.inl (by decide)) rfl dX12_isName_0 ?_
  refine r_get 1 hC fd_10_12 fl_X12_132 dX12_isName_1 (fun v1 => ?_)
  refine r_iconst 4 hC (r32c rfl) dX12_isName_4 ?_
  refine r_jn (P := fun j36 => ∀ (q2 : Int), Bk E C 2 M r0 36 [] [(0, q2)] M 0 0 (j36 q2)) ?_ (fun j36 hj36 => ?_)
  · intro q2
    exact r_zreturnP 36 hC hq (by decide) (by decide) dX12_isName_36
  refine r_jn (P := fun j35 => Bk E C 2 M r0 35 [] [] M 0 0 (j35)) ?_ (fun j35 hj35 => ?_)
  · refine r_iconst 35 hC (r32c rfl) dX12_isName_35 ?_
    exact hj36 0
  refine r_icmp_ne 5 hC (tgt := 35) (by decide) dX12_isName_5 ?_ ?_
  · exact r_sub [] rfl (hj35)
  · refine r_aload_n 8 hC 0 rfl (Or.inl (by decide)) rfl dX12_isName_8 ?_
    refine r_get 9 hC fd_10_14 fl_X12_120 dX12_isName_9 (fun v3 => ?_)
    refine r_aload_n 12 hC 0 rfl (Or.inl (by decide)) rfl dX12_isName_12 ?_
    refine r_get 13 hC fd_10_13 fl_X12_126 dX12_isName_13 (fun v4 => ?_)
    refine r_isub 16 hC dX12_isName_16 ?_
    refine r_bipush 17 hC kb_8 dX12_isName_17 ?_
    refine r_icmp_gt 19 hC (tgt := 35) (by decide) dX12_isName_19 ?_ ?_
    · exact r_sub [] rfl (hj35)
    · refine r_aload_n 22 hC 0 rfl (Or.inl (by decide)) rfl dX12_isName_22 ?_
      refine r_aload_n 23 hC 1 rfl (Or.inr rfl) rfl dX12_isName_23 ?_
      refine r_callVP 24 hC [(2, x1)] [] rfl vl_X12_172 rfl h0 (by decide) (Nat.le_of_ble_eq_true rfl) (by decide) (by decide) dX12_isName_24 (t_X12_inWords x0 x1 M h0) (fun v5 => ?_)
      refine r_iconst 27 hC (r32c rfl) dX12_isName_27 ?_
      refine r_icmp_ne 28 hC (tgt := 35) (by decide) dX12_isName_28 ?_ ?_
      · exact r_sub [] rfl (hj35)
      · refine r_iconst 31 hC (r32c rfl) dX12_isName_31 ?_
        refine r_goto 32 hC (tgt := 36) (by decide) dX12_isName_32 ?_
        exact r_sub [] rfl (hj36 1)

/-! WaterTurnsModel.nameHere()J -/
theorem dX12_nameHere_0 : decode cX12_nameHere 0 = .ok (.lconst 0, 1) := by decide +kernel
theorem dX12_nameHere_1 : decode cX12_nameHere 1 = .ok (.lstore_n 1, 1) := by decide +kernel
theorem dX12_nameHere_2 : decode cX12_nameHere 2 = .ok (.aload_n 0, 1) := by decide +kernel
theorem dX12_nameHere_3 : decode cX12_nameHere 3 = .ok (.getfield 126, 3) := by decide +kernel
theorem dX12_nameHere_6 : decode cX12_nameHere 6 = .ok (.istore_n 3, 1) := by decide +kernel
theorem dX12_nameHere_7 : decode cX12_nameHere 7 = .ok (.iload_n 3, 1) := by decide +kernel
theorem dX12_nameHere_8 : decode cX12_nameHere 8 = .ok (.aload_n 0, 1) := by decide +kernel
theorem dX12_nameHere_9 : decode cX12_nameHere 9 = .ok (.getfield 120, 3) := by decide +kernel
theorem dX12_nameHere_12 : decode cX12_nameHere 12 = .ok (.if_icmp .ge 21, 3) := by decide +kernel
theorem dX12_nameHere_15 : decode cX12_nameHere 15 = .ok (.lload_n 1, 1) := by decide +kernel
theorem dX12_nameHere_16 : decode cX12_nameHere 16 = .ok (.bipush 8, 2) := by decide +kernel
theorem dX12_nameHere_18 : decode cX12_nameHere 18 = .ok (.lshl, 1) := by decide +kernel
theorem dX12_nameHere_19 : decode cX12_nameHere 19 = .ok (.aload_n 0, 1) := by decide +kernel
theorem dX12_nameHere_20 : decode cX12_nameHere 20 = .ok (.iload_n 3, 1) := by decide +kernel
theorem dX12_nameHere_21 : decode cX12_nameHere 21 = .ok (.invokevirtual 123, 3) := by decide +kernel
theorem dX12_nameHere_24 : decode cX12_nameHere 24 = .ok (.i2l, 1) := by decide +kernel
theorem dX12_nameHere_25 : decode cX12_nameHere 25 = .ok (.lor, 1) := by decide +kernel
theorem dX12_nameHere_26 : decode cX12_nameHere 26 = .ok (.lstore_n 1, 1) := by decide +kernel
theorem dX12_nameHere_27 : decode cX12_nameHere 27 = .ok (.iinc 3 1, 3) := by decide +kernel
theorem dX12_nameHere_30 : decode cX12_nameHere 30 = .ok (.goto (-23), 3) := by decide +kernel
theorem dX12_nameHere_33 : decode cX12_nameHere 33 = .ok (.lload_n 1, 1) := by decide +kernel
theorem dX12_nameHere_34 : decode cX12_nameHere 34 = .ok (.lreturn, 1) := by decide +kernel
set_option maxRecDepth 100000 in
theorem f_X12_nameHere_L7_ok {E : EnvT} {C : Cx} {Mi M : Mem} {x0 : Int} (h0 : x0 ≠ 0) (hC : CxOK E C cX12_nameHere 4 yX12_nameHere.cls 2 0 0) {r0 : Int} (hq : RQ E C 0 0 Mi (some .long) (some (1, r0)) M) {k : Int → Option (Int)} (hk : ∀ q7, Bk E C 4 Mi r0 33 [(1, 1, q7)] [] M 0 0 (k q7)) : ∀ (n : Nat) (p2 : Int) (p3 : Int), Bk E C 4 Mi r0 7 [(0, 30, x0), (1, 1, p2), (3, 0, p3)] [] M 0 0 (f_X12_nameHere_L7 M x0 k n p2 p3) := by
  intro n
  induction n with
  | zero =>
    intro p2 p3
    exact r_none
  | succ n ih =>
    intro p2 p3
    rw [f_X12_nameHere_L7]
    refine r_iload_n 7 hC 2 rfl rfl dX12_nameHere_7 ?_
    refine r_aload_n 8 hC 0 rfl (Or.inl (by decide)) rfl dX12_nameHere_8 ?_
    refine r_get 9 hC fd_10_14 fl_X12_120 dX12_nameHere_9 (fun v4 => ?_)
    refine r_icmp_ge 12 hC (tgt := 33) (by decide) dX12_nameHere_12 ?_ ?_
    · exact r_sub [1] rfl (hk p2)
    · refine r_lload_n 15 hC 1 rfl rfl dX12_nameHere_15 ?_
      refine r_bipush 16 hC kb_8 dX12_nameHere_16 ?_
      refine r_lshl 18 hC dX12_nameHere_18 ?_
      refine r_aload_n 19 hC 0 rfl (Or.inl (by decide)) rfl dX12_nameHere_19 ?_
      refine r_iload_n 20 hC 2 rfl rfl dX12_nameHere_20 ?_
      refine r_callVP 21 hC [(0, p3)] [(1, lshlv p2 8)] rfl vl_X12_123 rfl h0 (by decide) (Nat.le_of_ble_eq_true rfl) (by decide) (by decide) dX12_nameHere_21 (t_X12_byteAt x0 p3 M h0) (fun v5 => ?_)
      refine r_i2l 24 hC dX12_nameHere_24 ?_
      refine r_lor 25 hC dX12_nameHere_25 ?_
      refine r_lstore_nL 26 hC rfl (by decide) dX12_nameHere_26 (fun v6 => r_eqls (ls' := [(1, 1, v6), (0, 30, x0), (3, 0, p3)]) rfl ?_)
      refine r_iinc 27 hC 2 rfl (by decide) dX12_nameHere_27 (r_eqls (ls' := [(3, 0, w32 (p3 + 1)), (1, 1, v6), (0, 30, x0)]) rfl ?_)
      refine r_goto 30 hC (tgt := 7) (by decide) dX12_nameHere_30 ?_
      exact r_sub [2, 1, 0] rfl (ih v6 (w32 (p3 + 1)))
set_option maxRecDepth 100000 in
theorem t_X12_nameHere (x0 : Int) (M : Mem) (h0 : x0 ≠ 0) : MtP yX12_nameHere cX12_nameHere 4 (some .long) 2 0 0 [(30, x0)] M 1 (f_X12_nameHere x0 M) := by
  refine mk_P (by decide +kernel) (Nat.le_of_ble_eq_true rfl) (fun E C r0 hC hq hin => ?_)
  refine r_eqls (ls' := [(0, 30, x0)]) rfl ?_
  unfold f_X12_nameHere
  refine r_lconst 0 hC (x := 0) ⟨by decide +kernel, r64c rfl⟩ dX12_nameHere_0 ?_
  refine r_lstore_n 1 hC rfl (by decide) dX12_nameHere_1 (r_eqls (ls' := [(1, 1, 0), (0, 30, x0)]) rfl ?_)
  refine r_aload_n 2 hC 1 rfl (Or.inl (by decide)) rfl dX12_nameHere_2 ?_
  refine r_get 3 hC fd_10_13 fl_X12_126 dX12_nameHere_3 (fun v1 => ?_)
  refine r_istore_n 6 hC rfl (by decide) dX12_nameHere_6 (r_eqls (ls' := [(3, 0, v1), (1, 1, 0), (0, 30, x0)]) rfl ?_)
  refine r_sub [2, 1, 0] rfl (f_X12_nameHere_L7_ok h0 hC hq (fun q8 => ?_) KF 0 v1)
  · refine r_lload_n 33 hC 0 rfl rfl dX12_nameHere_33 ?_
    exact r_lreturnP 34 hC hq (by decide) (by decide) dX12_nameHere_34

/-! WaterTurnsModel.findHere(II)I -/
theorem dX12_findHere_0 : decode cX12_findHere 0 = .ok (.iconst 0, 1) := by decide +kernel
theorem dX12_findHere_1 : decode cX12_findHere 1 = .ok (.istore_n 3, 1) := by decide +kernel
theorem dX12_findHere_2 : decode cX12_findHere 2 = .ok (.iload_n 3, 1) := by decide +kernel
theorem dX12_findHere_3 : decode cX12_findHere 3 = .ok (.iload_n 2, 1) := by decide +kernel
theorem dX12_findHere_4 : decode cX12_findHere 4 = .ok (.if_icmp .ge 27, 3) := by decide +kernel
theorem dX12_findHere_7 : decode cX12_findHere 7 = .ok (.aload_n 0, 1) := by decide +kernel
theorem dX12_findHere_8 : decode cX12_findHere 8 = .ok (.getfield 13, 3) := by decide +kernel
theorem dX12_findHere_11 : decode cX12_findHere 11 = .ok (.iload_n 1, 1) := by decide +kernel
theorem dX12_findHere_12 : decode cX12_findHere 12 = .ok (.iload_n 3, 1) := by decide +kernel
theorem dX12_findHere_13 : decode cX12_findHere 13 = .ok (.iadd, 1) := by decide +kernel
theorem dX12_findHere_14 : decode cX12_findHere 14 = .ok (.laload, 1) := by decide +kernel
theorem dX12_findHere_15 : decode cX12_findHere 15 = .ok (.aload_n 0, 1) := by decide +kernel
theorem dX12_findHere_16 : decode cX12_findHere 16 = .ok (.invokevirtual 176, 3) := by decide +kernel
theorem dX12_findHere_19 : decode cX12_findHere 19 = .ok (.lcmp, 1) := by decide +kernel
theorem dX12_findHere_20 : decode cX12_findHere 20 = .ok (.ifCond .ne 5, 3) := by decide +kernel
theorem dX12_findHere_23 : decode cX12_findHere 23 = .ok (.iload_n 3, 1) := by decide +kernel
theorem dX12_findHere_24 : decode cX12_findHere 24 = .ok (.ireturn, 1) := by decide +kernel
theorem dX12_findHere_25 : decode cX12_findHere 25 = .ok (.iinc 3 1, 3) := by decide +kernel
theorem dX12_findHere_28 : decode cX12_findHere 28 = .ok (.goto (-26), 3) := by decide +kernel
theorem dX12_findHere_31 : decode cX12_findHere 31 = .ok (.iconst (-1), 1) := by decide +kernel
theorem dX12_findHere_32 : decode cX12_findHere 32 = .ok (.ireturn, 1) := by decide +kernel
set_option maxRecDepth 100000 in
theorem f_X12_findHere_L2_ok {E : EnvT} {C : Cx} {Mi M : Mem} {x0 : Int} (h0 : x0 ≠ 0) (hC : CxOK E C cX12_findHere 4 yX12_findHere.cls 3 0 0) {r0 : Int} (hq : RQ E C 0 0 Mi (some .int) (some (0, r0)) M) {x1 x2 : Int} {k : Option (Int)} (hk : Bk E C 4 Mi r0 31 [] [] M 0 0 (k)) : ∀ (n : Nat) (p1 : Int), Bk E C 4 Mi r0 2 [(0, 30, x0), (1, 0, x1), (2, 0, x2), (3, 0, p1)] [] M 0 0 (f_X12_findHere_L2 M x0 x1 x2 k n p1) := by
  intro n
  induction n with
  | zero =>
    intro p1
    exact r_none
  | succ n ih =>
    intro p1
    rw [f_X12_findHere_L2]
    refine r_iload_n 2 hC 3 rfl rfl dX12_findHere_2 ?_
    refine r_iload_n 3 hC 2 rfl rfl dX12_findHere_3 ?_
    refine r_icmp_ge 4 hC (tgt := 31) (by decide) dX12_findHere_4 ?_ ?_
    · exact r_sub [] rfl (hk)
    · refine r_aload_n 7 hC 0 rfl (Or.inl (by decide)) rfl dX12_findHere_7 ?_
      refine r_get 8 hC fd_10_1 fl_X12_13 dX12_findHere_8 (fun v2 => ?_)
      refine r_iload_n 11 hC 1 rfl rfl dX12_findHere_11 ?_
      refine r_iload_n 12 hC 3 rfl rfl dX12_findHere_12 ?_
      refine r_iadd 13 hC dX12_findHere_13 ?_
      refine r_laload 14 hC dX12_findHere_14 (fun v3 => ?_)
      refine r_aload_n 15 hC 0 rfl (Or.inl (by decide)) rfl dX12_findHere_15 ?_
      refine r_callVP 16 hC [] [(1, v3)] rfl vl_X12_176 rfl h0 (by decide) (Nat.le_of_ble_eq_true rfl) (by decide) (by decide) dX12_findHere_16 (t_X12_nameHere x0 M h0) (fun v4 => ?_)
      refine r_lcmp_ne 19 hC (tgt := 25) (by decide) dX12_findHere_19 dX12_findHere_20 ?_ ?_
      · refine r_iinc 25 hC 3 rfl (by decide) dX12_findHere_25 (r_eqls (ls' := [(3, 0, w32 (p1 + 1)), (0, 30, x0), (1, 0, x1), (2, 0, x2)]) rfl ?_)
        refine r_goto 28 hC (tgt := 2) (by decide) dX12_findHere_28 ?_
        exact r_sub [1, 2, 3, 0] rfl (ih (w32 (p1 + 1)))
      · refine r_iload_n 23 hC 3 rfl rfl dX12_findHere_23 ?_
        exact r_ireturnP 24 hC hq (by decide) (by decide) dX12_findHere_24
set_option maxRecDepth 100000 in
theorem t_X12_findHere (x0 x1 x2 : Int) (M : Mem) (h0 : x0 ≠ 0) : MtP yX12_findHere cX12_findHere 4 (some .int) 3 0 0 [(30, x0), (0, x1), (0, x2)] M 0 (f_X12_findHere x0 x1 x2 M) := by
  refine mk_P (by decide +kernel) (Nat.le_of_ble_eq_true rfl) (fun E C r0 hC hq hin => ?_)
  refine r_eqls (ls' := [(0, 30, x0), (1, 0, x1), (2, 0, x2)]) rfl ?_
  unfold f_X12_findHere
  refine r_iconst 0 hC (r32c rfl) dX12_findHere_0 ?_
  refine r_istore_n 1 hC rfl (by decide) dX12_findHere_1 (r_eqls (ls' := [(3, 0, 0), (0, 30, x0), (1, 0, x1), (2, 0, x2)]) rfl ?_)
  refine r_sub [1, 2, 3, 0] rfl (f_X12_findHere_L2_ok h0 hC hq ?_ KF 0)
  · refine r_iconst 31 hC (r32c rfl) dX12_findHere_31 ?_
    exact r_ireturnP 32 hC hq (by decide) (by decide) dX12_findHere_32

/-! WaterTurnsModel.fault(I)I -/
theorem dX12_fault_0 : decode cX12_fault 0 = .ok (.iload_n 1, 1) := by decide +kernel
theorem dX12_fault_1 : decode cX12_fault 1 = .ok (.ifCond .ne 10, 3) := by decide +kernel
theorem dX12_fault_4 : decode cX12_fault 4 = .ok (.aload_n 0, 1) := by decide +kernel
theorem dX12_fault_5 : decode cX12_fault 5 = .ok (.getfield 37, 3) := by decide +kernel
theorem dX12_fault_8 : decode cX12_fault 8 = .ok (.goto 16, 3) := by decide +kernel
theorem dX12_fault_11 : decode cX12_fault 11 = .ok (.iload_n 1, 1) := by decide +kernel
theorem dX12_fault_12 : decode cX12_fault 12 = .ok (.iconst 1, 1) := by decide +kernel
theorem dX12_fault_13 : decode cX12_fault 13 = .ok (.if_icmp .ne 10, 3) := by decide +kernel
theorem dX12_fault_16 : decode cX12_fault 16 = .ok (.aload_n 0, 1) := by decide +kernel
theorem dX12_fault_17 : decode cX12_fault 17 = .ok (.getfield 41, 3) := by decide +kernel
theorem dX12_fault_20 : decode cX12_fault 20 = .ok (.goto 4, 3) := by decide +kernel
theorem dX12_fault_23 : decode cX12_fault 23 = .ok (.iconst (-1), 1) := by decide +kernel
theorem dX12_fault_24 : decode cX12_fault 24 = .ok (.ireturn, 1) := by decide +kernel
set_option maxRecDepth 100000 in
theorem t_X12_fault (x0 x1 : Int) (M : Mem) (h0 : x0 ≠ 0) : MtP yX12_fault cX12_fault 2 (some .int) 1 0 0 [(30, x0), (0, x1)] M 0 (f_X12_fault x0 x1 M) := by
  refine mk_P (by decide +kernel) (Nat.le_of_ble_eq_true rfl) (fun E C r0 hC hq hin => ?_)
  refine r_eqls (ls' := [(0, 30, x0), (1, 0, x1)]) rfl ?_
  unfold f_X12_fault
  refine r_iload_n 0 hC 1 rfl rfl dX12_fault_0 ?_
  refine r_jn (P := fun j24 => ∀ (q1 : Int), Bk E C 2 M r0 24 [] [(0, q1)] M 0 0 (j24 q1)) ?_ (fun j24 hj24 => ?_)
  · intro q1
    exact r_ireturnP 24 hC hq (by decide) (by decide) dX12_fault_24
  refine r_if_ne 1 hC (tgt := 11) (by decide) dX12_fault_1 ?_ ?_
  · refine r_iload_n 11 hC 1 rfl rfl dX12_fault_11 ?_
    refine r_iconst 12 hC (r32c rfl) dX12_fault_12 ?_
    refine r_icmp_ne 13 hC (tgt := 23) (by decide) dX12_fault_13 ?_ ?_
    · refine r_iconst 23 hC (r32c rfl) dX12_fault_23 ?_
      exact r_sub [] rfl (hj24 (-1))
    · refine r_aload_n 16 hC 0 rfl (Or.inl (by decide)) rfl dX12_fault_16 ?_
      refine r_get 17 hC fd_10_17 fl_X12_41 dX12_fault_17 (fun v2 => ?_)
      refine r_goto 20 hC (tgt := 24) (by decide) dX12_fault_20 ?_
      exact r_sub [] rfl (hj24 v2)
  · refine r_aload_n 4 hC 0 rfl (Or.inl (by decide)) rfl dX12_fault_4 ?_
    refine r_get 5 hC fd_10_16 fl_X12_37 dX12_fault_5 (fun v3 => ?_)
    refine r_goto 8 hC (tgt := 24) (by decide) dX12_fault_8 ?_
    exact r_sub [] rfl (hj24 v3)

/-! WaterTurnsModel.taken(I)I -/
theorem dX12_taken_0 : decode cX12_taken 0 = .ok (.aload_n 0, 1) := by decide +kernel
theorem dX12_taken_1 : decode cX12_taken 1 = .ok (.aload_n 0, 1) := by decide +kernel
theorem dX12_taken_2 : decode cX12_taken 2 = .ok (.getfield 157, 3) := by decide +kernel
theorem dX12_taken_5 : decode cX12_taken 5 = .ok (.putfield 37, 3) := by decide +kernel
theorem dX12_taken_8 : decode cX12_taken 8 = .ok (.aload_n 0, 1) := by decide +kernel
theorem dX12_taken_9 : decode cX12_taken 9 = .ok (.getfield 157, 3) := by decide +kernel
theorem dX12_taken_12 : decode cX12_taken 12 = .ok (.ifCond .le 12, 3) := by decide +kernel
theorem dX12_taken_15 : decode cX12_taken 15 = .ok (.aload_n 0, 1) := by decide +kernel
theorem dX12_taken_16 : decode cX12_taken 16 = .ok (.bipush 9, 2) := by decide +kernel
theorem dX12_taken_18 : decode cX12_taken 18 = .ok (.invokevirtual 87, 3) := by decide +kernel
theorem dX12_taken_21 : decode cX12_taken 21 = .ok (.goto 8, 3) := by decide +kernel
theorem dX12_taken_24 : decode cX12_taken 24 = .ok (.aload_n 0, 1) := by decide +kernel
theorem dX12_taken_25 : decode cX12_taken 25 = .ok (.iload_n 1, 1) := by decide +kernel
theorem dX12_taken_26 : decode cX12_taken 26 = .ok (.invokevirtual 91, 3) := by decide +kernel
theorem dX12_taken_29 : decode cX12_taken 29 = .ok (.ireturn, 1) := by decide +kernel
set_option maxRecDepth 100000 in
theorem t_X12_taken (x0 x1 : Int) (M : Mem) (h0 : x0 ≠ 0) : MtI yX12_taken cX12_taken 2 (some .int) 2 0 0 [(30, x0), (0, x1)] M 0 (f_X12_taken x0 x1 M) := by
  refine mk_I (by decide +kernel) (Nat.le_of_ble_eq_true rfl) (fun E C r0 M0 hC hq hin => ?_)
  refine r_eqls (ls' := [(0, 30, x0), (1, 0, x1)]) rfl ?_
  unfold f_X12_taken
  refine r_aload_n 0 hC 0 rfl (Or.inl (by decide)) rfl dX12_taken_0 ?_
  refine r_aload_n 1 hC 0 rfl (Or.inl (by decide)) rfl dX12_taken_1 ?_
  refine r_get 2 hC fd_10_18 fl_X12_157 dX12_taken_2 (fun v1 => ?_)
  refine r_put 5 hC fd_10_16 fl_X12_37 dX12_taken_5 (fun M2 => ?_)
  refine r_aload_n 8 hC 0 rfl (Or.inl (by decide)) rfl dX12_taken_8 ?_
  refine r_get 9 hC fd_10_18 fl_X12_157 dX12_taken_9 (fun v3 => ?_)
  refine r_jn (P := fun j29 => ∀ (q4 : Int) (M5 : Mem), Bk E C 2 M (r0, M0) 29 [] [(0, q4)] M5 0 0 (j29 q4 M5)) ?_ (fun j29 hj29 => ?_)
  · intro q4 M5
    exact r_ireturn 29 hC hq (by decide) (by decide) dX12_taken_29
  refine r_if_le 12 hC (tgt := 24) (by decide) dX12_taken_12 ?_ ?_
  · refine r_aload_n 24 hC 0 rfl (Or.inl (by decide)) rfl dX12_taken_24 ?_
    refine r_iload_n 25 hC 1 rfl rfl dX12_taken_25 ?_
    refine r_callVI 26 hC [(0, x1)] [] rfl vl_X12_91 rfl h0 (by decide) (Nat.le_of_ble_eq_true rfl) (by decide) (by decide) dX12_taken_26 (t_X12_gives x0 x1 M2 h0) (fun v6 M7 => ?_)
    exact r_sub [] rfl (hj29 v6 M7)
  · refine r_aload_n 15 hC 0 rfl (Or.inl (by decide)) rfl dX12_taken_15 ?_
    refine r_bipush 16 hC kb_9 dX12_taken_16 ?_
    refine r_callVI 18 hC [(0, 9)] [] rfl vl_X12_87 rfl h0 (by decide) (Nat.le_of_ble_eq_true rfl) (by decide) (by decide) dX12_taken_18 (t_X12_refuse x0 9 M2 h0) (fun v8 M9 => ?_)
    refine r_goto 21 hC (tgt := 29) (by decide) dX12_taken_21 ?_
    exact r_sub [] rfl (hj29 v8 M9)

/-! WaterTurnsModel.once(I)Z -/
theorem dX12_once_0 : decode cX12_once 0 = .ok (.aload_n 0, 1) := by decide +kernel
theorem dX12_once_1 : decode cX12_once 1 = .ok (.getfield 180, 3) := by decide +kernel
theorem dX12_once_4 : decode cX12_once 4 = .ok (.iload_n 1, 1) := by decide +kernel
theorem dX12_once_5 : decode cX12_once 5 = .ok (.ishr, 1) := by decide +kernel
theorem dX12_once_6 : decode cX12_once 6 = .ok (.iconst 1, 1) := by decide +kernel
theorem dX12_once_7 : decode cX12_once 7 = .ok (.iand, 1) := by decide +kernel
theorem dX12_once_8 : decode cX12_once 8 = .ok (.iconst 1, 1) := by decide +kernel
theorem dX12_once_9 : decode cX12_once 9 = .ok (.if_icmp .ne 9, 3) := by decide +kernel
theorem dX12_once_12 : decode cX12_once 12 = .ok (.aload_n 0, 1) := by decide +kernel
theorem dX12_once_13 : decode cX12_once 13 = .ok (.iconst 5, 1) := by decide +kernel
theorem dX12_once_14 : decode cX12_once 14 = .ok (.invokevirtual 169, 3) := by decide +kernel
theorem dX12_once_17 : decode cX12_once 17 = .ok (.ireturn, 1) := by decide +kernel
theorem dX12_once_18 : decode cX12_once 18 = .ok (.aload_n 0, 1) := by decide +kernel
theorem dX12_once_19 : decode cX12_once 19 = .ok (.dup, 1) := by decide +kernel
theorem dX12_once_20 : decode cX12_once 20 = .ok (.getfield 180, 3) := by decide +kernel
theorem dX12_once_23 : decode cX12_once 23 = .ok (.iconst 1, 1) := by decide +kernel
theorem dX12_once_24 : decode cX12_once 24 = .ok (.iload_n 1, 1) := by decide +kernel
theorem dX12_once_25 : decode cX12_once 25 = .ok (.ishl, 1) := by decide +kernel
theorem dX12_once_26 : decode cX12_once 26 = .ok (.ior, 1) := by decide +kernel
theorem dX12_once_27 : decode cX12_once 27 = .ok (.putfield 180, 3) := by decide +kernel
theorem dX12_once_30 : decode cX12_once 30 = .ok (.aload_n 0, 1) := by decide +kernel
theorem dX12_once_31 : decode cX12_once 31 = .ok (.invokevirtual 163, 3) := by decide +kernel
theorem dX12_once_34 : decode cX12_once 34 = .ok (.iload_n 1, 1) := by decide +kernel
theorem dX12_once_35 : decode cX12_once 35 = .ok (.ifCond .ne 15, 3) := by decide +kernel
theorem dX12_once_38 : decode cX12_once 38 = .ok (.aload_n 0, 1) := by decide +kernel
theorem dX12_once_39 : decode cX12_once 39 = .ok (.sipush 2560, 3) := by decide +kernel
theorem dX12_once_42 : decode cX12_once 42 = .ok (.iconst 0, 1) := by decide +kernel
theorem dX12_once_43 : decode cX12_once 43 = .ok (.sipush 999, 3) := by decide +kernel
theorem dX12_once_46 : decode cX12_once 46 = .ok (.invokevirtual 183, 3) := by decide +kernel
theorem dX12_once_49 : decode cX12_once 49 = .ok (.ireturn, 1) := by decide +kernel
theorem dX12_once_50 : decode cX12_once 50 = .ok (.aload_n 0, 1) := by decide +kernel
theorem dX12_once_51 : decode cX12_once 51 = .ok (.sipush 2561, 3) := by decide +kernel
theorem dX12_once_54 : decode cX12_once 54 = .ok (.iconst 1, 1) := by decide +kernel
theorem dX12_once_55 : decode cX12_once 55 = .ok (.sipush 1440, 3) := by decide +kernel
theorem dX12_once_58 : decode cX12_once 58 = .ok (.invokevirtual 183, 3) := by decide +kernel
theorem dX12_once_61 : decode cX12_once 61 = .ok (.ifCond .eq 31, 3) := by decide +kernel
theorem dX12_once_64 : decode cX12_once 64 = .ok (.aload_n 0, 1) := by decide +kernel
theorem dX12_once_65 : decode cX12_once 65 = .ok (.ldc 187, 2) := by decide +kernel
theorem dX12_once_67 : decode cX12_once 67 = .ok (.iconst 5, 1) := by decide +kernel
theorem dX12_once_68 : decode cX12_once 68 = .ok (.invokevirtual 189, 3) := by decide +kernel
theorem dX12_once_71 : decode cX12_once 71 = .ok (.ifCond .eq 21, 3) := by decide +kernel
theorem dX12_once_74 : decode cX12_once 74 = .ok (.aload_n 0, 1) := by decide +kernel
theorem dX12_once_75 : decode cX12_once 75 = .ok (.sipush 2562, 3) := by decide +kernel
theorem dX12_once_78 : decode cX12_once 78 = .ok (.iconst 0, 1) := by decide +kernel
theorem dX12_once_79 : decode cX12_once 79 = .ok (.sipush 1439, 3) := by decide +kernel
theorem dX12_once_82 : decode cX12_once 82 = .ok (.invokevirtual 183, 3) := by decide +kernel
theorem dX12_once_85 : decode cX12_once 85 = .ok (.ifCond .eq 7, 3) := by decide +kernel
theorem dX12_once_88 : decode cX12_once 88 = .ok (.iconst 1, 1) := by decide +kernel
theorem dX12_once_89 : decode cX12_once 89 = .ok (.goto 4, 3) := by decide +kernel
theorem dX12_once_92 : decode cX12_once 92 = .ok (.iconst 0, 1) := by decide +kernel
theorem dX12_once_93 : decode cX12_once 93 = .ok (.ireturn, 1) := by decide +kernel
set_option maxRecDepth 100000 in
theorem t_X12_once (x0 x1 : Int) (M : Mem) (h0 : x0 ≠ 0) : MtI yX12_once cX12_once 2 (some .boolean) 8 0 0 [(30, x0), (0, x1)] M 0 (f_X12_once x0 x1 M) := by
  refine mk_I (by decide +kernel) (Nat.le_of_ble_eq_true rfl) (fun E C r0 M0 hC hq hin => ?_)
  refine r_eqls (ls' := [(0, 30, x0), (1, 0, x1)]) rfl ?_
  unfold f_X12_once
  refine r_aload_n 0 hC 0 rfl (Or.inl (by decide)) rfl dX12_once_0 ?_
  refine r_get 1 hC fd_10_20 fl_X12_180 dX12_once_1 (fun v1 => ?_)
  refine r_iload_n 4 hC 1 rfl rfl dX12_once_4 ?_
  refine r_ishr 5 hC dX12_once_5 ?_
  refine r_iconst 6 hC (r32c rfl) dX12_once_6 ?_
  refine r_iand 7 hC dX12_once_7 ?_
  refine r_iconst 8 hC (r32c rfl) dX12_once_8 ?_
  refine r_icmp_ne 9 hC (tgt := 18) (by decide) dX12_once_9 ?_ ?_
  · refine r_aload_n 18 hC 0 rfl (Or.inl (by decide)) rfl dX12_once_18 ?_
    refine r_dup 19 hC (by decide) dX12_once_19 ?_
    refine r_get 20 hC fd_10_20 fl_X12_180 dX12_once_20 (fun v2 => ?_)
    refine r_iconst 23 hC (r32c rfl) dX12_once_23 ?_
    refine r_iload_n 24 hC 1 rfl rfl dX12_once_24 ?_
    refine r_ishl 25 hC dX12_once_25 ?_
    refine r_ior 26 hC dX12_once_26 ?_
    refine r_put 27 hC fd_10_20 fl_X12_180 dX12_once_27 (fun M3 => ?_)
    refine r_aload_n 30 hC 0 rfl (Or.inl (by decide)) rfl dX12_once_30 ?_
    refine r_callVV 31 hC [] [] rfl vl_X12_163 rfl h0 (by decide) (Nat.le_of_ble_eq_true rfl) (by decide) (by decide) dX12_once_31 (t_X12_ahead x0 M3 h0) (fun M4 => ?_)
    refine r_iload_n 34 hC 1 rfl rfl dX12_once_34 ?_
    refine r_if_ne 35 hC (tgt := 50) (by decide) dX12_once_35 ?_ ?_
    · refine r_aload_n 50 hC 0 rfl (Or.inl (by decide)) rfl dX12_once_50 ?_
      refine r_sipush 51 hC ks_2561 dX12_once_51 ?_
      refine r_iconst 54 hC (r32c rfl) dX12_once_54 ?_
      refine r_sipush 55 hC ks_1440 dX12_once_55 ?_
      refine r_callVI 58 hC [(0, 2561), (0, 1), (0, 1440)] [] rfl vl_X12_183 rfl h0 (by decide) (Nat.le_of_ble_eq_true rfl) (by decide) (by decide) dX12_once_58 (t_X12_number x0 2561 1 1440 M4 h0) (fun v5 M6 => ?_)
      refine r_jn (P := fun j93 => ∀ (q7 : Int) (M8 : Mem), Bk E C 2 M (r0, M0) 93 [] [(0, q7)] M8 0 0 (j93 q7 M8)) ?_ (fun j93 hj93 => ?_)
      · intro q7 M8
        exact r_zreturn 93 hC hq (by decide) (by decide) dX12_once_93
      refine r_jn (P := fun j92 => ∀ (M9 : Mem), Bk E C 2 M (r0, M0) 92 [] [] M9 0 0 (j92 M9)) ?_ (fun j92 hj92 => ?_)
      · intro M9
        refine r_iconst 92 hC (r32c rfl) dX12_once_92 ?_
        exact hj93 0 M9
      refine r_if_eq 61 hC (tgt := 92) (by decide) dX12_once_61 ?_ ?_
      · exact r_sub [] rfl (hj92 M6)
      · refine r_aload_n 64 hC 0 rfl (Or.inl (by decide)) rfl dX12_once_64 ?_
        refine r_ldcS2 65 hC dX12_once_65 ?_
        refine r_iconst 67 hC (r32c rfl) dX12_once_67 ?_
        refine r_callVI 68 hC [(2, (-2)), (0, 5)] [] rfl vl_X12_189 rfl h0 (by decide) (Nat.le_of_ble_eq_true rfl) (by decide) (by decide) dX12_once_68 (t_X12_wantWord x0 (-2) 5 M6 h0) (fun v10 M11 => ?_)
        refine r_if_eq 71 hC (tgt := 92) (by decide) dX12_once_71 ?_ ?_
        · exact r_sub [] rfl (hj92 M11)
        · refine r_aload_n 74 hC 0 rfl (Or.inl (by decide)) rfl dX12_once_74 ?_
          refine r_sipush 75 hC ks_2562 dX12_once_75 ?_
          refine r_iconst 78 hC (r32c rfl) dX12_once_78 ?_
          refine r_sipush 79 hC ks_1439 dX12_once_79 ?_
          refine r_callVI 82 hC [(0, 2562), (0, 0), (0, 1439)] [] rfl vl_X12_183 rfl h0 (by decide) (Nat.le_of_ble_eq_true rfl) (by decide) (by decide) dX12_once_82 (t_X12_number x0 2562 0 1439 M11 h0) (fun v12 M13 => ?_)
          refine r_if_eq 85 hC (tgt := 92) (by decide) dX12_once_85 ?_ ?_
          · exact r_sub [] rfl (hj92 M13)
          · refine r_iconst 88 hC (r32c rfl) dX12_once_88 ?_
            refine r_goto 89 hC (tgt := 93) (by decide) dX12_once_89 ?_
            exact r_sub [] rfl (hj93 1 M13)
    · refine r_aload_n 38 hC 0 rfl (Or.inl (by decide)) rfl dX12_once_38 ?_
      refine r_sipush 39 hC ks_2560 dX12_once_39 ?_
      refine r_iconst 42 hC (r32c rfl) dX12_once_42 ?_
      refine r_sipush 43 hC ks_999 dX12_once_43 ?_
      refine r_callVI 46 hC [(0, 2560), (0, 0), (0, 999)] [] rfl vl_X12_183 rfl h0 (by decide) (Nat.le_of_ble_eq_true rfl) (by decide) (by decide) dX12_once_46 (t_X12_number x0 2560 0 999 M4 h0) (fun v14 M15 => ?_)
      exact r_zreturn 49 hC hq (by decide) (by decide) dX12_once_49
  · refine r_aload_n 12 hC 0 rfl (Or.inl (by decide)) rfl dX12_once_12 ?_
    refine r_iconst 13 hC (r32c rfl) dX12_once_13 ?_
    refine r_callVI 14 hC [(0, 5)] [] rfl vl_X12_169 rfl h0 (by decide) (Nat.le_of_ble_eq_true rfl) (by decide) (by decide) dX12_once_14 (t_X12_fails x0 5 M h0) (fun v16 M17 => ?_)
    exact r_zreturn 17 hC hq (by decide) (by decide) dX12_once_17

/-! WaterTurnsModel.newOne(III)Z -/
theorem dX12_newOne_0 : decode cX12_newOne 0 = .ok (.aload_n 0, 1) := by decide +kernel
theorem dX12_newOne_1 : decode cX12_newOne 1 = .ok (.getfield 7, 3) := by decide +kernel
theorem dX12_newOne_4 : decode cX12_newOne 4 = .ok (.sipush 2560, 3) := by decide +kernel
theorem dX12_newOne_7 : decode cX12_newOne 7 = .ok (.iload_n 1, 1) := by decide +kernel
theorem dX12_newOne_8 : decode cX12_newOne 8 = .ok (.iadd, 1) := by decide +kernel
theorem dX12_newOne_9 : decode cX12_newOne 9 = .ok (.iaload, 1) := by decide +kernel
theorem dX12_newOne_10 : decode cX12_newOne 10 = .ok (.iload_n 2, 1) := by decide +kernel
theorem dX12_newOne_11 : decode cX12_newOne 11 = .ok (.if_icmp .ne 10, 3) := by decide +kernel
theorem dX12_newOne_14 : decode cX12_newOne 14 = .ok (.aload_n 0, 1) := by decide +kernel
theorem dX12_newOne_15 : decode cX12_newOne 15 = .ok (.bipush 6, 2) := by decide +kernel
theorem dX12_newOne_17 : decode cX12_newOne 17 = .ok (.invokevirtual 169, 3) := by decide +kernel
theorem dX12_newOne_20 : decode cX12_newOne 20 = .ok (.ireturn, 1) := by decide +kernel
theorem dX12_newOne_21 : decode cX12_newOne 21 = .ok (.aload_n 0, 1) := by decide +kernel
theorem dX12_newOne_22 : decode cX12_newOne 22 = .ok (.invokevirtual 163, 3) := by decide +kernel
theorem dX12_newOne_25 : decode cX12_newOne 25 = .ok (.aload_n 0, 1) := by decide +kernel
theorem dX12_newOne_26 : decode cX12_newOne 26 = .ok (.ldc 187, 2) := by decide +kernel
theorem dX12_newOne_28 : decode cX12_newOne 28 = .ok (.invokevirtual 193, 3) := by decide +kernel
theorem dX12_newOne_31 : decode cX12_newOne 31 = .ok (.ifCond .ne 9, 3) := by decide +kernel
theorem dX12_newOne_34 : decode cX12_newOne 34 = .ok (.aload_n 0, 1) := by decide +kernel
theorem dX12_newOne_35 : decode cX12_newOne 35 = .ok (.iconst 2, 1) := by decide +kernel
theorem dX12_newOne_36 : decode cX12_newOne 36 = .ok (.invokevirtual 169, 3) := by decide +kernel
theorem dX12_newOne_39 : decode cX12_newOne 39 = .ok (.ireturn, 1) := by decide +kernel
theorem dX12_newOne_40 : decode cX12_newOne 40 = .ok (.aload_n 0, 1) := by decide +kernel
theorem dX12_newOne_41 : decode cX12_newOne 41 = .ok (.bipush 104, 2) := by decide +kernel
theorem dX12_newOne_43 : decode cX12_newOne 43 = .ok (.aload_n 0, 1) := by decide +kernel
theorem dX12_newOne_44 : decode cX12_newOne 44 = .ok (.getfield 7, 3) := by decide +kernel
theorem dX12_newOne_47 : decode cX12_newOne 47 = .ok (.sipush 2563, 3) := by decide +kernel
theorem dX12_newOne_50 : decode cX12_newOne 50 = .ok (.iaload, 1) := by decide +kernel
theorem dX12_newOne_51 : decode cX12_newOne 51 = .ok (.invokevirtual 197, 3) := by decide +kernel
theorem dX12_newOne_54 : decode cX12_newOne 54 = .ok (.iconst (-1), 1) := by decide +kernel
theorem dX12_newOne_55 : decode cX12_newOne 55 = .ok (.if_icmp .ne 39, 3) := by decide +kernel
theorem dX12_newOne_58 : decode cX12_newOne 58 = .ok (.aload_n 0, 1) := by decide +kernel
theorem dX12_newOne_59 : decode cX12_newOne 59 = .ok (.bipush 114, 2) := by decide +kernel
theorem dX12_newOne_61 : decode cX12_newOne 61 = .ok (.aload_n 0, 1) := by decide +kernel
theorem dX12_newOne_62 : decode cX12_newOne 62 = .ok (.getfield 7, 3) := by decide +kernel
theorem dX12_newOne_65 : decode cX12_newOne 65 = .ok (.sipush 2564, 3) := by decide +kernel
theorem dX12_newOne_68 : decode cX12_newOne 68 = .ok (.iaload, 1) := by decide +kernel
theorem dX12_newOne_69 : decode cX12_newOne 69 = .ok (.invokevirtual 197, 3) := by decide +kernel
theorem dX12_newOne_72 : decode cX12_newOne 72 = .ok (.iconst (-1), 1) := by decide +kernel
theorem dX12_newOne_73 : decode cX12_newOne 73 = .ok (.if_icmp .ne 21, 3) := by decide +kernel
theorem dX12_newOne_76 : decode cX12_newOne 76 = .ok (.aload_n 0, 1) := by decide +kernel
theorem dX12_newOne_77 : decode cX12_newOne 77 = .ok (.bipush 120, 2) := by decide +kernel
theorem dX12_newOne_79 : decode cX12_newOne 79 = .ok (.aload_n 0, 1) := by decide +kernel
theorem dX12_newOne_80 : decode cX12_newOne 80 = .ok (.getfield 7, 3) := by decide +kernel
theorem dX12_newOne_83 : decode cX12_newOne 83 = .ok (.sipush 2565, 3) := by decide +kernel
theorem dX12_newOne_86 : decode cX12_newOne 86 = .ok (.iaload, 1) := by decide +kernel
theorem dX12_newOne_87 : decode cX12_newOne 87 = .ok (.invokevirtual 197, 3) := by decide +kernel
theorem dX12_newOne_90 : decode cX12_newOne 90 = .ok (.iconst (-1), 1) := by decide +kernel
theorem dX12_newOne_91 : decode cX12_newOne 91 = .ok (.if_icmp .eq 9, 3) := by decide +kernel
theorem dX12_newOne_94 : decode cX12_newOne 94 = .ok (.aload_n 0, 1) := by decide +kernel
theorem dX12_newOne_95 : decode cX12_newOne 95 = .ok (.iconst 3, 1) := by decide +kernel
theorem dX12_newOne_96 : decode cX12_newOne 96 = .ok (.invokevirtual 169, 3) := by decide +kernel
theorem dX12_newOne_99 : decode cX12_newOne 99 = .ok (.ireturn, 1) := by decide +kernel
theorem dX12_newOne_100 : decode cX12_newOne 100 = .ok (.aload_n 0, 1) := by decide +kernel
theorem dX12_newOne_101 : decode cX12_newOne 101 = .ok (.getfield 13, 3) := by decide +kernel
theorem dX12_newOne_104 : decode cX12_newOne 104 = .ok (.bipush 104, 2) := by decide +kernel
theorem dX12_newOne_106 : decode cX12_newOne 106 = .ok (.iload_n 3, 1) := by decide +kernel
theorem dX12_newOne_107 : decode cX12_newOne 107 = .ok (.iadd, 1) := by decide +kernel
theorem dX12_newOne_108 : decode cX12_newOne 108 = .ok (.aload_n 0, 1) := by decide +kernel
theorem dX12_newOne_109 : decode cX12_newOne 109 = .ok (.getfield 7, 3) := by decide +kernel
theorem dX12_newOne_112 : decode cX12_newOne 112 = .ok (.sipush 2560, 3) := by decide +kernel
theorem dX12_newOne_115 : decode cX12_newOne 115 = .ok (.iload_n 1, 1) := by decide +kernel
theorem dX12_newOne_116 : decode cX12_newOne 116 = .ok (.iadd, 1) := by decide +kernel
theorem dX12_newOne_117 : decode cX12_newOne 117 = .ok (.iaload, 1) := by decide +kernel
theorem dX12_newOne_118 : decode cX12_newOne 118 = .ok (.iadd, 1) := by decide +kernel
theorem dX12_newOne_119 : decode cX12_newOne 119 = .ok (.aload_n 0, 1) := by decide +kernel
theorem dX12_newOne_120 : decode cX12_newOne 120 = .ok (.invokevirtual 176, 3) := by decide +kernel
theorem dX12_newOne_123 : decode cX12_newOne 123 = .ok (.lastore, 1) := by decide +kernel
theorem dX12_newOne_124 : decode cX12_newOne 124 = .ok (.aload_n 0, 1) := by decide +kernel
theorem dX12_newOne_125 : decode cX12_newOne 125 = .ok (.invokevirtual 163, 3) := by decide +kernel
theorem dX12_newOne_128 : decode cX12_newOne 128 = .ok (.iconst 1, 1) := by decide +kernel
theorem dX12_newOne_129 : decode cX12_newOne 129 = .ok (.ireturn, 1) := by decide +kernel
set_option maxRecDepth 100000 in
theorem t_X12_newOne (x0 x1 x2 x3 : Int) (M : Mem) (h0 : x0 ≠ 0) : MtI yX12_newOne cX12_newOne 4 (some .boolean) 8 0 0 [(30, x0), (0, x1), (0, x2), (0, x3)] M 0 (f_X12_newOne x0 x1 x2 x3 M) := by
  refine mk_I (by decide +kernel) (Nat.le_of_ble_eq_true rfl) (fun E C r0 M0 hC hq hin => ?_)
  refine r_eqls (ls' := [(0, 30, x0), (1, 0, x1), (2, 0, x2), (3, 0, x3)]) rfl ?_
  unfold f_X12_newOne
  refine r_aload_n 0 hC 0 rfl (Or.inl (by decide)) rfl dX12_newOne_0 ?_
  refine r_get 1 hC fd_10_0 fl_X12_7 dX12_newOne_1 (fun v1 => ?_)
  refine r_sipush 4 hC ks_2560 dX12_newOne_4 ?_
  refine r_iload_n 7 hC 1 rfl rfl dX12_newOne_7 ?_
  refine r_iadd 8 hC dX12_newOne_8 ?_
  refine r_iaload 9 hC dX12_newOne_9 (fun v2 => ?_)
  refine r_iload_n 10 hC 2 rfl rfl dX12_newOne_10 ?_
  refine r_icmp_ne 11 hC (tgt := 21) (by decide) dX12_newOne_11 ?_ ?_
  · refine r_aload_n 21 hC 0 rfl (Or.inl (by decide)) rfl dX12_newOne_21 ?_
    refine r_callVV 22 hC [] [] rfl vl_X12_163 rfl h0 (by decide) (Nat.le_of_ble_eq_true rfl) (by decide) (by decide) dX12_newOne_22 (t_X12_ahead x0 M h0) (fun M3 => ?_)
    refine r_aload_n 25 hC 0 rfl (Or.inl (by decide)) rfl dX12_newOne_25 ?_
    refine r_ldcS2 26 hC dX12_newOne_26 ?_
    refine r_callVP 28 hC [(2, (-2))] [] rfl vl_X12_193 rfl h0 (by decide) (Nat.le_of_ble_eq_true rfl) (by decide) (by decide) dX12_newOne_28 (t_X12_isName x0 (-2) M3 h0) (fun v4 => ?_)
    refine r_if_ne 31 hC (tgt := 40) (by decide) dX12_newOne_31 ?_ ?_
    · refine r_aload_n 40 hC 0 rfl (Or.inl (by decide)) rfl dX12_newOne_40 ?_
      refine r_bipush 41 hC kb_104 dX12_newOne_41 ?_
      refine r_aload_n 43 hC 0 rfl (Or.inl (by decide)) rfl dX12_newOne_43 ?_
      refine r_get 44 hC fd_10_0 fl_X12_7 dX12_newOne_44 (fun v5 => ?_)
      refine r_sipush 47 hC ks_2563 dX12_newOne_47 ?_
      refine r_iaload 50 hC dX12_newOne_50 (fun v6 => ?_)
      refine r_callVP 51 hC [(0, 104), (0, v6)] [] rfl vl_X12_197 rfl h0 (by decide) (Nat.le_of_ble_eq_true rfl) (by decide) (by decide) dX12_newOne_51 (t_X12_findHere x0 104 v6 M3 h0) (fun v7 => ?_)
      refine r_iconst 54 hC (r32c rfl) dX12_newOne_54 ?_
      refine r_jn (P := fun j94 => Bk E C 4 M (r0, M0) 94 [(0, 30, x0)] [] M3 0 0 (j94)) ?_ (fun j94 hj94 => ?_)
      · refine r_aload_n 94 hC 0 rfl (Or.inl (by decide)) rfl dX12_newOne_94 ?_
        refine r_iconst 95 hC (r32c rfl) dX12_newOne_95 ?_
        refine r_callVI 96 hC [(0, 3)] [] rfl vl_X12_169 rfl h0 (by decide) (Nat.le_of_ble_eq_true rfl) (by decide) (by decide) dX12_newOne_96 (t_X12_fails x0 3 M3 h0) (fun v8 M9 => ?_)
        exact r_zreturn 99 hC hq (by decide) (by decide) dX12_newOne_99
      refine r_icmp_ne 55 hC (tgt := 94) (by decide) dX12_newOne_55 ?_ ?_
      · exact r_sub [0] rfl (hj94)
      · refine r_aload_n 58 hC 0 rfl (Or.inl (by decide)) rfl dX12_newOne_58 ?_
        refine r_bipush 59 hC kb_114 dX12_newOne_59 ?_
        refine r_aload_n 61 hC 0 rfl (Or.inl (by decide)) rfl dX12_newOne_61 ?_
        refine r_get 62 hC fd_10_0 fl_X12_7 dX12_newOne_62 (fun v10 => ?_)
        refine r_sipush 65 hC ks_2564 dX12_newOne_65 ?_
        refine r_iaload 68 hC dX12_newOne_68 (fun v11 => ?_)
        refine r_callVP 69 hC [(0, 114), (0, v11)] [] rfl vl_X12_197 rfl h0 (by decide) (Nat.le_of_ble_eq_true rfl) (by decide) (by decide) dX12_newOne_69 (t_X12_findHere x0 114 v11 M3 h0) (fun v12 => ?_)
        refine r_iconst 72 hC (r32c rfl) dX12_newOne_72 ?_
        refine r_icmp_ne 73 hC (tgt := 94) (by decide) dX12_newOne_73 ?_ ?_
        · exact r_sub [0] rfl (hj94)
        · refine r_aload_n 76 hC 0 rfl (Or.inl (by decide)) rfl dX12_newOne_76 ?_
          refine r_bipush 77 hC kb_120 dX12_newOne_77 ?_
          refine r_aload_n 79 hC 0 rfl (Or.inl (by decide)) rfl dX12_newOne_79 ?_
          refine r_get 80 hC fd_10_0 fl_X12_7 dX12_newOne_80 (fun v13 => ?_)
          refine r_sipush 83 hC ks_2565 dX12_newOne_83 ?_
          refine r_iaload 86 hC dX12_newOne_86 (fun v14 => ?_)
          refine r_callVP 87 hC [(0, 120), (0, v14)] [] rfl vl_X12_197 rfl h0 (by decide) (Nat.le_of_ble_eq_true rfl) (by decide) (by decide) dX12_newOne_87 (t_X12_findHere x0 120 v14 M3 h0) (fun v15 => ?_)
          refine r_iconst 90 hC (r32c rfl) dX12_newOne_90 ?_
          refine r_icmp_eq 91 hC (tgt := 100) (by decide) dX12_newOne_91 ?_ ?_
          · refine r_aload_n 100 hC 0 rfl (Or.inl (by decide)) rfl dX12_newOne_100 ?_
            refine r_get 101 hC fd_10_1 fl_X12_13 dX12_newOne_101 (fun v16 => ?_)
            refine r_bipush 104 hC kb_104 dX12_newOne_104 ?_
            refine r_iload_n 106 hC 3 rfl rfl dX12_newOne_106 ?_
            refine r_iadd 107 hC dX12_newOne_107 ?_
            refine r_aload_n 108 hC 0 rfl (Or.inl (by decide)) rfl dX12_newOne_108 ?_
            refine r_get 109 hC fd_10_0 fl_X12_7 dX12_newOne_109 (fun v17 => ?_)
            refine r_sipush 112 hC ks_2560 dX12_newOne_112 ?_
            refine r_iload_n 115 hC 1 rfl rfl dX12_newOne_115 ?_
            refine r_iadd 116 hC dX12_newOne_116 ?_
            refine r_iaload 117 hC dX12_newOne_117 (fun v18 => ?_)
            refine r_iadd 118 hC dX12_newOne_118 ?_
            refine r_aload_n 119 hC 0 rfl (Or.inl (by decide)) rfl dX12_newOne_119 ?_
            refine r_callVP 120 hC [] [(0, w32 ((w32 (104 + x3)) + v18)), (11, v16)] rfl vl_X12_176 rfl h0 (by decide) (Nat.le_of_ble_eq_true rfl) (by decide) (by decide) dX12_newOne_120 (t_X12_nameHere x0 M3 h0) (fun v19 => ?_)
            refine r_lastore 123 hC dX12_newOne_123 (fun M20 => ?_)
            refine r_aload_n 124 hC 0 rfl (Or.inl (by decide)) rfl dX12_newOne_124 ?_
            refine r_callVV 125 hC [] [] rfl vl_X12_163 rfl h0 (by decide) (Nat.le_of_ble_eq_true rfl) (by decide) (by decide) dX12_newOne_125 (t_X12_ahead x0 M20 h0) (fun M21 => ?_)
            refine r_iconst 128 hC (r32c rfl) dX12_newOne_128 ?_
            exact r_zreturn 129 hC hq (by decide) (by decide) dX12_newOne_129
          · exact r_sub [0] rfl (hj94)
    · refine r_aload_n 34 hC 0 rfl (Or.inl (by decide)) rfl dX12_newOne_34 ?_
      refine r_iconst 35 hC (r32c rfl) dX12_newOne_35 ?_
      refine r_callVI 36 hC [(0, 2)] [] rfl vl_X12_169 rfl h0 (by decide) (Nat.le_of_ble_eq_true rfl) (by decide) (by decide) dX12_newOne_36 (t_X12_fails x0 2 M3 h0) (fun v22 M23 => ?_)
      exact r_zreturn 39 hC hq (by decide) (by decide) dX12_newOne_39
  · refine r_aload_n 14 hC 0 rfl (Or.inl (by decide)) rfl dX12_newOne_14 ?_
    refine r_bipush 15 hC kb_6 dX12_newOne_15 ?_
    refine r_callVI 17 hC [(0, 6)] [] rfl vl_X12_169 rfl h0 (by decide) (Nat.le_of_ble_eq_true rfl) (by decide) (by decide) dX12_newOne_17 (t_X12_fails x0 6 M h0) (fun v24 M25 => ?_)
    exact r_zreturn 20 hC hq (by decide) (by decide) dX12_newOne_20

/-! WaterTurnsModel.oldOne(IIII)Z -/
theorem dX12_oldOne_0 : decode cX12_oldOne 0 = .ok (.aload_n 0, 1) := by decide +kernel
theorem dX12_oldOne_1 : decode cX12_oldOne 1 = .ok (.ldc 187, 2) := by decide +kernel
theorem dX12_oldOne_3 : decode cX12_oldOne 3 = .ok (.invokevirtual 193, 3) := by decide +kernel
theorem dX12_oldOne_6 : decode cX12_oldOne 6 = .ok (.ifCond .ne 9, 3) := by decide +kernel
theorem dX12_oldOne_9 : decode cX12_oldOne 9 = .ok (.aload_n 0, 1) := by decide +kernel
theorem dX12_oldOne_10 : decode cX12_oldOne 10 = .ok (.iconst 2, 1) := by decide +kernel
theorem dX12_oldOne_11 : decode cX12_oldOne 11 = .ok (.invokevirtual 169, 3) := by decide +kernel
theorem dX12_oldOne_14 : decode cX12_oldOne 14 = .ok (.ireturn, 1) := by decide +kernel
theorem dX12_oldOne_15 : decode cX12_oldOne 15 = .ok (.aload_n 0, 1) := by decide +kernel
theorem dX12_oldOne_16 : decode cX12_oldOne 16 = .ok (.getfield 7, 3) := by decide +kernel
theorem dX12_oldOne_19 : decode cX12_oldOne 19 = .ok (.iload 4, 2) := by decide +kernel
theorem dX12_oldOne_21 : decode cX12_oldOne 21 = .ok (.aload_n 0, 1) := by decide +kernel
theorem dX12_oldOne_22 : decode cX12_oldOne 22 = .ok (.iload_n 1, 1) := by decide +kernel
theorem dX12_oldOne_23 : decode cX12_oldOne 23 = .ok (.iload_n 3, 1) := by decide +kernel
theorem dX12_oldOne_24 : decode cX12_oldOne 24 = .ok (.iadd, 1) := by decide +kernel
theorem dX12_oldOne_25 : decode cX12_oldOne 25 = .ok (.iload_n 2, 1) := by decide +kernel
theorem dX12_oldOne_26 : decode cX12_oldOne 26 = .ok (.invokevirtual 197, 3) := by decide +kernel
theorem dX12_oldOne_29 : decode cX12_oldOne 29 = .ok (.iastore, 1) := by decide +kernel
theorem dX12_oldOne_30 : decode cX12_oldOne 30 = .ok (.aload_n 0, 1) := by decide +kernel
theorem dX12_oldOne_31 : decode cX12_oldOne 31 = .ok (.getfield 7, 3) := by decide +kernel
theorem dX12_oldOne_34 : decode cX12_oldOne 34 = .ok (.iload 4, 2) := by decide +kernel
theorem dX12_oldOne_36 : decode cX12_oldOne 36 = .ok (.iaload, 1) := by decide +kernel
theorem dX12_oldOne_37 : decode cX12_oldOne 37 = .ok (.iconst (-1), 1) := by decide +kernel
theorem dX12_oldOne_38 : decode cX12_oldOne 38 = .ok (.if_icmp .ne 9, 3) := by decide +kernel
theorem dX12_oldOne_41 : decode cX12_oldOne 41 = .ok (.aload_n 0, 1) := by decide +kernel
theorem dX12_oldOne_42 : decode cX12_oldOne 42 = .ok (.iconst 3, 1) := by decide +kernel
theorem dX12_oldOne_43 : decode cX12_oldOne 43 = .ok (.invokevirtual 169, 3) := by decide +kernel
theorem dX12_oldOne_46 : decode cX12_oldOne 46 = .ok (.ireturn, 1) := by decide +kernel
theorem dX12_oldOne_47 : decode cX12_oldOne 47 = .ok (.aload_n 0, 1) := by decide +kernel
theorem dX12_oldOne_48 : decode cX12_oldOne 48 = .ok (.invokevirtual 163, 3) := by decide +kernel
theorem dX12_oldOne_51 : decode cX12_oldOne 51 = .ok (.iconst 1, 1) := by decide +kernel
theorem dX12_oldOne_52 : decode cX12_oldOne 52 = .ok (.ireturn, 1) := by decide +kernel
set_option maxRecDepth 100000 in
theorem t_X12_oldOne (x0 x1 x2 x3 x4 : Int) (M : Mem) (h0 : x0 ≠ 0) : MtI yX12_oldOne cX12_oldOne 5 (some .boolean) 8 0 0 [(30, x0), (0, x1), (0, x2), (0, x3), (0, x4)] M 0 (f_X12_oldOne x0 x1 x2 x3 x4 M) := by
  refine mk_I (by decide +kernel) (Nat.le_of_ble_eq_true rfl) (fun E C r0 M0 hC hq hin => ?_)
  refine r_eqls (ls' := [(0, 30, x0), (1, 0, x1), (2, 0, x2), (3, 0, x3), (4, 0, x4)]) rfl ?_
  unfold f_X12_oldOne
  refine r_aload_n 0 hC 0 rfl (Or.inl (by decide)) rfl dX12_oldOne_0 ?_
  refine r_ldcS2 1 hC dX12_oldOne_1 ?_
  refine r_callVP 3 hC [(2, (-2))] [] rfl vl_X12_193 rfl h0 (by decide) (Nat.le_of_ble_eq_true rfl) (by decide) (by decide) dX12_oldOne_3 (t_X12_isName x0 (-2) M h0) (fun v1 => ?_)
  refine r_if_ne 6 hC (tgt := 15) (by decide) dX12_oldOne_6 ?_ ?_
  · refine r_aload_n 15 hC 0 rfl (Or.inl (by decide)) rfl dX12_oldOne_15 ?_
    refine r_get 16 hC fd_10_0 fl_X12_7 dX12_oldOne_16 (fun v2 => ?_)
    refine r_iload 19 hC 4 rfl dX12_oldOne_19 ?_
    refine r_aload_n 21 hC 0 rfl (Or.inl (by decide)) rfl dX12_oldOne_21 ?_
    refine r_iload_n 22 hC 1 rfl rfl dX12_oldOne_22 ?_
    refine r_iload_n 23 hC 3 rfl rfl dX12_oldOne_23 ?_
    refine r_iadd 24 hC dX12_oldOne_24 ?_
    refine r_iload_n 25 hC 2 rfl rfl dX12_oldOne_25 ?_
    refine r_callVP 26 hC [(0, w32 (x1 + x3)), (0, x2)] [(0, x4), (10, v2)] rfl vl_X12_197 rfl h0 (by decide) (Nat.le_of_ble_eq_true rfl) (by decide) (by decide) dX12_oldOne_26 (t_X12_findHere x0 (w32 (x1 + x3)) x2 M h0) (fun v3 => ?_)
    refine r_iastore 29 hC dX12_oldOne_29 (fun M4 => ?_)
    refine r_aload_n 30 hC 0 rfl (Or.inl (by decide)) rfl dX12_oldOne_30 ?_
    refine r_get 31 hC fd_10_0 fl_X12_7 dX12_oldOne_31 (fun v5 => ?_)
    refine r_iload 34 hC 4 rfl dX12_oldOne_34 ?_
    refine r_iaload 36 hC dX12_oldOne_36 (fun v6 => ?_)
    refine r_iconst 37 hC (r32c rfl) dX12_oldOne_37 ?_
    refine r_icmp_ne 38 hC (tgt := 47) (by decide) dX12_oldOne_38 ?_ ?_
    · refine r_aload_n 47 hC 0 rfl (Or.inl (by decide)) rfl dX12_oldOne_47 ?_
      refine r_callVV 48 hC [] [] rfl vl_X12_163 rfl h0 (by decide) (Nat.le_of_ble_eq_true rfl) (by decide) (by decide) dX12_oldOne_48 (t_X12_ahead x0 M4 h0) (fun M7 => ?_)
      refine r_iconst 51 hC (r32c rfl) dX12_oldOne_51 ?_
      exact r_zreturn 52 hC hq (by decide) (by decide) dX12_oldOne_52
    · refine r_aload_n 41 hC 0 rfl (Or.inl (by decide)) rfl dX12_oldOne_41 ?_
      refine r_iconst 42 hC (r32c rfl) dX12_oldOne_42 ?_
      refine r_callVI 43 hC [(0, 3)] [] rfl vl_X12_169 rfl h0 (by decide) (Nat.le_of_ble_eq_true rfl) (by decide) (by decide) dX12_oldOne_43 (t_X12_fails x0 3 M4 h0) (fun v8 M9 => ?_)
      exact r_zreturn 46 hC hq (by decide) (by decide) dX12_oldOne_46
  · refine r_aload_n 9 hC 0 rfl (Or.inl (by decide)) rfl dX12_oldOne_9 ?_
    refine r_iconst 10 hC (r32c rfl) dX12_oldOne_10 ?_
    refine r_callVI 11 hC [(0, 2)] [] rfl vl_X12_169 rfl h0 (by decide) (Nat.le_of_ble_eq_true rfl) (by decide) (by decide) dX12_oldOne_11 (t_X12_fails x0 2 M h0) (fun v10 M11 => ?_)
    exact r_zreturn 14 hC hq (by decide) (by decide) dX12_oldOne_14

/-! WaterTurnsModel.isThere(I)Z -/
theorem dX12_isThere_0 : decode cX12_isThere 0 = .ok (.aload_n 0, 1) := by decide +kernel
theorem dX12_isThere_1 : decode cX12_isThere 1 = .ok (.ldc 187, 2) := by decide +kernel
theorem dX12_isThere_3 : decode cX12_isThere 3 = .ok (.invokevirtual 172, 3) := by decide +kernel
theorem dX12_isThere_6 : decode cX12_isThere 6 = .ok (.iload_n 1, 1) := by decide +kernel
theorem dX12_isThere_7 : decode cX12_isThere 7 = .ok (.if_icmp .eq 5, 3) := by decide +kernel
theorem dX12_isThere_10 : decode cX12_isThere 10 = .ok (.iconst 0, 1) := by decide +kernel
theorem dX12_isThere_11 : decode cX12_isThere 11 = .ok (.ireturn, 1) := by decide +kernel
theorem dX12_isThere_12 : decode cX12_isThere 12 = .ok (.aload_n 0, 1) := by decide +kernel
theorem dX12_isThere_13 : decode cX12_isThere 13 = .ok (.invokevirtual 163, 3) := by decide +kernel
theorem dX12_isThere_16 : decode cX12_isThere 16 = .ok (.iconst 1, 1) := by decide +kernel
theorem dX12_isThere_17 : decode cX12_isThere 17 = .ok (.ireturn, 1) := by decide +kernel
set_option maxRecDepth 100000 in
theorem t_X12_isThere (x0 x1 : Int) (M : Mem) (h0 : x0 ≠ 0) : MtI yX12_isThere cX12_isThere 2 (some .boolean) 7 0 0 [(30, x0), (0, x1)] M 0 (f_X12_isThere x0 x1 M) := by
  refine mk_I (by decide +kernel) (Nat.le_of_ble_eq_true rfl) (fun E C r0 M0 hC hq hin => ?_)
  refine r_eqls (ls' := [(0, 30, x0), (1, 0, x1)]) rfl ?_
  unfold f_X12_isThere
  refine r_aload_n 0 hC 0 rfl (Or.inl (by decide)) rfl dX12_isThere_0 ?_
  refine r_ldcS2 1 hC dX12_isThere_1 ?_
  refine r_callVP 3 hC [(2, (-2))] [] rfl vl_X12_172 rfl h0 (by decide) (Nat.le_of_ble_eq_true rfl) (by decide) (by decide) dX12_isThere_3 (t_X12_inWords x0 (-2) M h0) (fun v1 => ?_)
  refine r_iload_n 6 hC 1 rfl rfl dX12_isThere_6 ?_
  refine r_icmp_eq 7 hC (tgt := 12) (by decide) dX12_isThere_7 ?_ ?_
  · refine r_aload_n 12 hC 0 rfl (Or.inl (by decide)) rfl dX12_isThere_12 ?_
    refine r_callVV 13 hC [] [] rfl vl_X12_163 rfl h0 (by decide) (Nat.le_of_ble_eq_true rfl) (by decide) (by decide) dX12_isThere_13 (t_X12_ahead x0 M h0) (fun M2 => ?_)
    refine r_iconst 16 hC (r32c rfl) dX12_isThere_16 ?_
    exact r_zreturn 17 hC hq (by decide) (by decide) dX12_isThere_17
  · refine r_iconst 10 hC (r32c rfl) dX12_isThere_10 ?_
    exact r_zreturn 11 hC hq (by decide) (by decide) dX12_isThere_11

/-! WaterTurnsModel.aReach()Z -/
theorem dX12_aReach_0 : decode cX12_aReach 0 = .ok (.sipush 2572, 3) := by decide +kernel
theorem dX12_aReach_3 : decode cX12_aReach 3 = .ok (.bipush 6, 2) := by decide +kernel
theorem dX12_aReach_5 : decode cX12_aReach 5 = .ok (.aload_n 0, 1) := by decide +kernel
theorem dX12_aReach_6 : decode cX12_aReach 6 = .ok (.getfield 7, 3) := by decide +kernel
theorem dX12_aReach_9 : decode cX12_aReach 9 = .ok (.sipush 2563, 3) := by decide +kernel
theorem dX12_aReach_12 : decode cX12_aReach 12 = .ok (.iaload, 1) := by decide +kernel
theorem dX12_aReach_13 : decode cX12_aReach 13 = .ok (.imul, 1) := by decide +kernel
theorem dX12_aReach_14 : decode cX12_aReach 14 = .ok (.iadd, 1) := by decide +kernel
theorem dX12_aReach_15 : decode cX12_aReach 15 = .ok (.istore_n 1, 1) := by decide +kernel
theorem dX12_aReach_16 : decode cX12_aReach 16 = .ok (.aload_n 0, 1) := by decide +kernel
theorem dX12_aReach_17 : decode cX12_aReach 17 = .ok (.iconst 3, 1) := by decide +kernel
theorem dX12_aReach_18 : decode cX12_aReach 18 = .ok (.bipush 10, 2) := by decide +kernel
theorem dX12_aReach_20 : decode cX12_aReach 20 = .ok (.iconst 0, 1) := by decide +kernel
theorem dX12_aReach_21 : decode cX12_aReach 21 = .ok (.invokevirtual 200, 3) := by decide +kernel
theorem dX12_aReach_24 : decode cX12_aReach 24 = .ok (.ifCond .ne 5, 3) := by decide +kernel
theorem dX12_aReach_27 : decode cX12_aReach 27 = .ok (.iconst 0, 1) := by decide +kernel
theorem dX12_aReach_28 : decode cX12_aReach 28 = .ok (.ireturn, 1) := by decide +kernel
theorem dX12_aReach_29 : decode cX12_aReach 29 = .ok (.aload_n 0, 1) := by decide +kernel
theorem dX12_aReach_30 : decode cX12_aReach 30 = .ok (.getfield 7, 3) := by decide +kernel
theorem dX12_aReach_33 : decode cX12_aReach 33 = .ok (.iload_n 1, 1) := by decide +kernel
theorem dX12_aReach_34 : decode cX12_aReach 34 = .ok (.iconst 0, 1) := by decide +kernel
theorem dX12_aReach_35 : decode cX12_aReach 35 = .ok (.iadd, 1) := by decide +kernel
theorem dX12_aReach_36 : decode cX12_aReach 36 = .ok (.iconst (-1), 1) := by decide +kernel
theorem dX12_aReach_37 : decode cX12_aReach 37 = .ok (.iastore, 1) := by decide +kernel
theorem dX12_aReach_38 : decode cX12_aReach 38 = .ok (.aload_n 0, 1) := by decide +kernel
theorem dX12_aReach_39 : decode cX12_aReach 39 = .ok (.getfield 7, 3) := by decide +kernel
theorem dX12_aReach_42 : decode cX12_aReach 42 = .ok (.iload_n 1, 1) := by decide +kernel
theorem dX12_aReach_43 : decode cX12_aReach 43 = .ok (.iconst 3, 1) := by decide +kernel
theorem dX12_aReach_44 : decode cX12_aReach 44 = .ok (.iadd, 1) := by decide +kernel
theorem dX12_aReach_45 : decode cX12_aReach 45 = .ok (.iconst (-1), 1) := by decide +kernel
theorem dX12_aReach_46 : decode cX12_aReach 46 = .ok (.iastore, 1) := by decide +kernel
theorem dX12_aReach_47 : decode cX12_aReach 47 = .ok (.aload_n 0, 1) := by decide +kernel
theorem dX12_aReach_48 : decode cX12_aReach 48 = .ok (.getfield 7, 3) := by decide +kernel
theorem dX12_aReach_51 : decode cX12_aReach 51 = .ok (.iload_n 1, 1) := by decide +kernel
theorem dX12_aReach_52 : decode cX12_aReach 52 = .ok (.iconst 4, 1) := by decide +kernel
theorem dX12_aReach_53 : decode cX12_aReach 53 = .ok (.iadd, 1) := by decide +kernel
theorem dX12_aReach_54 : decode cX12_aReach 54 = .ok (.iconst (-1), 1) := by decide +kernel
theorem dX12_aReach_55 : decode cX12_aReach 55 = .ok (.iastore, 1) := by decide +kernel
theorem dX12_aReach_56 : decode cX12_aReach 56 = .ok (.aload_n 0, 1) := by decide +kernel
theorem dX12_aReach_57 : decode cX12_aReach 57 = .ok (.getfield 7, 3) := by decide +kernel
theorem dX12_aReach_60 : decode cX12_aReach 60 = .ok (.iload_n 1, 1) := by decide +kernel
theorem dX12_aReach_61 : decode cX12_aReach 61 = .ok (.iconst 5, 1) := by decide +kernel
theorem dX12_aReach_62 : decode cX12_aReach 62 = .ok (.iadd, 1) := by decide +kernel
theorem dX12_aReach_63 : decode cX12_aReach 63 = .ok (.iconst (-1), 1) := by decide +kernel
theorem dX12_aReach_64 : decode cX12_aReach 64 = .ok (.iastore, 1) := by decide +kernel
theorem dX12_aReach_65 : decode cX12_aReach 65 = .ok (.aload_n 0, 1) := by decide +kernel
theorem dX12_aReach_66 : decode cX12_aReach 66 = .ok (.bipush 6, 2) := by decide +kernel
theorem dX12_aReach_68 : decode cX12_aReach 68 = .ok (.invokevirtual 203, 3) := by decide +kernel
theorem dX12_aReach_71 : decode cX12_aReach 71 = .ok (.ifCond .eq 24, 3) := by decide +kernel
theorem dX12_aReach_74 : decode cX12_aReach 74 = .ok (.aload_n 0, 1) := by decide +kernel
theorem dX12_aReach_75 : decode cX12_aReach 75 = .ok (.bipush 104, 2) := by decide +kernel
theorem dX12_aReach_77 : decode cX12_aReach 77 = .ok (.aload_n 0, 1) := by decide +kernel
theorem dX12_aReach_78 : decode cX12_aReach 78 = .ok (.getfield 7, 3) := by decide +kernel
theorem dX12_aReach_81 : decode cX12_aReach 81 = .ok (.sipush 2563, 3) := by decide +kernel
theorem dX12_aReach_84 : decode cX12_aReach 84 = .ok (.iaload, 1) := by decide +kernel
theorem dX12_aReach_85 : decode cX12_aReach 85 = .ok (.iconst 0, 1) := by decide +kernel
theorem dX12_aReach_86 : decode cX12_aReach 86 = .ok (.iload_n 1, 1) := by decide +kernel
theorem dX12_aReach_87 : decode cX12_aReach 87 = .ok (.invokevirtual 206, 3) := by decide +kernel
theorem dX12_aReach_90 : decode cX12_aReach 90 = .ok (.ifCond .ne 5, 3) := by decide +kernel
theorem dX12_aReach_93 : decode cX12_aReach 93 = .ok (.iconst 0, 1) := by decide +kernel
theorem dX12_aReach_94 : decode cX12_aReach 94 = .ok (.ireturn, 1) := by decide +kernel
theorem dX12_aReach_95 : decode cX12_aReach 95 = .ok (.aload_n 0, 1) := by decide +kernel
theorem dX12_aReach_96 : decode cX12_aReach 96 = .ok (.ldc 187, 2) := by decide +kernel
theorem dX12_aReach_98 : decode cX12_aReach 98 = .ok (.bipush 7, 2) := by decide +kernel
theorem dX12_aReach_100 : decode cX12_aReach 100 = .ok (.invokevirtual 189, 3) := by decide +kernel
theorem dX12_aReach_103 : decode cX12_aReach 103 = .ok (.ifCond .eq 49, 3) := by decide +kernel
theorem dX12_aReach_106 : decode cX12_aReach 106 = .ok (.aload_n 0, 1) := by decide +kernel
theorem dX12_aReach_107 : decode cX12_aReach 107 = .ok (.iload_n 1, 1) := by decide +kernel
theorem dX12_aReach_108 : decode cX12_aReach 108 = .ok (.iconst 1, 1) := by decide +kernel
theorem dX12_aReach_109 : decode cX12_aReach 109 = .ok (.iadd, 1) := by decide +kernel
theorem dX12_aReach_110 : decode cX12_aReach 110 = .ok (.iconst 0, 1) := by decide +kernel
theorem dX12_aReach_111 : decode cX12_aReach 111 = .ok (.bipush 11, 2) := by decide +kernel
theorem dX12_aReach_113 : decode cX12_aReach 113 = .ok (.invokevirtual 183, 3) := by decide +kernel
theorem dX12_aReach_116 : decode cX12_aReach 116 = .ok (.ifCond .eq 36, 3) := by decide +kernel
theorem dX12_aReach_119 : decode cX12_aReach 119 = .ok (.aload_n 0, 1) := by decide +kernel
theorem dX12_aReach_120 : decode cX12_aReach 120 = .ok (.ldc 187, 2) := by decide +kernel
theorem dX12_aReach_122 : decode cX12_aReach 122 = .ok (.bipush 8, 2) := by decide +kernel
theorem dX12_aReach_124 : decode cX12_aReach 124 = .ok (.invokevirtual 189, 3) := by decide +kernel
theorem dX12_aReach_127 : decode cX12_aReach 127 = .ok (.ifCond .eq 25, 3) := by decide +kernel
theorem dX12_aReach_130 : decode cX12_aReach 130 = .ok (.aload_n 0, 1) := by decide +kernel
theorem dX12_aReach_131 : decode cX12_aReach 131 = .ok (.iload_n 1, 1) := by decide +kernel
theorem dX12_aReach_132 : decode cX12_aReach 132 = .ok (.iconst 2, 1) := by decide +kernel
theorem dX12_aReach_133 : decode cX12_aReach 133 = .ok (.iadd, 1) := by decide +kernel
theorem dX12_aReach_134 : decode cX12_aReach 134 = .ok (.aload_n 0, 1) := by decide +kernel
theorem dX12_aReach_135 : decode cX12_aReach 135 = .ok (.getfield 7, 3) := by decide +kernel
theorem dX12_aReach_138 : decode cX12_aReach 138 = .ok (.iload_n 1, 1) := by decide +kernel
theorem dX12_aReach_139 : decode cX12_aReach 139 = .ok (.iconst 1, 1) := by decide +kernel
theorem dX12_aReach_140 : decode cX12_aReach 140 = .ok (.iadd, 1) := by decide +kernel
theorem dX12_aReach_141 : decode cX12_aReach 141 = .ok (.iaload, 1) := by decide +kernel
theorem dX12_aReach_142 : decode cX12_aReach 142 = .ok (.iconst 1, 1) := by decide +kernel
theorem dX12_aReach_143 : decode cX12_aReach 143 = .ok (.iadd, 1) := by decide +kernel
theorem dX12_aReach_144 : decode cX12_aReach 144 = .ok (.bipush 12, 2) := by decide +kernel
theorem dX12_aReach_146 : decode cX12_aReach 146 = .ok (.invokevirtual 183, 3) := by decide +kernel
theorem dX12_aReach_149 : decode cX12_aReach 149 = .ok (.ifCond .ne 5, 3) := by decide +kernel
theorem dX12_aReach_152 : decode cX12_aReach 152 = .ok (.iconst 0, 1) := by decide +kernel
theorem dX12_aReach_153 : decode cX12_aReach 153 = .ok (.ireturn, 1) := by decide +kernel
theorem dX12_aReach_154 : decode cX12_aReach 154 = .ok (.aload_n 0, 1) := by decide +kernel
theorem dX12_aReach_155 : decode cX12_aReach 155 = .ok (.bipush 9, 2) := by decide +kernel
theorem dX12_aReach_157 : decode cX12_aReach 157 = .ok (.invokevirtual 203, 3) := by decide +kernel
theorem dX12_aReach_160 : decode cX12_aReach 160 = .ok (.ifCond .eq 19, 3) := by decide +kernel
theorem dX12_aReach_163 : decode cX12_aReach 163 = .ok (.aload_n 0, 1) := by decide +kernel
theorem dX12_aReach_164 : decode cX12_aReach 164 = .ok (.iload_n 1, 1) := by decide +kernel
theorem dX12_aReach_165 : decode cX12_aReach 165 = .ok (.iconst 3, 1) := by decide +kernel
theorem dX12_aReach_166 : decode cX12_aReach 166 = .ok (.iadd, 1) := by decide +kernel
theorem dX12_aReach_167 : decode cX12_aReach 167 = .ok (.iconst 1, 1) := by decide +kernel
theorem dX12_aReach_168 : decode cX12_aReach 168 = .ok (.sipush 999, 3) := by decide +kernel
theorem dX12_aReach_171 : decode cX12_aReach 171 = .ok (.invokevirtual 183, 3) := by decide +kernel
theorem dX12_aReach_174 : decode cX12_aReach 174 = .ok (.ifCond .ne 5, 3) := by decide +kernel
theorem dX12_aReach_177 : decode cX12_aReach 177 = .ok (.iconst 0, 1) := by decide +kernel
theorem dX12_aReach_178 : decode cX12_aReach 178 = .ok (.ireturn, 1) := by decide +kernel
theorem dX12_aReach_179 : decode cX12_aReach 179 = .ok (.aload_n 0, 1) := by decide +kernel
theorem dX12_aReach_180 : decode cX12_aReach 180 = .ok (.bipush 10, 2) := by decide +kernel
theorem dX12_aReach_182 : decode cX12_aReach 182 = .ok (.invokevirtual 203, 3) := by decide +kernel
theorem dX12_aReach_185 : decode cX12_aReach 185 = .ok (.ifCond .eq 53, 3) := by decide +kernel
theorem dX12_aReach_188 : decode cX12_aReach 188 = .ok (.aload_n 0, 1) := by decide +kernel
theorem dX12_aReach_189 : decode cX12_aReach 189 = .ok (.iload_n 1, 1) := by decide +kernel
theorem dX12_aReach_190 : decode cX12_aReach 190 = .ok (.iconst 4, 1) := by decide +kernel
theorem dX12_aReach_191 : decode cX12_aReach 191 = .ok (.iadd, 1) := by decide +kernel
theorem dX12_aReach_192 : decode cX12_aReach 192 = .ok (.iconst 0, 1) := by decide +kernel
theorem dX12_aReach_193 : decode cX12_aReach 193 = .ok (.sipush 1439, 3) := by decide +kernel
theorem dX12_aReach_196 : decode cX12_aReach 196 = .ok (.invokevirtual 183, 3) := by decide +kernel
theorem dX12_aReach_199 : decode cX12_aReach 199 = .ok (.ifCond .eq 37, 3) := by decide +kernel
theorem dX12_aReach_202 : decode cX12_aReach 202 = .ok (.aload_n 0, 1) := by decide +kernel
theorem dX12_aReach_203 : decode cX12_aReach 203 = .ok (.ldc 187, 2) := by decide +kernel
theorem dX12_aReach_205 : decode cX12_aReach 205 = .ok (.bipush 11, 2) := by decide +kernel
theorem dX12_aReach_207 : decode cX12_aReach 207 = .ok (.invokevirtual 189, 3) := by decide +kernel
theorem dX12_aReach_210 : decode cX12_aReach 210 = .ok (.ifCond .eq 26, 3) := by decide +kernel
theorem dX12_aReach_213 : decode cX12_aReach 213 = .ok (.aload_n 0, 1) := by decide +kernel
theorem dX12_aReach_214 : decode cX12_aReach 214 = .ok (.iload_n 1, 1) := by decide +kernel
theorem dX12_aReach_215 : decode cX12_aReach 215 = .ok (.iconst 5, 1) := by decide +kernel
theorem dX12_aReach_216 : decode cX12_aReach 216 = .ok (.iadd, 1) := by decide +kernel
theorem dX12_aReach_217 : decode cX12_aReach 217 = .ok (.aload_n 0, 1) := by decide +kernel
theorem dX12_aReach_218 : decode cX12_aReach 218 = .ok (.getfield 7, 3) := by decide +kernel
theorem dX12_aReach_221 : decode cX12_aReach 221 = .ok (.iload_n 1, 1) := by decide +kernel
theorem dX12_aReach_222 : decode cX12_aReach 222 = .ok (.iconst 4, 1) := by decide +kernel
theorem dX12_aReach_223 : decode cX12_aReach 223 = .ok (.iadd, 1) := by decide +kernel
theorem dX12_aReach_224 : decode cX12_aReach 224 = .ok (.iaload, 1) := by decide +kernel
theorem dX12_aReach_225 : decode cX12_aReach 225 = .ok (.iconst 1, 1) := by decide +kernel
theorem dX12_aReach_226 : decode cX12_aReach 226 = .ok (.iadd, 1) := by decide +kernel
theorem dX12_aReach_227 : decode cX12_aReach 227 = .ok (.sipush 1440, 3) := by decide +kernel
theorem dX12_aReach_230 : decode cX12_aReach 230 = .ok (.invokevirtual 183, 3) := by decide +kernel
theorem dX12_aReach_233 : decode cX12_aReach 233 = .ok (.ifCond .ne 5, 3) := by decide +kernel
theorem dX12_aReach_236 : decode cX12_aReach 236 = .ok (.iconst 0, 1) := by decide +kernel
theorem dX12_aReach_237 : decode cX12_aReach 237 = .ok (.ireturn, 1) := by decide +kernel
theorem dX12_aReach_238 : decode cX12_aReach 238 = .ok (.aload_n 0, 1) := by decide +kernel
theorem dX12_aReach_239 : decode cX12_aReach 239 = .ok (.getfield 7, 3) := by decide +kernel
theorem dX12_aReach_242 : decode cX12_aReach 242 = .ok (.sipush 2563, 3) := by decide +kernel
theorem dX12_aReach_245 : decode cX12_aReach 245 = .ok (.dup2, 1) := by decide +kernel
theorem dX12_aReach_246 : decode cX12_aReach 246 = .ok (.iaload, 1) := by decide +kernel
theorem dX12_aReach_247 : decode cX12_aReach 247 = .ok (.iconst 1, 1) := by decide +kernel
theorem dX12_aReach_248 : decode cX12_aReach 248 = .ok (.iadd, 1) := by decide +kernel
theorem dX12_aReach_249 : decode cX12_aReach 249 = .ok (.iastore, 1) := by decide +kernel
theorem dX12_aReach_250 : decode cX12_aReach 250 = .ok (.iconst 1, 1) := by decide +kernel
theorem dX12_aReach_251 : decode cX12_aReach 251 = .ok (.ireturn, 1) := by decide +kernel
set_option maxRecDepth 100000 in
theorem t_X12_aReach (x0 : Int) (M : Mem) (h0 : x0 ≠ 0) : MtI yX12_aReach cX12_aReach 2 (some .boolean) 9 0 0 [(30, x0)] M 0 (f_X12_aReach x0 M) := by
  refine mk_I (by decide +kernel) (Nat.le_of_ble_eq_true rfl) (fun E C r0 M0 hC hq hin => ?_)
  refine r_eqls (ls' := [(0, 30, x0)]) rfl ?_
  unfold f_X12_aReach
  refine r_sipush 0 hC ks_2572 dX12_aReach_0 ?_
  refine r_bipush 3 hC kb_6 dX12_aReach_3 ?_
  refine r_aload_n 5 hC 0 rfl (Or.inl (by decide)) rfl dX12_aReach_5 ?_
  refine r_get 6 hC fd_10_0 fl_X12_7 dX12_aReach_6 (fun v1 => ?_)
  refine r_sipush 9 hC ks_2563 dX12_aReach_9 ?_
  refine r_iaload 12 hC dX12_aReach_12 (fun v2 => ?_)
  refine r_imul 13 hC dX12_aReach_13 ?_
  refine r_iadd 14 hC dX12_aReach_14 ?_
  refine r_istore_nL 15 hC rfl (by decide) dX12_aReach_15 (fun v3 => r_eqls (ls' := [(1, 0, v3), (0, 30, x0)]) rfl ?_)
  refine r_aload_n 16 hC 1 rfl (Or.inl (by decide)) rfl dX12_aReach_16 ?_
  refine r_iconst 17 hC (r32c rfl) dX12_aReach_17 ?_
  refine r_bipush 18 hC kb_10 dX12_aReach_18 ?_
  refine r_iconst 20 hC (r32c rfl) dX12_aReach_20 ?_
  refine r_callVI 21 hC [(0, 3), (0, 10), (0, 0)] [] rfl vl_X12_200 rfl h0 (by decide) (Nat.le_of_ble_eq_true rfl) (by decide) (by decide) dX12_aReach_21 (t_X12_newOne x0 3 10 0 M h0) (fun v4 M5 => ?_)
  refine r_if_ne 24 hC (tgt := 29) (by decide) dX12_aReach_24 ?_ ?_
  · refine r_aload_n 29 hC 1 rfl (Or.inl (by decide)) rfl dX12_aReach_29 ?_
    refine r_get 30 hC fd_10_0 fl_X12_7 dX12_aReach_30 (fun v6 => ?_)
    refine r_iload_n 33 hC 0 rfl rfl dX12_aReach_33 ?_
    refine r_iconst 34 hC (r32c rfl) dX12_aReach_34 ?_
    refine r_iadd 35 hC dX12_aReach_35 ?_
    refine r_iconst 36 hC (r32c rfl) dX12_aReach_36 ?_
    refine r_iastore 37 hC dX12_aReach_37 (fun M7 => ?_)
    refine r_aload_n 38 hC 1 rfl (Or.inl (by decide)) rfl dX12_aReach_38 ?_
    refine r_get 39 hC fd_10_0 fl_X12_7 dX12_aReach_39 (fun v8 => ?_)
    refine r_iload_n 42 hC 0 rfl rfl dX12_aReach_42 ?_
    refine r_iconst 43 hC (r32c rfl) dX12_aReach_43 ?_
    refine r_iadd 44 hC dX12_aReach_44 ?_
    refine r_iconst 45 hC (r32c rfl) dX12_aReach_45 ?_
    refine r_iastore 46 hC dX12_aReach_46 (fun M9 => ?_)
    refine r_aload_n 47 hC 1 rfl (Or.inl (by decide)) rfl dX12_aReach_47 ?_
    refine r_get 48 hC fd_10_0 fl_X12_7 dX12_aReach_48 (fun v10 => ?_)
    refine r_iload_n 51 hC 0 rfl rfl dX12_aReach_51 ?_
    refine r_iconst 52 hC (r32c rfl) dX12_aReach_52 ?_
    refine r_iadd 53 hC dX12_aReach_53 ?_
    refine r_iconst 54 hC (r32c rfl) dX12_aReach_54 ?_
    refine r_iastore 55 hC dX12_aReach_55 (fun M11 => ?_)
    refine r_aload_n 56 hC 1 rfl (Or.inl (by decide)) rfl dX12_aReach_56 ?_
    refine r_get 57 hC fd_10_0 fl_X12_7 dX12_aReach_57 (fun v12 => ?_)
    refine r_iload_n 60 hC 0 rfl rfl dX12_aReach_60 ?_
    refine r_iconst 61 hC (r32c rfl) dX12_aReach_61 ?_
    refine r_iadd 62 hC dX12_aReach_62 ?_
    refine r_iconst 63 hC (r32c rfl) dX12_aReach_63 ?_
    refine r_iastore 64 hC dX12_aReach_64 (fun M13 => ?_)
    refine r_aload_n 65 hC 1 rfl (Or.inl (by decide)) rfl dX12_aReach_65 ?_
    refine r_bipush 66 hC kb_6 dX12_aReach_66 ?_
    refine r_callVI 68 hC [(0, 6)] [] rfl vl_X12_203 rfl h0 (by decide) (Nat.le_of_ble_eq_true rfl) (by decide) (by decide) dX12_aReach_68 (t_X12_isThere x0 6 M13 h0) (fun v14 M15 => ?_)
    refine r_jn (P := fun j95 => ∀ (M16 : Mem), Bk E C 2 M (r0, M0) 95 [(0, 30, x0), (1, 0, v3)] [] M16 0 0 (j95 M16)) ?_ (fun j95 hj95 => ?_)
    · intro M16
      refine r_aload_n 95 hC 0 rfl (Or.inl (by decide)) rfl dX12_aReach_95 ?_
      refine r_ldcS2 96 hC dX12_aReach_96 ?_
      refine r_bipush 98 hC kb_7 dX12_aReach_98 ?_
      refine r_callVI 100 hC [(2, (-2)), (0, 7)] [] rfl vl_X12_189 rfl h0 (by decide) (Nat.le_of_ble_eq_true rfl) (by decide) (by decide) dX12_aReach_100 (t_X12_wantWord x0 (-2) 7 M16 h0) (fun v17 M18 => ?_)
      refine r_jn (P := fun j152 => ∀ (M19 : Mem), Bk E C 2 M (r0, M0) 152 [] [] M19 0 0 (j152 M19)) ?_ (fun j152 hj152 => ?_)
      · intro M19
        refine r_iconst 152 hC (r32c rfl) dX12_aReach_152 ?_
        exact r_zreturn 153 hC hq (by decide) (by decide) dX12_aReach_153
      refine r_if_eq 103 hC (tgt := 152) (by decide) dX12_aReach_103 ?_ ?_
      · exact r_sub [] rfl (hj152 M18)
      · refine r_aload_n 106 hC 0 rfl (Or.inl (by decide)) rfl dX12_aReach_106 ?_
        refine r_iload_n 107 hC 1 rfl rfl dX12_aReach_107 ?_
        refine r_iconst 108 hC (r32c rfl) dX12_aReach_108 ?_
        refine r_iadd 109 hC dX12_aReach_109 ?_
        refine r_iconst 110 hC (r32c rfl) dX12_aReach_110 ?_
        refine r_bipush 111 hC kb_11 dX12_aReach_111 ?_
        refine r_callVI 113 hC [(0, w32 (v3 + 1)), (0, 0), (0, 11)] [] rfl vl_X12_183 rfl h0 (by decide) (Nat.le_of_ble_eq_true rfl) (by decide) (by decide) dX12_aReach_113 (t_X12_number x0 (w32 (v3 + 1)) 0 11 M18 h0) (fun v20 M21 => ?_)
        refine r_if_eq 116 hC (tgt := 152) (by decide) dX12_aReach_116 ?_ ?_
        · exact r_sub [] rfl (hj152 M21)
        · refine r_aload_n 119 hC 0 rfl (Or.inl (by decide)) rfl dX12_aReach_119 ?_
          refine r_ldcS2 120 hC dX12_aReach_120 ?_
          refine r_bipush 122 hC kb_8 dX12_aReach_122 ?_
          refine r_callVI 124 hC [(2, (-2)), (0, 8)] [] rfl vl_X12_189 rfl h0 (by decide) (Nat.le_of_ble_eq_true rfl) (by decide) (by decide) dX12_aReach_124 (t_X12_wantWord x0 (-2) 8 M21 h0) (fun v22 M23 => ?_)
          refine r_if_eq 127 hC (tgt := 152) (by decide) dX12_aReach_127 ?_ ?_
          · exact r_sub [] rfl (hj152 M23)
          · refine r_aload_n 130 hC 0 rfl (Or.inl (by decide)) rfl dX12_aReach_130 ?_
            refine r_iload_n 131 hC 1 rfl rfl dX12_aReach_131 ?_
            refine r_iconst 132 hC (r32c rfl) dX12_aReach_132 ?_
            refine r_iadd 133 hC dX12_aReach_133 ?_
            refine r_aload_n 134 hC 0 rfl (Or.inl (by decide)) rfl dX12_aReach_134 ?_
            refine r_get 135 hC fd_10_0 fl_X12_7 dX12_aReach_135 (fun v24 => ?_)
            refine r_iload_n 138 hC 1 rfl rfl dX12_aReach_138 ?_
            refine r_iconst 139 hC (r32c rfl) dX12_aReach_139 ?_
            refine r_iadd 140 hC dX12_aReach_140 ?_
            refine r_iaload 141 hC dX12_aReach_141 (fun v25 => ?_)
            refine r_iconst 142 hC (r32c rfl) dX12_aReach_142 ?_
            refine r_iadd 143 hC dX12_aReach_143 ?_
            refine r_bipush 144 hC kb_12 dX12_aReach_144 ?_
            refine r_callVI 146 hC [(0, w32 (v3 + 2)), (0, w32 (v25 + 1)), (0, 12)] [] rfl vl_X12_183 rfl h0 (by decide) (Nat.le_of_ble_eq_true rfl) (by decide) (by decide) dX12_aReach_146 (t_X12_number x0 (w32 (v3 + 2)) (w32 (v25 + 1)) 12 M23 h0) (fun v26 M27 => ?_)
            refine r_if_ne 149 hC (tgt := 154) (by decide) dX12_aReach_149 ?_ ?_
            · refine r_aload_n 154 hC 0 rfl (Or.inl (by decide)) rfl dX12_aReach_154 ?_
              refine r_bipush 155 hC kb_9 dX12_aReach_155 ?_
              refine r_callVI 157 hC [(0, 9)] [] rfl vl_X12_203 rfl h0 (by decide) (Nat.le_of_ble_eq_true rfl) (by decide) (by decide) dX12_aReach_157 (t_X12_isThere x0 9 M27 h0) (fun v28 M29 => ?_)
              refine r_jn (P := fun j179 => ∀ (M30 : Mem), Bk E C 2 M (r0, M0) 179 [(0, 30, x0), (1, 0, v3)] [] M30 0 0 (j179 M30)) ?_ (fun j179 hj179 => ?_)
              · intro M30
                refine r_aload_n 179 hC 0 rfl (Or.inl (by decide)) rfl dX12_aReach_179 ?_
                refine r_bipush 180 hC kb_10 dX12_aReach_180 ?_
                refine r_callVI 182 hC [(0, 10)] [] rfl vl_X12_203 rfl h0 (by decide) (Nat.le_of_ble_eq_true rfl) (by decide) (by decide) dX12_aReach_182 (t_X12_isThere x0 10 M30 h0) (fun v31 M32 => ?_)
                refine r_jn (P := fun j238 => ∀ (M33 : Mem), Bk E C 2 M (r0, M0) 238 [(0, 30, x0)] [] M33 0 0 (j238 M33)) ?_ (fun j238 hj238 => ?_)
                · intro M33
                  refine r_aload_n 238 hC 0 rfl (Or.inl (by decide)) rfl dX12_aReach_238 ?_
                  refine r_get 239 hC fd_10_0 fl_X12_7 dX12_aReach_239 (fun v34 => ?_)
                  refine r_sipush 242 hC ks_2563 dX12_aReach_242 ?_
                  refine r_dup2 245 hC ⟨by decide, by decide⟩ dX12_aReach_245 ?_
                  refine r_iaload 246 hC dX12_aReach_246 (fun v35 => ?_)
                  refine r_iconst 247 hC (r32c rfl) dX12_aReach_247 ?_
                  refine r_iadd 248 hC dX12_aReach_248 ?_
                  refine r_iastore 249 hC dX12_aReach_249 (fun M36 => ?_)
                  refine r_iconst 250 hC (r32c rfl) dX12_aReach_250 ?_
                  exact r_zreturn 251 hC hq (by decide) (by decide) dX12_aReach_251
                refine r_if_eq 185 hC (tgt := 238) (by decide) dX12_aReach_185 ?_ ?_
                · exact r_sub [0] rfl (hj238 M32)
                · refine r_aload_n 188 hC 0 rfl (Or.inl (by decide)) rfl dX12_aReach_188 ?_
                  refine r_iload_n 189 hC 1 rfl rfl dX12_aReach_189 ?_
                  refine r_iconst 190 hC (r32c rfl) dX12_aReach_190 ?_
                  refine r_iadd 191 hC dX12_aReach_191 ?_
                  refine r_iconst 192 hC (r32c rfl) dX12_aReach_192 ?_
                  refine r_sipush 193 hC ks_1439 dX12_aReach_193 ?_
                  refine r_callVI 196 hC [(0, w32 (v3 + 4)), (0, 0), (0, 1439)] [] rfl vl_X12_183 rfl h0 (by decide) (Nat.le_of_ble_eq_true rfl) (by decide) (by decide) dX12_aReach_196 (t_X12_number x0 (w32 (v3 + 4)) 0 1439 M32 h0) (fun v37 M38 => ?_)
                  refine r_jn (P := fun j236 => ∀ (M39 : Mem), Bk E C 2 M (r0, M0) 236 [] [] M39 0 0 (j236 M39)) ?_ (fun j236 hj236 => ?_)
                  · intro M39
                    refine r_iconst 236 hC (r32c rfl) dX12_aReach_236 ?_
                    exact r_zreturn 237 hC hq (by decide) (by decide) dX12_aReach_237
                  refine r_if_eq 199 hC (tgt := 236) (by decide) dX12_aReach_199 ?_ ?_
                  · exact r_sub [] rfl (hj236 M38)
                  · refine r_aload_n 202 hC 0 rfl (Or.inl (by decide)) rfl dX12_aReach_202 ?_
                    refine r_ldcS2 203 hC dX12_aReach_203 ?_
                    refine r_bipush 205 hC kb_11 dX12_aReach_205 ?_
                    refine r_callVI 207 hC [(2, (-2)), (0, 11)] [] rfl vl_X12_189 rfl h0 (by decide) (Nat.le_of_ble_eq_true rfl) (by decide) (by decide) dX12_aReach_207 (t_X12_wantWord x0 (-2) 11 M38 h0) (fun v40 M41 => ?_)
                    refine r_if_eq 210 hC (tgt := 236) (by decide) dX12_aReach_210 ?_ ?_
                    · exact r_sub [] rfl (hj236 M41)
                    · refine r_aload_n 213 hC 0 rfl (Or.inl (by decide)) rfl dX12_aReach_213 ?_
                      refine r_iload_n 214 hC 1 rfl rfl dX12_aReach_214 ?_
                      refine r_iconst 215 hC (r32c rfl) dX12_aReach_215 ?_
                      refine r_iadd 216 hC dX12_aReach_216 ?_
                      refine r_aload_n 217 hC 0 rfl (Or.inl (by decide)) rfl dX12_aReach_217 ?_
                      refine r_get 218 hC fd_10_0 fl_X12_7 dX12_aReach_218 (fun v42 => ?_)
                      refine r_iload_n 221 hC 1 rfl rfl dX12_aReach_221 ?_
                      refine r_iconst 222 hC (r32c rfl) dX12_aReach_222 ?_
                      refine r_iadd 223 hC dX12_aReach_223 ?_
                      refine r_iaload 224 hC dX12_aReach_224 (fun v43 => ?_)
                      refine r_iconst 225 hC (r32c rfl) dX12_aReach_225 ?_
                      refine r_iadd 226 hC dX12_aReach_226 ?_
                      refine r_sipush 227 hC ks_1440 dX12_aReach_227 ?_
                      refine r_callVI 230 hC [(0, w32 (v3 + 5)), (0, w32 (v43 + 1)), (0, 1440)] [] rfl vl_X12_183 rfl h0 (by decide) (Nat.le_of_ble_eq_true rfl) (by decide) (by decide) dX12_aReach_230 (t_X12_number x0 (w32 (v3 + 5)) (w32 (v43 + 1)) 1440 M41 h0) (fun v44 M45 => ?_)
                      refine r_if_ne 233 hC (tgt := 238) (by decide) dX12_aReach_233 ?_ ?_
                      · exact r_sub [0] rfl (hj238 M45)
                      · exact r_sub [] rfl (hj236 M45)
              refine r_if_eq 160 hC (tgt := 179) (by decide) dX12_aReach_160 ?_ ?_
              · exact hj179 M29
              · refine r_aload_n 163 hC 0 rfl (Or.inl (by decide)) rfl dX12_aReach_163 ?_
                refine r_iload_n 164 hC 1 rfl rfl dX12_aReach_164 ?_
                refine r_iconst 165 hC (r32c rfl) dX12_aReach_165 ?_
                refine r_iadd 166 hC dX12_aReach_166 ?_
                refine r_iconst 167 hC (r32c rfl) dX12_aReach_167 ?_
                refine r_sipush 168 hC ks_999 dX12_aReach_168 ?_
                refine r_callVI 171 hC [(0, w32 (v3 + 3)), (0, 1), (0, 999)] [] rfl vl_X12_183 rfl h0 (by decide) (Nat.le_of_ble_eq_true rfl) (by decide) (by decide) dX12_aReach_171 (t_X12_number x0 (w32 (v3 + 3)) 1 999 M29 h0) (fun v46 M47 => ?_)
                refine r_if_ne 174 hC (tgt := 179) (by decide) dX12_aReach_174 ?_ ?_
                · exact hj179 M47
                · refine r_iconst 177 hC (r32c rfl) dX12_aReach_177 ?_
                  exact r_zreturn 178 hC hq (by decide) (by decide) dX12_aReach_178
            · exact r_sub [] rfl (hj152 M27)
    refine r_if_eq 71 hC (tgt := 95) (by decide) dX12_aReach_71 ?_ ?_
    · exact r_sub [1, 0] rfl (hj95 M15)
    · refine r_aload_n 74 hC 1 rfl (Or.inl (by decide)) rfl dX12_aReach_74 ?_
      refine r_bipush 75 hC kb_104 dX12_aReach_75 ?_
      refine r_aload_n 77 hC 1 rfl (Or.inl (by decide)) rfl dX12_aReach_77 ?_
      refine r_get 78 hC fd_10_0 fl_X12_7 dX12_aReach_78 (fun v48 => ?_)
      refine r_sipush 81 hC ks_2563 dX12_aReach_81 ?_
      refine r_iaload 84 hC dX12_aReach_84 (fun v49 => ?_)
      refine r_iconst 85 hC (r32c rfl) dX12_aReach_85 ?_
      refine r_iload_n 86 hC 0 rfl rfl dX12_aReach_86 ?_
      refine r_callVI 87 hC [(0, 104), (0, v49), (0, 0), (0, v3)] [] rfl vl_X12_206 rfl h0 (by decide) (Nat.le_of_ble_eq_true rfl) (by decide) (by decide) dX12_aReach_87 (t_X12_oldOne x0 104 v49 0 v3 M15 h0) (fun v50 M51 => ?_)
      refine r_if_ne 90 hC (tgt := 95) (by decide) dX12_aReach_90 ?_ ?_
      · exact r_sub [1, 0] rfl (hj95 M51)
      · refine r_iconst 93 hC (r32c rfl) dX12_aReach_93 ?_
        exact r_zreturn 94 hC hq (by decide) (by decide) dX12_aReach_94
  · refine r_iconst 27 hC (r32c rfl) dX12_aReach_27 ?_
    exact r_zreturn 28 hC hq (by decide) (by decide) dX12_aReach_28

/-! WaterTurnsModel.aField()Z -/
theorem dX12_aField_0 : decode cX12_aField 0 = .ok (.sipush 2632, 3) := by decide +kernel
theorem dX12_aField_3 : decode cX12_aField 3 = .ok (.iconst 4, 1) := by decide +kernel
theorem dX12_aField_4 : decode cX12_aField 4 = .ok (.aload_n 0, 1) := by decide +kernel
theorem dX12_aField_5 : decode cX12_aField 5 = .ok (.getfield 7, 3) := by decide +kernel
theorem dX12_aField_8 : decode cX12_aField 8 = .ok (.sipush 2565, 3) := by decide +kernel
theorem dX12_aField_11 : decode cX12_aField 11 = .ok (.iaload, 1) := by decide +kernel
theorem dX12_aField_12 : decode cX12_aField 12 = .ok (.imul, 1) := by decide +kernel
theorem dX12_aField_13 : decode cX12_aField 13 = .ok (.iadd, 1) := by decide +kernel
theorem dX12_aField_14 : decode cX12_aField 14 = .ok (.istore_n 1, 1) := by decide +kernel
theorem dX12_aField_15 : decode cX12_aField 15 = .ok (.aload_n 0, 1) := by decide +kernel
theorem dX12_aField_16 : decode cX12_aField 16 = .ok (.iconst 5, 1) := by decide +kernel
theorem dX12_aField_17 : decode cX12_aField 17 = .ok (.bipush 10, 2) := by decide +kernel
theorem dX12_aField_19 : decode cX12_aField 19 = .ok (.bipush 16, 2) := by decide +kernel
theorem dX12_aField_21 : decode cX12_aField 21 = .ok (.invokevirtual 200, 3) := by decide +kernel
theorem dX12_aField_24 : decode cX12_aField 24 = .ok (.ifCond .ne 5, 3) := by decide +kernel
theorem dX12_aField_27 : decode cX12_aField 27 = .ok (.iconst 0, 1) := by decide +kernel
theorem dX12_aField_28 : decode cX12_aField 28 = .ok (.ireturn, 1) := by decide +kernel
theorem dX12_aField_29 : decode cX12_aField 29 = .ok (.aload_n 0, 1) := by decide +kernel
theorem dX12_aField_30 : decode cX12_aField 30 = .ok (.getfield 7, 3) := by decide +kernel
theorem dX12_aField_33 : decode cX12_aField 33 = .ok (.iload_n 1, 1) := by decide +kernel
theorem dX12_aField_34 : decode cX12_aField 34 = .ok (.iconst 3, 1) := by decide +kernel
theorem dX12_aField_35 : decode cX12_aField 35 = .ok (.iadd, 1) := by decide +kernel
theorem dX12_aField_36 : decode cX12_aField 36 = .ok (.iconst (-1), 1) := by decide +kernel
theorem dX12_aField_37 : decode cX12_aField 37 = .ok (.iastore, 1) := by decide +kernel
theorem dX12_aField_38 : decode cX12_aField 38 = .ok (.aload_n 0, 1) := by decide +kernel
theorem dX12_aField_39 : decode cX12_aField 39 = .ok (.ldc 187, 2) := by decide +kernel
theorem dX12_aField_41 : decode cX12_aField 41 = .ok (.bipush 12, 2) := by decide +kernel
theorem dX12_aField_43 : decode cX12_aField 43 = .ok (.invokevirtual 189, 3) := by decide +kernel
theorem dX12_aField_46 : decode cX12_aField 46 = .ok (.ifCond .eq 22, 3) := by decide +kernel
theorem dX12_aField_49 : decode cX12_aField 49 = .ok (.aload_n 0, 1) := by decide +kernel
theorem dX12_aField_50 : decode cX12_aField 50 = .ok (.bipush 104, 2) := by decide +kernel
theorem dX12_aField_52 : decode cX12_aField 52 = .ok (.aload_n 0, 1) := by decide +kernel
theorem dX12_aField_53 : decode cX12_aField 53 = .ok (.getfield 7, 3) := by decide +kernel
theorem dX12_aField_56 : decode cX12_aField 56 = .ok (.sipush 2563, 3) := by decide +kernel
theorem dX12_aField_59 : decode cX12_aField 59 = .ok (.iaload, 1) := by decide +kernel
theorem dX12_aField_60 : decode cX12_aField 60 = .ok (.iconst 0, 1) := by decide +kernel
theorem dX12_aField_61 : decode cX12_aField 61 = .ok (.iload_n 1, 1) := by decide +kernel
theorem dX12_aField_62 : decode cX12_aField 62 = .ok (.invokevirtual 206, 3) := by decide +kernel
theorem dX12_aField_65 : decode cX12_aField 65 = .ok (.ifCond .ne 5, 3) := by decide +kernel
theorem dX12_aField_68 : decode cX12_aField 68 = .ok (.iconst 0, 1) := by decide +kernel
theorem dX12_aField_69 : decode cX12_aField 69 = .ok (.ireturn, 1) := by decide +kernel
theorem dX12_aField_70 : decode cX12_aField 70 = .ok (.aload_n 0, 1) := by decide +kernel
theorem dX12_aField_71 : decode cX12_aField 71 = .ok (.ldc 187, 2) := by decide +kernel
theorem dX12_aField_73 : decode cX12_aField 73 = .ok (.bipush 13, 2) := by decide +kernel
theorem dX12_aField_75 : decode cX12_aField 75 = .ok (.invokevirtual 189, 3) := by decide +kernel
theorem dX12_aField_78 : decode cX12_aField 78 = .ok (.ifCond .eq 41, 3) := by decide +kernel
theorem dX12_aField_81 : decode cX12_aField 81 = .ok (.aload_n 0, 1) := by decide +kernel
theorem dX12_aField_82 : decode cX12_aField 82 = .ok (.iload_n 1, 1) := by decide +kernel
theorem dX12_aField_83 : decode cX12_aField 83 = .ok (.iconst 1, 1) := by decide +kernel
theorem dX12_aField_84 : decode cX12_aField 84 = .ok (.iadd, 1) := by decide +kernel
theorem dX12_aField_85 : decode cX12_aField 85 = .ok (.iconst 1, 1) := by decide +kernel
theorem dX12_aField_86 : decode cX12_aField 86 = .ok (.bipush 99, 2) := by decide +kernel
theorem dX12_aField_88 : decode cX12_aField 88 = .ok (.invokevirtual 183, 3) := by decide +kernel
theorem dX12_aField_91 : decode cX12_aField 91 = .ok (.ifCond .eq 28, 3) := by decide +kernel
theorem dX12_aField_94 : decode cX12_aField 94 = .ok (.aload_n 0, 1) := by decide +kernel
theorem dX12_aField_95 : decode cX12_aField 95 = .ok (.ldc 187, 2) := by decide +kernel
theorem dX12_aField_97 : decode cX12_aField 97 = .ok (.bipush 14, 2) := by decide +kernel
theorem dX12_aField_99 : decode cX12_aField 99 = .ok (.invokevirtual 189, 3) := by decide +kernel
theorem dX12_aField_102 : decode cX12_aField 102 = .ok (.ifCond .eq 17, 3) := by decide +kernel
theorem dX12_aField_105 : decode cX12_aField 105 = .ok (.aload_n 0, 1) := by decide +kernel
theorem dX12_aField_106 : decode cX12_aField 106 = .ok (.iload_n 1, 1) := by decide +kernel
theorem dX12_aField_107 : decode cX12_aField 107 = .ok (.iconst 2, 1) := by decide +kernel
theorem dX12_aField_108 : decode cX12_aField 108 = .ok (.iadd, 1) := by decide +kernel
theorem dX12_aField_109 : decode cX12_aField 109 = .ok (.iconst 0, 1) := by decide +kernel
theorem dX12_aField_110 : decode cX12_aField 110 = .ok (.sipush 9999, 3) := by decide +kernel
theorem dX12_aField_113 : decode cX12_aField 113 = .ok (.invokevirtual 183, 3) := by decide +kernel
theorem dX12_aField_116 : decode cX12_aField 116 = .ok (.ifCond .ne 5, 3) := by decide +kernel
theorem dX12_aField_119 : decode cX12_aField 119 = .ok (.iconst 0, 1) := by decide +kernel
theorem dX12_aField_120 : decode cX12_aField 120 = .ok (.ireturn, 1) := by decide +kernel
theorem dX12_aField_121 : decode cX12_aField 121 = .ok (.aload_n 0, 1) := by decide +kernel
theorem dX12_aField_122 : decode cX12_aField 122 = .ok (.bipush 15, 2) := by decide +kernel
theorem dX12_aField_124 : decode cX12_aField 124 = .ok (.invokevirtual 203, 3) := by decide +kernel
theorem dX12_aField_127 : decode cX12_aField 127 = .ok (.ifCond .eq 27, 3) := by decide +kernel
theorem dX12_aField_130 : decode cX12_aField 130 = .ok (.aload_n 0, 1) := by decide +kernel
theorem dX12_aField_131 : decode cX12_aField 131 = .ok (.bipush 104, 2) := by decide +kernel
theorem dX12_aField_133 : decode cX12_aField 133 = .ok (.aload_n 0, 1) := by decide +kernel
theorem dX12_aField_134 : decode cX12_aField 134 = .ok (.getfield 7, 3) := by decide +kernel
theorem dX12_aField_137 : decode cX12_aField 137 = .ok (.sipush 2564, 3) := by decide +kernel
theorem dX12_aField_140 : decode cX12_aField 140 = .ok (.iaload, 1) := by decide +kernel
theorem dX12_aField_141 : decode cX12_aField 141 = .ok (.bipush 10, 2) := by decide +kernel
theorem dX12_aField_143 : decode cX12_aField 143 = .ok (.iload_n 1, 1) := by decide +kernel
theorem dX12_aField_144 : decode cX12_aField 144 = .ok (.iconst 3, 1) := by decide +kernel
theorem dX12_aField_145 : decode cX12_aField 145 = .ok (.iadd, 1) := by decide +kernel
theorem dX12_aField_146 : decode cX12_aField 146 = .ok (.invokevirtual 206, 3) := by decide +kernel
theorem dX12_aField_149 : decode cX12_aField 149 = .ok (.ifCond .ne 5, 3) := by decide +kernel
theorem dX12_aField_152 : decode cX12_aField 152 = .ok (.iconst 0, 1) := by decide +kernel
theorem dX12_aField_153 : decode cX12_aField 153 = .ok (.ireturn, 1) := by decide +kernel
theorem dX12_aField_154 : decode cX12_aField 154 = .ok (.aload_n 0, 1) := by decide +kernel
theorem dX12_aField_155 : decode cX12_aField 155 = .ok (.getfield 7, 3) := by decide +kernel
theorem dX12_aField_158 : decode cX12_aField 158 = .ok (.sipush 2565, 3) := by decide +kernel
theorem dX12_aField_161 : decode cX12_aField 161 = .ok (.dup2, 1) := by decide +kernel
theorem dX12_aField_162 : decode cX12_aField 162 = .ok (.iaload, 1) := by decide +kernel
theorem dX12_aField_163 : decode cX12_aField 163 = .ok (.iconst 1, 1) := by decide +kernel
theorem dX12_aField_164 : decode cX12_aField 164 = .ok (.iadd, 1) := by decide +kernel
theorem dX12_aField_165 : decode cX12_aField 165 = .ok (.iastore, 1) := by decide +kernel
theorem dX12_aField_166 : decode cX12_aField 166 = .ok (.iconst 1, 1) := by decide +kernel
theorem dX12_aField_167 : decode cX12_aField 167 = .ok (.ireturn, 1) := by decide +kernel
set_option maxRecDepth 100000 in
theorem t_X12_aField (x0 : Int) (M : Mem) (h0 : x0 ≠ 0) : MtI yX12_aField cX12_aField 2 (some .boolean) 9 0 0 [(30, x0)] M 0 (f_X12_aField x0 M) := by
  refine mk_I (by decide +kernel) (Nat.le_of_ble_eq_true rfl) (fun E C r0 M0 hC hq hin => ?_)
  refine r_eqls (ls' := [(0, 30, x0)]) rfl ?_
  unfold f_X12_aField
  refine r_sipush 0 hC ks_2632 dX12_aField_0 ?_
  refine r_iconst 3 hC (r32c rfl) dX12_aField_3 ?_
  refine r_aload_n 4 hC 0 rfl (Or.inl (by decide)) rfl dX12_aField_4 ?_
  refine r_get 5 hC fd_10_0 fl_X12_7 dX12_aField_5 (fun v1 => ?_)
  refine r_sipush 8 hC ks_2565 dX12_aField_8 ?_
  refine r_iaload 11 hC dX12_aField_11 (fun v2 => ?_)
  refine r_imul 12 hC dX12_aField_12 ?_
  refine r_iadd 13 hC dX12_aField_13 ?_
  refine r_istore_nL 14 hC rfl (by decide) dX12_aField_14 (fun v3 => r_eqls (ls' := [(1, 0, v3), (0, 30, x0)]) rfl ?_)
  refine r_aload_n 15 hC 1 rfl (Or.inl (by decide)) rfl dX12_aField_15 ?_
  refine r_iconst 16 hC (r32c rfl) dX12_aField_16 ?_
  refine r_bipush 17 hC kb_10 dX12_aField_17 ?_
  refine r_bipush 19 hC kb_16 dX12_aField_19 ?_
  refine r_callVI 21 hC [(0, 5), (0, 10), (0, 16)] [] rfl vl_X12_200 rfl h0 (by decide) (Nat.le_of_ble_eq_true rfl) (by decide) (by decide) dX12_aField_21 (t_X12_newOne x0 5 10 16 M h0) (fun v4 M5 => ?_)
  refine r_if_ne 24 hC (tgt := 29) (by decide) dX12_aField_24 ?_ ?_
  · refine r_aload_n 29 hC 1 rfl (Or.inl (by decide)) rfl dX12_aField_29 ?_
    refine r_get 30 hC fd_10_0 fl_X12_7 dX12_aField_30 (fun v6 => ?_)
    refine r_iload_n 33 hC 0 rfl rfl dX12_aField_33 ?_
    refine r_iconst 34 hC (r32c rfl) dX12_aField_34 ?_
    refine r_iadd 35 hC dX12_aField_35 ?_
    refine r_iconst 36 hC (r32c rfl) dX12_aField_36 ?_
    refine r_iastore 37 hC dX12_aField_37 (fun M7 => ?_)
    refine r_aload_n 38 hC 1 rfl (Or.inl (by decide)) rfl dX12_aField_38 ?_
    refine r_ldcS2 39 hC dX12_aField_39 ?_
    refine r_bipush 41 hC kb_12 dX12_aField_41 ?_
    refine r_callVI 43 hC [(2, (-2)), (0, 12)] [] rfl vl_X12_189 rfl h0 (by decide) (Nat.le_of_ble_eq_true rfl) (by decide) (by decide) dX12_aField_43 (t_X12_wantWord x0 (-2) 12 M7 h0) (fun v8 M9 => ?_)
    refine r_jn (P := fun j68 => ∀ (M10 : Mem), Bk E C 2 M (r0, M0) 68 [] [] M10 0 0 (j68 M10)) ?_ (fun j68 hj68 => ?_)
    · intro M10
      refine r_iconst 68 hC (r32c rfl) dX12_aField_68 ?_
      exact r_zreturn 69 hC hq (by decide) (by decide) dX12_aField_69
    refine r_if_eq 46 hC (tgt := 68) (by decide) dX12_aField_46 ?_ ?_
    · exact r_sub [] rfl (hj68 M9)
    · refine r_aload_n 49 hC 1 rfl (Or.inl (by decide)) rfl dX12_aField_49 ?_
      refine r_bipush 50 hC kb_104 dX12_aField_50 ?_
      refine r_aload_n 52 hC 1 rfl (Or.inl (by decide)) rfl dX12_aField_52 ?_
      refine r_get 53 hC fd_10_0 fl_X12_7 dX12_aField_53 (fun v11 => ?_)
      refine r_sipush 56 hC ks_2563 dX12_aField_56 ?_
      refine r_iaload 59 hC dX12_aField_59 (fun v12 => ?_)
      refine r_iconst 60 hC (r32c rfl) dX12_aField_60 ?_
      refine r_iload_n 61 hC 0 rfl rfl dX12_aField_61 ?_
      refine r_callVI 62 hC [(0, 104), (0, v12), (0, 0), (0, v3)] [] rfl vl_X12_206 rfl h0 (by decide) (Nat.le_of_ble_eq_true rfl) (by decide) (by decide) dX12_aField_62 (t_X12_oldOne x0 104 v12 0 v3 M9 h0) (fun v13 M14 => ?_)
      refine r_if_ne 65 hC (tgt := 70) (by decide) dX12_aField_65 ?_ ?_
      · refine r_aload_n 70 hC 1 rfl (Or.inl (by decide)) rfl dX12_aField_70 ?_
        refine r_ldcS2 71 hC dX12_aField_71 ?_
        refine r_bipush 73 hC kb_13 dX12_aField_73 ?_
        refine r_callVI 75 hC [(2, (-2)), (0, 13)] [] rfl vl_X12_189 rfl h0 (by decide) (Nat.le_of_ble_eq_true rfl) (by decide) (by decide) dX12_aField_75 (t_X12_wantWord x0 (-2) 13 M14 h0) (fun v15 M16 => ?_)
        refine r_jn (P := fun j119 => ∀ (M17 : Mem), Bk E C 2 M (r0, M0) 119 [] [] M17 0 0 (j119 M17)) ?_ (fun j119 hj119 => ?_)
        · intro M17
          refine r_iconst 119 hC (r32c rfl) dX12_aField_119 ?_
          exact r_zreturn 120 hC hq (by decide) (by decide) dX12_aField_120
        refine r_if_eq 78 hC (tgt := 119) (by decide) dX12_aField_78 ?_ ?_
        · exact r_sub [] rfl (hj119 M16)
        · refine r_aload_n 81 hC 1 rfl (Or.inl (by decide)) rfl dX12_aField_81 ?_
          refine r_iload_n 82 hC 0 rfl rfl dX12_aField_82 ?_
          refine r_iconst 83 hC (r32c rfl) dX12_aField_83 ?_
          refine r_iadd 84 hC dX12_aField_84 ?_
          refine r_iconst 85 hC (r32c rfl) dX12_aField_85 ?_
          refine r_bipush 86 hC kb_99 dX12_aField_86 ?_
          refine r_callVI 88 hC [(0, w32 (v3 + 1)), (0, 1), (0, 99)] [] rfl vl_X12_183 rfl h0 (by decide) (Nat.le_of_ble_eq_true rfl) (by decide) (by decide) dX12_aField_88 (t_X12_number x0 (w32 (v3 + 1)) 1 99 M16 h0) (fun v18 M19 => ?_)
          refine r_if_eq 91 hC (tgt := 119) (by decide) dX12_aField_91 ?_ ?_
          · exact r_sub [] rfl (hj119 M19)
          · refine r_aload_n 94 hC 1 rfl (Or.inl (by decide)) rfl dX12_aField_94 ?_
            refine r_ldcS2 95 hC dX12_aField_95 ?_
            refine r_bipush 97 hC kb_14 dX12_aField_97 ?_
            refine r_callVI 99 hC [(2, (-2)), (0, 14)] [] rfl vl_X12_189 rfl h0 (by decide) (Nat.le_of_ble_eq_true rfl) (by decide) (by decide) dX12_aField_99 (t_X12_wantWord x0 (-2) 14 M19 h0) (fun v20 M21 => ?_)
            refine r_if_eq 102 hC (tgt := 119) (by decide) dX12_aField_102 ?_ ?_
            · exact r_sub [] rfl (hj119 M21)
            · refine r_aload_n 105 hC 1 rfl (Or.inl (by decide)) rfl dX12_aField_105 ?_
              refine r_iload_n 106 hC 0 rfl rfl dX12_aField_106 ?_
              refine r_iconst 107 hC (r32c rfl) dX12_aField_107 ?_
              refine r_iadd 108 hC dX12_aField_108 ?_
              refine r_iconst 109 hC (r32c rfl) dX12_aField_109 ?_
              refine r_sipush 110 hC ks_9999 dX12_aField_110 ?_
              refine r_callVI 113 hC [(0, w32 (v3 + 2)), (0, 0), (0, 9999)] [] rfl vl_X12_183 rfl h0 (by decide) (Nat.le_of_ble_eq_true rfl) (by decide) (by decide) dX12_aField_113 (t_X12_number x0 (w32 (v3 + 2)) 0 9999 M21 h0) (fun v22 M23 => ?_)
              refine r_if_ne 116 hC (tgt := 121) (by decide) dX12_aField_116 ?_ ?_
              · refine r_aload_n 121 hC 1 rfl (Or.inl (by decide)) rfl dX12_aField_121 ?_
                refine r_bipush 122 hC kb_15 dX12_aField_122 ?_
                refine r_callVI 124 hC [(0, 15)] [] rfl vl_X12_203 rfl h0 (by decide) (Nat.le_of_ble_eq_true rfl) (by decide) (by decide) dX12_aField_124 (t_X12_isThere x0 15 M23 h0) (fun v24 M25 => ?_)
                refine r_jn (P := fun j154 => ∀ (M26 : Mem), Bk E C 2 M (r0, M0) 154 [(0, 30, x0)] [] M26 0 0 (j154 M26)) ?_ (fun j154 hj154 => ?_)
                · intro M26
                  refine r_aload_n 154 hC 0 rfl (Or.inl (by decide)) rfl dX12_aField_154 ?_
                  refine r_get 155 hC fd_10_0 fl_X12_7 dX12_aField_155 (fun v27 => ?_)
                  refine r_sipush 158 hC ks_2565 dX12_aField_158 ?_
                  refine r_dup2 161 hC ⟨by decide, by decide⟩ dX12_aField_161 ?_
                  refine r_iaload 162 hC dX12_aField_162 (fun v28 => ?_)
                  refine r_iconst 163 hC (r32c rfl) dX12_aField_163 ?_
                  refine r_iadd 164 hC dX12_aField_164 ?_
                  refine r_iastore 165 hC dX12_aField_165 (fun M29 => ?_)
                  refine r_iconst 166 hC (r32c rfl) dX12_aField_166 ?_
                  exact r_zreturn 167 hC hq (by decide) (by decide) dX12_aField_167
                refine r_if_eq 127 hC (tgt := 154) (by decide) dX12_aField_127 ?_ ?_
                · exact r_sub [1] rfl (hj154 M25)
                · refine r_aload_n 130 hC 1 rfl (Or.inl (by decide)) rfl dX12_aField_130 ?_
                  refine r_bipush 131 hC kb_104 dX12_aField_131 ?_
                  refine r_aload_n 133 hC 1 rfl (Or.inl (by decide)) rfl dX12_aField_133 ?_
                  refine r_get 134 hC fd_10_0 fl_X12_7 dX12_aField_134 (fun v30 => ?_)
                  refine r_sipush 137 hC ks_2564 dX12_aField_137 ?_
                  refine r_iaload 140 hC dX12_aField_140 (fun v31 => ?_)
                  refine r_bipush 141 hC kb_10 dX12_aField_141 ?_
                  refine r_iload_n 143 hC 0 rfl rfl dX12_aField_143 ?_
                  refine r_iconst 144 hC (r32c rfl) dX12_aField_144 ?_
                  refine r_iadd 145 hC dX12_aField_145 ?_
                  refine r_callVI 146 hC [(0, 104), (0, v31), (0, 10), (0, w32 (v3 + 3))] [] rfl vl_X12_206 rfl h0 (by decide) (Nat.le_of_ble_eq_true rfl) (by decide) (by decide) dX12_aField_146 (t_X12_oldOne x0 104 v31 10 (w32 (v3 + 3)) M25 h0) (fun v32 M33 => ?_)
                  refine r_if_ne 149 hC (tgt := 154) (by decide) dX12_aField_149 ?_ ?_
                  · exact r_sub [1] rfl (hj154 M33)
                  · refine r_iconst 152 hC (r32c rfl) dX12_aField_152 ?_
                    exact r_zreturn 153 hC hq (by decide) (by decide) dX12_aField_153
              · exact r_sub [] rfl (hj119 M23)
      · exact r_sub [] rfl (hj68 M14)
  · refine r_iconst 27 hC (r32c rfl) dX12_aField_27 ?_
    exact r_zreturn 28 hC hq (by decide) (by decide) dX12_aField_28

/-! WaterTurnsModel.valleyPart()Z -/
theorem dX12_valleyPart_0 : decode cX12_valleyPart 0 = .ok (.aload_n 0, 1) := by decide +kernel
theorem dX12_valleyPart_1 : decode cX12_valleyPart 1 = .ok (.ldc 187, 2) := by decide +kernel
theorem dX12_valleyPart_3 : decode cX12_valleyPart 3 = .ok (.invokevirtual 172, 3) := by decide +kernel
theorem dX12_valleyPart_6 : decode cX12_valleyPart 6 = .ok (.istore_n 2, 1) := by decide +kernel
theorem dX12_valleyPart_7 : decode cX12_valleyPart 7 = .ok (.iload_n 2, 1) := by decide +kernel
theorem dX12_valleyPart_8 : decode cX12_valleyPart 8 = .ok (.tableswitch 94 0 4 #[36, 36, 45, 53, 86], 36) := by decide +kernel
theorem dX12_valleyPart_44 : decode cX12_valleyPart 44 = .ok (.aload_n 0, 1) := by decide +kernel
theorem dX12_valleyPart_45 : decode cX12_valleyPart 45 = .ok (.iload_n 2, 1) := by decide +kernel
theorem dX12_valleyPart_46 : decode cX12_valleyPart 46 = .ok (.invokevirtual 210, 3) := by decide +kernel
theorem dX12_valleyPart_49 : decode cX12_valleyPart 49 = .ok (.istore_n 1, 1) := by decide +kernel
theorem dX12_valleyPart_50 : decode cX12_valleyPart 50 = .ok (.goto 58, 3) := by decide +kernel
theorem dX12_valleyPart_53 : decode cX12_valleyPart 53 = .ok (.aload_n 0, 1) := by decide +kernel
theorem dX12_valleyPart_54 : decode cX12_valleyPart 54 = .ok (.invokevirtual 213, 3) := by decide +kernel
theorem dX12_valleyPart_57 : decode cX12_valleyPart 57 = .ok (.istore_n 1, 1) := by decide +kernel
theorem dX12_valleyPart_58 : decode cX12_valleyPart 58 = .ok (.goto 50, 3) := by decide +kernel
theorem dX12_valleyPart_61 : decode cX12_valleyPart 61 = .ok (.aload_n 0, 1) := by decide +kernel
theorem dX12_valleyPart_62 : decode cX12_valleyPart 62 = .ok (.iconst 4, 1) := by decide +kernel
theorem dX12_valleyPart_63 : decode cX12_valleyPart 63 = .ok (.bipush 6, 2) := by decide +kernel
theorem dX12_valleyPart_65 : decode cX12_valleyPart 65 = .ok (.bipush 10, 2) := by decide +kernel
theorem dX12_valleyPart_67 : decode cX12_valleyPart 67 = .ok (.invokevirtual 200, 3) := by decide +kernel
theorem dX12_valleyPart_70 : decode cX12_valleyPart 70 = .ok (.istore_n 1, 1) := by decide +kernel
theorem dX12_valleyPart_71 : decode cX12_valleyPart 71 = .ok (.aload_n 0, 1) := by decide +kernel
theorem dX12_valleyPart_72 : decode cX12_valleyPart 72 = .ok (.getfield 7, 3) := by decide +kernel
theorem dX12_valleyPart_75 : decode cX12_valleyPart 75 = .ok (.sipush 2564, 3) := by decide +kernel
theorem dX12_valleyPart_78 : decode cX12_valleyPart 78 = .ok (.dup2, 1) := by decide +kernel
theorem dX12_valleyPart_79 : decode cX12_valleyPart 79 = .ok (.iaload, 1) := by decide +kernel
theorem dX12_valleyPart_80 : decode cX12_valleyPart 80 = .ok (.iload_n 1, 1) := by decide +kernel
theorem dX12_valleyPart_81 : decode cX12_valleyPart 81 = .ok (.ifCond .eq 7, 3) := by decide +kernel
theorem dX12_valleyPart_84 : decode cX12_valleyPart 84 = .ok (.iconst 1, 1) := by decide +kernel
theorem dX12_valleyPart_85 : decode cX12_valleyPart 85 = .ok (.goto 4, 3) := by decide +kernel
theorem dX12_valleyPart_88 : decode cX12_valleyPart 88 = .ok (.iconst 0, 1) := by decide +kernel
theorem dX12_valleyPart_89 : decode cX12_valleyPart 89 = .ok (.iadd, 1) := by decide +kernel
theorem dX12_valleyPart_90 : decode cX12_valleyPart 90 = .ok (.iastore, 1) := by decide +kernel
theorem dX12_valleyPart_91 : decode cX12_valleyPart 91 = .ok (.goto 17, 3) := by decide +kernel
theorem dX12_valleyPart_94 : decode cX12_valleyPart 94 = .ok (.aload_n 0, 1) := by decide +kernel
theorem dX12_valleyPart_95 : decode cX12_valleyPart 95 = .ok (.invokevirtual 217, 3) := by decide +kernel
theorem dX12_valleyPart_98 : decode cX12_valleyPart 98 = .ok (.istore_n 1, 1) := by decide +kernel
theorem dX12_valleyPart_99 : decode cX12_valleyPart 99 = .ok (.goto 9, 3) := by decide +kernel
theorem dX12_valleyPart_102 : decode cX12_valleyPart 102 = .ok (.aload_n 0, 1) := by decide +kernel
theorem dX12_valleyPart_103 : decode cX12_valleyPart 103 = .ok (.iconst 2, 1) := by decide +kernel
theorem dX12_valleyPart_104 : decode cX12_valleyPart 104 = .ok (.invokevirtual 169, 3) := by decide +kernel
theorem dX12_valleyPart_107 : decode cX12_valleyPart 107 = .ok (.ireturn, 1) := by decide +kernel
theorem dX12_valleyPart_108 : decode cX12_valleyPart 108 = .ok (.iload_n 1, 1) := by decide +kernel
theorem dX12_valleyPart_109 : decode cX12_valleyPart 109 = .ok (.ifCond .eq 16, 3) := by decide +kernel
theorem dX12_valleyPart_112 : decode cX12_valleyPart 112 = .ok (.aload_n 0, 1) := by decide +kernel
theorem dX12_valleyPart_113 : decode cX12_valleyPart 113 = .ok (.bipush 59, 2) := by decide +kernel
theorem dX12_valleyPart_115 : decode cX12_valleyPart 115 = .ok (.invokevirtual 220, 3) := by decide +kernel
theorem dX12_valleyPart_118 : decode cX12_valleyPart 118 = .ok (.ifCond .eq 7, 3) := by decide +kernel
theorem dX12_valleyPart_121 : decode cX12_valleyPart 121 = .ok (.iconst 1, 1) := by decide +kernel
theorem dX12_valleyPart_122 : decode cX12_valleyPart 122 = .ok (.goto 4, 3) := by decide +kernel
theorem dX12_valleyPart_125 : decode cX12_valleyPart 125 = .ok (.iconst 0, 1) := by decide +kernel
theorem dX12_valleyPart_126 : decode cX12_valleyPart 126 = .ok (.ireturn, 1) := by decide +kernel
set_option maxRecDepth 100000 in
theorem t_X12_valleyPart (x0 : Int) (M : Mem) (h0 : x0 ≠ 0) : MtI yX12_valleyPart cX12_valleyPart 3 (some .boolean) 10 0 0 [(30, x0)] M 0 (f_X12_valleyPart x0 M) := by
  refine mk_I (by decide +kernel) (Nat.le_of_ble_eq_true rfl) (fun E C r0 M0 hC hq hin => ?_)
  refine r_eqls (ls' := [(0, 30, x0)]) rfl ?_
  unfold f_X12_valleyPart
  refine r_aload_n 0 hC 0 rfl (Or.inl (by decide)) rfl dX12_valleyPart_0 ?_
  refine r_ldcS2 1 hC dX12_valleyPart_1 ?_
  refine r_callVP 3 hC [(2, (-2))] [] rfl vl_X12_172 rfl h0 (by decide) (Nat.le_of_ble_eq_true rfl) (by decide) (by decide) dX12_valleyPart_3 (t_X12_inWords x0 (-2) M h0) (fun v1 => ?_)
  refine r_istore_n 6 hC rfl (by decide) dX12_valleyPart_6 (r_eqls (ls' := [(2, 0, v1), (0, 30, x0)]) rfl ?_)
  refine r_iload_n 7 hC 0 rfl rfl dX12_valleyPart_7 ?_
  refine r_jn (P := fun j108 => ∀ (q2 : Int) (M3 : Mem), Bk E C 3 M (r0, M0) 108 [(0, 30, x0), (1, 0, q2)] [] M3 0 0 (j108 q2 M3)) ?_ (fun j108 hj108 => ?_)
  · intro q2 M3
    refine r_iload_n 108 hC 1 rfl rfl dX12_valleyPart_108 ?_
    refine r_jn (P := fun j126 => ∀ (q4 : Int) (M5 : Mem), Bk E C 3 M (r0, M0) 126 [] [(0, q4)] M5 0 0 (j126 q4 M5)) ?_ (fun j126 hj126 => ?_)
    · intro q4 M5
      exact r_zreturn 126 hC hq (by decide) (by decide) dX12_valleyPart_126
    refine r_jn (P := fun j125 => ∀ (M6 : Mem), Bk E C 3 M (r0, M0) 125 [] [] M6 0 0 (j125 M6)) ?_ (fun j125 hj125 => ?_)
    · intro M6
      refine r_iconst 125 hC (r32c rfl) dX12_valleyPart_125 ?_
      exact hj126 0 M6
    refine r_if_eq 109 hC (tgt := 125) (by decide) dX12_valleyPart_109 ?_ ?_
    · exact r_sub [] rfl (hj125 M3)
    · refine r_aload_n 112 hC 0 rfl (Or.inl (by decide)) rfl dX12_valleyPart_112 ?_
      refine r_bipush 113 hC kb_59 dX12_valleyPart_113 ?_
      refine r_callVI 115 hC [(0, 59)] [] rfl vl_X12_220 rfl h0 (by decide) (Nat.le_of_ble_eq_true rfl) (by decide) (by decide) dX12_valleyPart_115 (t_X12_wantSign x0 59 M3 h0) (fun v7 M8 => ?_)
      refine r_if_eq 118 hC (tgt := 125) (by decide) dX12_valleyPart_118 ?_ ?_
      · exact r_sub [] rfl (hj125 M8)
      · refine r_iconst 121 hC (r32c rfl) dX12_valleyPart_121 ?_
        refine r_goto 122 hC (tgt := 126) (by decide) dX12_valleyPart_122 ?_
        exact r_sub [] rfl (hj126 1 M8)
  refine r_sw_case 8 (tgt := 44) (off := 36) hC dX12_valleyPart_8 ⟨by decide, by decide, r32c rfl⟩ (by decide) (by decide) ?_ (fun hs0 => ?_)
  · refine r_aload_n 44 hC 1 rfl (Or.inl (by decide)) rfl dX12_valleyPart_44 ?_
    refine r_iload_n 45 hC 0 rfl rfl dX12_valleyPart_45 ?_
    refine r_callVI 46 hC [(0, v1)] [] rfl vl_X12_210 rfl h0 (by decide) (Nat.le_of_ble_eq_true rfl) (by decide) (by decide) dX12_valleyPart_46 (t_X12_once x0 v1 M h0) (fun v9 M10 => ?_)
    refine r_istore_n 49 hC rfl (by decide) dX12_valleyPart_49 (r_eqls (ls' := [(1, 0, v9), (2, 0, v1), (0, 30, x0)]) rfl ?_)
    refine r_goto 50 hC (tgt := 108) (by decide) dX12_valleyPart_50 ?_
    exact r_sub [2, 0] rfl (hj108 v9 M10)
  refine r_sw_case 8 (tgt := 44) (off := 36) hC dX12_valleyPart_8 ⟨by decide, by decide, r32c rfl⟩ (by decide) (by decide) ?_ (fun hs1 => ?_)
  · refine r_aload_n 44 hC 1 rfl (Or.inl (by decide)) rfl dX12_valleyPart_44 ?_
    refine r_iload_n 45 hC 0 rfl rfl dX12_valleyPart_45 ?_
    refine r_callVI 46 hC [(0, v1)] [] rfl vl_X12_210 rfl h0 (by decide) (Nat.le_of_ble_eq_true rfl) (by decide) (by decide) dX12_valleyPart_46 (t_X12_once x0 v1 M h0) (fun v11 M12 => ?_)
    refine r_istore_n 49 hC rfl (by decide) dX12_valleyPart_49 (r_eqls (ls' := [(1, 0, v11), (2, 0, v1), (0, 30, x0)]) rfl ?_)
    refine r_goto 50 hC (tgt := 108) (by decide) dX12_valleyPart_50 ?_
    exact r_sub [2, 0] rfl (hj108 v11 M12)
  refine r_sw_case 8 (tgt := 53) (off := 45) hC dX12_valleyPart_8 ⟨by decide, by decide, r32c rfl⟩ (by decide) (by decide) ?_ (fun hs2 => ?_)
  · refine r_aload_n 53 hC 1 rfl (Or.inl (by decide)) rfl dX12_valleyPart_53 ?_
    refine r_callVI 54 hC [] [] rfl vl_X12_213 rfl h0 (by decide) (Nat.le_of_ble_eq_true rfl) (by decide) (by decide) dX12_valleyPart_54 (t_X12_aReach x0 M h0) (fun v13 M14 => ?_)
    refine r_istore_n 57 hC rfl (by decide) dX12_valleyPart_57 (r_eqls (ls' := [(1, 0, v13), (2, 0, v1), (0, 30, x0)]) rfl ?_)
    refine r_goto 58 hC (tgt := 108) (by decide) dX12_valleyPart_58 ?_
    exact r_sub [2, 0] rfl (hj108 v13 M14)
  refine r_sw_case 8 (tgt := 61) (off := 53) hC dX12_valleyPart_8 ⟨by decide, by decide, r32c rfl⟩ (by decide) (by decide) ?_ (fun hs3 => ?_)
  · refine r_aload_n 61 hC 1 rfl (Or.inl (by decide)) rfl dX12_valleyPart_61 ?_
    refine r_iconst 62 hC (r32c rfl) dX12_valleyPart_62 ?_
    refine r_bipush 63 hC kb_6 dX12_valleyPart_63 ?_
    refine r_bipush 65 hC kb_10 dX12_valleyPart_65 ?_
    refine r_callVI 67 hC [(0, 4), (0, 6), (0, 10)] [] rfl vl_X12_200 rfl h0 (by decide) (Nat.le_of_ble_eq_true rfl) (by decide) (by decide) dX12_valleyPart_67 (t_X12_newOne x0 4 6 10 M h0) (fun v15 M16 => ?_)
    refine r_istore_n 70 hC rfl (by decide) dX12_valleyPart_70 (r_eqls (ls' := [(1, 0, v15), (2, 0, v1), (0, 30, x0)]) rfl ?_)
    refine r_aload_n 71 hC 2 rfl (Or.inl (by decide)) rfl dX12_valleyPart_71 ?_
    refine r_get 72 hC fd_10_0 fl_X12_7 dX12_valleyPart_72 (fun v17 => ?_)
    refine r_sipush 75 hC ks_2564 dX12_valleyPart_75 ?_
    refine r_dup2 78 hC ⟨by decide, by decide⟩ dX12_valleyPart_78 ?_
    refine r_iaload 79 hC dX12_valleyPart_79 (fun v18 => ?_)
    refine r_iload_n 80 hC 0 rfl rfl dX12_valleyPart_80 ?_
    refine r_jn (P := fun j89 => ∀ (q19 : Int), Bk E C 3 M (r0, M0) 89 [(0, 30, x0), (1, 0, v15)] [(0, q19), (0, v18), (0, 2564), (10, v17)] M16 0 0 (j89 q19)) ?_ (fun j89 hj89 => ?_)
    · intro q19
      refine r_iadd 89 hC dX12_valleyPart_89 ?_
      refine r_iastore 90 hC dX12_valleyPart_90 (fun M20 => ?_)
      refine r_goto 91 hC (tgt := 108) (by decide) dX12_valleyPart_91 ?_
      exact hj108 v15 M20
    refine r_if_eq 81 hC (tgt := 88) (by decide) dX12_valleyPart_81 ?_ ?_
    · refine r_iconst 88 hC (r32c rfl) dX12_valleyPart_88 ?_
      exact r_sub [2, 0] rfl (hj89 0)
    · refine r_iconst 84 hC (r32c rfl) dX12_valleyPart_84 ?_
      refine r_goto 85 hC (tgt := 89) (by decide) dX12_valleyPart_85 ?_
      exact r_sub [2, 0] rfl (hj89 1)
  refine r_sw_case 8 (tgt := 94) (off := 86) hC dX12_valleyPart_8 ⟨by decide, by decide, r32c rfl⟩ (by decide) (by decide) ?_ (fun hs4 => ?_)
  · refine r_aload_n 94 hC 1 rfl (Or.inl (by decide)) rfl dX12_valleyPart_94 ?_
    refine r_callVI 95 hC [] [] rfl vl_X12_217 rfl h0 (by decide) (Nat.le_of_ble_eq_true rfl) (by decide) (by decide) dX12_valleyPart_95 (t_X12_aField x0 M h0) (fun v21 M22 => ?_)
    refine r_istore_n 98 hC rfl (by decide) dX12_valleyPart_98 (r_eqls (ls' := [(1, 0, v21), (2, 0, v1), (0, 30, x0)]) rfl ?_)
    refine r_goto 99 hC (tgt := 108) (by decide) dX12_valleyPart_99 ?_
    exact r_sub [2, 0] rfl (hj108 v21 M22)
  refine r_sw_dflt 8 (tgt := 102) hC dX12_valleyPart_8 (by omega) (by decide) ?_
  refine r_aload_n 102 hC 1 rfl (Or.inl (by decide)) rfl dX12_valleyPart_102 ?_
  refine r_iconst 103 hC (r32c rfl) dX12_valleyPart_103 ?_
  refine r_callVI 104 hC [(0, 2)] [] rfl vl_X12_169 rfl h0 (by decide) (Nat.le_of_ble_eq_true rfl) (by decide) (by decide) dX12_valleyPart_104 (t_X12_fails x0 2 M h0) (fun v23 M24 => ?_)
  exact r_zreturn 107 hC hq (by decide) (by decide) dX12_valleyPart_107

/-! WaterTurnsModel.orders()V -/
theorem dX12_orders_0 : decode cX12_orders 0 = .ok (.iconst 0, 1) := by decide +kernel
theorem dX12_orders_1 : decode cX12_orders 1 = .ok (.istore_n 1, 1) := by decide +kernel
theorem dX12_orders_2 : decode cX12_orders 2 = .ok (.iconst 0, 1) := by decide +kernel
theorem dX12_orders_3 : decode cX12_orders 3 = .ok (.istore_n 2, 1) := by decide +kernel
theorem dX12_orders_4 : decode cX12_orders 4 = .ok (.aload_n 0, 1) := by decide +kernel
theorem dX12_orders_5 : decode cX12_orders 5 = .ok (.getfield 7, 3) := by decide +kernel
theorem dX12_orders_8 : decode cX12_orders 8 = .ok (.sipush 2563, 3) := by decide +kernel
theorem dX12_orders_11 : decode cX12_orders 11 = .ok (.iaload, 1) := by decide +kernel
theorem dX12_orders_12 : decode cX12_orders 12 = .ok (.iconst 1, 1) := by decide +kernel
theorem dX12_orders_13 : decode cX12_orders 13 = .ok (.isub, 1) := by decide +kernel
theorem dX12_orders_14 : decode cX12_orders 14 = .ok (.istore_n 3, 1) := by decide +kernel
theorem dX12_orders_15 : decode cX12_orders 15 = .ok (.iload_n 3, 1) := by decide +kernel
theorem dX12_orders_16 : decode cX12_orders 16 = .ok (.ifCond .lt 39, 3) := by decide +kernel
theorem dX12_orders_19 : decode cX12_orders 19 = .ok (.aload_n 0, 1) := by decide +kernel
theorem dX12_orders_20 : decode cX12_orders 20 = .ok (.getfield 7, 3) := by decide +kernel
theorem dX12_orders_23 : decode cX12_orders 23 = .ok (.sipush 2572, 3) := by decide +kernel
theorem dX12_orders_26 : decode cX12_orders 26 = .ok (.bipush 6, 2) := by decide +kernel
theorem dX12_orders_28 : decode cX12_orders 28 = .ok (.iload_n 3, 1) := by decide +kernel
theorem dX12_orders_29 : decode cX12_orders 29 = .ok (.imul, 1) := by decide +kernel
theorem dX12_orders_30 : decode cX12_orders 30 = .ok (.iadd, 1) := by decide +kernel
theorem dX12_orders_31 : decode cX12_orders 31 = .ok (.iaload, 1) := by decide +kernel
theorem dX12_orders_32 : decode cX12_orders 32 = .ok (.iconst (-1), 1) := by decide +kernel
theorem dX12_orders_33 : decode cX12_orders 33 = .ok (.if_icmp .eq 6, 3) := by decide +kernel
theorem dX12_orders_36 : decode cX12_orders 36 = .ok (.goto 13, 3) := by decide +kernel
theorem dX12_orders_39 : decode cX12_orders 39 = .ok (.aload_n 0, 1) := by decide +kernel
theorem dX12_orders_40 : decode cX12_orders 40 = .ok (.getfield 44, 3) := by decide +kernel
theorem dX12_orders_43 : decode cX12_orders 43 = .ok (.iload_n 1, 1) := by decide +kernel
theorem dX12_orders_44 : decode cX12_orders 44 = .ok (.iload_n 3, 1) := by decide +kernel
theorem dX12_orders_45 : decode cX12_orders 45 = .ok (.iastore, 1) := by decide +kernel
theorem dX12_orders_46 : decode cX12_orders 46 = .ok (.iinc 1 1, 3) := by decide +kernel
theorem dX12_orders_49 : decode cX12_orders 49 = .ok (.iinc 3 (-1), 3) := by decide +kernel
theorem dX12_orders_52 : decode cX12_orders 52 = .ok (.goto (-37), 3) := by decide +kernel
theorem dX12_orders_55 : decode cX12_orders 55 = .ok (.iload_n 1, 1) := by decide +kernel
theorem dX12_orders_56 : decode cX12_orders 56 = .ok (.ifCond .le 128, 3) := by decide +kernel
theorem dX12_orders_59 : decode cX12_orders 59 = .ok (.iinc 1 (-1), 3) := by decide +kernel
theorem dX12_orders_62 : decode cX12_orders 62 = .ok (.aload_n 0, 1) := by decide +kernel
theorem dX12_orders_63 : decode cX12_orders 63 = .ok (.getfield 44, 3) := by decide +kernel
theorem dX12_orders_66 : decode cX12_orders 66 = .ok (.iload_n 1, 1) := by decide +kernel
theorem dX12_orders_67 : decode cX12_orders 67 = .ok (.iaload, 1) := by decide +kernel
theorem dX12_orders_68 : decode cX12_orders 68 = .ok (.istore_n 3, 1) := by decide +kernel
theorem dX12_orders_69 : decode cX12_orders 69 = .ok (.iconst 0, 1) := by decide +kernel
theorem dX12_orders_70 : decode cX12_orders 70 = .ok (.istore 4, 2) := by decide +kernel
theorem dX12_orders_72 : decode cX12_orders 72 = .ok (.iload 4, 2) := by decide +kernel
theorem dX12_orders_74 : decode cX12_orders 74 = .ok (.aload_n 0, 1) := by decide +kernel
theorem dX12_orders_75 : decode cX12_orders 75 = .ok (.getfield 7, 3) := by decide +kernel
theorem dX12_orders_78 : decode cX12_orders 78 = .ok (.sipush 2565, 3) := by decide +kernel
theorem dX12_orders_81 : decode cX12_orders 81 = .ok (.iaload, 1) := by decide +kernel
theorem dX12_orders_82 : decode cX12_orders 82 = .ok (.if_icmp .ge 44, 3) := by decide +kernel
theorem dX12_orders_85 : decode cX12_orders 85 = .ok (.aload_n 0, 1) := by decide +kernel
theorem dX12_orders_86 : decode cX12_orders 86 = .ok (.getfield 7, 3) := by decide +kernel
theorem dX12_orders_89 : decode cX12_orders 89 = .ok (.sipush 2632, 3) := by decide +kernel
theorem dX12_orders_92 : decode cX12_orders 92 = .ok (.iconst 4, 1) := by decide +kernel
theorem dX12_orders_93 : decode cX12_orders 93 = .ok (.iload 4, 2) := by decide +kernel
theorem dX12_orders_95 : decode cX12_orders 95 = .ok (.imul, 1) := by decide +kernel
theorem dX12_orders_96 : decode cX12_orders 96 = .ok (.iadd, 1) := by decide +kernel
theorem dX12_orders_97 : decode cX12_orders 97 = .ok (.iaload, 1) := by decide +kernel
theorem dX12_orders_98 : decode cX12_orders 98 = .ok (.iload_n 3, 1) := by decide +kernel
theorem dX12_orders_99 : decode cX12_orders 99 = .ok (.if_icmp .eq 6, 3) := by decide +kernel
theorem dX12_orders_102 : decode cX12_orders 102 = .ok (.goto 18, 3) := by decide +kernel
theorem dX12_orders_105 : decode cX12_orders 105 = .ok (.aload_n 0, 1) := by decide +kernel
theorem dX12_orders_106 : decode cX12_orders 106 = .ok (.getfield 7, 3) := by decide +kernel
theorem dX12_orders_109 : decode cX12_orders 109 = .ok (.sipush 2672, 3) := by decide +kernel
theorem dX12_orders_112 : decode cX12_orders 112 = .ok (.iload_n 2, 1) := by decide +kernel
theorem dX12_orders_113 : decode cX12_orders 113 = .ok (.iadd, 1) := by decide +kernel
theorem dX12_orders_114 : decode cX12_orders 114 = .ok (.iload 4, 2) := by decide +kernel
theorem dX12_orders_116 : decode cX12_orders 116 = .ok (.iastore, 1) := by decide +kernel
theorem dX12_orders_117 : decode cX12_orders 117 = .ok (.iinc 2 1, 3) := by decide +kernel
theorem dX12_orders_120 : decode cX12_orders 120 = .ok (.iinc 4 1, 3) := by decide +kernel
theorem dX12_orders_123 : decode cX12_orders 123 = .ok (.goto (-51), 3) := by decide +kernel
theorem dX12_orders_126 : decode cX12_orders 126 = .ok (.aload_n 0, 1) := by decide +kernel
theorem dX12_orders_127 : decode cX12_orders 127 = .ok (.getfield 7, 3) := by decide +kernel
theorem dX12_orders_130 : decode cX12_orders 130 = .ok (.sipush 2563, 3) := by decide +kernel
theorem dX12_orders_133 : decode cX12_orders 133 = .ok (.iaload, 1) := by decide +kernel
theorem dX12_orders_134 : decode cX12_orders 134 = .ok (.iconst 1, 1) := by decide +kernel
theorem dX12_orders_135 : decode cX12_orders 135 = .ok (.isub, 1) := by decide +kernel
theorem dX12_orders_136 : decode cX12_orders 136 = .ok (.istore 4, 2) := by decide +kernel
theorem dX12_orders_138 : decode cX12_orders 138 = .ok (.iload 4, 2) := by decide +kernel
theorem dX12_orders_140 : decode cX12_orders 140 = .ok (.ifCond .lt 41, 3) := by decide +kernel
theorem dX12_orders_143 : decode cX12_orders 143 = .ok (.aload_n 0, 1) := by decide +kernel
theorem dX12_orders_144 : decode cX12_orders 144 = .ok (.getfield 7, 3) := by decide +kernel
theorem dX12_orders_147 : decode cX12_orders 147 = .ok (.sipush 2572, 3) := by decide +kernel
theorem dX12_orders_150 : decode cX12_orders 150 = .ok (.bipush 6, 2) := by decide +kernel
theorem dX12_orders_152 : decode cX12_orders 152 = .ok (.iload 4, 2) := by decide +kernel
theorem dX12_orders_154 : decode cX12_orders 154 = .ok (.imul, 1) := by decide +kernel
theorem dX12_orders_155 : decode cX12_orders 155 = .ok (.iadd, 1) := by decide +kernel
theorem dX12_orders_156 : decode cX12_orders 156 = .ok (.iaload, 1) := by decide +kernel
theorem dX12_orders_157 : decode cX12_orders 157 = .ok (.iload_n 3, 1) := by decide +kernel
theorem dX12_orders_158 : decode cX12_orders 158 = .ok (.if_icmp .eq 6, 3) := by decide +kernel
theorem dX12_orders_161 : decode cX12_orders 161 = .ok (.goto 14, 3) := by decide +kernel
theorem dX12_orders_164 : decode cX12_orders 164 = .ok (.aload_n 0, 1) := by decide +kernel
theorem dX12_orders_165 : decode cX12_orders 165 = .ok (.getfield 44, 3) := by decide +kernel
theorem dX12_orders_168 : decode cX12_orders 168 = .ok (.iload_n 1, 1) := by decide +kernel
theorem dX12_orders_169 : decode cX12_orders 169 = .ok (.iload 4, 2) := by decide +kernel
theorem dX12_orders_171 : decode cX12_orders 171 = .ok (.iastore, 1) := by decide +kernel
theorem dX12_orders_172 : decode cX12_orders 172 = .ok (.iinc 1 1, 3) := by decide +kernel
theorem dX12_orders_175 : decode cX12_orders 175 = .ok (.iinc 4 (-1), 3) := by decide +kernel
theorem dX12_orders_178 : decode cX12_orders 178 = .ok (.goto (-40), 3) := by decide +kernel
theorem dX12_orders_181 : decode cX12_orders 181 = .ok (.goto (-126), 3) := by decide +kernel
theorem dX12_orders_184 : decode cX12_orders 184 = .ok (.return_, 1) := by decide +kernel
set_option maxRecDepth 100000 in
theorem f_X12_orders_L15_ok {E : EnvT} {C : Cx} {Mi : Mem} {x0 : Int} (h0 : x0 ≠ 0) (hC : CxOK E C cX12_orders 5 yX12_orders.cls 1 0 0) {M0 : Mem} (hq : RQ E C 0 0 Mi none none M0) {k : Int → Int → Mem → Option (Mem)} (hk : ∀ q13 q14 M15, Bk E C 5 Mi M0 55 [(0, 30, x0), (1, 0, q13), (2, 0, q14)] [] M15 0 0 (k q13 q14 M15)) : ∀ (n : Nat) (p4 : Int) (p5 : Int) (M6 : Mem), Bk E C 5 Mi M0 15 [(0, 30, x0), (1, 0, p4), (2, 0, 0), (3, 0, p5)] [] M6 0 0 (f_X12_orders_L15 x0 k n p4 p5 M6) := by
  intro n
  induction n with
  | zero =>
    intro p4 p5 M6
    exact r_none
  | succ n ih =>
    intro p4 p5 M6
    rw [f_X12_orders_L15]
    refine r_iload_n 15 hC 3 rfl rfl dX12_orders_15 ?_
    refine r_if_lt 16 hC (tgt := 55) (by decide) dX12_orders_16 ?_ ?_
    · exact r_sub [0, 1, 2] rfl (hk p4 0 M6)
    · refine r_aload_n 19 hC 0 rfl (Or.inl (by decide)) rfl dX12_orders_19 ?_
      refine r_get 20 hC fd_10_0 fl_X12_7 dX12_orders_20 (fun v7 => ?_)
      refine r_sipush 23 hC ks_2572 dX12_orders_23 ?_
      refine r_bipush 26 hC kb_6 dX12_orders_26 ?_
      refine r_iload_n 28 hC 3 rfl rfl dX12_orders_28 ?_
      refine r_imul 29 hC dX12_orders_29 ?_
      refine r_iadd 30 hC dX12_orders_30 ?_
      refine r_iaload 31 hC dX12_orders_31 (fun v8 => ?_)
      refine r_iconst 32 hC (r32c rfl) dX12_orders_32 ?_
      refine r_jn (P := fun j49 => ∀ (q9 : Int) (M10 : Mem), Bk E C 5 Mi M0 49 [(0, 30, x0), (1, 0, q9), (2, 0, 0), (3, 0, p5)] [] M10 0 0 (j49 q9 M10)) ?_ (fun j49 hj49 => ?_)
      · intro q9 M10
        refine r_iinc 49 hC 3 rfl (by decide) dX12_orders_49 (r_eqls (ls' := [(3, 0, w32 (p5 + (-1))), (0, 30, x0), (1, 0, q9), (2, 0, 0)]) rfl ?_)
        refine r_goto 52 hC (tgt := 15) (by decide) dX12_orders_52 ?_
        exact r_sub [1, 2, 3, 0] rfl (ih q9 (w32 (p5 + (-1))) M10)
      refine r_icmp_eq 33 hC (tgt := 39) (by decide) dX12_orders_33 ?_ ?_
      · refine r_aload_n 39 hC 0 rfl (Or.inl (by decide)) rfl dX12_orders_39 ?_
        refine r_get 40 hC fd_10_21 fl_X12_44 dX12_orders_40 (fun v11 => ?_)
        refine r_iload_n 43 hC 1 rfl rfl dX12_orders_43 ?_
        refine r_iload_n 44 hC 3 rfl rfl dX12_orders_44 ?_
        refine r_iastore 45 hC dX12_orders_45 (fun M12 => ?_)
        refine r_iinc 46 hC 1 rfl (by decide) dX12_orders_46 (r_eqls (ls' := [(1, 0, w32 (p4 + 1)), (0, 30, x0), (2, 0, 0), (3, 0, p5)]) rfl ?_)
        exact r_sub [1, 0, 2, 3] rfl (hj49 (w32 (p4 + 1)) M12)
      · refine r_goto 36 hC (tgt := 49) (by decide) dX12_orders_36 ?_
        exact hj49 p4 M6
set_option maxRecDepth 100000 in
theorem f_X12_orders_L72_ok {E : EnvT} {C : Cx} {Mi : Mem} {x0 : Int} (h0 : x0 ≠ 0) (hC : CxOK E C cX12_orders 5 yX12_orders.cls 1 0 0) {M0 : Mem} (hq : RQ E C 0 0 Mi none none M0) {p19 v23 : Int} {k : Int → Mem → Option (Mem)} (hk : ∀ q35 M36, Bk E C 5 Mi M0 126 [(0, 30, x0), (1, 0, w32 (p19 + (-1))), (2, 0, q35), (3, 0, v23)] [] M36 0 0 (k q35 M36)) : ∀ (n : Nat) (p24 : Int) (p25 : Int) (M26 : Mem), Bk E C 5 Mi M0 72 [(0, 30, x0), (1, 0, w32 (p19 + (-1))), (2, 0, p24), (3, 0, v23), (4, 0, p25)] [] M26 0 0 (f_X12_orders_L72 p19 v23 x0 k n p24 p25 M26) := by
  intro n
  induction n with
  | zero =>
    intro p24 p25 M26
    exact r_none
  | succ n ih =>
    intro p24 p25 M26
    rw [f_X12_orders_L72]
    refine r_iload 72 hC 4 rfl dX12_orders_72 ?_
    refine r_aload_n 74 hC 0 rfl (Or.inl (by decide)) rfl dX12_orders_74 ?_
    refine r_get 75 hC fd_10_0 fl_X12_7 dX12_orders_75 (fun v27 => ?_)
    refine r_sipush 78 hC ks_2565 dX12_orders_78 ?_
    refine r_iaload 81 hC dX12_orders_81 (fun v28 => ?_)
    refine r_icmp_ge 82 hC (tgt := 126) (by decide) dX12_orders_82 ?_ ?_
    · exact r_sub [0, 1, 2, 3] rfl (hk p24 M26)
    · refine r_aload_n 85 hC 0 rfl (Or.inl (by decide)) rfl dX12_orders_85 ?_
      refine r_get 86 hC fd_10_0 fl_X12_7 dX12_orders_86 (fun v29 => ?_)
      refine r_sipush 89 hC ks_2632 dX12_orders_89 ?_
      refine r_iconst 92 hC (r32c rfl) dX12_orders_92 ?_
      refine r_iload 93 hC 4 rfl dX12_orders_93 ?_
      refine r_imul 95 hC dX12_orders_95 ?_
      refine r_iadd 96 hC dX12_orders_96 ?_
      refine r_iaload 97 hC dX12_orders_97 (fun v30 => ?_)
      refine r_iload_n 98 hC 3 rfl rfl dX12_orders_98 ?_
      refine r_jn (P := fun j120 => ∀ (q31 : Int) (M32 : Mem), Bk E C 5 Mi M0 120 [(0, 30, x0), (1, 0, w32 (p19 + (-1))), (2, 0, q31), (3, 0, v23), (4, 0, p25)] [] M32 0 0 (j120 q31 M32)) ?_ (fun j120 hj120 => ?_)
      · intro q31 M32
        refine r_iinc 120 hC 4 rfl (by decide) dX12_orders_120 (r_eqls (ls' := [(4, 0, w32 (p25 + 1)), (0, 30, x0), (1, 0, w32 (p19 + (-1))), (2, 0, q31), (3, 0, v23)]) rfl ?_)
        refine r_goto 123 hC (tgt := 72) (by decide) dX12_orders_123 ?_
        exact r_sub [1, 2, 3, 4, 0] rfl (ih q31 (w32 (p25 + 1)) M32)
      refine r_icmp_eq 99 hC (tgt := 105) (by decide) dX12_orders_99 ?_ ?_
      · refine r_aload_n 105 hC 0 rfl (Or.inl (by decide)) rfl dX12_orders_105 ?_
        refine r_get 106 hC fd_10_0 fl_X12_7 dX12_orders_106 (fun v33 => ?_)
        refine r_sipush 109 hC ks_2672 dX12_orders_109 ?_
        refine r_iload_n 112 hC 2 rfl rfl dX12_orders_112 ?_
        refine r_iadd 113 hC dX12_orders_113 ?_
        refine r_iload 114 hC 4 rfl dX12_orders_114 ?_
        refine r_iastore 116 hC dX12_orders_116 (fun M34 => ?_)
        refine r_iinc 117 hC 2 rfl (by decide) dX12_orders_117 (r_eqls (ls' := [(2, 0, w32 (p24 + 1)), (0, 30, x0), (1, 0, w32 (p19 + (-1))), (3, 0, v23), (4, 0, p25)]) rfl ?_)
        exact r_sub [1, 2, 0, 3, 4] rfl (hj120 (w32 (p24 + 1)) M34)
      · refine r_goto 102 hC (tgt := 120) (by decide) dX12_orders_102 ?_
        exact hj120 p24 M26
set_option maxRecDepth 100000 in
theorem f_X12_orders_L138_ok {E : EnvT} {C : Cx} {Mi : Mem} {x0 : Int} (h0 : x0 ≠ 0) (hC : CxOK E C cX12_orders 5 yX12_orders.cls 1 0 0) {M0 : Mem} (hq : RQ E C 0 0 Mi none none M0) {q37 v23 : Int} {k : Int → Mem → Option (Mem)} (hk : ∀ q51 M52, Bk E C 5 Mi M0 181 [(0, 30, x0), (1, 0, q51), (2, 0, q37)] [] M52 0 0 (k q51 M52)) : ∀ (n : Nat) (p42 : Int) (p43 : Int) (M44 : Mem), Bk E C 5 Mi M0 138 [(0, 30, x0), (1, 0, p42), (2, 0, q37), (3, 0, v23), (4, 0, p43)] [] M44 0 0 (f_X12_orders_L138 q37 v23 x0 k n p42 p43 M44) := by
  intro n
  induction n with
  | zero =>
    intro p42 p43 M44
    exact r_none
  | succ n ih =>
    intro p42 p43 M44
    rw [f_X12_orders_L138]
    refine r_iload 138 hC 4 rfl dX12_orders_138 ?_
    refine r_if_lt 140 hC (tgt := 181) (by decide) dX12_orders_140 ?_ ?_
    · exact r_sub [0, 1, 2] rfl (hk p42 M44)
    · refine r_aload_n 143 hC 0 rfl (Or.inl (by decide)) rfl dX12_orders_143 ?_
      refine r_get 144 hC fd_10_0 fl_X12_7 dX12_orders_144 (fun v45 => ?_)
      refine r_sipush 147 hC ks_2572 dX12_orders_147 ?_
      refine r_bipush 150 hC kb_6 dX12_orders_150 ?_
      refine r_iload 152 hC 4 rfl dX12_orders_152 ?_
      refine r_imul 154 hC dX12_orders_154 ?_
      refine r_iadd 155 hC dX12_orders_155 ?_
      refine r_iaload 156 hC dX12_orders_156 (fun v46 => ?_)
      refine r_iload_n 157 hC 3 rfl rfl dX12_orders_157 ?_
      refine r_jn (P := fun j175 => ∀ (q47 : Int) (M48 : Mem), Bk E C 5 Mi M0 175 [(0, 30, x0), (1, 0, q47), (2, 0, q37), (3, 0, v23), (4, 0, p43)] [] M48 0 0 (j175 q47 M48)) ?_ (fun j175 hj175 => ?_)
      · intro q47 M48
        refine r_iinc 175 hC 4 rfl (by decide) dX12_orders_175 (r_eqls (ls' := [(4, 0, w32 (p43 + (-1))), (0, 30, x0), (1, 0, q47), (2, 0, q37), (3, 0, v23)]) rfl ?_)
        refine r_goto 178 hC (tgt := 138) (by decide) dX12_orders_178 ?_
        exact r_sub [1, 2, 3, 4, 0] rfl (ih q47 (w32 (p43 + (-1))) M48)
      refine r_icmp_eq 158 hC (tgt := 164) (by decide) dX12_orders_158 ?_ ?_
      · refine r_aload_n 164 hC 0 rfl (Or.inl (by decide)) rfl dX12_orders_164 ?_
        refine r_get 165 hC fd_10_21 fl_X12_44 dX12_orders_165 (fun v49 => ?_)
        refine r_iload_n 168 hC 1 rfl rfl dX12_orders_168 ?_
        refine r_iload 169 hC 4 rfl dX12_orders_169 ?_
        refine r_iastore 171 hC dX12_orders_171 (fun M50 => ?_)
        refine r_iinc 172 hC 1 rfl (by decide) dX12_orders_172 (r_eqls (ls' := [(1, 0, w32 (p42 + 1)), (0, 30, x0), (2, 0, q37), (3, 0, v23), (4, 0, p43)]) rfl ?_)
        exact r_sub [1, 0, 2, 3, 4] rfl (hj175 (w32 (p42 + 1)) M50)
      · refine r_goto 161 hC (tgt := 175) (by decide) dX12_orders_161 ?_
        exact hj175 p42 M44
set_option maxRecDepth 100000 in
theorem f_X12_orders_L55_ok {E : EnvT} {C : Cx} {Mi : Mem} {x0 : Int} (h0 : x0 ≠ 0) (hC : CxOK E C cX12_orders 5 yX12_orders.cls 1 0 0) {M0 : Mem} (hq : RQ E C 0 0 Mi none none M0) {k : Mem → Option (Mem)} (hk : ∀ M55, Bk E C 5 Mi M0 184 [] [] M55 0 0 (k M55)) : ∀ (n : Nat) (p19 : Int) (p20 : Int) (M21 : Mem), Bk E C 5 Mi M0 55 [(0, 30, x0), (1, 0, p19), (2, 0, p20)] [] M21 0 0 (f_X12_orders_L55 x0 k n p19 p20 M21) := by
  intro n
  induction n with
  | zero =>
    intro p19 p20 M21
    exact r_none
  | succ n ih =>
    intro p19 p20 M21
    rw [f_X12_orders_L55]
    refine r_iload_n 55 hC 1 rfl rfl dX12_orders_55 ?_
    refine r_if_le 56 hC (tgt := 184) (by decide) dX12_orders_56 ?_ ?_
    · exact r_sub [] rfl (hk M21)
    · refine r_iinc 59 hC 1 rfl (by decide) dX12_orders_59 (r_eqls (ls' := [(1, 0, w32 (p19 + (-1))), (0, 30, x0), (2, 0, p20)]) rfl ?_)
      refine r_aload_n 62 hC 1 rfl (Or.inl (by decide)) rfl dX12_orders_62 ?_
      refine r_get 63 hC fd_10_21 fl_X12_44 dX12_orders_63 (fun v22 => ?_)
      refine r_iload_n 66 hC 0 rfl rfl dX12_orders_66 ?_
      refine r_iaload 67 hC dX12_orders_67 (fun v23 => ?_)
      refine r_istore_n 68 hC rfl (by decide) dX12_orders_68 (r_eqls (ls' := [(3, 0, v23), (1, 0, w32 (p19 + (-1))), (0, 30, x0), (2, 0, p20)]) rfl ?_)
      refine r_iconst 69 hC (r32c rfl) dX12_orders_69 ?_
      refine r_istore 70 hC (by decide) dX12_orders_70 (r_eqls (ls' := [(4, 0, 0), (3, 0, v23), (1, 0, w32 (p19 + (-1))), (0, 30, x0), (2, 0, p20)]) rfl ?_)
      refine r_sub [3, 2, 4, 1, 0] rfl (f_X12_orders_L72_ok h0 hC hq (fun q37 M38 => ?_) KF p20 0 M21)
      · refine r_aload_n 126 hC 0 rfl (Or.inl (by decide)) rfl dX12_orders_126 ?_
        refine r_get 127 hC fd_10_0 fl_X12_7 dX12_orders_127 (fun v39 => ?_)
        refine r_sipush 130 hC ks_2563 dX12_orders_130 ?_
        refine r_iaload 133 hC dX12_orders_133 (fun v40 => ?_)
        refine r_iconst 134 hC (r32c rfl) dX12_orders_134 ?_
        refine r_isub 135 hC dX12_orders_135 ?_
        refine r_istoreL 136 hC (by decide) dX12_orders_136 (fun v41 => r_eqls (ls' := [(4, 0, v41), (0, 30, x0), (1, 0, w32 (p19 + (-1))), (2, 0, q37), (3, 0, v23)]) rfl ?_)
        refine r_sub [1, 2, 3, 4, 0] rfl (f_X12_orders_L138_ok h0 hC hq (fun q53 M54 => ?_) KF (w32 (p19 + (-1))) v41 M38)
        · refine r_goto 181 hC (tgt := 55) (by decide) dX12_orders_181 ?_
          exact ih q53 q37 M54
set_option maxRecDepth 100000 in
theorem t_X12_orders (x0 : Int) (M : Mem) (h0 : x0 ≠ 0) : MtV yX12_orders cX12_orders 5 none 1 0 0 [(30, x0)] M (f_X12_orders x0 M) := by
  refine mk_V (by decide +kernel) (Nat.le_of_ble_eq_true rfl) (fun E C M0 hC hq hin => ?_)
  refine r_eqls (ls' := [(0, 30, x0)]) rfl ?_
  unfold f_X12_orders
  refine r_iconst 0 hC (r32c rfl) dX12_orders_0 ?_
  refine r_istore_n 1 hC rfl (by decide) dX12_orders_1 (r_eqls (ls' := [(1, 0, 0), (0, 30, x0)]) rfl ?_)
  refine r_iconst 2 hC (r32c rfl) dX12_orders_2 ?_
  refine r_istore_n 3 hC rfl (by decide) dX12_orders_3 (r_eqls (ls' := [(2, 0, 0), (1, 0, 0), (0, 30, x0)]) rfl ?_)
  refine r_aload_n 4 hC 2 rfl (Or.inl (by decide)) rfl dX12_orders_4 ?_
  refine r_get 5 hC fd_10_0 fl_X12_7 dX12_orders_5 (fun v1 => ?_)
  refine r_sipush 8 hC ks_2563 dX12_orders_8 ?_
  refine r_iaload 11 hC dX12_orders_11 (fun v2 => ?_)
  refine r_iconst 12 hC (r32c rfl) dX12_orders_12 ?_
  refine r_isub 13 hC dX12_orders_13 ?_
  refine r_istore_nL 14 hC rfl (by decide) dX12_orders_14 (fun v3 => r_eqls (ls' := [(3, 0, v3), (2, 0, 0), (1, 0, 0), (0, 30, x0)]) rfl ?_)
  refine r_sub [3, 2, 1, 0] rfl (f_X12_orders_L15_ok h0 hC hq (fun q16 q17 M18 => ?_) KF 0 v3 M)
  · refine f_X12_orders_L55_ok h0 hC hq (fun M56 => ?_) KF q16 q17 M18
    · exact r_return 184 hC hq (by decide) (by decide) dX12_orders_184

/-! WaterTurnsModel.valley(I)I -/
theorem dX12_valley_0 : decode cX12_valley 0 = .ok (.aload_n 0, 1) := by decide +kernel
theorem dX12_valley_1 : decode cX12_valley 1 = .ok (.iload_n 1, 1) := by decide +kernel
theorem dX12_valley_2 : decode cX12_valley 2 = .ok (.sipush 900, 3) := by decide +kernel
theorem dX12_valley_5 : decode cX12_valley 5 = .ok (.invokevirtual 223, 3) := by decide +kernel
theorem dX12_valley_8 : decode cX12_valley 8 = .ok (.ifCond .ne 9, 3) := by decide +kernel
theorem dX12_valley_11 : decode cX12_valley 11 = .ok (.aload_n 0, 1) := by decide +kernel
theorem dX12_valley_12 : decode cX12_valley 12 = .ok (.iconst 1, 1) := by decide +kernel
theorem dX12_valley_13 : decode cX12_valley 13 = .ok (.invokevirtual 87, 3) := by decide +kernel
theorem dX12_valley_16 : decode cX12_valley 16 = .ok (.ireturn, 1) := by decide +kernel
theorem dX12_valley_17 : decode cX12_valley 17 = .ok (.aload_n 0, 1) := by decide +kernel
theorem dX12_valley_18 : decode cX12_valley 18 = .ok (.sipush 2560, 3) := by decide +kernel
theorem dX12_valley_21 : decode cX12_valley 21 = .ok (.invokevirtual 77, 3) := by decide +kernel
theorem dX12_valley_24 : decode cX12_valley 24 = .ok (.aload_n 0, 1) := by decide +kernel
theorem dX12_valley_25 : decode cX12_valley 25 = .ok (.iconst 0, 1) := by decide +kernel
theorem dX12_valley_26 : decode cX12_valley 26 = .ok (.putfield 180, 3) := by decide +kernel
theorem dX12_valley_29 : decode cX12_valley 29 = .ok (.iconst 1, 1) := by decide +kernel
theorem dX12_valley_30 : decode cX12_valley 30 = .ok (.istore_n 2, 1) := by decide +kernel
theorem dX12_valley_31 : decode cX12_valley 31 = .ok (.iload_n 2, 1) := by decide +kernel
theorem dX12_valley_32 : decode cX12_valley 32 = .ok (.ifCond .eq 18, 3) := by decide +kernel
theorem dX12_valley_35 : decode cX12_valley 35 = .ok (.aload_n 0, 1) := by decide +kernel
theorem dX12_valley_36 : decode cX12_valley 36 = .ok (.getfield 132, 3) := by decide +kernel
theorem dX12_valley_39 : decode cX12_valley 39 = .ok (.ifCond .eq 11, 3) := by decide +kernel
theorem dX12_valley_42 : decode cX12_valley 42 = .ok (.aload_n 0, 1) := by decide +kernel
theorem dX12_valley_43 : decode cX12_valley 43 = .ok (.invokevirtual 227, 3) := by decide +kernel
theorem dX12_valley_46 : decode cX12_valley 46 = .ok (.istore_n 2, 1) := by decide +kernel
theorem dX12_valley_47 : decode cX12_valley 47 = .ok (.goto (-16), 3) := by decide +kernel
theorem dX12_valley_50 : decode cX12_valley 50 = .ok (.aload_n 0, 1) := by decide +kernel
theorem dX12_valley_51 : decode cX12_valley 51 = .ok (.getfield 157, 3) := by decide +kernel
theorem dX12_valley_54 : decode cX12_valley 54 = .ok (.ifCond .ne 67, 3) := by decide +kernel
theorem dX12_valley_57 : decode cX12_valley 57 = .ok (.aload_n 0, 1) := by decide +kernel
theorem dX12_valley_58 : decode cX12_valley 58 = .ok (.invokevirtual 230, 3) := by decide +kernel
theorem dX12_valley_61 : decode cX12_valley 61 = .ok (.iconst 0, 1) := by decide +kernel
theorem dX12_valley_62 : decode cX12_valley 62 = .ok (.istore_n 3, 1) := by decide +kernel
theorem dX12_valley_63 : decode cX12_valley 63 = .ok (.iload_n 3, 1) := by decide +kernel
theorem dX12_valley_64 : decode cX12_valley 64 = .ok (.sipush 640, 3) := by decide +kernel
theorem dX12_valley_67 : decode cX12_valley 67 = .ok (.if_icmp .ge 25, 3) := by decide +kernel
theorem dX12_valley_70 : decode cX12_valley 70 = .ok (.aload_n 0, 1) := by decide +kernel
theorem dX12_valley_71 : decode cX12_valley 71 = .ok (.getfield 7, 3) := by decide +kernel
theorem dX12_valley_74 : decode cX12_valley 74 = .ok (.iload_n 3, 1) := by decide +kernel
theorem dX12_valley_75 : decode cX12_valley 75 = .ok (.aload_n 0, 1) := by decide +kernel
theorem dX12_valley_76 : decode cX12_valley 76 = .ok (.getfield 7, 3) := by decide +kernel
theorem dX12_valley_79 : decode cX12_valley 79 = .ok (.sipush 2560, 3) := by decide +kernel
theorem dX12_valley_82 : decode cX12_valley 82 = .ok (.iload_n 3, 1) := by decide +kernel
theorem dX12_valley_83 : decode cX12_valley 83 = .ok (.iadd, 1) := by decide +kernel
theorem dX12_valley_84 : decode cX12_valley 84 = .ok (.iaload, 1) := by decide +kernel
theorem dX12_valley_85 : decode cX12_valley 85 = .ok (.iastore, 1) := by decide +kernel
theorem dX12_valley_86 : decode cX12_valley 86 = .ok (.iinc 3 1, 3) := by decide +kernel
theorem dX12_valley_89 : decode cX12_valley 89 = .ok (.goto (-26), 3) := by decide +kernel
theorem dX12_valley_92 : decode cX12_valley 92 = .ok (.iconst 0, 1) := by decide +kernel
theorem dX12_valley_93 : decode cX12_valley 93 = .ok (.istore_n 3, 1) := by decide +kernel
theorem dX12_valley_94 : decode cX12_valley 94 = .ok (.iload_n 3, 1) := by decide +kernel
theorem dX12_valley_95 : decode cX12_valley 95 = .ok (.bipush 26, 2) := by decide +kernel
theorem dX12_valley_97 : decode cX12_valley 97 = .ok (.if_icmp .ge 24, 3) := by decide +kernel
theorem dX12_valley_100 : decode cX12_valley 100 = .ok (.aload_n 0, 1) := by decide +kernel
theorem dX12_valley_101 : decode cX12_valley 101 = .ok (.getfield 13, 3) := by decide +kernel
theorem dX12_valley_104 : decode cX12_valley 104 = .ok (.iload_n 3, 1) := by decide +kernel
theorem dX12_valley_105 : decode cX12_valley 105 = .ok (.aload_n 0, 1) := by decide +kernel
theorem dX12_valley_106 : decode cX12_valley 106 = .ok (.getfield 13, 3) := by decide +kernel
theorem dX12_valley_109 : decode cX12_valley 109 = .ok (.bipush 104, 2) := by decide +kernel
theorem dX12_valley_111 : decode cX12_valley 111 = .ok (.iload_n 3, 1) := by decide +kernel
theorem dX12_valley_112 : decode cX12_valley 112 = .ok (.iadd, 1) := by decide +kernel
theorem dX12_valley_113 : decode cX12_valley 113 = .ok (.laload, 1) := by decide +kernel
theorem dX12_valley_114 : decode cX12_valley 114 = .ok (.lastore, 1) := by decide +kernel
theorem dX12_valley_115 : decode cX12_valley 115 = .ok (.iinc 3 1, 3) := by decide +kernel
theorem dX12_valley_118 : decode cX12_valley 118 = .ok (.goto (-24), 3) := by decide +kernel
theorem dX12_valley_121 : decode cX12_valley 121 = .ok (.aload_n 0, 1) := by decide +kernel
theorem dX12_valley_122 : decode cX12_valley 122 = .ok (.aload_n 0, 1) := by decide +kernel
theorem dX12_valley_123 : decode cX12_valley 123 = .ok (.getfield 7, 3) := by decide +kernel
theorem dX12_valley_126 : decode cX12_valley 126 = .ok (.iconst 5, 1) := by decide +kernel
theorem dX12_valley_127 : decode cX12_valley 127 = .ok (.iaload, 1) := by decide +kernel
theorem dX12_valley_128 : decode cX12_valley 128 = .ok (.invokevirtual 233, 3) := by decide +kernel
theorem dX12_valley_131 : decode cX12_valley 131 = .ok (.ireturn, 1) := by decide +kernel
set_option maxRecDepth 100000 in
theorem f_X12_valley_L31_ok {E : EnvT} {C : Cx} {Mi : Mem} {x0 : Int} (h0 : x0 ≠ 0) (hC : CxOK E C cX12_valley 4 yX12_valley.cls 11 0 0) {r0 : Int} {M0 : Mem} (hq : RQ E C 0 0 Mi (some .int) (some (0, r0)) M0) {k : Mem → Option (Int × Mem)} (hk : ∀ M10, Bk E C 4 Mi (r0, M0) 50 [(0, 30, x0)] [] M10 0 0 (k M10)) : ∀ (n : Nat) (p5 : Int) (M6 : Mem), Bk E C 4 Mi (r0, M0) 31 [(0, 30, x0), (2, 0, p5)] [] M6 0 0 (f_X12_valley_L31 x0 k n p5 M6) := by
  intro n
  induction n with
  | zero =>
    intro p5 M6
    exact r_none
  | succ n ih =>
    intro p5 M6
    rw [f_X12_valley_L31]
    refine r_iload_n 31 hC 1 rfl rfl dX12_valley_31 ?_
    refine r_if_eq 32 hC (tgt := 50) (by decide) dX12_valley_32 ?_ ?_
    · exact r_sub [0] rfl (hk M6)
    · refine r_aload_n 35 hC 0 rfl (Or.inl (by decide)) rfl dX12_valley_35 ?_
      refine r_get 36 hC fd_10_12 fl_X12_132 dX12_valley_36 (fun v7 => ?_)
      refine r_if_eq 39 hC (tgt := 50) (by decide) dX12_valley_39 ?_ ?_
      · exact r_sub [0] rfl (hk M6)
      · refine r_aload_n 42 hC 0 rfl (Or.inl (by decide)) rfl dX12_valley_42 ?_
        refine r_callVI 43 hC [] [] rfl vl_X12_227 rfl h0 (by decide) (Nat.le_of_ble_eq_true rfl) (by decide) (by decide) dX12_valley_43 (t_X12_valleyPart x0 M6 h0) (fun v8 M9 => ?_)
        refine r_istore_n 46 hC rfl (by decide) dX12_valley_46 (r_eqls (ls' := [(2, 0, v8), (0, 30, x0)]) rfl ?_)
        refine r_goto 47 hC (tgt := 31) (by decide) dX12_valley_47 ?_
        exact r_sub [1, 0] rfl (ih v8 M9)
set_option maxRecDepth 100000 in
theorem f_X12_valley_L63_ok {E : EnvT} {C : Cx} {Mi : Mem} {x0 : Int} (h0 : x0 ≠ 0) (hC : CxOK E C cX12_valley 4 yX12_valley.cls 11 0 0) {r0 : Int} {M0 : Mem} (hq : RQ E C 0 0 Mi (some .int) (some (0, r0)) M0) {k : Mem → Option (Int × Mem)} (hk : ∀ M25, Bk E C 4 Mi (r0, M0) 92 [(0, 30, x0)] [] M25 0 0 (k M25)) : ∀ (n : Nat) (p19 : Int) (M20 : Mem), Bk E C 4 Mi (r0, M0) 63 [(0, 30, x0), (3, 0, p19)] [] M20 0 0 (f_X12_valley_L63 x0 k n p19 M20) := by
  intro n
  induction n with
  | zero =>
    intro p19 M20
    exact r_none
  | succ n ih =>
    intro p19 M20
    rw [f_X12_valley_L63]
    refine r_iload_n 63 hC 1 rfl rfl dX12_valley_63 ?_
    refine r_sipush 64 hC ks_640 dX12_valley_64 ?_
    refine r_icmp_ge 67 hC (tgt := 92) (by decide) dX12_valley_67 ?_ ?_
    · exact r_sub [0] rfl (hk M20)
    · refine r_aload_n 70 hC 0 rfl (Or.inl (by decide)) rfl dX12_valley_70 ?_
      refine r_get 71 hC fd_10_0 fl_X12_7 dX12_valley_71 (fun v21 => ?_)
      refine r_iload_n 74 hC 1 rfl rfl dX12_valley_74 ?_
      refine r_aload_n 75 hC 0 rfl (Or.inl (by decide)) rfl dX12_valley_75 ?_
      refine r_get 76 hC fd_10_0 fl_X12_7 dX12_valley_76 (fun v22 => ?_)
      refine r_sipush 79 hC ks_2560 dX12_valley_79 ?_
      refine r_iload_n 82 hC 1 rfl rfl dX12_valley_82 ?_
      refine r_iadd 83 hC dX12_valley_83 ?_
      refine r_iaload 84 hC dX12_valley_84 (fun v23 => ?_)
      refine r_iastore 85 hC dX12_valley_85 (fun M24 => ?_)
      refine r_iinc 86 hC 1 rfl (by decide) dX12_valley_86 (r_eqls (ls' := [(3, 0, w32 (p19 + 1)), (0, 30, x0)]) rfl ?_)
      refine r_goto 89 hC (tgt := 63) (by decide) dX12_valley_89 ?_
      exact r_sub [1, 0] rfl (ih (w32 (p19 + 1)) M24)
set_option maxRecDepth 100000 in
theorem f_X12_valley_L94_ok {E : EnvT} {C : Cx} {Mi : Mem} {x0 : Int} (h0 : x0 ≠ 0) (hC : CxOK E C cX12_valley 4 yX12_valley.cls 11 0 0) {r0 : Int} {M0 : Mem} (hq : RQ E C 0 0 Mi (some .int) (some (0, r0)) M0) {k : Mem → Option (Int × Mem)} (hk : ∀ M33, Bk E C 4 Mi (r0, M0) 121 [(0, 30, x0)] [] M33 0 0 (k M33)) : ∀ (n : Nat) (p27 : Int) (M28 : Mem), Bk E C 4 Mi (r0, M0) 94 [(0, 30, x0), (3, 0, p27)] [] M28 0 0 (f_X12_valley_L94 x0 k n p27 M28) := by
  intro n
  induction n with
  | zero =>
    intro p27 M28
    exact r_none
  | succ n ih =>
    intro p27 M28
    rw [f_X12_valley_L94]
    refine r_iload_n 94 hC 1 rfl rfl dX12_valley_94 ?_
    refine r_bipush 95 hC kb_26 dX12_valley_95 ?_
    refine r_icmp_ge 97 hC (tgt := 121) (by decide) dX12_valley_97 ?_ ?_
    · exact r_sub [0] rfl (hk M28)
    · refine r_aload_n 100 hC 0 rfl (Or.inl (by decide)) rfl dX12_valley_100 ?_
      refine r_get 101 hC fd_10_1 fl_X12_13 dX12_valley_101 (fun v29 => ?_)
      refine r_iload_n 104 hC 1 rfl rfl dX12_valley_104 ?_
      refine r_aload_n 105 hC 0 rfl (Or.inl (by decide)) rfl dX12_valley_105 ?_
      refine r_get 106 hC fd_10_1 fl_X12_13 dX12_valley_106 (fun v30 => ?_)
      refine r_bipush 109 hC kb_104 dX12_valley_109 ?_
      refine r_iload_n 111 hC 1 rfl rfl dX12_valley_111 ?_
      refine r_iadd 112 hC dX12_valley_112 ?_
      refine r_laload 113 hC dX12_valley_113 (fun v31 => ?_)
      refine r_lastore 114 hC dX12_valley_114 (fun M32 => ?_)
      refine r_iinc 115 hC 1 rfl (by decide) dX12_valley_115 (r_eqls (ls' := [(3, 0, w32 (p27 + 1)), (0, 30, x0)]) rfl ?_)
      refine r_goto 118 hC (tgt := 94) (by decide) dX12_valley_118 ?_
      exact r_sub [1, 0] rfl (ih (w32 (p27 + 1)) M32)
set_option maxRecDepth 100000 in
theorem t_X12_valley (x0 x1 : Int) (M : Mem) (h0 : x0 ≠ 0) : MtI yX12_valley cX12_valley 4 (some .int) 11 0 0 [(30, x0), (0, x1)] M 0 (f_X12_valley x0 x1 M) := by
  refine mk_I (by decide +kernel) (Nat.le_of_ble_eq_true rfl) (fun E C r0 M0 hC hq hin => ?_)
  refine r_eqls (ls' := [(0, 30, x0), (1, 0, x1)]) rfl ?_
  unfold f_X12_valley
  refine r_aload_n 0 hC 0 rfl (Or.inl (by decide)) rfl dX12_valley_0 ?_
  refine r_iload_n 1 hC 1 rfl rfl dX12_valley_1 ?_
  refine r_sipush 2 hC ks_900 dX12_valley_2 ?_
  refine r_callVI 5 hC [(0, x1), (0, 900)] [] rfl vl_X12_223 rfl h0 (by decide) (Nat.le_of_ble_eq_true rfl) (by decide) (by decide) dX12_valley_5 (t_X12_begins x0 x1 900 M h0) (fun v1 M2 => ?_)
  refine r_if_ne 8 hC (tgt := 17) (by decide) dX12_valley_8 ?_ ?_
  · refine r_aload_n 17 hC 0 rfl (Or.inl (by decide)) rfl dX12_valley_17 ?_
    refine r_sipush 18 hC ks_2560 dX12_valley_18 ?_
    refine r_callVV 21 hC [(0, 2560)] [] rfl vl_X12_77 rfl h0 (by decide) (Nat.le_of_ble_eq_true rfl) (by decide) (by decide) dX12_valley_21 (t_X12_plain x0 2560 M2 h0) (fun M3 => ?_)
    refine r_aload_n 24 hC 0 rfl (Or.inl (by decide)) rfl dX12_valley_24 ?_
    refine r_iconst 25 hC (r32c rfl) dX12_valley_25 ?_
    refine r_put 26 hC fd_10_20 fl_X12_180 dX12_valley_26 (fun M4 => ?_)
    refine r_iconst 29 hC (r32c rfl) dX12_valley_29 ?_
    refine r_istore_n 30 hC rfl (by decide) dX12_valley_30 (r_eqls (ls' := [(2, 0, 1), (0, 30, x0), (1, 0, x1)]) rfl ?_)
    refine r_sub [1, 0] rfl (f_X12_valley_L31_ok h0 hC hq (fun M11 => ?_) KF 1 M4)
    · refine r_aload_n 50 hC 0 rfl (Or.inl (by decide)) rfl dX12_valley_50 ?_
      refine r_get 51 hC fd_10_18 fl_X12_157 dX12_valley_51 (fun v12 => ?_)
      refine r_jn (P := fun j121 => ∀ (M13 : Mem), Bk E C 4 M (r0, M0) 121 [(0, 30, x0)] [] M13 0 0 (j121 M13)) ?_ (fun j121 hj121 => ?_)
      · intro M13
        refine r_aload_n 121 hC 0 rfl (Or.inl (by decide)) rfl dX12_valley_121 ?_
        refine r_aload_n 122 hC 0 rfl (Or.inl (by decide)) rfl dX12_valley_122 ?_
        refine r_get 123 hC fd_10_0 fl_X12_7 dX12_valley_123 (fun v14 => ?_)
        refine r_iconst 126 hC (r32c rfl) dX12_valley_126 ?_
        refine r_iaload 127 hC dX12_valley_127 (fun v15 => ?_)
        refine r_callVI 128 hC [(0, v15)] [] rfl vl_X12_233 rfl h0 (by decide) (Nat.le_of_ble_eq_true rfl) (by decide) (by decide) dX12_valley_128 (t_X12_taken x0 v15 M13 h0) (fun v16 M17 => ?_)
        exact r_ireturn 131 hC hq (by decide) (by decide) dX12_valley_131
      refine r_if_ne 54 hC (tgt := 121) (by decide) dX12_valley_54 ?_ ?_
      · exact hj121 M11
      · refine r_aload_n 57 hC 0 rfl (Or.inl (by decide)) rfl dX12_valley_57 ?_
        refine r_callVV 58 hC [] [] rfl vl_X12_230 rfl h0 (by decide) (Nat.le_of_ble_eq_true rfl) (by decide) (by decide) dX12_valley_58 (t_X12_orders x0 M11 h0) (fun M18 => ?_)
        refine r_iconst 61 hC (r32c rfl) dX12_valley_61 ?_
        refine r_istore_n 62 hC rfl (by decide) dX12_valley_62 (r_eqls (ls' := [(3, 0, 0), (0, 30, x0)]) rfl ?_)
        refine r_sub [1, 0] rfl (f_X12_valley_L63_ok h0 hC hq (fun M26 => ?_) KF 0 M18)
        · refine r_iconst 92 hC (r32c rfl) dX12_valley_92 ?_
          refine r_istore_n 93 hC rfl (by decide) dX12_valley_93 (r_eqls (ls' := [(3, 0, 0), (0, 30, x0)]) rfl ?_)
          refine r_sub [1, 0] rfl (f_X12_valley_L94_ok h0 hC hq (fun M34 => ?_) KF 0 M26)
          · exact hj121 M34
  · refine r_aload_n 11 hC 0 rfl (Or.inl (by decide)) rfl dX12_valley_11 ?_
    refine r_iconst 12 hC (r32c rfl) dX12_valley_12 ?_
    refine r_callVI 13 hC [(0, 1)] [] rfl vl_X12_87 rfl h0 (by decide) (Nat.le_of_ble_eq_true rfl) (by decide) (by decide) dX12_valley_13 (t_X12_refuse x0 1 M2 h0) (fun v35 M36 => ?_)
    exact r_ireturn 16 hC hq (by decide) (by decide) dX12_valley_16

/-! WaterTurnsModel.reachTo(I)Z -/
theorem dX12_reachTo_0 : decode cX12_reachTo 0 = .ok (.aload_n 0, 1) := by decide +kernel
theorem dX12_reachTo_1 : decode cX12_reachTo 1 = .ok (.iconst 0, 1) := by decide +kernel
theorem dX12_reachTo_2 : decode cX12_reachTo 2 = .ok (.aload_n 0, 1) := by decide +kernel
theorem dX12_reachTo_3 : decode cX12_reachTo 3 = .ok (.getfield 7, 3) := by decide +kernel
theorem dX12_reachTo_6 : decode cX12_reachTo 6 = .ok (.iconst 3, 1) := by decide +kernel
theorem dX12_reachTo_7 : decode cX12_reachTo 7 = .ok (.iaload, 1) := by decide +kernel
theorem dX12_reachTo_8 : decode cX12_reachTo 8 = .ok (.iconst 0, 1) := by decide +kernel
theorem dX12_reachTo_9 : decode cX12_reachTo 9 = .ok (.iload_n 1, 1) := by decide +kernel
theorem dX12_reachTo_10 : decode cX12_reachTo 10 = .ok (.invokevirtual 206, 3) := by decide +kernel
theorem dX12_reachTo_13 : decode cX12_reachTo 13 = .ok (.ireturn, 1) := by decide +kernel
set_option maxRecDepth 100000 in
theorem t_X12_reachTo (x0 x1 : Int) (M : Mem) (h0 : x0 ≠ 0) : MtI yX12_reachTo cX12_reachTo 2 (some .boolean) 9 0 0 [(30, x0), (0, x1)] M 0 (f_X12_reachTo x0 x1 M) := by
  refine mk_I (by decide +kernel) (Nat.le_of_ble_eq_true rfl) (fun E C r0 M0 hC hq hin => ?_)
  refine r_eqls (ls' := [(0, 30, x0), (1, 0, x1)]) rfl ?_
  unfold f_X12_reachTo
  refine r_aload_n 0 hC 0 rfl (Or.inl (by decide)) rfl dX12_reachTo_0 ?_
  refine r_iconst 1 hC (r32c rfl) dX12_reachTo_1 ?_
  refine r_aload_n 2 hC 0 rfl (Or.inl (by decide)) rfl dX12_reachTo_2 ?_
  refine r_get 3 hC fd_10_0 fl_X12_7 dX12_reachTo_3 (fun v1 => ?_)
  refine r_iconst 6 hC (r32c rfl) dX12_reachTo_6 ?_
  refine r_iaload 7 hC dX12_reachTo_7 (fun v2 => ?_)
  refine r_iconst 8 hC (r32c rfl) dX12_reachTo_8 ?_
  refine r_iload_n 9 hC 1 rfl rfl dX12_reachTo_9 ?_
  refine r_callVI 10 hC [(0, 0), (0, v2), (0, 0), (0, x1)] [] rfl vl_X12_206 rfl h0 (by decide) (Nat.le_of_ble_eq_true rfl) (by decide) (by decide) dX12_reachTo_10 (t_X12_oldOne x0 0 v2 0 x1 M h0) (fun v3 M4 => ?_)
  exact r_zreturn 13 hC hq (by decide) (by decide) dX12_reachTo_13

/-! WaterTurnsModel.fieldTo(I)Z -/
theorem dX12_fieldTo_0 : decode cX12_fieldTo 0 = .ok (.aload_n 0, 1) := by decide +kernel
theorem dX12_fieldTo_1 : decode cX12_fieldTo 1 = .ok (.iconst 0, 1) := by decide +kernel
theorem dX12_fieldTo_2 : decode cX12_fieldTo 2 = .ok (.aload_n 0, 1) := by decide +kernel
theorem dX12_fieldTo_3 : decode cX12_fieldTo 3 = .ok (.getfield 7, 3) := by decide +kernel
theorem dX12_fieldTo_6 : decode cX12_fieldTo 6 = .ok (.iconst 5, 1) := by decide +kernel
theorem dX12_fieldTo_7 : decode cX12_fieldTo 7 = .ok (.iaload, 1) := by decide +kernel
theorem dX12_fieldTo_8 : decode cX12_fieldTo 8 = .ok (.bipush 16, 2) := by decide +kernel
theorem dX12_fieldTo_10 : decode cX12_fieldTo 10 = .ok (.iload_n 1, 1) := by decide +kernel
theorem dX12_fieldTo_11 : decode cX12_fieldTo 11 = .ok (.invokevirtual 206, 3) := by decide +kernel
theorem dX12_fieldTo_14 : decode cX12_fieldTo 14 = .ok (.ireturn, 1) := by decide +kernel
set_option maxRecDepth 100000 in
theorem t_X12_fieldTo (x0 x1 : Int) (M : Mem) (h0 : x0 ≠ 0) : MtI yX12_fieldTo cX12_fieldTo 2 (some .boolean) 9 0 0 [(30, x0), (0, x1)] M 0 (f_X12_fieldTo x0 x1 M) := by
  refine mk_I (by decide +kernel) (Nat.le_of_ble_eq_true rfl) (fun E C r0 M0 hC hq hin => ?_)
  refine r_eqls (ls' := [(0, 30, x0), (1, 0, x1)]) rfl ?_
  unfold f_X12_fieldTo
  refine r_aload_n 0 hC 0 rfl (Or.inl (by decide)) rfl dX12_fieldTo_0 ?_
  refine r_iconst 1 hC (r32c rfl) dX12_fieldTo_1 ?_
  refine r_aload_n 2 hC 0 rfl (Or.inl (by decide)) rfl dX12_fieldTo_2 ?_
  refine r_get 3 hC fd_10_0 fl_X12_7 dX12_fieldTo_3 (fun v1 => ?_)
  refine r_iconst 6 hC (r32c rfl) dX12_fieldTo_6 ?_
  refine r_iaload 7 hC dX12_fieldTo_7 (fun v2 => ?_)
  refine r_bipush 8 hC kb_16 dX12_fieldTo_8 ?_
  refine r_iload_n 10 hC 1 rfl rfl dX12_fieldTo_10 ?_
  refine r_callVI 11 hC [(0, 0), (0, v2), (0, 16), (0, x1)] [] rfl vl_X12_206 rfl h0 (by decide) (Nat.le_of_ble_eq_true rfl) (by decide) (by decide) dX12_fieldTo_11 (t_X12_oldOne x0 0 v2 16 x1 M h0) (fun v3 M4 => ?_)
  exact r_zreturn 14 hC hq (by decide) (by decide) dX12_fieldTo_14

/-! WaterTurnsModel.test(I)Z -/
theorem dX12_test_0 : decode cX12_test 0 = .ok (.aload_n 0, 1) := by decide +kernel
theorem dX12_test_1 : decode cX12_test 1 = .ok (.ldc 187, 2) := by decide +kernel
theorem dX12_test_3 : decode cX12_test 3 = .ok (.invokevirtual 172, 3) := by decide +kernel
theorem dX12_test_6 : decode cX12_test 6 = .ok (.istore_n 2, 1) := by decide +kernel
theorem dX12_test_7 : decode cX12_test 7 = .ok (.iload_n 2, 1) := by decide +kernel
theorem dX12_test_8 : decode cX12_test 8 = .ok (.bipush 10, 2) := by decide +kernel
theorem dX12_test_10 : decode cX12_test 10 = .ok (.if_icmp .eq 21, 3) := by decide +kernel
theorem dX12_test_13 : decode cX12_test 13 = .ok (.iload_n 2, 1) := by decide +kernel
theorem dX12_test_14 : decode cX12_test 14 = .ok (.bipush 28, 2) := by decide +kernel
theorem dX12_test_16 : decode cX12_test 16 = .ok (.if_icmp .eq 15, 3) := by decide +kernel
theorem dX12_test_19 : decode cX12_test 19 = .ok (.iload_n 2, 1) := by decide +kernel
theorem dX12_test_20 : decode cX12_test 20 = .ok (.bipush 29, 2) := by decide +kernel
theorem dX12_test_22 : decode cX12_test 22 = .ok (.if_icmp .eq 9, 3) := by decide +kernel
theorem dX12_test_25 : decode cX12_test 25 = .ok (.aload_n 0, 1) := by decide +kernel
theorem dX12_test_26 : decode cX12_test 26 = .ok (.iconst 2, 1) := by decide +kernel
theorem dX12_test_27 : decode cX12_test 27 = .ok (.invokevirtual 169, 3) := by decide +kernel
theorem dX12_test_30 : decode cX12_test 30 = .ok (.ireturn, 1) := by decide +kernel
theorem dX12_test_31 : decode cX12_test 31 = .ok (.aload_n 0, 1) := by decide +kernel
theorem dX12_test_32 : decode cX12_test 32 = .ok (.getfield 7, 3) := by decide +kernel
theorem dX12_test_35 : decode cX12_test 35 = .ok (.iload_n 1, 1) := by decide +kernel
theorem dX12_test_36 : decode cX12_test 36 = .ok (.sipush 2300, 3) := by decide +kernel
theorem dX12_test_39 : decode cX12_test 39 = .ok (.iload_n 2, 1) := by decide +kernel
theorem dX12_test_40 : decode cX12_test 40 = .ok (.iadd, 1) := by decide +kernel
theorem dX12_test_41 : decode cX12_test 41 = .ok (.iastore, 1) := by decide +kernel
theorem dX12_test_42 : decode cX12_test 42 = .ok (.aload_n 0, 1) := by decide +kernel
theorem dX12_test_43 : decode cX12_test 43 = .ok (.invokevirtual 163, 3) := by decide +kernel
theorem dX12_test_46 : decode cX12_test 46 = .ok (.iload_n 2, 1) := by decide +kernel
theorem dX12_test_47 : decode cX12_test 47 = .ok (.bipush 10, 2) := by decide +kernel
theorem dX12_test_49 : decode cX12_test 49 = .ok (.if_icmp .ne 11, 3) := by decide +kernel
theorem dX12_test_52 : decode cX12_test 52 = .ok (.aload_n 0, 1) := by decide +kernel
theorem dX12_test_53 : decode cX12_test 53 = .ok (.iload_n 1, 1) := by decide +kernel
theorem dX12_test_54 : decode cX12_test 54 = .ok (.iconst 1, 1) := by decide +kernel
theorem dX12_test_55 : decode cX12_test 55 = .ok (.iadd, 1) := by decide +kernel
theorem dX12_test_56 : decode cX12_test 56 = .ok (.invokevirtual 236, 3) := by decide +kernel
theorem dX12_test_59 : decode cX12_test 59 = .ok (.ireturn, 1) := by decide +kernel
theorem dX12_test_60 : decode cX12_test 60 = .ok (.aload_n 0, 1) := by decide +kernel
theorem dX12_test_61 : decode cX12_test 61 = .ok (.iload_n 1, 1) := by decide +kernel
theorem dX12_test_62 : decode cX12_test 62 = .ok (.iconst 1, 1) := by decide +kernel
theorem dX12_test_63 : decode cX12_test 63 = .ok (.iadd, 1) := by decide +kernel
theorem dX12_test_64 : decode cX12_test 64 = .ok (.invokevirtual 239, 3) := by decide +kernel
theorem dX12_test_67 : decode cX12_test 67 = .ok (.ifCond .ne 5, 3) := by decide +kernel
theorem dX12_test_70 : decode cX12_test 70 = .ok (.iconst 0, 1) := by decide +kernel
theorem dX12_test_71 : decode cX12_test 71 = .ok (.ireturn, 1) := by decide +kernel
theorem dX12_test_72 : decode cX12_test 72 = .ok (.aload_n 0, 1) := by decide +kernel
theorem dX12_test_73 : decode cX12_test 73 = .ok (.bipush 60, 2) := by decide +kernel
theorem dX12_test_75 : decode cX12_test 75 = .ok (.invokevirtual 166, 3) := by decide +kernel
theorem dX12_test_78 : decode cX12_test 78 = .ok (.ifCond .ne 27, 3) := by decide +kernel
theorem dX12_test_81 : decode cX12_test 81 = .ok (.aload_n 0, 1) := by decide +kernel
theorem dX12_test_82 : decode cX12_test 82 = .ok (.bipush 62, 2) := by decide +kernel
theorem dX12_test_84 : decode cX12_test 84 = .ok (.invokevirtual 166, 3) := by decide +kernel
theorem dX12_test_87 : decode cX12_test 87 = .ok (.ifCond .ne 18, 3) := by decide +kernel
theorem dX12_test_90 : decode cX12_test 90 = .ok (.aload_n 0, 1) := by decide +kernel
theorem dX12_test_91 : decode cX12_test 91 = .ok (.bipush 61, 2) := by decide +kernel
theorem dX12_test_93 : decode cX12_test 93 = .ok (.invokevirtual 166, 3) := by decide +kernel
theorem dX12_test_96 : decode cX12_test 96 = .ok (.ifCond .ne 9, 3) := by decide +kernel
theorem dX12_test_99 : decode cX12_test 99 = .ok (.aload_n 0, 1) := by decide +kernel
theorem dX12_test_100 : decode cX12_test 100 = .ok (.iconst 2, 1) := by decide +kernel
theorem dX12_test_101 : decode cX12_test 101 = .ok (.invokevirtual 169, 3) := by decide +kernel
theorem dX12_test_104 : decode cX12_test 104 = .ok (.ireturn, 1) := by decide +kernel
theorem dX12_test_105 : decode cX12_test 105 = .ok (.aload_n 0, 1) := by decide +kernel
theorem dX12_test_106 : decode cX12_test 106 = .ok (.getfield 7, 3) := by decide +kernel
theorem dX12_test_109 : decode cX12_test 109 = .ok (.iload_n 1, 1) := by decide +kernel
theorem dX12_test_110 : decode cX12_test 110 = .ok (.iconst 5, 1) := by decide +kernel
theorem dX12_test_111 : decode cX12_test 111 = .ok (.iadd, 1) := by decide +kernel
theorem dX12_test_112 : decode cX12_test 112 = .ok (.aload_n 0, 1) := by decide +kernel
theorem dX12_test_113 : decode cX12_test 113 = .ok (.getfield 129, 3) := by decide +kernel
theorem dX12_test_116 : decode cX12_test 116 = .ok (.iastore, 1) := by decide +kernel
theorem dX12_test_117 : decode cX12_test 117 = .ok (.aload_n 0, 1) := by decide +kernel
theorem dX12_test_118 : decode cX12_test 118 = .ok (.invokevirtual 163, 3) := by decide +kernel
theorem dX12_test_121 : decode cX12_test 121 = .ok (.aload_n 0, 1) := by decide +kernel
theorem dX12_test_122 : decode cX12_test 122 = .ok (.iload_n 1, 1) := by decide +kernel
theorem dX12_test_123 : decode cX12_test 123 = .ok (.iconst 2, 1) := by decide +kernel
theorem dX12_test_124 : decode cX12_test 124 = .ok (.iadd, 1) := by decide +kernel
theorem dX12_test_125 : decode cX12_test 125 = .ok (.iconst 0, 1) := by decide +kernel
theorem dX12_test_126 : decode cX12_test 126 = .ok (.iload_n 2, 1) := by decide +kernel
theorem dX12_test_127 : decode cX12_test 127 = .ok (.bipush 28, 2) := by decide +kernel
theorem dX12_test_129 : decode cX12_test 129 = .ok (.if_icmp .ne 9, 3) := by decide +kernel
theorem dX12_test_132 : decode cX12_test 132 = .ok (.sipush 999, 3) := by decide +kernel
theorem dX12_test_135 : decode cX12_test 135 = .ok (.goto 6, 3) := by decide +kernel
theorem dX12_test_138 : decode cX12_test 138 = .ok (.sipush 9999, 3) := by decide +kernel
theorem dX12_test_141 : decode cX12_test 141 = .ok (.invokevirtual 183, 3) := by decide +kernel
theorem dX12_test_144 : decode cX12_test 144 = .ok (.ireturn, 1) := by decide +kernel
set_option maxRecDepth 100000 in
theorem t_X12_test (x0 x1 : Int) (M : Mem) (h0 : x0 ≠ 0) : MtI yX12_test cX12_test 3 (some .boolean) 10 0 0 [(30, x0), (0, x1)] M 0 (f_X12_test x0 x1 M) := by
  refine mk_I (by decide +kernel) (Nat.le_of_ble_eq_true rfl) (fun E C r0 M0 hC hq hin => ?_)
  refine r_eqls (ls' := [(0, 30, x0), (1, 0, x1)]) rfl ?_
  unfold f_X12_test
  refine r_aload_n 0 hC 0 rfl (Or.inl (by decide)) rfl dX12_test_0 ?_
  refine r_ldcS2 1 hC dX12_test_1 ?_
  refine r_callVP 3 hC [(2, (-2))] [] rfl vl_X12_172 rfl h0 (by decide) (Nat.le_of_ble_eq_true rfl) (by decide) (by decide) dX12_test_3 (t_X12_inWords x0 (-2) M h0) (fun v1 => ?_)
  refine r_istore_n 6 hC rfl (by decide) dX12_test_6 (r_eqls (ls' := [(2, 0, v1), (0, 30, x0), (1, 0, x1)]) rfl ?_)
  refine r_iload_n 7 hC 0 rfl rfl dX12_test_7 ?_
  refine r_bipush 8 hC kb_10 dX12_test_8 ?_
  refine r_jn (P := fun j31 => Bk E C 3 M (r0, M0) 31 [(0, 30, x0), (1, 0, x1), (2, 0, v1)] [] M 0 0 (j31)) ?_ (fun j31 hj31 => ?_)
  · refine r_aload_n 31 hC 0 rfl (Or.inl (by decide)) rfl dX12_test_31 ?_
    refine r_get 32 hC fd_10_0 fl_X12_7 dX12_test_32 (fun v2 => ?_)
    refine r_iload_n 35 hC 1 rfl rfl dX12_test_35 ?_
    refine r_sipush 36 hC ks_2300 dX12_test_36 ?_
    refine r_iload_n 39 hC 2 rfl rfl dX12_test_39 ?_
    refine r_iadd 40 hC dX12_test_40 ?_
    refine r_iastore 41 hC dX12_test_41 (fun M3 => ?_)
    refine r_aload_n 42 hC 0 rfl (Or.inl (by decide)) rfl dX12_test_42 ?_
    refine r_callVV 43 hC [] [] rfl vl_X12_163 rfl h0 (by decide) (Nat.le_of_ble_eq_true rfl) (by decide) (by decide) dX12_test_43 (t_X12_ahead x0 M3 h0) (fun M4 => ?_)
    refine r_iload_n 46 hC 2 rfl rfl dX12_test_46 ?_
    refine r_bipush 47 hC kb_10 dX12_test_47 ?_
    refine r_icmp_ne 49 hC (tgt := 60) (by decide) dX12_test_49 ?_ ?_
    · refine r_aload_n 60 hC 0 rfl (Or.inl (by decide)) rfl dX12_test_60 ?_
      refine r_iload_n 61 hC 1 rfl rfl dX12_test_61 ?_
      refine r_iconst 62 hC (r32c rfl) dX12_test_62 ?_
      refine r_iadd 63 hC dX12_test_63 ?_
      refine r_callVI 64 hC [(0, w32 (x1 + 1))] [] rfl vl_X12_239 rfl h0 (by decide) (Nat.le_of_ble_eq_true rfl) (by decide) (by decide) dX12_test_64 (t_X12_fieldTo x0 (w32 (x1 + 1)) M4 h0) (fun v5 M6 => ?_)
      refine r_if_ne 67 hC (tgt := 72) (by decide) dX12_test_67 ?_ ?_
      · refine r_aload_n 72 hC 0 rfl (Or.inl (by decide)) rfl dX12_test_72 ?_
        refine r_bipush 73 hC kb_60 dX12_test_73 ?_
        refine r_callVP 75 hC [(0, 60)] [] rfl vl_X12_166 rfl h0 (by decide) (Nat.le_of_ble_eq_true rfl) (by decide) (by decide) dX12_test_75 (t_X12_isSign x0 60 M6 h0) (fun v7 => ?_)
        refine r_jn (P := fun j105 => Bk E C 3 M (r0, M0) 105 [(0, 30, x0), (1, 0, x1), (2, 0, v1)] [] M6 0 0 (j105)) ?_ (fun j105 hj105 => ?_)
        · refine r_aload_n 105 hC 0 rfl (Or.inl (by decide)) rfl dX12_test_105 ?_
          refine r_get 106 hC fd_10_0 fl_X12_7 dX12_test_106 (fun v8 => ?_)
          refine r_iload_n 109 hC 1 rfl rfl dX12_test_109 ?_
          refine r_iconst 110 hC (r32c rfl) dX12_test_110 ?_
          refine r_iadd 111 hC dX12_test_111 ?_
          refine r_aload_n 112 hC 0 rfl (Or.inl (by decide)) rfl dX12_test_112 ?_
          refine r_get 113 hC fd_10_15 fl_X12_129 dX12_test_113 (fun v9 => ?_)
          refine r_iastore 116 hC dX12_test_116 (fun M10 => ?_)
          refine r_aload_n 117 hC 0 rfl (Or.inl (by decide)) rfl dX12_test_117 ?_
          refine r_callVV 118 hC [] [] rfl vl_X12_163 rfl h0 (by decide) (Nat.le_of_ble_eq_true rfl) (by decide) (by decide) dX12_test_118 (t_X12_ahead x0 M10 h0) (fun M11 => ?_)
          refine r_aload_n 121 hC 0 rfl (Or.inl (by decide)) rfl dX12_test_121 ?_
          refine r_iload_n 122 hC 1 rfl rfl dX12_test_122 ?_
          refine r_iconst 123 hC (r32c rfl) dX12_test_123 ?_
          refine r_iadd 124 hC dX12_test_124 ?_
          refine r_iconst 125 hC (r32c rfl) dX12_test_125 ?_
          refine r_iload_n 126 hC 2 rfl rfl dX12_test_126 ?_
          refine r_bipush 127 hC kb_28 dX12_test_127 ?_
          refine r_jn (P := fun j141 => ∀ (q12 : Int), Bk E C 3 M (r0, M0) 141 [] [(0, q12), (0, 0), (0, w32 (x1 + 2)), (30, x0)] M11 0 0 (j141 q12)) ?_ (fun j141 hj141 => ?_)
          · intro q12
            refine r_callVI 141 hC [(0, w32 (x1 + 2)), (0, 0), (0, q12)] [] rfl vl_X12_183 rfl h0 (by decide) (Nat.le_of_ble_eq_true rfl) (by decide) (by decide) dX12_test_141 (t_X12_number x0 (w32 (x1 + 2)) 0 q12 M11 h0) (fun v13 M14 => ?_)
            exact r_zreturn 144 hC hq (by decide) (by decide) dX12_test_144
          refine r_icmp_ne 129 hC (tgt := 138) (by decide) dX12_test_129 ?_ ?_
          · refine r_sipush 138 hC ks_9999 dX12_test_138 ?_
            exact r_sub [] rfl (hj141 9999)
          · refine r_sipush 132 hC ks_999 dX12_test_132 ?_
            refine r_goto 135 hC (tgt := 141) (by decide) dX12_test_135 ?_
            exact r_sub [] rfl (hj141 999)
        refine r_if_ne 78 hC (tgt := 105) (by decide) dX12_test_78 ?_ ?_
        · exact hj105
        · refine r_aload_n 81 hC 0 rfl (Or.inl (by decide)) rfl dX12_test_81 ?_
          refine r_bipush 82 hC kb_62 dX12_test_82 ?_
          refine r_callVP 84 hC [(0, 62)] [] rfl vl_X12_166 rfl h0 (by decide) (Nat.le_of_ble_eq_true rfl) (by decide) (by decide) dX12_test_84 (t_X12_isSign x0 62 M6 h0) (fun v15 => ?_)
          refine r_if_ne 87 hC (tgt := 105) (by decide) dX12_test_87 ?_ ?_
          · exact hj105
          · refine r_aload_n 90 hC 0 rfl (Or.inl (by decide)) rfl dX12_test_90 ?_
            refine r_bipush 91 hC kb_61 dX12_test_91 ?_
            refine r_callVP 93 hC [(0, 61)] [] rfl vl_X12_166 rfl h0 (by decide) (Nat.le_of_ble_eq_true rfl) (by decide) (by decide) dX12_test_93 (t_X12_isSign x0 61 M6 h0) (fun v16 => ?_)
            refine r_if_ne 96 hC (tgt := 105) (by decide) dX12_test_96 ?_ ?_
            · exact hj105
            · refine r_aload_n 99 hC 0 rfl (Or.inl (by decide)) rfl dX12_test_99 ?_
              refine r_iconst 100 hC (r32c rfl) dX12_test_100 ?_
              refine r_callVI 101 hC [(0, 2)] [] rfl vl_X12_169 rfl h0 (by decide) (Nat.le_of_ble_eq_true rfl) (by decide) (by decide) dX12_test_101 (t_X12_fails x0 2 M6 h0) (fun v17 M18 => ?_)
              exact r_zreturn 104 hC hq (by decide) (by decide) dX12_test_104
      · refine r_iconst 70 hC (r32c rfl) dX12_test_70 ?_
        exact r_zreturn 71 hC hq (by decide) (by decide) dX12_test_71
    · refine r_aload_n 52 hC 0 rfl (Or.inl (by decide)) rfl dX12_test_52 ?_
      refine r_iload_n 53 hC 1 rfl rfl dX12_test_53 ?_
      refine r_iconst 54 hC (r32c rfl) dX12_test_54 ?_
      refine r_iadd 55 hC dX12_test_55 ?_
      refine r_callVI 56 hC [(0, w32 (x1 + 1))] [] rfl vl_X12_236 rfl h0 (by decide) (Nat.le_of_ble_eq_true rfl) (by decide) (by decide) dX12_test_56 (t_X12_reachTo x0 (w32 (x1 + 1)) M4 h0) (fun v19 M20 => ?_)
      exact r_zreturn 59 hC hq (by decide) (by decide) dX12_test_59
  refine r_icmp_eq 10 hC (tgt := 31) (by decide) dX12_test_10 ?_ ?_
  · exact r_sub [1, 2, 0] rfl (hj31)
  · refine r_iload_n 13 hC 0 rfl rfl dX12_test_13 ?_
    refine r_bipush 14 hC kb_28 dX12_test_14 ?_
    refine r_icmp_eq 16 hC (tgt := 31) (by decide) dX12_test_16 ?_ ?_
    · exact r_sub [1, 2, 0] rfl (hj31)
    · refine r_iload_n 19 hC 0 rfl rfl dX12_test_19 ?_
      refine r_bipush 20 hC kb_29 dX12_test_20 ?_
      refine r_icmp_eq 22 hC (tgt := 31) (by decide) dX12_test_22 ?_ ?_
      · exact r_sub [1, 2, 0] rfl (hj31)
      · refine r_aload_n 25 hC 1 rfl (Or.inl (by decide)) rfl dX12_test_25 ?_
        refine r_iconst 26 hC (r32c rfl) dX12_test_26 ?_
        refine r_callVI 27 hC [(0, 2)] [] rfl vl_X12_169 rfl h0 (by decide) (Nat.le_of_ble_eq_true rfl) (by decide) (by decide) dX12_test_27 (t_X12_fails x0 2 M h0) (fun v21 M22 => ?_)
        exact r_zreturn 30 hC hq (by decide) (by decide) dX12_test_30

/-! WaterTurnsModel.dayOrder(II)Z -/
theorem dX12_dayOrder_0 : decode cX12_dayOrder 0 = .ok (.iload_n 1, 1) := by decide +kernel
theorem dX12_dayOrder_1 : decode cX12_dayOrder 1 = .ok (.tableswitch 189 10 24 #[75, 189, 189, 189, 189, 189, 75, 83, 109, 83, 149, 161, 189, 172, 178], 75) := by decide +kernel
theorem dX12_dayOrder_76 : decode cX12_dayOrder 76 = .ok (.aload_n 0, 1) := by decide +kernel
theorem dX12_dayOrder_77 : decode cX12_dayOrder 77 = .ok (.iload_n 2, 1) := by decide +kernel
theorem dX12_dayOrder_78 : decode cX12_dayOrder 78 = .ok (.iconst 1, 1) := by decide +kernel
theorem dX12_dayOrder_79 : decode cX12_dayOrder 79 = .ok (.iadd, 1) := by decide +kernel
theorem dX12_dayOrder_80 : decode cX12_dayOrder 80 = .ok (.invokevirtual 236, 3) := by decide +kernel
theorem dX12_dayOrder_83 : decode cX12_dayOrder 83 = .ok (.ireturn, 1) := by decide +kernel
theorem dX12_dayOrder_84 : decode cX12_dayOrder 84 = .ok (.aload_n 0, 1) := by decide +kernel
theorem dX12_dayOrder_85 : decode cX12_dayOrder 85 = .ok (.iload_n 2, 1) := by decide +kernel
theorem dX12_dayOrder_86 : decode cX12_dayOrder 86 = .ok (.iconst 1, 1) := by decide +kernel
theorem dX12_dayOrder_87 : decode cX12_dayOrder 87 = .ok (.iadd, 1) := by decide +kernel
theorem dX12_dayOrder_88 : decode cX12_dayOrder 88 = .ok (.invokevirtual 239, 3) := by decide +kernel
theorem dX12_dayOrder_91 : decode cX12_dayOrder 91 = .ok (.ifCond .eq 17, 3) := by decide +kernel
theorem dX12_dayOrder_94 : decode cX12_dayOrder 94 = .ok (.aload_n 0, 1) := by decide +kernel
theorem dX12_dayOrder_95 : decode cX12_dayOrder 95 = .ok (.iload_n 2, 1) := by decide +kernel
theorem dX12_dayOrder_96 : decode cX12_dayOrder 96 = .ok (.iconst 2, 1) := by decide +kernel
theorem dX12_dayOrder_97 : decode cX12_dayOrder 97 = .ok (.iadd, 1) := by decide +kernel
theorem dX12_dayOrder_98 : decode cX12_dayOrder 98 = .ok (.invokevirtual 239, 3) := by decide +kernel
theorem dX12_dayOrder_101 : decode cX12_dayOrder 101 = .ok (.ifCond .eq 7, 3) := by decide +kernel
theorem dX12_dayOrder_104 : decode cX12_dayOrder 104 = .ok (.iconst 1, 1) := by decide +kernel
theorem dX12_dayOrder_105 : decode cX12_dayOrder 105 = .ok (.goto 4, 3) := by decide +kernel
theorem dX12_dayOrder_108 : decode cX12_dayOrder 108 = .ok (.iconst 0, 1) := by decide +kernel
theorem dX12_dayOrder_109 : decode cX12_dayOrder 109 = .ok (.ireturn, 1) := by decide +kernel
theorem dX12_dayOrder_110 : decode cX12_dayOrder 110 = .ok (.aload_n 0, 1) := by decide +kernel
theorem dX12_dayOrder_111 : decode cX12_dayOrder 111 = .ok (.iload_n 2, 1) := by decide +kernel
theorem dX12_dayOrder_112 : decode cX12_dayOrder 112 = .ok (.iconst 1, 1) := by decide +kernel
theorem dX12_dayOrder_113 : decode cX12_dayOrder 113 = .ok (.iadd, 1) := by decide +kernel
theorem dX12_dayOrder_114 : decode cX12_dayOrder 114 = .ok (.invokevirtual 239, 3) := by decide +kernel
theorem dX12_dayOrder_117 : decode cX12_dayOrder 117 = .ok (.ifCond .eq 31, 3) := by decide +kernel
theorem dX12_dayOrder_120 : decode cX12_dayOrder 120 = .ok (.aload_n 0, 1) := by decide +kernel
theorem dX12_dayOrder_121 : decode cX12_dayOrder 121 = .ok (.iload_n 2, 1) := by decide +kernel
theorem dX12_dayOrder_122 : decode cX12_dayOrder 122 = .ok (.iconst 2, 1) := by decide +kernel
theorem dX12_dayOrder_123 : decode cX12_dayOrder 123 = .ok (.iadd, 1) := by decide +kernel
theorem dX12_dayOrder_124 : decode cX12_dayOrder 124 = .ok (.invokevirtual 239, 3) := by decide +kernel
theorem dX12_dayOrder_127 : decode cX12_dayOrder 127 = .ok (.ifCond .eq 21, 3) := by decide +kernel
theorem dX12_dayOrder_130 : decode cX12_dayOrder 130 = .ok (.aload_n 0, 1) := by decide +kernel
theorem dX12_dayOrder_131 : decode cX12_dayOrder 131 = .ok (.iload_n 2, 1) := by decide +kernel
theorem dX12_dayOrder_132 : decode cX12_dayOrder 132 = .ok (.iconst 3, 1) := by decide +kernel
theorem dX12_dayOrder_133 : decode cX12_dayOrder 133 = .ok (.iadd, 1) := by decide +kernel
theorem dX12_dayOrder_134 : decode cX12_dayOrder 134 = .ok (.iconst 1, 1) := by decide +kernel
theorem dX12_dayOrder_135 : decode cX12_dayOrder 135 = .ok (.sipush 999, 3) := by decide +kernel
theorem dX12_dayOrder_138 : decode cX12_dayOrder 138 = .ok (.invokevirtual 183, 3) := by decide +kernel
theorem dX12_dayOrder_141 : decode cX12_dayOrder 141 = .ok (.ifCond .eq 7, 3) := by decide +kernel
theorem dX12_dayOrder_144 : decode cX12_dayOrder 144 = .ok (.iconst 1, 1) := by decide +kernel
theorem dX12_dayOrder_145 : decode cX12_dayOrder 145 = .ok (.goto 4, 3) := by decide +kernel
theorem dX12_dayOrder_148 : decode cX12_dayOrder 148 = .ok (.iconst 0, 1) := by decide +kernel
theorem dX12_dayOrder_149 : decode cX12_dayOrder 149 = .ok (.ireturn, 1) := by decide +kernel
theorem dX12_dayOrder_150 : decode cX12_dayOrder 150 = .ok (.aload_n 0, 1) := by decide +kernel
theorem dX12_dayOrder_151 : decode cX12_dayOrder 151 = .ok (.iload_n 2, 1) := by decide +kernel
theorem dX12_dayOrder_152 : decode cX12_dayOrder 152 = .ok (.iconst 1, 1) := by decide +kernel
theorem dX12_dayOrder_153 : decode cX12_dayOrder 153 = .ok (.iadd, 1) := by decide +kernel
theorem dX12_dayOrder_154 : decode cX12_dayOrder 154 = .ok (.iconst 0, 1) := by decide +kernel
theorem dX12_dayOrder_155 : decode cX12_dayOrder 155 = .ok (.sipush 999, 3) := by decide +kernel
theorem dX12_dayOrder_158 : decode cX12_dayOrder 158 = .ok (.invokevirtual 183, 3) := by decide +kernel
theorem dX12_dayOrder_161 : decode cX12_dayOrder 161 = .ok (.ireturn, 1) := by decide +kernel
theorem dX12_dayOrder_162 : decode cX12_dayOrder 162 = .ok (.aload_n 0, 1) := by decide +kernel
theorem dX12_dayOrder_163 : decode cX12_dayOrder 163 = .ok (.iload_n 2, 1) := by decide +kernel
theorem dX12_dayOrder_164 : decode cX12_dayOrder 164 = .ok (.iconst 1, 1) := by decide +kernel
theorem dX12_dayOrder_165 : decode cX12_dayOrder 165 = .ok (.iadd, 1) := by decide +kernel
theorem dX12_dayOrder_166 : decode cX12_dayOrder 166 = .ok (.iconst 0, 1) := by decide +kernel
theorem dX12_dayOrder_167 : decode cX12_dayOrder 167 = .ok (.bipush 16, 2) := by decide +kernel
theorem dX12_dayOrder_169 : decode cX12_dayOrder 169 = .ok (.invokevirtual 183, 3) := by decide +kernel
theorem dX12_dayOrder_172 : decode cX12_dayOrder 172 = .ok (.ireturn, 1) := by decide +kernel
theorem dX12_dayOrder_173 : decode cX12_dayOrder 173 = .ok (.aload_n 0, 1) := by decide +kernel
theorem dX12_dayOrder_174 : decode cX12_dayOrder 174 = .ok (.iload_n 2, 1) := by decide +kernel
theorem dX12_dayOrder_175 : decode cX12_dayOrder 175 = .ok (.invokevirtual 242, 3) := by decide +kernel
theorem dX12_dayOrder_178 : decode cX12_dayOrder 178 = .ok (.ireturn, 1) := by decide +kernel
theorem dX12_dayOrder_179 : decode cX12_dayOrder 179 = .ok (.aload_n 0, 1) := by decide +kernel
theorem dX12_dayOrder_180 : decode cX12_dayOrder 180 = .ok (.iload_n 2, 1) := by decide +kernel
theorem dX12_dayOrder_181 : decode cX12_dayOrder 181 = .ok (.iconst 1, 1) := by decide +kernel
theorem dX12_dayOrder_182 : decode cX12_dayOrder 182 = .ok (.iadd, 1) := by decide +kernel
theorem dX12_dayOrder_183 : decode cX12_dayOrder 183 = .ok (.iconst 1, 1) := by decide +kernel
theorem dX12_dayOrder_184 : decode cX12_dayOrder 184 = .ok (.bipush 99, 2) := by decide +kernel
theorem dX12_dayOrder_186 : decode cX12_dayOrder 186 = .ok (.invokevirtual 183, 3) := by decide +kernel
theorem dX12_dayOrder_189 : decode cX12_dayOrder 189 = .ok (.ireturn, 1) := by decide +kernel
theorem dX12_dayOrder_190 : decode cX12_dayOrder 190 = .ok (.iconst 1, 1) := by decide +kernel
theorem dX12_dayOrder_191 : decode cX12_dayOrder 191 = .ok (.ireturn, 1) := by decide +kernel
set_option maxRecDepth 100000 in
theorem t_X12_dayOrder (x0 x1 x2 : Int) (M : Mem) (h0 : x0 ≠ 0) : MtI yX12_dayOrder cX12_dayOrder 3 (some .boolean) 11 0 0 [(30, x0), (0, x1), (0, x2)] M 0 (f_X12_dayOrder x0 x1 x2 M) := by
  refine mk_I (by decide +kernel) (Nat.le_of_ble_eq_true rfl) (fun E C r0 M0 hC hq hin => ?_)
  refine r_eqls (ls' := [(0, 30, x0), (1, 0, x1), (2, 0, x2)]) rfl ?_
  unfold f_X12_dayOrder
  refine r_iload_n 0 hC 1 rfl rfl dX12_dayOrder_0 ?_
  refine r_sw_case 1 (tgt := 76) (off := 75) hC dX12_dayOrder_1 ⟨by decide, by decide, r32c rfl⟩ (by decide) (by decide) ?_ (fun hs10 => ?_)
  · refine r_aload_n 76 hC 0 rfl (Or.inl (by decide)) rfl dX12_dayOrder_76 ?_
    refine r_iload_n 77 hC 2 rfl rfl dX12_dayOrder_77 ?_
    refine r_iconst 78 hC (r32c rfl) dX12_dayOrder_78 ?_
    refine r_iadd 79 hC dX12_dayOrder_79 ?_
    refine r_callVI 80 hC [(0, w32 (x2 + 1))] [] rfl vl_X12_236 rfl h0 (by decide) (Nat.le_of_ble_eq_true rfl) (by decide) (by decide) dX12_dayOrder_80 (t_X12_reachTo x0 (w32 (x2 + 1)) M h0) (fun v1 M2 => ?_)
    exact r_zreturn 83 hC hq (by decide) (by decide) dX12_dayOrder_83
  refine r_sw_case 1 (tgt := 76) (off := 75) hC dX12_dayOrder_1 ⟨by decide, by decide, r32c rfl⟩ (by decide) (by decide) ?_ (fun hs16 => ?_)
  · refine r_aload_n 76 hC 0 rfl (Or.inl (by decide)) rfl dX12_dayOrder_76 ?_
    refine r_iload_n 77 hC 2 rfl rfl dX12_dayOrder_77 ?_
    refine r_iconst 78 hC (r32c rfl) dX12_dayOrder_78 ?_
    refine r_iadd 79 hC dX12_dayOrder_79 ?_
    refine r_callVI 80 hC [(0, w32 (x2 + 1))] [] rfl vl_X12_236 rfl h0 (by decide) (Nat.le_of_ble_eq_true rfl) (by decide) (by decide) dX12_dayOrder_80 (t_X12_reachTo x0 (w32 (x2 + 1)) M h0) (fun v3 M4 => ?_)
    exact r_zreturn 83 hC hq (by decide) (by decide) dX12_dayOrder_83
  refine r_sw_case 1 (tgt := 84) (off := 83) hC dX12_dayOrder_1 ⟨by decide, by decide, r32c rfl⟩ (by decide) (by decide) ?_ (fun hs17 => ?_)
  · refine r_aload_n 84 hC 0 rfl (Or.inl (by decide)) rfl dX12_dayOrder_84 ?_
    refine r_iload_n 85 hC 2 rfl rfl dX12_dayOrder_85 ?_
    refine r_iconst 86 hC (r32c rfl) dX12_dayOrder_86 ?_
    refine r_iadd 87 hC dX12_dayOrder_87 ?_
    refine r_callVI 88 hC [(0, w32 (x2 + 1))] [] rfl vl_X12_239 rfl h0 (by decide) (Nat.le_of_ble_eq_true rfl) (by decide) (by decide) dX12_dayOrder_88 (t_X12_fieldTo x0 (w32 (x2 + 1)) M h0) (fun v5 M6 => ?_)
    refine r_jn (P := fun j109 => ∀ (q7 : Int) (M8 : Mem), Bk E C 3 M (r0, M0) 109 [] [(0, q7)] M8 0 0 (j109 q7 M8)) ?_ (fun j109 hj109 => ?_)
    · intro q7 M8
      exact r_zreturn 109 hC hq (by decide) (by decide) dX12_dayOrder_109
    refine r_jn (P := fun j108 => ∀ (M9 : Mem), Bk E C 3 M (r0, M0) 108 [] [] M9 0 0 (j108 M9)) ?_ (fun j108 hj108 => ?_)
    · intro M9
      refine r_iconst 108 hC (r32c rfl) dX12_dayOrder_108 ?_
      exact hj109 0 M9
    refine r_if_eq 91 hC (tgt := 108) (by decide) dX12_dayOrder_91 ?_ ?_
    · exact r_sub [] rfl (hj108 M6)
    · refine r_aload_n 94 hC 0 rfl (Or.inl (by decide)) rfl dX12_dayOrder_94 ?_
      refine r_iload_n 95 hC 2 rfl rfl dX12_dayOrder_95 ?_
      refine r_iconst 96 hC (r32c rfl) dX12_dayOrder_96 ?_
      refine r_iadd 97 hC dX12_dayOrder_97 ?_
      refine r_callVI 98 hC [(0, w32 (x2 + 2))] [] rfl vl_X12_239 rfl h0 (by decide) (Nat.le_of_ble_eq_true rfl) (by decide) (by decide) dX12_dayOrder_98 (t_X12_fieldTo x0 (w32 (x2 + 2)) M6 h0) (fun v10 M11 => ?_)
      refine r_if_eq 101 hC (tgt := 108) (by decide) dX12_dayOrder_101 ?_ ?_
      · exact r_sub [] rfl (hj108 M11)
      · refine r_iconst 104 hC (r32c rfl) dX12_dayOrder_104 ?_
        refine r_goto 105 hC (tgt := 109) (by decide) dX12_dayOrder_105 ?_
        exact r_sub [] rfl (hj109 1 M11)
  refine r_sw_case 1 (tgt := 110) (off := 109) hC dX12_dayOrder_1 ⟨by decide, by decide, r32c rfl⟩ (by decide) (by decide) ?_ (fun hs18 => ?_)
  · refine r_aload_n 110 hC 0 rfl (Or.inl (by decide)) rfl dX12_dayOrder_110 ?_
    refine r_iload_n 111 hC 2 rfl rfl dX12_dayOrder_111 ?_
    refine r_iconst 112 hC (r32c rfl) dX12_dayOrder_112 ?_
    refine r_iadd 113 hC dX12_dayOrder_113 ?_
    refine r_callVI 114 hC [(0, w32 (x2 + 1))] [] rfl vl_X12_239 rfl h0 (by decide) (Nat.le_of_ble_eq_true rfl) (by decide) (by decide) dX12_dayOrder_114 (t_X12_fieldTo x0 (w32 (x2 + 1)) M h0) (fun v12 M13 => ?_)
    refine r_jn (P := fun j149 => ∀ (q14 : Int) (M15 : Mem), Bk E C 3 M (r0, M0) 149 [] [(0, q14)] M15 0 0 (j149 q14 M15)) ?_ (fun j149 hj149 => ?_)
    · intro q14 M15
      exact r_zreturn 149 hC hq (by decide) (by decide) dX12_dayOrder_149
    refine r_jn (P := fun j148 => ∀ (M16 : Mem), Bk E C 3 M (r0, M0) 148 [] [] M16 0 0 (j148 M16)) ?_ (fun j148 hj148 => ?_)
    · intro M16
      refine r_iconst 148 hC (r32c rfl) dX12_dayOrder_148 ?_
      exact hj149 0 M16
    refine r_if_eq 117 hC (tgt := 148) (by decide) dX12_dayOrder_117 ?_ ?_
    · exact r_sub [] rfl (hj148 M13)
    · refine r_aload_n 120 hC 0 rfl (Or.inl (by decide)) rfl dX12_dayOrder_120 ?_
      refine r_iload_n 121 hC 2 rfl rfl dX12_dayOrder_121 ?_
      refine r_iconst 122 hC (r32c rfl) dX12_dayOrder_122 ?_
      refine r_iadd 123 hC dX12_dayOrder_123 ?_
      refine r_callVI 124 hC [(0, w32 (x2 + 2))] [] rfl vl_X12_239 rfl h0 (by decide) (Nat.le_of_ble_eq_true rfl) (by decide) (by decide) dX12_dayOrder_124 (t_X12_fieldTo x0 (w32 (x2 + 2)) M13 h0) (fun v17 M18 => ?_)
      refine r_if_eq 127 hC (tgt := 148) (by decide) dX12_dayOrder_127 ?_ ?_
      · exact r_sub [] rfl (hj148 M18)
      · refine r_aload_n 130 hC 0 rfl (Or.inl (by decide)) rfl dX12_dayOrder_130 ?_
        refine r_iload_n 131 hC 2 rfl rfl dX12_dayOrder_131 ?_
        refine r_iconst 132 hC (r32c rfl) dX12_dayOrder_132 ?_
        refine r_iadd 133 hC dX12_dayOrder_133 ?_
        refine r_iconst 134 hC (r32c rfl) dX12_dayOrder_134 ?_
        refine r_sipush 135 hC ks_999 dX12_dayOrder_135 ?_
        refine r_callVI 138 hC [(0, w32 (x2 + 3)), (0, 1), (0, 999)] [] rfl vl_X12_183 rfl h0 (by decide) (Nat.le_of_ble_eq_true rfl) (by decide) (by decide) dX12_dayOrder_138 (t_X12_number x0 (w32 (x2 + 3)) 1 999 M18 h0) (fun v19 M20 => ?_)
        refine r_if_eq 141 hC (tgt := 148) (by decide) dX12_dayOrder_141 ?_ ?_
        · exact r_sub [] rfl (hj148 M20)
        · refine r_iconst 144 hC (r32c rfl) dX12_dayOrder_144 ?_
          refine r_goto 145 hC (tgt := 149) (by decide) dX12_dayOrder_145 ?_
          exact r_sub [] rfl (hj149 1 M20)
  refine r_sw_case 1 (tgt := 84) (off := 83) hC dX12_dayOrder_1 ⟨by decide, by decide, r32c rfl⟩ (by decide) (by decide) ?_ (fun hs19 => ?_)
  · refine r_aload_n 84 hC 0 rfl (Or.inl (by decide)) rfl dX12_dayOrder_84 ?_
    refine r_iload_n 85 hC 2 rfl rfl dX12_dayOrder_85 ?_
    refine r_iconst 86 hC (r32c rfl) dX12_dayOrder_86 ?_
    refine r_iadd 87 hC dX12_dayOrder_87 ?_
    refine r_callVI 88 hC [(0, w32 (x2 + 1))] [] rfl vl_X12_239 rfl h0 (by decide) (Nat.le_of_ble_eq_true rfl) (by decide) (by decide) dX12_dayOrder_88 (t_X12_fieldTo x0 (w32 (x2 + 1)) M h0) (fun v21 M22 => ?_)
    refine r_jn (P := fun j109 => ∀ (q23 : Int) (M24 : Mem), Bk E C 3 M (r0, M0) 109 [] [(0, q23)] M24 0 0 (j109 q23 M24)) ?_ (fun j109 hj109 => ?_)
    · intro q23 M24
      exact r_zreturn 109 hC hq (by decide) (by decide) dX12_dayOrder_109
    refine r_jn (P := fun j108 => ∀ (M25 : Mem), Bk E C 3 M (r0, M0) 108 [] [] M25 0 0 (j108 M25)) ?_ (fun j108 hj108 => ?_)
    · intro M25
      refine r_iconst 108 hC (r32c rfl) dX12_dayOrder_108 ?_
      exact hj109 0 M25
    refine r_if_eq 91 hC (tgt := 108) (by decide) dX12_dayOrder_91 ?_ ?_
    · exact r_sub [] rfl (hj108 M22)
    · refine r_aload_n 94 hC 0 rfl (Or.inl (by decide)) rfl dX12_dayOrder_94 ?_
      refine r_iload_n 95 hC 2 rfl rfl dX12_dayOrder_95 ?_
      refine r_iconst 96 hC (r32c rfl) dX12_dayOrder_96 ?_
      refine r_iadd 97 hC dX12_dayOrder_97 ?_
      refine r_callVI 98 hC [(0, w32 (x2 + 2))] [] rfl vl_X12_239 rfl h0 (by decide) (Nat.le_of_ble_eq_true rfl) (by decide) (by decide) dX12_dayOrder_98 (t_X12_fieldTo x0 (w32 (x2 + 2)) M22 h0) (fun v26 M27 => ?_)
      refine r_if_eq 101 hC (tgt := 108) (by decide) dX12_dayOrder_101 ?_ ?_
      · exact r_sub [] rfl (hj108 M27)
      · refine r_iconst 104 hC (r32c rfl) dX12_dayOrder_104 ?_
        refine r_goto 105 hC (tgt := 109) (by decide) dX12_dayOrder_105 ?_
        exact r_sub [] rfl (hj109 1 M27)
  refine r_sw_case 1 (tgt := 150) (off := 149) hC dX12_dayOrder_1 ⟨by decide, by decide, r32c rfl⟩ (by decide) (by decide) ?_ (fun hs20 => ?_)
  · refine r_aload_n 150 hC 0 rfl (Or.inl (by decide)) rfl dX12_dayOrder_150 ?_
    refine r_iload_n 151 hC 2 rfl rfl dX12_dayOrder_151 ?_
    refine r_iconst 152 hC (r32c rfl) dX12_dayOrder_152 ?_
    refine r_iadd 153 hC dX12_dayOrder_153 ?_
    refine r_iconst 154 hC (r32c rfl) dX12_dayOrder_154 ?_
    refine r_sipush 155 hC ks_999 dX12_dayOrder_155 ?_
    refine r_callVI 158 hC [(0, w32 (x2 + 1)), (0, 0), (0, 999)] [] rfl vl_X12_183 rfl h0 (by decide) (Nat.le_of_ble_eq_true rfl) (by decide) (by decide) dX12_dayOrder_158 (t_X12_number x0 (w32 (x2 + 1)) 0 999 M h0) (fun v28 M29 => ?_)
    exact r_zreturn 161 hC hq (by decide) (by decide) dX12_dayOrder_161
  refine r_sw_case 1 (tgt := 162) (off := 161) hC dX12_dayOrder_1 ⟨by decide, by decide, r32c rfl⟩ (by decide) (by decide) ?_ (fun hs21 => ?_)
  · refine r_aload_n 162 hC 0 rfl (Or.inl (by decide)) rfl dX12_dayOrder_162 ?_
    refine r_iload_n 163 hC 2 rfl rfl dX12_dayOrder_163 ?_
    refine r_iconst 164 hC (r32c rfl) dX12_dayOrder_164 ?_
    refine r_iadd 165 hC dX12_dayOrder_165 ?_
    refine r_iconst 166 hC (r32c rfl) dX12_dayOrder_166 ?_
    refine r_bipush 167 hC kb_16 dX12_dayOrder_167 ?_
    refine r_callVI 169 hC [(0, w32 (x2 + 1)), (0, 0), (0, 16)] [] rfl vl_X12_183 rfl h0 (by decide) (Nat.le_of_ble_eq_true rfl) (by decide) (by decide) dX12_dayOrder_169 (t_X12_number x0 (w32 (x2 + 1)) 0 16 M h0) (fun v30 M31 => ?_)
    exact r_zreturn 172 hC hq (by decide) (by decide) dX12_dayOrder_172
  refine r_sw_case 1 (tgt := 173) (off := 172) hC dX12_dayOrder_1 ⟨by decide, by decide, r32c rfl⟩ (by decide) (by decide) ?_ (fun hs23 => ?_)
  · refine r_aload_n 173 hC 0 rfl (Or.inl (by decide)) rfl dX12_dayOrder_173 ?_
    refine r_iload_n 174 hC 2 rfl rfl dX12_dayOrder_174 ?_
    refine r_callVI 175 hC [(0, x2)] [] rfl vl_X12_242 rfl h0 (by decide) (Nat.le_of_ble_eq_true rfl) (by decide) (by decide) dX12_dayOrder_175 (t_X12_test x0 x2 M h0) (fun v32 M33 => ?_)
    exact r_zreturn 178 hC hq (by decide) (by decide) dX12_dayOrder_178
  refine r_sw_case 1 (tgt := 179) (off := 178) hC dX12_dayOrder_1 ⟨by decide, by decide, r32c rfl⟩ (by decide) (by decide) ?_ (fun hs24 => ?_)
  · refine r_aload_n 179 hC 0 rfl (Or.inl (by decide)) rfl dX12_dayOrder_179 ?_
    refine r_iload_n 180 hC 2 rfl rfl dX12_dayOrder_180 ?_
    refine r_iconst 181 hC (r32c rfl) dX12_dayOrder_181 ?_
    refine r_iadd 182 hC dX12_dayOrder_182 ?_
    refine r_iconst 183 hC (r32c rfl) dX12_dayOrder_183 ?_
    refine r_bipush 184 hC kb_99 dX12_dayOrder_184 ?_
    refine r_callVI 186 hC [(0, w32 (x2 + 1)), (0, 1), (0, 99)] [] rfl vl_X12_183 rfl h0 (by decide) (Nat.le_of_ble_eq_true rfl) (by decide) (by decide) dX12_dayOrder_186 (t_X12_number x0 (w32 (x2 + 1)) 1 99 M h0) (fun v34 M35 => ?_)
    exact r_zreturn 189 hC hq (by decide) (by decide) dX12_dayOrder_189
  refine r_sw_dflt2 1 (tgt := 190) hC dX12_dayOrder_1 [11, 12, 13, 14, 15, 22] (by decide) (by simp only [List.mem_cons, List.not_mem_nil, or_false]; omega) (by decide) ?_
  refine r_iconst 190 hC (r32c rfl) dX12_dayOrder_190 ?_
  exact r_zreturn 191 hC hq (by decide) (by decide) dX12_dayOrder_191
