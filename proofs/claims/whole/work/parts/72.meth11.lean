/-! WaterTurnsModel.richest(Z)I -/
theorem dX12_richest_0 : decode cX12_richest 0 = .ok (.iconst (-1), 1) := by decide +kernel
theorem dX12_richest_1 : decode cX12_richest 1 = .ok (.istore_n 2, 1) := by decide +kernel
theorem dX12_richest_2 : decode cX12_richest 2 = .ok (.iconst 0, 1) := by decide +kernel
theorem dX12_richest_3 : decode cX12_richest 3 = .ok (.istore_n 3, 1) := by decide +kernel
theorem dX12_richest_4 : decode cX12_richest 4 = .ok (.iload_n 3, 1) := by decide +kernel
theorem dX12_richest_5 : decode cX12_richest 5 = .ok (.aload_n 0, 1) := by decide +kernel
theorem dX12_richest_6 : decode cX12_richest 6 = .ok (.getfield 7, 3) := by decide +kernel
theorem dX12_richest_9 : decode cX12_richest 9 = .ok (.iconst 5, 1) := by decide +kernel
theorem dX12_richest_10 : decode cX12_richest 10 = .ok (.iaload, 1) := by decide +kernel
theorem dX12_richest_11 : decode cX12_richest 11 = .ok (.if_icmp .ge 72, 3) := by decide +kernel
theorem dX12_richest_14 : decode cX12_richest 14 = .ok (.iload_n 2, 1) := by decide +kernel
theorem dX12_richest_15 : decode cX12_richest 15 = .ok (.iconst (-1), 1) := by decide +kernel
theorem dX12_richest_16 : decode cX12_richest 16 = .ok (.if_icmp .eq 59, 3) := by decide +kernel
theorem dX12_richest_19 : decode cX12_richest 19 = .ok (.aload_n 0, 1) := by decide +kernel
theorem dX12_richest_20 : decode cX12_richest 20 = .ok (.iload_n 3, 1) := by decide +kernel
theorem dX12_richest_21 : decode cX12_richest 21 = .ok (.invokevirtual 357, 3) := by decide +kernel
theorem dX12_richest_24 : decode cX12_richest 24 = .ok (.aload_n 0, 1) := by decide +kernel
theorem dX12_richest_25 : decode cX12_richest 25 = .ok (.iload_n 2, 1) := by decide +kernel
theorem dX12_richest_26 : decode cX12_richest 26 = .ok (.iconst 1, 1) := by decide +kernel
theorem dX12_richest_27 : decode cX12_richest 27 = .ok (.invokevirtual 269, 3) := by decide +kernel
theorem dX12_richest_30 : decode cX12_richest 30 = .ok (.i2l, 1) := by decide +kernel
theorem dX12_richest_31 : decode cX12_richest 31 = .ok (.lmul, 1) := by decide +kernel
theorem dX12_richest_32 : decode cX12_richest 32 = .ok (.lstore 4, 2) := by decide +kernel
theorem dX12_richest_34 : decode cX12_richest 34 = .ok (.aload_n 0, 1) := by decide +kernel
theorem dX12_richest_35 : decode cX12_richest 35 = .ok (.iload_n 2, 1) := by decide +kernel
theorem dX12_richest_36 : decode cX12_richest 36 = .ok (.invokevirtual 357, 3) := by decide +kernel
theorem dX12_richest_39 : decode cX12_richest 39 = .ok (.aload_n 0, 1) := by decide +kernel
theorem dX12_richest_40 : decode cX12_richest 40 = .ok (.iload_n 3, 1) := by decide +kernel
theorem dX12_richest_41 : decode cX12_richest 41 = .ok (.iconst 1, 1) := by decide +kernel
theorem dX12_richest_42 : decode cX12_richest 42 = .ok (.invokevirtual 269, 3) := by decide +kernel
theorem dX12_richest_45 : decode cX12_richest 45 = .ok (.i2l, 1) := by decide +kernel
theorem dX12_richest_46 : decode cX12_richest 46 = .ok (.lmul, 1) := by decide +kernel
theorem dX12_richest_47 : decode cX12_richest 47 = .ok (.lstore 6, 2) := by decide +kernel
theorem dX12_richest_49 : decode cX12_richest 49 = .ok (.iload_n 1, 1) := by decide +kernel
theorem dX12_richest_50 : decode cX12_richest 50 = .ok (.ifCond .eq 14, 3) := by decide +kernel
theorem dX12_richest_53 : decode cX12_richest 53 = .ok (.lload 4, 2) := by decide +kernel
theorem dX12_richest_55 : decode cX12_richest 55 = .ok (.lload 6, 2) := by decide +kernel
theorem dX12_richest_57 : decode cX12_richest 57 = .ok (.lcmp, 1) := by decide +kernel
theorem dX12_richest_58 : decode cX12_richest 58 = .ok (.ifCond .gt 17, 3) := by decide +kernel
theorem dX12_richest_61 : decode cX12_richest 61 = .ok (.goto 16, 3) := by decide +kernel
theorem dX12_richest_64 : decode cX12_richest 64 = .ok (.lload 4, 2) := by decide +kernel
theorem dX12_richest_66 : decode cX12_richest 66 = .ok (.lload 6, 2) := by decide +kernel
theorem dX12_richest_68 : decode cX12_richest 68 = .ok (.lcmp, 1) := by decide +kernel
theorem dX12_richest_69 : decode cX12_richest 69 = .ok (.ifCond .lt 6, 3) := by decide +kernel
theorem dX12_richest_72 : decode cX12_richest 72 = .ok (.goto 5, 3) := by decide +kernel
theorem dX12_richest_75 : decode cX12_richest 75 = .ok (.iload_n 3, 1) := by decide +kernel
theorem dX12_richest_76 : decode cX12_richest 76 = .ok (.istore_n 2, 1) := by decide +kernel
theorem dX12_richest_77 : decode cX12_richest 77 = .ok (.iinc 3 1, 3) := by decide +kernel
theorem dX12_richest_80 : decode cX12_richest 80 = .ok (.goto (-76), 3) := by decide +kernel
theorem dX12_richest_83 : decode cX12_richest 83 = .ok (.aload_n 0, 1) := by decide +kernel
theorem dX12_richest_84 : decode cX12_richest 84 = .ok (.iload_n 2, 1) := by decide +kernel
theorem dX12_richest_85 : decode cX12_richest 85 = .ok (.invokevirtual 263, 3) := by decide +kernel
theorem dX12_richest_88 : decode cX12_richest 88 = .ok (.ireturn, 1) := by decide +kernel
set_option maxRecDepth 100000 in
theorem f_X12_richest_L4_ok {E : EnvT} {C : Cx} {Mi : Mem} {x0 : Int} (h0 : x0 ≠ 0) (hC : CxOK E C cX12_richest 8 yX12_richest.cls 9 0 0) {r0 : Int} {M0 : Mem} (hq : RQ E C 0 0 Mi (some .int) (some (0, r0)) M0) {x1 : Int} {k : Int → Mem → Option (Int × Mem)} (hk : ∀ q17 M18, Bk E C 8 Mi (r0, M0) 83 [(0, 30, x0), (2, 0, q17)] [] M18 0 0 (k q17 M18)) : ∀ (n : Nat) (p1 : Int) (p2 : Int) (M3 : Mem), Bk E C 8 Mi (r0, M0) 4 [(0, 30, x0), (1, 0, x1), (2, 0, p1), (3, 0, p2)] [] M3 0 0 (f_X12_richest_L4 x0 x1 k n p1 p2 M3) := by
  intro n
  induction n with
  | zero =>
    intro p1 p2 M3
    exact r_none
  | succ n ih =>
    intro p1 p2 M3
    rw [f_X12_richest_L4]
    refine r_iload_n 4 hC 3 rfl rfl dX12_richest_4 ?_
    refine r_aload_n 5 hC 0 rfl (Or.inl (by decide)) rfl dX12_richest_5 ?_
    refine r_get 6 hC fd_10_0 fl_X12_7 dX12_richest_6 (fun v4 => ?_)
    refine r_iconst 9 hC (r32c rfl) dX12_richest_9 ?_
    refine r_iaload 10 hC dX12_richest_10 (fun v5 => ?_)
    refine r_icmp_ge 11 hC (tgt := 83) (by decide) dX12_richest_11 ?_ ?_
    · exact r_sub [0, 2] rfl (hk p1 M3)
    · refine r_iload_n 14 hC 2 rfl rfl dX12_richest_14 ?_
      refine r_iconst 15 hC (r32c rfl) dX12_richest_15 ?_
      refine r_jn (P := fun j77 => ∀ (q6 : Int) (M7 : Mem), Bk E C 8 Mi (r0, M0) 77 [(0, 30, x0), (1, 0, x1), (2, 0, q6), (3, 0, p2)] [] M7 0 0 (j77 q6 M7)) ?_ (fun j77 hj77 => ?_)
      · intro q6 M7
        refine r_iinc 77 hC 3 rfl (by decide) dX12_richest_77 (r_eqls (ls' := [(3, 0, w32 (p2 + 1)), (0, 30, x0), (1, 0, x1), (2, 0, q6)]) rfl ?_)
        refine r_goto 80 hC (tgt := 4) (by decide) dX12_richest_80 ?_
        exact r_sub [1, 2, 3, 0] rfl (ih q6 (w32 (p2 + 1)) M7)
      refine r_jn (P := fun j75 => ∀ (M8 : Mem), Bk E C 8 Mi (r0, M0) 75 [(0, 30, x0), (1, 0, x1), (3, 0, p2)] [] M8 0 0 (j75 M8)) ?_ (fun j75 hj75 => ?_)
      · intro M8
        refine r_iload_n 75 hC 2 rfl rfl dX12_richest_75 ?_
        refine r_istore_n 76 hC rfl (by decide) dX12_richest_76 (r_eqls (ls' := [(2, 0, p2), (0, 30, x0), (1, 0, x1), (3, 0, p2)]) rfl ?_)
        exact r_sub [1, 2, 0, 3] rfl (hj77 p2 M8)
      refine r_icmp_eq 16 hC (tgt := 75) (by decide) dX12_richest_16 ?_ ?_
      · exact r_sub [0, 1, 3] rfl (hj75 M3)
      · refine r_aload_n 19 hC 0 rfl (Or.inl (by decide)) rfl dX12_richest_19 ?_
        refine r_iload_n 20 hC 3 rfl rfl dX12_richest_20 ?_
        refine r_callVI 21 hC [(0, p2)] [] rfl vl_X12_357 rfl h0 (by decide) (Nat.le_of_ble_eq_true rfl) (by decide) (by decide) dX12_richest_21 (t_X12_waterIn x0 p2 M3 h0) (fun v9 M10 => ?_)
        refine r_aload_n 24 hC 0 rfl (Or.inl (by decide)) rfl dX12_richest_24 ?_
        refine r_iload_n 25 hC 2 rfl rfl dX12_richest_25 ?_
        refine r_iconst 26 hC (r32c rfl) dX12_richest_26 ?_
        refine r_callVP 27 hC [(0, p1), (0, 1)] [(1, v9)] rfl vl_X12_269 rfl h0 (by decide) (Nat.le_of_ble_eq_true rfl) (by decide) (by decide) dX12_richest_27 (t_X12_ofField x0 p1 1 M10 h0) (fun v11 => ?_)
        refine r_i2l 30 hC dX12_richest_30 ?_
        refine r_lmul 31 hC dX12_richest_31 ?_
        refine r_lstoreL 32 hC (by decide) dX12_richest_32 (fun v12 => r_eqls (ls' := [(4, 1, v12), (0, 30, x0), (1, 0, x1), (2, 0, p1), (3, 0, p2)]) rfl ?_)
        refine r_aload_n 34 hC 1 rfl (Or.inl (by decide)) rfl dX12_richest_34 ?_
        refine r_iload_n 35 hC 3 rfl rfl dX12_richest_35 ?_
        refine r_callVI 36 hC [(0, p1)] [] rfl vl_X12_357 rfl h0 (by decide) (Nat.le_of_ble_eq_true rfl) (by decide) (by decide) dX12_richest_36 (t_X12_waterIn x0 p1 M10 h0) (fun v13 M14 => ?_)
        refine r_aload_n 39 hC 1 rfl (Or.inl (by decide)) rfl dX12_richest_39 ?_
        refine r_iload_n 40 hC 4 rfl rfl dX12_richest_40 ?_
        refine r_iconst 41 hC (r32c rfl) dX12_richest_41 ?_
        refine r_callVP 42 hC [(0, p2), (0, 1)] [(1, v13)] rfl vl_X12_269 rfl h0 (by decide) (Nat.le_of_ble_eq_true rfl) (by decide) (by decide) dX12_richest_42 (t_X12_ofField x0 p2 1 M14 h0) (fun v15 => ?_)
        refine r_i2l 45 hC dX12_richest_45 ?_
        refine r_lmul 46 hC dX12_richest_46 ?_
        refine r_lstoreL 47 hC (by decide) dX12_richest_47 (fun v16 => r_eqls (ls' := [(6, 1, v16), (4, 1, v12), (0, 30, x0), (1, 0, x1), (2, 0, p1), (3, 0, p2)]) rfl ?_)
        refine r_iload_n 49 hC 3 rfl rfl dX12_richest_49 ?_
        refine r_if_eq 50 hC (tgt := 64) (by decide) dX12_richest_50 ?_ ?_
        · refine r_lload 64 hC 1 rfl dX12_richest_64 ?_
          refine r_lload 66 hC 0 rfl dX12_richest_66 ?_
          refine r_lcmp_lt 68 hC (tgt := 75) (by decide) dX12_richest_68 dX12_richest_69 ?_ ?_
          · exact r_sub [2, 3, 5] rfl (hj75 M14)
          · refine r_goto 72 hC (tgt := 77) (by decide) dX12_richest_72 ?_
            exact r_sub [2, 3, 4, 5] rfl (hj77 p1 M14)
        · refine r_lload 53 hC 1 rfl dX12_richest_53 ?_
          refine r_lload 55 hC 0 rfl dX12_richest_55 ?_
          refine r_lcmp_gt 57 hC (tgt := 75) (by decide) dX12_richest_57 dX12_richest_58 ?_ ?_
          · exact r_sub [2, 3, 5] rfl (hj75 M14)
          · refine r_goto 61 hC (tgt := 77) (by decide) dX12_richest_61 ?_
            exact r_sub [2, 3, 4, 5] rfl (hj77 p1 M14)
set_option maxRecDepth 100000 in
theorem t_X12_richest (x0 x1 : Int) (M : Mem) (h0 : x0 ≠ 0) : MtI yX12_richest cX12_richest 8 (some .int) 9 0 0 [(30, x0), (0, x1)] M 0 (f_X12_richest x0 x1 M) := by
  refine mk_I (by decide +kernel) (Nat.le_of_ble_eq_true rfl) (fun E C r0 M0 hC hq hin => ?_)
  refine r_eqls (ls' := [(0, 30, x0), (1, 0, x1)]) rfl ?_
  unfold f_X12_richest
  refine r_iconst 0 hC (r32c rfl) dX12_richest_0 ?_
  refine r_istore_n 1 hC rfl (by decide) dX12_richest_1 (r_eqls (ls' := [(2, 0, (-1)), (0, 30, x0), (1, 0, x1)]) rfl ?_)
  refine r_iconst 2 hC (r32c rfl) dX12_richest_2 ?_
  refine r_istore_n 3 hC rfl (by decide) dX12_richest_3 (r_eqls (ls' := [(3, 0, 0), (2, 0, (-1)), (0, 30, x0), (1, 0, x1)]) rfl ?_)
  refine r_sub [2, 3, 1, 0] rfl (f_X12_richest_L4_ok h0 hC hq (fun q19 M20 => ?_) KF (-1) 0 M)
  · refine r_aload_n 83 hC 0 rfl (Or.inl (by decide)) rfl dX12_richest_83 ?_
    refine r_iload_n 84 hC 1 rfl rfl dX12_richest_84 ?_
    refine r_callVI 85 hC [(0, q19)] [] rfl vl_X12_263 rfl h0 (by decide) (Nat.le_of_ble_eq_true rfl) (by decide) (by decide) dX12_richest_85 (t_X12_orNone x0 q19 M20 h0) (fun v21 M22 => ?_)
    exact r_ireturn 88 hC hq (by decide) (by decide) dX12_richest_88

/-! WaterTurnsModel.allWater()J -/
theorem dX12_allWater_0 : decode cX12_allWater 0 = .ok (.lconst 0, 1) := by decide +kernel
theorem dX12_allWater_1 : decode cX12_allWater 1 = .ok (.lstore_n 1, 1) := by decide +kernel
theorem dX12_allWater_2 : decode cX12_allWater 2 = .ok (.iconst 0, 1) := by decide +kernel
theorem dX12_allWater_3 : decode cX12_allWater 3 = .ok (.istore_n 3, 1) := by decide +kernel
theorem dX12_allWater_4 : decode cX12_allWater 4 = .ok (.iload_n 3, 1) := by decide +kernel
theorem dX12_allWater_5 : decode cX12_allWater 5 = .ok (.aload_n 0, 1) := by decide +kernel
theorem dX12_allWater_6 : decode cX12_allWater 6 = .ok (.getfield 7, 3) := by decide +kernel
theorem dX12_allWater_9 : decode cX12_allWater 9 = .ok (.iconst 5, 1) := by decide +kernel
theorem dX12_allWater_10 : decode cX12_allWater 10 = .ok (.iaload, 1) := by decide +kernel
theorem dX12_allWater_11 : decode cX12_allWater 11 = .ok (.if_icmp .ge 17, 3) := by decide +kernel
theorem dX12_allWater_14 : decode cX12_allWater 14 = .ok (.lload_n 1, 1) := by decide +kernel
theorem dX12_allWater_15 : decode cX12_allWater 15 = .ok (.aload_n 0, 1) := by decide +kernel
theorem dX12_allWater_16 : decode cX12_allWater 16 = .ok (.iload_n 3, 1) := by decide +kernel
theorem dX12_allWater_17 : decode cX12_allWater 17 = .ok (.invokevirtual 357, 3) := by decide +kernel
theorem dX12_allWater_20 : decode cX12_allWater 20 = .ok (.ladd, 1) := by decide +kernel
theorem dX12_allWater_21 : decode cX12_allWater 21 = .ok (.lstore_n 1, 1) := by decide +kernel
theorem dX12_allWater_22 : decode cX12_allWater 22 = .ok (.iinc 3 1, 3) := by decide +kernel
theorem dX12_allWater_25 : decode cX12_allWater 25 = .ok (.goto (-21), 3) := by decide +kernel
theorem dX12_allWater_28 : decode cX12_allWater 28 = .ok (.lload_n 1, 1) := by decide +kernel
theorem dX12_allWater_29 : decode cX12_allWater 29 = .ok (.lreturn, 1) := by decide +kernel
set_option maxRecDepth 100000 in
theorem f_X12_allWater_L4_ok {E : EnvT} {C : Cx} {Mi : Mem} {x0 : Int} (h0 : x0 ≠ 0) (hC : CxOK E C cX12_allWater 4 yX12_allWater.cls 9 0 0) {r0 : Int} {M0 : Mem} (hq : RQ E C 0 0 Mi (some .long) (some (1, r0)) M0) {k : Int → Mem → Option (Int × Mem)} (hk : ∀ q9 M10, Bk E C 4 Mi (r0, M0) 28 [(1, 1, q9)] [] M10 0 0 (k q9 M10)) : ∀ (n : Nat) (p1 : Int) (p2 : Int) (M3 : Mem), Bk E C 4 Mi (r0, M0) 4 [(0, 30, x0), (1, 1, p1), (3, 0, p2)] [] M3 0 0 (f_X12_allWater_L4 x0 k n p1 p2 M3) := by
  intro n
  induction n with
  | zero =>
    intro p1 p2 M3
    exact r_none
  | succ n ih =>
    intro p1 p2 M3
    rw [f_X12_allWater_L4]
    refine r_iload_n 4 hC 2 rfl rfl dX12_allWater_4 ?_
    refine r_aload_n 5 hC 0 rfl (Or.inl (by decide)) rfl dX12_allWater_5 ?_
    refine r_get 6 hC fd_10_0 fl_X12_7 dX12_allWater_6 (fun v4 => ?_)
    refine r_iconst 9 hC (r32c rfl) dX12_allWater_9 ?_
    refine r_iaload 10 hC dX12_allWater_10 (fun v5 => ?_)
    refine r_icmp_ge 11 hC (tgt := 28) (by decide) dX12_allWater_11 ?_ ?_
    · exact r_sub [1] rfl (hk p1 M3)
    · refine r_lload_n 14 hC 1 rfl rfl dX12_allWater_14 ?_
      refine r_aload_n 15 hC 0 rfl (Or.inl (by decide)) rfl dX12_allWater_15 ?_
      refine r_iload_n 16 hC 2 rfl rfl dX12_allWater_16 ?_
      refine r_callVI 17 hC [(0, p2)] [(1, p1)] rfl vl_X12_357 rfl h0 (by decide) (Nat.le_of_ble_eq_true rfl) (by decide) (by decide) dX12_allWater_17 (t_X12_waterIn x0 p2 M3 h0) (fun v6 M7 => ?_)
      refine r_ladd 20 hC dX12_allWater_20 ?_
      refine r_lstore_nL 21 hC rfl (by decide) dX12_allWater_21 (fun v8 => r_eqls (ls' := [(1, 1, v8), (0, 30, x0), (3, 0, p2)]) rfl ?_)
      refine r_iinc 22 hC 2 rfl (by decide) dX12_allWater_22 (r_eqls (ls' := [(3, 0, w32 (p2 + 1)), (1, 1, v8), (0, 30, x0)]) rfl ?_)
      refine r_goto 25 hC (tgt := 4) (by decide) dX12_allWater_25 ?_
      exact r_sub [2, 1, 0] rfl (ih v8 (w32 (p2 + 1)) M7)
set_option maxRecDepth 100000 in
theorem t_X12_allWater (x0 : Int) (M : Mem) (h0 : x0 ≠ 0) : MtI yX12_allWater cX12_allWater 4 (some .long) 9 0 0 [(30, x0)] M 1 (f_X12_allWater x0 M) := by
  refine mk_I (by decide +kernel) (Nat.le_of_ble_eq_true rfl) (fun E C r0 M0 hC hq hin => ?_)
  refine r_eqls (ls' := [(0, 30, x0)]) rfl ?_
  unfold f_X12_allWater
  refine r_lconst 0 hC (x := 0) ⟨by decide +kernel, r64c rfl⟩ dX12_allWater_0 ?_
  refine r_lstore_n 1 hC rfl (by decide) dX12_allWater_1 (r_eqls (ls' := [(1, 1, 0), (0, 30, x0)]) rfl ?_)
  refine r_iconst 2 hC (r32c rfl) dX12_allWater_2 ?_
  refine r_istore_n 3 hC rfl (by decide) dX12_allWater_3 (r_eqls (ls' := [(3, 0, 0), (1, 1, 0), (0, 30, x0)]) rfl ?_)
  refine r_sub [2, 1, 0] rfl (f_X12_allWater_L4_ok h0 hC hq (fun q11 M12 => ?_) KF 0 0 M)
  · refine r_lload_n 28 hC 0 rfl rfl dX12_allWater_28 ?_
    exact r_lreturn 29 hC hq (by decide) (by decide) dX12_allWater_29

/-! WaterTurnsModel.mending()I -/
theorem dX12_mending_0 : decode cX12_mending 0 = .ok (.aload_n 0, 1) := by decide +kernel
theorem dX12_mending_1 : decode cX12_mending 1 = .ok (.invokevirtual 380, 3) := by decide +kernel
theorem dX12_mending_4 : decode cX12_mending 4 = .ok (.lstore_n 1, 1) := by decide +kernel
theorem dX12_mending_5 : decode cX12_mending 5 = .ok (.lconst 0, 1) := by decide +kernel
theorem dX12_mending_6 : decode cX12_mending 6 = .ok (.lstore_n 3, 1) := by decide +kernel
theorem dX12_mending_7 : decode cX12_mending 7 = .ok (.iconst (-1), 1) := by decide +kernel
theorem dX12_mending_8 : decode cX12_mending 8 = .ok (.istore 5, 2) := by decide +kernel
theorem dX12_mending_10 : decode cX12_mending 10 = .ok (.iconst 0, 1) := by decide +kernel
theorem dX12_mending_11 : decode cX12_mending 11 = .ok (.istore 6, 2) := by decide +kernel
theorem dX12_mending_13 : decode cX12_mending 13 = .ok (.iload 6, 2) := by decide +kernel
theorem dX12_mending_15 : decode cX12_mending 15 = .ok (.aload_n 0, 1) := by decide +kernel
theorem dX12_mending_16 : decode cX12_mending 16 = .ok (.getfield 7, 3) := by decide +kernel
theorem dX12_mending_19 : decode cX12_mending 19 = .ok (.iconst 3, 1) := by decide +kernel
theorem dX12_mending_20 : decode cX12_mending 20 = .ok (.iaload, 1) := by decide +kernel
theorem dX12_mending_21 : decode cX12_mending 21 = .ok (.if_icmp .ge 45, 3) := by decide +kernel
theorem dX12_mending_24 : decode cX12_mending 24 = .ok (.aload_n 0, 1) := by decide +kernel
theorem dX12_mending_25 : decode cX12_mending 25 = .ok (.iload 6, 2) := by decide +kernel
theorem dX12_mending_27 : decode cX12_mending 27 = .ok (.putfield 62, 3) := by decide +kernel
theorem dX12_mending_30 : decode cX12_mending 30 = .ok (.aload_n 0, 1) := by decide +kernel
theorem dX12_mending_31 : decode cX12_mending 31 = .ok (.invokevirtual 380, 3) := by decide +kernel
theorem dX12_mending_34 : decode cX12_mending 34 = .ok (.lload_n 1, 1) := by decide +kernel
theorem dX12_mending_35 : decode cX12_mending 35 = .ok (.lsub, 1) := by decide +kernel
theorem dX12_mending_36 : decode cX12_mending 36 = .ok (.lstore 7, 2) := by decide +kernel
theorem dX12_mending_38 : decode cX12_mending 38 = .ok (.aload_n 0, 1) := by decide +kernel
theorem dX12_mending_39 : decode cX12_mending 39 = .ok (.iconst (-1), 1) := by decide +kernel
theorem dX12_mending_40 : decode cX12_mending 40 = .ok (.putfield 62, 3) := by decide +kernel
theorem dX12_mending_43 : decode cX12_mending 43 = .ok (.lload 7, 2) := by decide +kernel
theorem dX12_mending_45 : decode cX12_mending 45 = .ok (.lload_n 3, 1) := by decide +kernel
theorem dX12_mending_46 : decode cX12_mending 46 = .ok (.lcmp, 1) := by decide +kernel
theorem dX12_mending_47 : decode cX12_mending 47 = .ok (.ifCond .gt 6, 3) := by decide +kernel
theorem dX12_mending_50 : decode cX12_mending 50 = .ok (.goto 10, 3) := by decide +kernel
theorem dX12_mending_53 : decode cX12_mending 53 = .ok (.lload 7, 2) := by decide +kernel
theorem dX12_mending_55 : decode cX12_mending 55 = .ok (.lstore_n 3, 1) := by decide +kernel
theorem dX12_mending_56 : decode cX12_mending 56 = .ok (.iload 6, 2) := by decide +kernel
theorem dX12_mending_58 : decode cX12_mending 58 = .ok (.istore 5, 2) := by decide +kernel
theorem dX12_mending_60 : decode cX12_mending 60 = .ok (.iinc 6 1, 3) := by decide +kernel
theorem dX12_mending_63 : decode cX12_mending 63 = .ok (.goto (-50), 3) := by decide +kernel
theorem dX12_mending_66 : decode cX12_mending 66 = .ok (.iload 5, 2) := by decide +kernel
theorem dX12_mending_68 : decode cX12_mending 68 = .ok (.iconst (-1), 1) := by decide +kernel
theorem dX12_mending_69 : decode cX12_mending 69 = .ok (.if_icmp .ne 10, 3) := by decide +kernel
theorem dX12_mending_72 : decode cX12_mending 72 = .ok (.aload_n 0, 1) := by decide +kernel
theorem dX12_mending_73 : decode cX12_mending 73 = .ok (.bipush 6, 2) := by decide +kernel
theorem dX12_mending_75 : decode cX12_mending 75 = .ok (.invokevirtual 87, 3) := by decide +kernel
theorem dX12_mending_78 : decode cX12_mending 78 = .ok (.ireturn, 1) := by decide +kernel
theorem dX12_mending_79 : decode cX12_mending 79 = .ok (.aload_n 0, 1) := by decide +kernel
theorem dX12_mending_80 : decode cX12_mending 80 = .ok (.lload_n 3, 1) := by decide +kernel
theorem dX12_mending_81 : decode cX12_mending 81 = .ok (.aload_n 0, 1) := by decide +kernel
theorem dX12_mending_82 : decode cX12_mending 82 = .ok (.invokevirtual 331, 3) := by decide +kernel
theorem dX12_mending_85 : decode cX12_mending 85 = .ok (.invokevirtual 353, 3) := by decide +kernel
theorem dX12_mending_88 : decode cX12_mending 88 = .ok (.ifCond .eq 12, 3) := by decide +kernel
theorem dX12_mending_91 : decode cX12_mending 91 = .ok (.aload_n 0, 1) := by decide +kernel
theorem dX12_mending_92 : decode cX12_mending 92 = .ok (.iload 5, 2) := by decide +kernel
theorem dX12_mending_94 : decode cX12_mending 94 = .ok (.invokevirtual 91, 3) := by decide +kernel
theorem dX12_mending_97 : decode cX12_mending 97 = .ok (.goto 4, 3) := by decide +kernel
theorem dX12_mending_100 : decode cX12_mending 100 = .ok (.iconst (-1), 1) := by decide +kernel
theorem dX12_mending_101 : decode cX12_mending 101 = .ok (.ireturn, 1) := by decide +kernel
set_option maxRecDepth 100000 in
theorem f_X12_mending_L13_ok {E : EnvT} {C : Cx} {Mi : Mem} {x0 : Int} (h0 : x0 ≠ 0) (hC : CxOK E C cX12_mending 9 yX12_mending.cls 10 0 0) {r0 : Int} {M0 : Mem} (hq : RQ E C 0 0 Mi (some .int) (some (0, r0)) M0) {v1 : Int} {k : Int → Int → Mem → Option (Int × Mem)} (hk : ∀ q16 q17 M18, Bk E C 9 Mi (r0, M0) 66 [(0, 30, x0), (3, 1, q16), (5, 0, q17)] [] M18 0 0 (k q16 q17 M18)) : ∀ (n : Nat) (p3 : Int) (p4 : Int) (p5 : Int) (M6 : Mem), Bk E C 9 Mi (r0, M0) 13 [(0, 30, x0), (1, 1, v1), (3, 1, p3), (5, 0, p4), (6, 0, p5)] [] M6 0 0 (f_X12_mending_L13 v1 x0 k n p3 p4 p5 M6) := by
  intro n
  induction n with
  | zero =>
    intro p3 p4 p5 M6
    exact r_none
  | succ n ih =>
    intro p3 p4 p5 M6
    rw [f_X12_mending_L13]
    refine r_iload 13 hC 4 rfl dX12_mending_13 ?_
    refine r_aload_n 15 hC 0 rfl (Or.inl (by decide)) rfl dX12_mending_15 ?_
    refine r_get 16 hC fd_10_0 fl_X12_7 dX12_mending_16 (fun v7 => ?_)
    refine r_iconst 19 hC (r32c rfl) dX12_mending_19 ?_
    refine r_iaload 20 hC dX12_mending_20 (fun v8 => ?_)
    refine r_icmp_ge 21 hC (tgt := 66) (by decide) dX12_mending_21 ?_ ?_
    · exact r_sub [0, 2, 3] rfl (hk p3 p4 M6)
    · refine r_aload_n 24 hC 0 rfl (Or.inl (by decide)) rfl dX12_mending_24 ?_
      refine r_iload 25 hC 4 rfl dX12_mending_25 ?_
      refine r_put 27 hC fd_10_34 fl_X12_62 dX12_mending_27 (fun M9 => ?_)
      refine r_aload_n 30 hC 0 rfl (Or.inl (by decide)) rfl dX12_mending_30 ?_
      refine r_callVI 31 hC [] [] rfl vl_X12_380 rfl h0 (by decide) (Nat.le_of_ble_eq_true rfl) (by decide) (by decide) dX12_mending_31 (t_X12_allWater x0 M9 h0) (fun v10 M11 => ?_)
      refine r_lload_n 34 hC 1 rfl rfl dX12_mending_34 ?_
      refine r_lsub 35 hC dX12_mending_35 ?_
      refine r_lstoreL 36 hC (by decide) dX12_mending_36 (fun v12 => r_eqls (ls' := [(7, 1, v12), (0, 30, x0), (1, 1, v1), (3, 1, p3), (5, 0, p4), (6, 0, p5)]) rfl ?_)
      refine r_aload_n 38 hC 1 rfl (Or.inl (by decide)) rfl dX12_mending_38 ?_
      refine r_iconst 39 hC (r32c rfl) dX12_mending_39 ?_
      refine r_put 40 hC fd_10_34 fl_X12_62 dX12_mending_40 (fun M13 => ?_)
      refine r_lload 43 hC 0 rfl dX12_mending_43 ?_
      refine r_lload_n 45 hC 3 rfl rfl dX12_mending_45 ?_
      refine r_jn (P := fun j60 => ∀ (q14 : Int) (q15 : Int), Bk E C 9 Mi (r0, M0) 60 [(0, 30, x0), (1, 1, v1), (3, 1, q14), (5, 0, q15), (6, 0, p5)] [] M13 0 0 (j60 q14 q15)) ?_ (fun j60 hj60 => ?_)
      · intro q14 q15
        refine r_iinc 60 hC 4 rfl (by decide) dX12_mending_60 (r_eqls (ls' := [(6, 0, w32 (p5 + 1)), (0, 30, x0), (1, 1, v1), (3, 1, q14), (5, 0, q15)]) rfl ?_)
        refine r_goto 63 hC (tgt := 13) (by decide) dX12_mending_63 ?_
        exact r_sub [1, 2, 3, 4, 0] rfl (ih q14 q15 (w32 (p5 + 1)) M13)
      refine r_lcmp_gt 46 hC (tgt := 53) (by decide) dX12_mending_46 dX12_mending_47 ?_ ?_
      · refine r_lload 53 hC 0 rfl dX12_mending_53 ?_
        refine r_lstore_n 55 hC rfl (by decide) dX12_mending_55 (r_eqls (ls' := [(3, 1, v12), (7, 1, v12), (0, 30, x0), (1, 1, v1), (5, 0, p4), (6, 0, p5)]) rfl ?_)
        refine r_iload 56 hC 5 rfl dX12_mending_56 ?_
        refine r_istore 58 hC (by decide) dX12_mending_58 (r_eqls (ls' := [(5, 0, p5), (3, 1, v12), (7, 1, v12), (0, 30, x0), (1, 1, v1), (6, 0, p5)]) rfl ?_)
        exact r_sub [3, 4, 1, 0, 5] rfl (hj60 v12 p5)
      · refine r_goto 50 hC (tgt := 60) (by decide) dX12_mending_50 ?_
        exact r_sub [1, 2, 3, 4, 5] rfl (hj60 p3 p4)
set_option maxRecDepth 100000 in
theorem t_X12_mending (x0 : Int) (M : Mem) (h0 : x0 ≠ 0) : MtI yX12_mending cX12_mending 9 (some .int) 10 0 0 [(30, x0)] M 0 (f_X12_mending x0 M) := by
  refine mk_I (by decide +kernel) (Nat.le_of_ble_eq_true rfl) (fun E C r0 M0 hC hq hin => ?_)
  refine r_eqls (ls' := [(0, 30, x0)]) rfl ?_
  unfold f_X12_mending
  refine r_aload_n 0 hC 0 rfl (Or.inl (by decide)) rfl dX12_mending_0 ?_
  refine r_callVI 1 hC [] [] rfl vl_X12_380 rfl h0 (by decide) (Nat.le_of_ble_eq_true rfl) (by decide) (by decide) dX12_mending_1 (t_X12_allWater x0 M h0) (fun v1 M2 => ?_)
  refine r_lstore_n 4 hC rfl (by decide) dX12_mending_4 (r_eqls (ls' := [(1, 1, v1), (0, 30, x0)]) rfl ?_)
  refine r_lconst 5 hC (x := 0) ⟨by decide +kernel, r64c rfl⟩ dX12_mending_5 ?_
  refine r_lstore_n 6 hC rfl (by decide) dX12_mending_6 (r_eqls (ls' := [(3, 1, 0), (1, 1, v1), (0, 30, x0)]) rfl ?_)
  refine r_iconst 7 hC (r32c rfl) dX12_mending_7 ?_
  refine r_istore 8 hC (by decide) dX12_mending_8 (r_eqls (ls' := [(5, 0, (-1)), (3, 1, 0), (1, 1, v1), (0, 30, x0)]) rfl ?_)
  refine r_iconst 10 hC (r32c rfl) dX12_mending_10 ?_
  refine r_istore 11 hC (by decide) dX12_mending_11 (r_eqls (ls' := [(6, 0, 0), (5, 0, (-1)), (3, 1, 0), (1, 1, v1), (0, 30, x0)]) rfl ?_)
  refine r_sub [4, 3, 2, 1, 0] rfl (f_X12_mending_L13_ok h0 hC hq (fun q19 q20 M21 => ?_) KF 0 (-1) 0 M2)
  · refine r_iload 66 hC 2 rfl dX12_mending_66 ?_
    refine r_iconst 68 hC (r32c rfl) dX12_mending_68 ?_
    refine r_icmp_ne 69 hC (tgt := 79) (by decide) dX12_mending_69 ?_ ?_
    · refine r_aload_n 79 hC 0 rfl (Or.inl (by decide)) rfl dX12_mending_79 ?_
      refine r_lload_n 80 hC 1 rfl rfl dX12_mending_80 ?_
      refine r_aload_n 81 hC 0 rfl (Or.inl (by decide)) rfl dX12_mending_81 ?_
      refine r_callVP 82 hC [] [(1, q19), (30, x0)] rfl vl_X12_331 rfl h0 (by decide) (Nat.le_of_ble_eq_true rfl) (by decide) (by decide) dX12_mending_82 (t_X12_litre x0 M21 h0) (fun v22 => ?_)
      refine r_callVI 85 hC [(1, q19), (1, v22)] [] rfl vl_X12_353 rfl h0 (by decide) (Nat.le_of_ble_eq_true rfl) (by decide) (by decide) dX12_mending_85 (t_X12_tellsBy x0 q19 v22 M21 h0) (fun v23 M24 => ?_)
      refine r_jn (P := fun j101 => ∀ (q25 : Int) (M26 : Mem), Bk E C 9 M (r0, M0) 101 [] [(0, q25)] M26 0 0 (j101 q25 M26)) ?_ (fun j101 hj101 => ?_)
      · intro q25 M26
        exact r_ireturn 101 hC hq (by decide) (by decide) dX12_mending_101
      refine r_if_eq 88 hC (tgt := 100) (by decide) dX12_mending_88 ?_ ?_
      · refine r_iconst 100 hC (r32c rfl) dX12_mending_100 ?_
        exact r_sub [] rfl (hj101 (-1) M24)
      · refine r_aload_n 91 hC 0 rfl (Or.inl (by decide)) rfl dX12_mending_91 ?_
        refine r_iload 92 hC 2 rfl dX12_mending_92 ?_
        refine r_callVI 94 hC [(0, q20)] [] rfl vl_X12_91 rfl h0 (by decide) (Nat.le_of_ble_eq_true rfl) (by decide) (by decide) dX12_mending_94 (t_X12_gives x0 q20 M24 h0) (fun v27 M28 => ?_)
        refine r_goto 97 hC (tgt := 101) (by decide) dX12_mending_97 ?_
        exact r_sub [] rfl (hj101 v27 M28)
    · refine r_aload_n 72 hC 0 rfl (Or.inl (by decide)) rfl dX12_mending_72 ?_
      refine r_bipush 73 hC kb_6 dX12_mending_73 ?_
      refine r_callVI 75 hC [(0, 6)] [] rfl vl_X12_87 rfl h0 (by decide) (Nat.le_of_ble_eq_true rfl) (by decide) (by decide) dX12_mending_75 (t_X12_refuse x0 6 M21 h0) (fun v29 M30 => ?_)
      exact r_ireturn 78 hC hq (by decide) (by decide) dX12_mending_78

/-! WaterTurnsModel.off()Z -/
theorem dX12_off_0 : decode cX12_off 0 = .ok (.aload_n 0, 1) := by decide +kernel
theorem dX12_off_1 : decode cX12_off 1 = .ok (.getfield 7, 3) := by decide +kernel
theorem dX12_off_4 : decode cX12_off 4 = .ok (.iconst 5, 1) := by decide +kernel
theorem dX12_off_5 : decode cX12_off 5 = .ok (.iaload, 1) := by decide +kernel
theorem dX12_off_6 : decode cX12_off 6 = .ok (.ifCond .ne 10, 3) := by decide +kernel
theorem dX12_off_9 : decode cX12_off 9 = .ok (.aload_n 0, 1) := by decide +kernel
theorem dX12_off_10 : decode cX12_off 10 = .ok (.bipush 6, 2) := by decide +kernel
theorem dX12_off_12 : decode cX12_off 12 = .ok (.invokevirtual 94, 3) := by decide +kernel
theorem dX12_off_15 : decode cX12_off 15 = .ok (.ireturn, 1) := by decide +kernel
theorem dX12_off_16 : decode cX12_off 16 = .ok (.aload_n 0, 1) := by decide +kernel
theorem dX12_off_17 : decode cX12_off 17 = .ok (.invokevirtual 281, 3) := by decide +kernel
theorem dX12_off_20 : decode cX12_off 20 = .ok (.istore_n 1, 1) := by decide +kernel
theorem dX12_off_21 : decode cX12_off 21 = .ok (.iconst 0, 1) := by decide +kernel
theorem dX12_off_22 : decode cX12_off 22 = .ok (.istore_n 2, 1) := by decide +kernel
theorem dX12_off_23 : decode cX12_off 23 = .ok (.iconst 0, 1) := by decide +kernel
theorem dX12_off_24 : decode cX12_off 24 = .ok (.istore_n 3, 1) := by decide +kernel
theorem dX12_off_25 : decode cX12_off 25 = .ok (.iload_n 3, 1) := by decide +kernel
theorem dX12_off_26 : decode cX12_off 26 = .ok (.aload_n 0, 1) := by decide +kernel
theorem dX12_off_27 : decode cX12_off 27 = .ok (.getfield 7, 3) := by decide +kernel
theorem dX12_off_30 : decode cX12_off 30 = .ok (.iconst 5, 1) := by decide +kernel
theorem dX12_off_31 : decode cX12_off 31 = .ok (.iaload, 1) := by decide +kernel
theorem dX12_off_32 : decode cX12_off 32 = .ok (.if_icmp .ge 38, 3) := by decide +kernel
theorem dX12_off_35 : decode cX12_off 35 = .ok (.iload_n 2, 1) := by decide +kernel
theorem dX12_off_36 : decode cX12_off 36 = .ok (.aload_n 0, 1) := by decide +kernel
theorem dX12_off_37 : decode cX12_off 37 = .ok (.iload_n 3, 1) := by decide +kernel
theorem dX12_off_38 : decode cX12_off 38 = .ok (.invokevirtual 290, 3) := by decide +kernel
theorem dX12_off_41 : decode cX12_off 41 = .ok (.iload_n 1, 1) := by decide +kernel
theorem dX12_off_42 : decode cX12_off 42 = .ok (.imul, 1) := by decide +kernel
theorem dX12_off_43 : decode cX12_off 43 = .ok (.aload_n 0, 1) := by decide +kernel
theorem dX12_off_44 : decode cX12_off 44 = .ok (.getfield 7, 3) := by decide +kernel
theorem dX12_off_47 : decode cX12_off 47 = .ok (.iconst 1, 1) := by decide +kernel
theorem dX12_off_48 : decode cX12_off 48 = .ok (.iaload, 1) := by decide +kernel
theorem dX12_off_49 : decode cX12_off 49 = .ok (.aload_n 0, 1) := by decide +kernel
theorem dX12_off_50 : decode cX12_off 50 = .ok (.iload_n 3, 1) := by decide +kernel
theorem dX12_off_51 : decode cX12_off 51 = .ok (.iconst 1, 1) := by decide +kernel
theorem dX12_off_52 : decode cX12_off 52 = .ok (.invokevirtual 269, 3) := by decide +kernel
theorem dX12_off_55 : decode cX12_off 55 = .ok (.imul, 1) := by decide +kernel
theorem dX12_off_56 : decode cX12_off 56 = .ok (.isub, 1) := by decide +kernel
theorem dX12_off_57 : decode cX12_off 57 = .ok (.invokestatic 383, 3) := by decide +kernel
theorem dX12_off_60 : decode cX12_off 60 = .ok (.invokestatic 386, 3) := by decide +kernel
theorem dX12_off_63 : decode cX12_off 63 = .ok (.istore_n 2, 1) := by decide +kernel
theorem dX12_off_64 : decode cX12_off 64 = .ok (.iinc 3 1, 3) := by decide +kernel
theorem dX12_off_67 : decode cX12_off 67 = .ok (.goto (-42), 3) := by decide +kernel
theorem dX12_off_70 : decode cX12_off 70 = .ok (.aload_n 0, 1) := by decide +kernel
theorem dX12_off_71 : decode cX12_off 71 = .ok (.iload_n 2, 1) := by decide +kernel
theorem dX12_off_72 : decode cX12_off 72 = .ok (.i2l, 1) := by decide +kernel
theorem dX12_off_73 : decode cX12_off 73 = .ok (.iload_n 1, 1) := by decide +kernel
theorem dX12_off_74 : decode cX12_off 74 = .ok (.i2l, 1) := by decide +kernel
theorem dX12_off_75 : decode cX12_off 75 = .ok (.invokevirtual 353, 3) := by decide +kernel
theorem dX12_off_78 : decode cX12_off 78 = .ok (.ireturn, 1) := by decide +kernel
set_option maxRecDepth 100000 in
theorem f_X12_off_L25_ok {E : EnvT} {C : Cx} {Mi M : Mem} {x0 : Int} (h0 : x0 ≠ 0) (hC : CxOK E C cX12_off 4 yX12_off.cls 5 0 0) {r0 : Int} {M0 : Mem} (hq : RQ E C 0 0 Mi (some .boolean) (some (0, r0)) M0) {v3 : Int} {k : Int → Option (Int × Mem)} (hk : ∀ q14, Bk E C 4 Mi (r0, M0) 70 [(0, 30, x0), (1, 0, v3), (2, 0, q14)] [] M 0 0 (k q14)) : ∀ (n : Nat) (p4 : Int) (p5 : Int), Bk E C 4 Mi (r0, M0) 25 [(0, 30, x0), (1, 0, v3), (2, 0, p4), (3, 0, p5)] [] M 0 0 (f_X12_off_L25 M v3 x0 k n p4 p5) := by
  intro n
  induction n with
  | zero =>
    intro p4 p5
    exact r_none
  | succ n ih =>
    intro p4 p5
    rw [f_X12_off_L25]
    refine r_iload_n 25 hC 3 rfl rfl dX12_off_25 ?_
    refine r_aload_n 26 hC 0 rfl (Or.inl (by decide)) rfl dX12_off_26 ?_
    refine r_get 27 hC fd_10_0 fl_X12_7 dX12_off_27 (fun v6 => ?_)
    refine r_iconst 30 hC (r32c rfl) dX12_off_30 ?_
    refine r_iaload 31 hC dX12_off_31 (fun v7 => ?_)
    refine r_icmp_ge 32 hC (tgt := 70) (by decide) dX12_off_32 ?_ ?_
    · exact r_sub [0, 1, 2] rfl (hk p4)
    · refine r_iload_n 35 hC 2 rfl rfl dX12_off_35 ?_
      refine r_aload_n 36 hC 0 rfl (Or.inl (by decide)) rfl dX12_off_36 ?_
      refine r_iload_n 37 hC 3 rfl rfl dX12_off_37 ?_
      refine r_callVP 38 hC [(0, p5)] [(0, p4)] rfl vl_X12_290 rfl h0 (by decide) (Nat.le_of_ble_eq_true rfl) (by decide) (by decide) dX12_off_38 (t_X12_turnMany x0 p5 M h0) (fun v8 => ?_)
      refine r_iload_n 41 hC 1 rfl rfl dX12_off_41 ?_
      refine r_imul 42 hC dX12_off_42 ?_
      refine r_aload_n 43 hC 0 rfl (Or.inl (by decide)) rfl dX12_off_43 ?_
      refine r_get 44 hC fd_10_0 fl_X12_7 dX12_off_44 (fun v9 => ?_)
      refine r_iconst 47 hC (r32c rfl) dX12_off_47 ?_
      refine r_iaload 48 hC dX12_off_48 (fun v10 => ?_)
      refine r_aload_n 49 hC 0 rfl (Or.inl (by decide)) rfl dX12_off_49 ?_
      refine r_iload_n 50 hC 3 rfl rfl dX12_off_50 ?_
      refine r_iconst 51 hC (r32c rfl) dX12_off_51 ?_
      refine r_callVP 52 hC [(0, p5), (0, 1)] [(0, v10), (0, w32 (v8 * v3)), (0, p4)] rfl vl_X12_269 rfl h0 (by decide) (Nat.le_of_ble_eq_true rfl) (by decide) (by decide) dX12_off_52 (t_X12_ofField x0 p5 1 M h0) (fun v11 => ?_)
      refine r_imul 55 hC dX12_off_55 ?_
      refine r_isub 56 hC dX12_off_56 ?_
      refine r_callSP 57 hC [(0, w32 ((w32 (v8 * v3)) - (w32 (v10 * v11))))] [(0, p4)] rfl sl_X12_383 rfl (by decide) (Nat.le_of_ble_eq_true rfl) (by decide) (by decide) dX12_off_57 (t_J9_abs_0f7a4 (w32 ((w32 (v8 * v3)) - (w32 (v10 * v11)))) M) (fun v12 => ?_)
      refine r_callSP 60 hC [(0, p4), (0, v12)] [] rfl sl_X12_386 rfl (by decide) (Nat.le_of_ble_eq_true rfl) (by decide) (by decide) dX12_off_60 (t_J9_max_7cf53 p4 v12 M) (fun v13 => ?_)
      refine r_istore_n 63 hC rfl (by decide) dX12_off_63 (r_eqls (ls' := [(2, 0, v13), (0, 30, x0), (1, 0, v3), (3, 0, p5)]) rfl ?_)
      refine r_iinc 64 hC 3 rfl (by decide) dX12_off_64 (r_eqls (ls' := [(3, 0, w32 (p5 + 1)), (2, 0, v13), (0, 30, x0), (1, 0, v3)]) rfl ?_)
      refine r_goto 67 hC (tgt := 25) (by decide) dX12_off_67 ?_
      exact r_sub [2, 3, 1, 0] rfl (ih v13 (w32 (p5 + 1)))
set_option maxRecDepth 100000 in
theorem t_X12_off (x0 : Int) (M : Mem) (h0 : x0 ≠ 0) : MtI yX12_off cX12_off 4 (some .boolean) 5 0 0 [(30, x0)] M 0 (f_X12_off x0 M) := by
  refine mk_I (by decide +kernel) (Nat.le_of_ble_eq_true rfl) (fun E C r0 M0 hC hq hin => ?_)
  refine r_eqls (ls' := [(0, 30, x0)]) rfl ?_
  unfold f_X12_off
  refine r_aload_n 0 hC 0 rfl (Or.inl (by decide)) rfl dX12_off_0 ?_
  refine r_get 1 hC fd_10_0 fl_X12_7 dX12_off_1 (fun v1 => ?_)
  refine r_iconst 4 hC (r32c rfl) dX12_off_4 ?_
  refine r_iaload 5 hC dX12_off_5 (fun v2 => ?_)
  refine r_if_ne 6 hC (tgt := 16) (by decide) dX12_off_6 ?_ ?_
  · refine r_aload_n 16 hC 0 rfl (Or.inl (by decide)) rfl dX12_off_16 ?_
    refine r_callVP 17 hC [] [] rfl vl_X12_281 rfl h0 (by decide) (Nat.le_of_ble_eq_true rfl) (by decide) (by decide) dX12_off_17 (t_X12_allShares x0 M h0) (fun v3 => ?_)
    refine r_istore_n 20 hC rfl (by decide) dX12_off_20 (r_eqls (ls' := [(1, 0, v3), (0, 30, x0)]) rfl ?_)
    refine r_iconst 21 hC (r32c rfl) dX12_off_21 ?_
    refine r_istore_n 22 hC rfl (by decide) dX12_off_22 (r_eqls (ls' := [(2, 0, 0), (1, 0, v3), (0, 30, x0)]) rfl ?_)
    refine r_iconst 23 hC (r32c rfl) dX12_off_23 ?_
    refine r_istore_n 24 hC rfl (by decide) dX12_off_24 (r_eqls (ls' := [(3, 0, 0), (2, 0, 0), (1, 0, v3), (0, 30, x0)]) rfl ?_)
    refine r_sub [3, 2, 1, 0] rfl (f_X12_off_L25_ok h0 hC hq (fun q15 => ?_) KF 0 0)
    · refine r_aload_n 70 hC 0 rfl (Or.inl (by decide)) rfl dX12_off_70 ?_
      refine r_iload_n 71 hC 2 rfl rfl dX12_off_71 ?_
      refine r_i2l 72 hC dX12_off_72 ?_
      refine r_iload_n 73 hC 1 rfl rfl dX12_off_73 ?_
      refine r_i2l 74 hC dX12_off_74 ?_
      refine r_callVI 75 hC [(1, q15), (1, v3)] [] rfl vl_X12_353 rfl h0 (by decide) (Nat.le_of_ble_eq_true rfl) (by decide) (by decide) dX12_off_75 (t_X12_tellsBy x0 q15 v3 M h0) (fun v16 M17 => ?_)
      exact r_zreturn 78 hC hq (by decide) (by decide) dX12_off_78
  · refine r_aload_n 9 hC 0 rfl (Or.inl (by decide)) rfl dX12_off_9 ?_
    refine r_bipush 10 hC kb_6 dX12_off_10 ?_
    refine r_callVI 12 hC [(0, 6)] [] rfl vl_X12_94 rfl h0 (by decide) (Nat.le_of_ble_eq_true rfl) (by decide) (by decide) dX12_off_12 (t_X12_is x0 6 M h0) (fun v18 M19 => ?_)
    exact r_zreturn 15 hC hq (by decide) (by decide) dX12_off_15

/-! WaterTurnsModel.laysWet()V -/
theorem dX12_laysWet_0 : decode cX12_laysWet 0 = .ok (.aload_n 0, 1) := by decide +kernel
theorem dX12_laysWet_1 : decode cX12_laysWet 1 = .ok (.invokevirtual 316, 3) := by decide +kernel
theorem dX12_laysWet_4 : decode cX12_laysWet 4 = .ok (.iconst 0, 1) := by decide +kernel
theorem dX12_laysWet_5 : decode cX12_laysWet 5 = .ok (.istore_n 1, 1) := by decide +kernel
theorem dX12_laysWet_6 : decode cX12_laysWet 6 = .ok (.iload_n 1, 1) := by decide +kernel
theorem dX12_laysWet_7 : decode cX12_laysWet 7 = .ok (.sipush 1440, 3) := by decide +kernel
theorem dX12_laysWet_10 : decode cX12_laysWet 10 = .ok (.if_icmp .ge 16, 3) := by decide +kernel
theorem dX12_laysWet_13 : decode cX12_laysWet 13 = .ok (.aload_n 0, 1) := by decide +kernel
theorem dX12_laysWet_14 : decode cX12_laysWet 14 = .ok (.getfield 65, 3) := by decide +kernel
theorem dX12_laysWet_17 : decode cX12_laysWet 17 = .ok (.iload_n 1, 1) := by decide +kernel
theorem dX12_laysWet_18 : decode cX12_laysWet 18 = .ok (.iconst (-1), 1) := by decide +kernel
theorem dX12_laysWet_19 : decode cX12_laysWet 19 = .ok (.iastore, 1) := by decide +kernel
theorem dX12_laysWet_20 : decode cX12_laysWet 20 = .ok (.iinc 1 1, 3) := by decide +kernel
theorem dX12_laysWet_23 : decode cX12_laysWet 23 = .ok (.goto (-17), 3) := by decide +kernel
theorem dX12_laysWet_26 : decode cX12_laysWet 26 = .ok (.iconst 0, 1) := by decide +kernel
theorem dX12_laysWet_27 : decode cX12_laysWet 27 = .ok (.istore_n 1, 1) := by decide +kernel
theorem dX12_laysWet_28 : decode cX12_laysWet 28 = .ok (.iload_n 1, 1) := by decide +kernel
theorem dX12_laysWet_29 : decode cX12_laysWet 29 = .ok (.aload_n 0, 1) := by decide +kernel
theorem dX12_laysWet_30 : decode cX12_laysWet 30 = .ok (.getfield 310, 3) := by decide +kernel
theorem dX12_laysWet_33 : decode cX12_laysWet 33 = .ok (.if_icmp .ge 80, 3) := by decide +kernel
theorem dX12_laysWet_36 : decode cX12_laysWet 36 = .ok (.aload_n 0, 1) := by decide +kernel
theorem dX12_laysWet_37 : decode cX12_laysWet 37 = .ok (.getfield 53, 3) := by decide +kernel
theorem dX12_laysWet_40 : decode cX12_laysWet 40 = .ok (.iload_n 1, 1) := by decide +kernel
theorem dX12_laysWet_41 : decode cX12_laysWet 41 = .ok (.iaload, 1) := by decide +kernel
theorem dX12_laysWet_42 : decode cX12_laysWet 42 = .ok (.istore_n 2, 1) := by decide +kernel
theorem dX12_laysWet_43 : decode cX12_laysWet 43 = .ok (.aload_n 0, 1) := by decide +kernel
theorem dX12_laysWet_44 : decode cX12_laysWet 44 = .ok (.iload_n 2, 1) := by decide +kernel
theorem dX12_laysWet_45 : decode cX12_laysWet 45 = .ok (.invokevirtual 349, 3) := by decide +kernel
theorem dX12_laysWet_48 : decode cX12_laysWet 48 = .ok (.lconst 0, 1) := by decide +kernel
theorem dX12_laysWet_49 : decode cX12_laysWet 49 = .ok (.lcmp, 1) := by decide +kernel
theorem dX12_laysWet_50 : decode cX12_laysWet 50 = .ok (.ifCond .ne 6, 3) := by decide +kernel
theorem dX12_laysWet_53 : decode cX12_laysWet 53 = .ok (.goto 54, 3) := by decide +kernel
theorem dX12_laysWet_56 : decode cX12_laysWet 56 = .ok (.aload_n 0, 1) := by decide +kernel
theorem dX12_laysWet_57 : decode cX12_laysWet 57 = .ok (.getfield 56, 3) := by decide +kernel
theorem dX12_laysWet_60 : decode cX12_laysWet 60 = .ok (.iload_n 1, 1) := by decide +kernel
theorem dX12_laysWet_61 : decode cX12_laysWet 61 = .ok (.iaload, 1) := by decide +kernel
theorem dX12_laysWet_62 : decode cX12_laysWet 62 = .ok (.istore_n 3, 1) := by decide +kernel
theorem dX12_laysWet_63 : decode cX12_laysWet 63 = .ok (.iload_n 3, 1) := by decide +kernel
theorem dX12_laysWet_64 : decode cX12_laysWet 64 = .ok (.aload_n 0, 1) := by decide +kernel
theorem dX12_laysWet_65 : decode cX12_laysWet 65 = .ok (.getfield 56, 3) := by decide +kernel
theorem dX12_laysWet_68 : decode cX12_laysWet 68 = .ok (.iload_n 1, 1) := by decide +kernel
theorem dX12_laysWet_69 : decode cX12_laysWet 69 = .ok (.iaload, 1) := by decide +kernel
theorem dX12_laysWet_70 : decode cX12_laysWet 70 = .ok (.aload_n 0, 1) := by decide +kernel
theorem dX12_laysWet_71 : decode cX12_laysWet 71 = .ok (.getfield 59, 3) := by decide +kernel
theorem dX12_laysWet_74 : decode cX12_laysWet 74 = .ok (.iload_n 1, 1) := by decide +kernel
theorem dX12_laysWet_75 : decode cX12_laysWet 75 = .ok (.iaload, 1) := by decide +kernel
theorem dX12_laysWet_76 : decode cX12_laysWet 76 = .ok (.iadd, 1) := by decide +kernel
theorem dX12_laysWet_77 : decode cX12_laysWet 77 = .ok (.if_icmp .ge 30, 3) := by decide +kernel
theorem dX12_laysWet_80 : decode cX12_laysWet 80 = .ok (.aload_n 0, 1) := by decide +kernel
theorem dX12_laysWet_81 : decode cX12_laysWet 81 = .ok (.aload_n 0, 1) := by decide +kernel
theorem dX12_laysWet_82 : decode cX12_laysWet 82 = .ok (.iload_n 2, 1) := by decide +kernel
theorem dX12_laysWet_83 : decode cX12_laysWet 83 = .ok (.iconst 0, 1) := by decide +kernel
theorem dX12_laysWet_84 : decode cX12_laysWet 84 = .ok (.invokevirtual 269, 3) := by decide +kernel
theorem dX12_laysWet_87 : decode cX12_laysWet 87 = .ok (.iload_n 3, 1) := by decide +kernel
theorem dX12_laysWet_88 : decode cX12_laysWet 88 = .ok (.invokevirtual 322, 3) := by decide +kernel
theorem dX12_laysWet_91 : decode cX12_laysWet 91 = .ok (.ifCond .eq 10, 3) := by decide +kernel
theorem dX12_laysWet_94 : decode cX12_laysWet 94 = .ok (.aload_n 0, 1) := by decide +kernel
theorem dX12_laysWet_95 : decode cX12_laysWet 95 = .ok (.getfield 65, 3) := by decide +kernel
theorem dX12_laysWet_98 : decode cX12_laysWet 98 = .ok (.iload_n 3, 1) := by decide +kernel
theorem dX12_laysWet_99 : decode cX12_laysWet 99 = .ok (.iload_n 2, 1) := by decide +kernel
theorem dX12_laysWet_100 : decode cX12_laysWet 100 = .ok (.iastore, 1) := by decide +kernel
theorem dX12_laysWet_101 : decode cX12_laysWet 101 = .ok (.iinc 3 1, 3) := by decide +kernel
theorem dX12_laysWet_104 : decode cX12_laysWet 104 = .ok (.goto (-41), 3) := by decide +kernel
theorem dX12_laysWet_107 : decode cX12_laysWet 107 = .ok (.iinc 1 1, 3) := by decide +kernel
theorem dX12_laysWet_110 : decode cX12_laysWet 110 = .ok (.goto (-82), 3) := by decide +kernel
theorem dX12_laysWet_113 : decode cX12_laysWet 113 = .ok (.return_, 1) := by decide +kernel
set_option maxRecDepth 100000 in
theorem f_X12_laysWet_L6_ok {E : EnvT} {C : Cx} {Mi : Mem} {x0 : Int} (h0 : x0 ≠ 0) (hC : CxOK E C cX12_laysWet 4 yX12_laysWet.cls 7 0 0) {M0 : Mem} (hq : RQ E C 0 0 Mi none none M0) {k : Mem → Option (Mem)} (hk : ∀ M6, Bk E C 4 Mi M0 26 [(0, 30, x0)] [] M6 0 0 (k M6)) : ∀ (n : Nat) (p2 : Int) (M3 : Mem), Bk E C 4 Mi M0 6 [(0, 30, x0), (1, 0, p2)] [] M3 0 0 (f_X12_laysWet_L6 x0 k n p2 M3) := by
  intro n
  induction n with
  | zero =>
    intro p2 M3
    exact r_none
  | succ n ih =>
    intro p2 M3
    rw [f_X12_laysWet_L6]
    refine r_iload_n 6 hC 1 rfl rfl dX12_laysWet_6 ?_
    refine r_sipush 7 hC ks_1440 dX12_laysWet_7 ?_
    refine r_icmp_ge 10 hC (tgt := 26) (by decide) dX12_laysWet_10 ?_ ?_
    · exact r_sub [0] rfl (hk M3)
    · refine r_aload_n 13 hC 0 rfl (Or.inl (by decide)) rfl dX12_laysWet_13 ?_
      refine r_get 14 hC fd_10_35 fl_X12_65 dX12_laysWet_14 (fun v4 => ?_)
      refine r_iload_n 17 hC 1 rfl rfl dX12_laysWet_17 ?_
      refine r_iconst 18 hC (r32c rfl) dX12_laysWet_18 ?_
      refine r_iastore 19 hC dX12_laysWet_19 (fun M5 => ?_)
      refine r_iinc 20 hC 1 rfl (by decide) dX12_laysWet_20 (r_eqls (ls' := [(1, 0, w32 (p2 + 1)), (0, 30, x0)]) rfl ?_)
      refine r_goto 23 hC (tgt := 6) (by decide) dX12_laysWet_23 ?_
      exact r_sub [1, 0] rfl (ih (w32 (p2 + 1)) M5)
set_option maxRecDepth 100000 in
theorem f_X12_laysWet_L63_ok {E : EnvT} {C : Cx} {Mi : Mem} {x0 : Int} (h0 : x0 ≠ 0) (hC : CxOK E C cX12_laysWet 4 yX12_laysWet.cls 7 0 0) {M0 : Mem} (hq : RQ E C 0 0 Mi none none M0) {p8 v12 : Int} {k : Mem → Option (Mem)} (hk : ∀ M29, Bk E C 4 Mi M0 107 [(0, 30, x0), (1, 0, p8)] [] M29 0 0 (k M29)) : ∀ (n : Nat) (p18 : Int) (M19 : Mem), Bk E C 4 Mi M0 63 [(0, 30, x0), (1, 0, p8), (2, 0, v12), (3, 0, p18)] [] M19 0 0 (f_X12_laysWet_L63 p8 v12 x0 k n p18 M19) := by
  intro n
  induction n with
  | zero =>
    intro p18 M19
    exact r_none
  | succ n ih =>
    intro p18 M19
    rw [f_X12_laysWet_L63]
    refine r_iload_n 63 hC 3 rfl rfl dX12_laysWet_63 ?_
    refine r_aload_n 64 hC 0 rfl (Or.inl (by decide)) rfl dX12_laysWet_64 ?_
    refine r_get 65 hC fd_10_28 fl_X12_56 dX12_laysWet_65 (fun v20 => ?_)
    refine r_iload_n 68 hC 1 rfl rfl dX12_laysWet_68 ?_
    refine r_iaload 69 hC dX12_laysWet_69 (fun v21 => ?_)
    refine r_aload_n 70 hC 0 rfl (Or.inl (by decide)) rfl dX12_laysWet_70 ?_
    refine r_get 71 hC fd_10_29 fl_X12_59 dX12_laysWet_71 (fun v22 => ?_)
    refine r_iload_n 74 hC 1 rfl rfl dX12_laysWet_74 ?_
    refine r_iaload 75 hC dX12_laysWet_75 (fun v23 => ?_)
    refine r_iadd 76 hC dX12_laysWet_76 ?_
    refine r_icmp_ge 77 hC (tgt := 107) (by decide) dX12_laysWet_77 ?_ ?_
    · exact r_sub [0, 1] rfl (hk M19)
    · refine r_aload_n 80 hC 0 rfl (Or.inl (by decide)) rfl dX12_laysWet_80 ?_
      refine r_aload_n 81 hC 0 rfl (Or.inl (by decide)) rfl dX12_laysWet_81 ?_
      refine r_iload_n 82 hC 2 rfl rfl dX12_laysWet_82 ?_
      refine r_iconst 83 hC (r32c rfl) dX12_laysWet_83 ?_
      refine r_callVP 84 hC [(0, v12), (0, 0)] [(30, x0)] rfl vl_X12_269 rfl h0 (by decide) (Nat.le_of_ble_eq_true rfl) (by decide) (by decide) dX12_laysWet_84 (t_X12_ofField x0 v12 0 M19 h0) (fun v24 => ?_)
      refine r_iload_n 87 hC 3 rfl rfl dX12_laysWet_87 ?_
      refine r_callVP 88 hC [(0, v24), (0, p18)] [] rfl vl_X12_322 rfl h0 (by decide) (Nat.le_of_ble_eq_true rfl) (by decide) (by decide) dX12_laysWet_88 (t_X12_comesTo x0 v24 p18 M19 h0) (fun v25 => ?_)
      refine r_jn (P := fun j101 => ∀ (M26 : Mem), Bk E C 4 Mi M0 101 [(0, 30, x0), (1, 0, p8), (2, 0, v12), (3, 0, p18)] [] M26 0 0 (j101 M26)) ?_ (fun j101 hj101 => ?_)
      · intro M26
        refine r_iinc 101 hC 3 rfl (by decide) dX12_laysWet_101 (r_eqls (ls' := [(3, 0, w32 (p18 + 1)), (0, 30, x0), (1, 0, p8), (2, 0, v12)]) rfl ?_)
        refine r_goto 104 hC (tgt := 63) (by decide) dX12_laysWet_104 ?_
        exact r_sub [1, 2, 3, 0] rfl (ih (w32 (p18 + 1)) M26)
      refine r_if_eq 91 hC (tgt := 101) (by decide) dX12_laysWet_91 ?_ ?_
      · exact hj101 M19
      · refine r_aload_n 94 hC 0 rfl (Or.inl (by decide)) rfl dX12_laysWet_94 ?_
        refine r_get 95 hC fd_10_35 fl_X12_65 dX12_laysWet_95 (fun v27 => ?_)
        refine r_iload_n 98 hC 3 rfl rfl dX12_laysWet_98 ?_
        refine r_iload_n 99 hC 2 rfl rfl dX12_laysWet_99 ?_
        refine r_iastore 100 hC dX12_laysWet_100 (fun M28 => ?_)
        exact hj101 M28
set_option maxRecDepth 100000 in
theorem f_X12_laysWet_L28_ok {E : EnvT} {C : Cx} {Mi : Mem} {x0 : Int} (h0 : x0 ≠ 0) (hC : CxOK E C cX12_laysWet 4 yX12_laysWet.cls 7 0 0) {M0 : Mem} (hq : RQ E C 0 0 Mi none none M0) {k : Mem → Option (Mem)} (hk : ∀ M31, Bk E C 4 Mi M0 113 [] [] M31 0 0 (k M31)) : ∀ (n : Nat) (p8 : Int) (M9 : Mem), Bk E C 4 Mi M0 28 [(0, 30, x0), (1, 0, p8)] [] M9 0 0 (f_X12_laysWet_L28 x0 k n p8 M9) := by
  intro n
  induction n with
  | zero =>
    intro p8 M9
    exact r_none
  | succ n ih =>
    intro p8 M9
    rw [f_X12_laysWet_L28]
    refine r_iload_n 28 hC 1 rfl rfl dX12_laysWet_28 ?_
    refine r_aload_n 29 hC 0 rfl (Or.inl (by decide)) rfl dX12_laysWet_29 ?_
    refine r_get 30 hC fd_10_30 fl_X12_310 dX12_laysWet_30 (fun v10 => ?_)
    refine r_icmp_ge 33 hC (tgt := 113) (by decide) dX12_laysWet_33 ?_ ?_
    · exact r_sub [] rfl (hk M9)
    · refine r_aload_n 36 hC 0 rfl (Or.inl (by decide)) rfl dX12_laysWet_36 ?_
      refine r_get 37 hC fd_10_27 fl_X12_53 dX12_laysWet_37 (fun v11 => ?_)
      refine r_iload_n 40 hC 1 rfl rfl dX12_laysWet_40 ?_
      refine r_iaload 41 hC dX12_laysWet_41 (fun v12 => ?_)
      refine r_istore_n 42 hC rfl (by decide) dX12_laysWet_42 (r_eqls (ls' := [(2, 0, v12), (0, 30, x0), (1, 0, p8)]) rfl ?_)
      refine r_aload_n 43 hC 1 rfl (Or.inl (by decide)) rfl dX12_laysWet_43 ?_
      refine r_iload_n 44 hC 0 rfl rfl dX12_laysWet_44 ?_
      refine r_callVI 45 hC [(0, v12)] [] rfl vl_X12_349 rfl h0 (by decide) (Nat.le_of_ble_eq_true rfl) (by decide) (by decide) dX12_laysWet_45 (t_X12_rateOf x0 v12 M9 h0) (fun v13 M14 => ?_)
      refine r_lconst 48 hC (x := 0) ⟨by decide +kernel, r64c rfl⟩ dX12_laysWet_48 ?_
      refine r_jn (P := fun j107 => ∀ (M15 : Mem), Bk E C 4 Mi M0 107 [(0, 30, x0), (1, 0, p8)] [] M15 0 0 (j107 M15)) ?_ (fun j107 hj107 => ?_)
      · intro M15
        refine r_iinc 107 hC 1 rfl (by decide) dX12_laysWet_107 (r_eqls (ls' := [(1, 0, w32 (p8 + 1)), (0, 30, x0)]) rfl ?_)
        refine r_goto 110 hC (tgt := 28) (by decide) dX12_laysWet_110 ?_
        exact r_sub [1, 0] rfl (ih (w32 (p8 + 1)) M15)
      refine r_lcmp_ne 49 hC (tgt := 56) (by decide) dX12_laysWet_49 dX12_laysWet_50 ?_ ?_
      · refine r_aload_n 56 hC 1 rfl (Or.inl (by decide)) rfl dX12_laysWet_56 ?_
        refine r_get 57 hC fd_10_28 fl_X12_56 dX12_laysWet_57 (fun v16 => ?_)
        refine r_iload_n 60 hC 2 rfl rfl dX12_laysWet_60 ?_
        refine r_iaload 61 hC dX12_laysWet_61 (fun v17 => ?_)
        refine r_istore_n 62 hC rfl (by decide) dX12_laysWet_62 (r_eqls (ls' := [(3, 0, v17), (2, 0, v12), (0, 30, x0), (1, 0, p8)]) rfl ?_)
        refine r_sub [2, 3, 1, 0] rfl (f_X12_laysWet_L63_ok h0 hC hq (fun M30 => ?_) KF v17 M14)
        · exact hj107 M30
      · refine r_goto 53 hC (tgt := 107) (by decide) dX12_laysWet_53 ?_
        exact r_sub [1, 2] rfl (hj107 M14)
set_option maxRecDepth 100000 in
theorem t_X12_laysWet (x0 : Int) (M : Mem) (h0 : x0 ≠ 0) : MtV yX12_laysWet cX12_laysWet 4 none 7 0 0 [(30, x0)] M (f_X12_laysWet x0 M) := by
  refine mk_V (by decide +kernel) (Nat.le_of_ble_eq_true rfl) (fun E C M0 hC hq hin => ?_)
  refine r_eqls (ls' := [(0, 30, x0)]) rfl ?_
  unfold f_X12_laysWet
  refine r_aload_n 0 hC 0 rfl (Or.inl (by decide)) rfl dX12_laysWet_0 ?_
  refine r_callVV 1 hC [] [] rfl vl_X12_316 rfl h0 (by decide) (Nat.le_of_ble_eq_true rfl) (by decide) (by decide) dX12_laysWet_1 (t_X12_laysSlots x0 M h0) (fun M1 => ?_)
  refine r_iconst 4 hC (r32c rfl) dX12_laysWet_4 ?_
  refine r_istore_n 5 hC rfl (by decide) dX12_laysWet_5 (r_eqls (ls' := [(1, 0, 0), (0, 30, x0)]) rfl ?_)
  refine r_sub [1, 0] rfl (f_X12_laysWet_L6_ok h0 hC hq (fun M7 => ?_) KF 0 M1)
  · refine r_iconst 26 hC (r32c rfl) dX12_laysWet_26 ?_
    refine r_istore_n 27 hC rfl (by decide) dX12_laysWet_27 (r_eqls (ls' := [(1, 0, 0), (0, 30, x0)]) rfl ?_)
    refine r_sub [1, 0] rfl (f_X12_laysWet_L28_ok h0 hC hq (fun M32 => ?_) KF 0 M7)
    · exact r_return 113 hC hq (by decide) (by decide) dX12_laysWet_113

/-! WaterTurnsModel.driest()I -/
theorem dX12_driest_0 : decode cX12_driest 0 = .ok (.aload_n 0, 1) := by decide +kernel
theorem dX12_driest_1 : decode cX12_driest 1 = .ok (.invokevirtual 389, 3) := by decide +kernel
theorem dX12_driest_4 : decode cX12_driest 4 = .ok (.iconst 0, 1) := by decide +kernel
theorem dX12_driest_5 : decode cX12_driest 5 = .ok (.istore_n 1, 1) := by decide +kernel
theorem dX12_driest_6 : decode cX12_driest 6 = .ok (.iconst 0, 1) := by decide +kernel
theorem dX12_driest_7 : decode cX12_driest 7 = .ok (.istore_n 2, 1) := by decide +kernel
theorem dX12_driest_8 : decode cX12_driest 8 = .ok (.iconst 0, 1) := by decide +kernel
theorem dX12_driest_9 : decode cX12_driest 9 = .ok (.istore_n 3, 1) := by decide +kernel
theorem dX12_driest_10 : decode cX12_driest 10 = .ok (.iload_n 3, 1) := by decide +kernel
theorem dX12_driest_11 : decode cX12_driest 11 = .ok (.aload_n 0, 1) := by decide +kernel
theorem dX12_driest_12 : decode cX12_driest 12 = .ok (.getfield 7, 3) := by decide +kernel
theorem dX12_driest_15 : decode cX12_driest 15 = .ok (.iconst 1, 1) := by decide +kernel
theorem dX12_driest_16 : decode cX12_driest 16 = .ok (.iaload, 1) := by decide +kernel
theorem dX12_driest_17 : decode cX12_driest 17 = .ok (.if_icmp .ge 33, 3) := by decide +kernel
theorem dX12_driest_20 : decode cX12_driest 20 = .ok (.aload_n 0, 1) := by decide +kernel
theorem dX12_driest_21 : decode cX12_driest 21 = .ok (.getfield 65, 3) := by decide +kernel
theorem dX12_driest_24 : decode cX12_driest 24 = .ok (.iload_n 3, 1) := by decide +kernel
theorem dX12_driest_25 : decode cX12_driest 25 = .ok (.iaload, 1) := by decide +kernel
theorem dX12_driest_26 : decode cX12_driest 26 = .ok (.iconst (-1), 1) := by decide +kernel
theorem dX12_driest_27 : decode cX12_driest 27 = .ok (.if_icmp .ne 9, 3) := by decide +kernel
theorem dX12_driest_30 : decode cX12_driest 30 = .ok (.iload_n 2, 1) := by decide +kernel
theorem dX12_driest_31 : decode cX12_driest 31 = .ok (.iconst 1, 1) := by decide +kernel
theorem dX12_driest_32 : decode cX12_driest 32 = .ok (.iadd, 1) := by decide +kernel
theorem dX12_driest_33 : decode cX12_driest 33 = .ok (.goto 4, 3) := by decide +kernel
theorem dX12_driest_36 : decode cX12_driest 36 = .ok (.iconst 0, 1) := by decide +kernel
theorem dX12_driest_37 : decode cX12_driest 37 = .ok (.istore_n 2, 1) := by decide +kernel
theorem dX12_driest_38 : decode cX12_driest 38 = .ok (.iload_n 1, 1) := by decide +kernel
theorem dX12_driest_39 : decode cX12_driest 39 = .ok (.iload_n 2, 1) := by decide +kernel
theorem dX12_driest_40 : decode cX12_driest 40 = .ok (.invokestatic 386, 3) := by decide +kernel
theorem dX12_driest_43 : decode cX12_driest 43 = .ok (.istore_n 1, 1) := by decide +kernel
theorem dX12_driest_44 : decode cX12_driest 44 = .ok (.iinc 3 1, 3) := by decide +kernel
theorem dX12_driest_47 : decode cX12_driest 47 = .ok (.goto (-37), 3) := by decide +kernel
theorem dX12_driest_50 : decode cX12_driest 50 = .ok (.aload_n 0, 1) := by decide +kernel
theorem dX12_driest_51 : decode cX12_driest 51 = .ok (.iload_n 1, 1) := by decide +kernel
theorem dX12_driest_52 : decode cX12_driest 52 = .ok (.invokevirtual 91, 3) := by decide +kernel
theorem dX12_driest_55 : decode cX12_driest 55 = .ok (.ireturn, 1) := by decide +kernel
set_option maxRecDepth 100000 in
theorem f_X12_driest_L10_ok {E : EnvT} {C : Cx} {Mi : Mem} {x0 : Int} (h0 : x0 ≠ 0) (hC : CxOK E C cX12_driest 4 yX12_driest.cls 8 0 0) {r0 : Int} {M0 : Mem} (hq : RQ E C 0 0 Mi (some .int) (some (0, r0)) M0) {M1 : Mem} {k : Int → Option (Int × Mem)} (hk : ∀ q11, Bk E C 4 Mi (r0, M0) 50 [(0, 30, x0), (1, 0, q11)] [] M1 0 0 (k q11)) : ∀ (n : Nat) (p2 : Int) (p3 : Int) (p4 : Int), Bk E C 4 Mi (r0, M0) 10 [(0, 30, x0), (1, 0, p2), (2, 0, p3), (3, 0, p4)] [] M1 0 0 (f_X12_driest_L10 M1 x0 k n p2 p3 p4) := by
  intro n
  induction n with
  | zero =>
    intro p2 p3 p4
    exact r_none
  | succ n ih =>
    intro p2 p3 p4
    rw [f_X12_driest_L10]
    refine r_iload_n 10 hC 3 rfl rfl dX12_driest_10 ?_
    refine r_aload_n 11 hC 0 rfl (Or.inl (by decide)) rfl dX12_driest_11 ?_
    refine r_get 12 hC fd_10_0 fl_X12_7 dX12_driest_12 (fun v5 => ?_)
    refine r_iconst 15 hC (r32c rfl) dX12_driest_15 ?_
    refine r_iaload 16 hC dX12_driest_16 (fun v6 => ?_)
    refine r_icmp_ge 17 hC (tgt := 50) (by decide) dX12_driest_17 ?_ ?_
    · exact r_sub [0, 1] rfl (hk p2)
    · refine r_aload_n 20 hC 0 rfl (Or.inl (by decide)) rfl dX12_driest_20 ?_
      refine r_get 21 hC fd_10_35 fl_X12_65 dX12_driest_21 (fun v7 => ?_)
      refine r_iload_n 24 hC 3 rfl rfl dX12_driest_24 ?_
      refine r_iaload 25 hC dX12_driest_25 (fun v8 => ?_)
      refine r_iconst 26 hC (r32c rfl) dX12_driest_26 ?_
      refine r_jn (P := fun j37 => ∀ (q9 : Int), Bk E C 4 Mi (r0, M0) 37 [(0, 30, x0), (1, 0, p2), (3, 0, p4)] [(0, q9)] M1 0 0 (j37 q9)) ?_ (fun j37 hj37 => ?_)
      · intro q9
        refine r_istore_n 37 hC rfl (by decide) dX12_driest_37 (r_eqls (ls' := [(2, 0, q9), (0, 30, x0), (1, 0, p2), (3, 0, p4)]) rfl ?_)
        refine r_iload_n 38 hC 2 rfl rfl dX12_driest_38 ?_
        refine r_iload_n 39 hC 0 rfl rfl dX12_driest_39 ?_
        refine r_callSP 40 hC [(0, p2), (0, q9)] [] rfl sl_X12_386 rfl (by decide) (Nat.le_of_ble_eq_true rfl) (by decide) (by decide) dX12_driest_40 (t_J9_max_7cf53 p2 q9 M1) (fun v10 => ?_)
        refine r_istore_n 43 hC rfl (by decide) dX12_driest_43 (r_eqls (ls' := [(1, 0, v10), (2, 0, q9), (0, 30, x0), (3, 0, p4)]) rfl ?_)
        refine r_iinc 44 hC 3 rfl (by decide) dX12_driest_44 (r_eqls (ls' := [(3, 0, w32 (p4 + 1)), (1, 0, v10), (2, 0, q9), (0, 30, x0)]) rfl ?_)
        refine r_goto 47 hC (tgt := 10) (by decide) dX12_driest_47 ?_
        exact r_sub [3, 1, 2, 0] rfl (ih v10 q9 (w32 (p4 + 1)))
      refine r_icmp_ne 27 hC (tgt := 36) (by decide) dX12_driest_27 ?_ ?_
      · refine r_iconst 36 hC (r32c rfl) dX12_driest_36 ?_
        exact r_sub [0, 1, 3] rfl (hj37 0)
      · refine r_iload_n 30 hC 2 rfl rfl dX12_driest_30 ?_
        refine r_iconst 31 hC (r32c rfl) dX12_driest_31 ?_
        refine r_iadd 32 hC dX12_driest_32 ?_
        refine r_goto 33 hC (tgt := 37) (by decide) dX12_driest_33 ?_
        exact r_sub [0, 1, 3] rfl (hj37 (w32 (p3 + 1)))
set_option maxRecDepth 100000 in
theorem t_X12_driest (x0 : Int) (M : Mem) (h0 : x0 ≠ 0) : MtI yX12_driest cX12_driest 4 (some .int) 8 0 0 [(30, x0)] M 0 (f_X12_driest x0 M) := by
  refine mk_I (by decide +kernel) (Nat.le_of_ble_eq_true rfl) (fun E C r0 M0 hC hq hin => ?_)
  refine r_eqls (ls' := [(0, 30, x0)]) rfl ?_
  unfold f_X12_driest
  refine r_aload_n 0 hC 0 rfl (Or.inl (by decide)) rfl dX12_driest_0 ?_
  refine r_callVV 1 hC [] [] rfl vl_X12_389 rfl h0 (by decide) (Nat.le_of_ble_eq_true rfl) (by decide) (by decide) dX12_driest_1 (t_X12_laysWet x0 M h0) (fun M1 => ?_)
  refine r_iconst 4 hC (r32c rfl) dX12_driest_4 ?_
  refine r_istore_n 5 hC rfl (by decide) dX12_driest_5 (r_eqls (ls' := [(1, 0, 0), (0, 30, x0)]) rfl ?_)
  refine r_iconst 6 hC (r32c rfl) dX12_driest_6 ?_
  refine r_istore_n 7 hC rfl (by decide) dX12_driest_7 (r_eqls (ls' := [(2, 0, 0), (1, 0, 0), (0, 30, x0)]) rfl ?_)
  refine r_iconst 8 hC (r32c rfl) dX12_driest_8 ?_
  refine r_istore_n 9 hC rfl (by decide) dX12_driest_9 (r_eqls (ls' := [(3, 0, 0), (2, 0, 0), (1, 0, 0), (0, 30, x0)]) rfl ?_)
  refine r_sub [3, 2, 1, 0] rfl (f_X12_driest_L10_ok h0 hC hq (fun q12 => ?_) KF 0 0 0)
  · refine r_aload_n 50 hC 0 rfl (Or.inl (by decide)) rfl dX12_driest_50 ?_
    refine r_iload_n 51 hC 1 rfl rfl dX12_driest_51 ?_
    refine r_callVI 52 hC [(0, q12)] [] rfl vl_X12_91 rfl h0 (by decide) (Nat.le_of_ble_eq_true rfl) (by decide) (by decide) dX12_driest_52 (t_X12_gives x0 q12 M1 h0) (fun v13 M14 => ?_)
    exact r_ireturn 55 hC hq (by decide) (by decide) dX12_driest_55

/-! WaterTurnsModel.waits(II)I -/
theorem dX12_waits_0 : decode cX12_waits 0 = .ok (.aload_n 0, 1) := by decide +kernel
theorem dX12_waits_1 : decode cX12_waits 1 = .ok (.iload_n 1, 1) := by decide +kernel
theorem dX12_waits_2 : decode cX12_waits 2 = .ok (.invokevirtual 266, 3) := by decide +kernel
theorem dX12_waits_5 : decode cX12_waits 5 = .ok (.ifCond .eq 17, 3) := by decide +kernel
theorem dX12_waits_8 : decode cX12_waits 8 = .ok (.iload_n 2, 1) := by decide +kernel
theorem dX12_waits_9 : decode cX12_waits 9 = .ok (.ifCond .lt 13, 3) := by decide +kernel
theorem dX12_waits_12 : decode cX12_waits 12 = .ok (.iload_n 2, 1) := by decide +kernel
theorem dX12_waits_13 : decode cX12_waits 13 = .ok (.aload_n 0, 1) := by decide +kernel
theorem dX12_waits_14 : decode cX12_waits 14 = .ok (.getfield 7, 3) := by decide +kernel
theorem dX12_waits_17 : decode cX12_waits 17 = .ok (.iconst 1, 1) := by decide +kernel
theorem dX12_waits_18 : decode cX12_waits 18 = .ok (.iaload, 1) := by decide +kernel
theorem dX12_waits_19 : decode cX12_waits 19 = .ok (.if_icmp .lt 9, 3) := by decide +kernel
theorem dX12_waits_22 : decode cX12_waits 22 = .ok (.aload_n 0, 1) := by decide +kernel
theorem dX12_waits_23 : decode cX12_waits 23 = .ok (.iconst 1, 1) := by decide +kernel
theorem dX12_waits_24 : decode cX12_waits 24 = .ok (.invokevirtual 87, 3) := by decide +kernel
theorem dX12_waits_27 : decode cX12_waits 27 = .ok (.ireturn, 1) := by decide +kernel
theorem dX12_waits_28 : decode cX12_waits 28 = .ok (.aload_n 0, 1) := by decide +kernel
theorem dX12_waits_29 : decode cX12_waits 29 = .ok (.invokevirtual 389, 3) := by decide +kernel
theorem dX12_waits_32 : decode cX12_waits 32 = .ok (.iload_n 2, 1) := by decide +kernel
theorem dX12_waits_33 : decode cX12_waits 33 = .ok (.istore_n 3, 1) := by decide +kernel
theorem dX12_waits_34 : decode cX12_waits 34 = .ok (.iload_n 3, 1) := by decide +kernel
theorem dX12_waits_35 : decode cX12_waits 35 = .ok (.aload_n 0, 1) := by decide +kernel
theorem dX12_waits_36 : decode cX12_waits 36 = .ok (.getfield 7, 3) := by decide +kernel
theorem dX12_waits_39 : decode cX12_waits 39 = .ok (.iconst 1, 1) := by decide +kernel
theorem dX12_waits_40 : decode cX12_waits 40 = .ok (.iaload, 1) := by decide +kernel
theorem dX12_waits_41 : decode cX12_waits 41 = .ok (.if_icmp .ge 27, 3) := by decide +kernel
theorem dX12_waits_44 : decode cX12_waits 44 = .ok (.aload_n 0, 1) := by decide +kernel
theorem dX12_waits_45 : decode cX12_waits 45 = .ok (.getfield 65, 3) := by decide +kernel
theorem dX12_waits_48 : decode cX12_waits 48 = .ok (.iload_n 3, 1) := by decide +kernel
theorem dX12_waits_49 : decode cX12_waits 49 = .ok (.iaload, 1) := by decide +kernel
theorem dX12_waits_50 : decode cX12_waits 50 = .ok (.iload_n 1, 1) := by decide +kernel
theorem dX12_waits_51 : decode cX12_waits 51 = .ok (.if_icmp .ne 11, 3) := by decide +kernel
theorem dX12_waits_54 : decode cX12_waits 54 = .ok (.aload_n 0, 1) := by decide +kernel
theorem dX12_waits_55 : decode cX12_waits 55 = .ok (.iload_n 3, 1) := by decide +kernel
theorem dX12_waits_56 : decode cX12_waits 56 = .ok (.iload_n 2, 1) := by decide +kernel
theorem dX12_waits_57 : decode cX12_waits 57 = .ok (.isub, 1) := by decide +kernel
theorem dX12_waits_58 : decode cX12_waits 58 = .ok (.invokevirtual 91, 3) := by decide +kernel
theorem dX12_waits_61 : decode cX12_waits 61 = .ok (.ireturn, 1) := by decide +kernel
theorem dX12_waits_62 : decode cX12_waits 62 = .ok (.iinc 3 1, 3) := by decide +kernel
theorem dX12_waits_65 : decode cX12_waits 65 = .ok (.goto (-31), 3) := by decide +kernel
theorem dX12_waits_68 : decode cX12_waits 68 = .ok (.aload_n 0, 1) := by decide +kernel
theorem dX12_waits_69 : decode cX12_waits 69 = .ok (.bipush 6, 2) := by decide +kernel
theorem dX12_waits_71 : decode cX12_waits 71 = .ok (.invokevirtual 87, 3) := by decide +kernel
theorem dX12_waits_74 : decode cX12_waits 74 = .ok (.ireturn, 1) := by decide +kernel
set_option maxRecDepth 100000 in
theorem f_X12_waits_L34_ok {E : EnvT} {C : Cx} {Mi : Mem} {x0 : Int} (h0 : x0 ≠ 0) (hC : CxOK E C cX12_waits 4 yX12_waits.cls 8 0 0) {r0 : Int} {M0 : Mem} (hq : RQ E C 0 0 Mi (some .int) (some (0, r0)) M0) {M6 : Mem} {x1 x2 : Int} {k : Option (Int × Mem)} (hk : Bk E C 4 Mi (r0, M0) 68 [(0, 30, x0)] [] M6 0 0 (k)) : ∀ (n : Nat) (p7 : Int), Bk E C 4 Mi (r0, M0) 34 [(0, 30, x0), (1, 0, x1), (2, 0, x2), (3, 0, p7)] [] M6 0 0 (f_X12_waits_L34 M6 x0 x1 x2 k n p7) := by
  intro n
  induction n with
  | zero =>
    intro p7
    exact r_none
  | succ n ih =>
    intro p7
    rw [f_X12_waits_L34]
    refine r_iload_n 34 hC 3 rfl rfl dX12_waits_34 ?_
    refine r_aload_n 35 hC 0 rfl (Or.inl (by decide)) rfl dX12_waits_35 ?_
    refine r_get 36 hC fd_10_0 fl_X12_7 dX12_waits_36 (fun v8 => ?_)
    refine r_iconst 39 hC (r32c rfl) dX12_waits_39 ?_
    refine r_iaload 40 hC dX12_waits_40 (fun v9 => ?_)
    refine r_icmp_ge 41 hC (tgt := 68) (by decide) dX12_waits_41 ?_ ?_
    · exact r_sub [0] rfl (hk)
    · refine r_aload_n 44 hC 0 rfl (Or.inl (by decide)) rfl dX12_waits_44 ?_
      refine r_get 45 hC fd_10_35 fl_X12_65 dX12_waits_45 (fun v10 => ?_)
      refine r_iload_n 48 hC 3 rfl rfl dX12_waits_48 ?_
      refine r_iaload 49 hC dX12_waits_49 (fun v11 => ?_)
      refine r_iload_n 50 hC 1 rfl rfl dX12_waits_50 ?_
      refine r_icmp_ne 51 hC (tgt := 62) (by decide) dX12_waits_51 ?_ ?_
      · refine r_iinc 62 hC 3 rfl (by decide) dX12_waits_62 (r_eqls (ls' := [(3, 0, w32 (p7 + 1)), (0, 30, x0), (1, 0, x1), (2, 0, x2)]) rfl ?_)
        refine r_goto 65 hC (tgt := 34) (by decide) dX12_waits_65 ?_
        exact r_sub [1, 2, 3, 0] rfl (ih (w32 (p7 + 1)))
      · refine r_aload_n 54 hC 0 rfl (Or.inl (by decide)) rfl dX12_waits_54 ?_
        refine r_iload_n 55 hC 3 rfl rfl dX12_waits_55 ?_
        refine r_iload_n 56 hC 2 rfl rfl dX12_waits_56 ?_
        refine r_isub 57 hC dX12_waits_57 ?_
        refine r_callVI 58 hC [(0, w32 (p7 - x2))] [] rfl vl_X12_91 rfl h0 (by decide) (Nat.le_of_ble_eq_true rfl) (by decide) (by decide) dX12_waits_58 (t_X12_gives x0 (w32 (p7 - x2)) M6 h0) (fun v12 M13 => ?_)
        exact r_ireturn 61 hC hq (by decide) (by decide) dX12_waits_61
set_option maxRecDepth 100000 in
theorem t_X12_waits (x0 x1 x2 : Int) (M : Mem) (h0 : x0 ≠ 0) : MtI yX12_waits cX12_waits 4 (some .int) 8 0 0 [(30, x0), (0, x1), (0, x2)] M 0 (f_X12_waits x0 x1 x2 M) := by
  refine mk_I (by decide +kernel) (Nat.le_of_ble_eq_true rfl) (fun E C r0 M0 hC hq hin => ?_)
  refine r_eqls (ls' := [(0, 30, x0), (1, 0, x1), (2, 0, x2)]) rfl ?_
  unfold f_X12_waits
  refine r_aload_n 0 hC 0 rfl (Or.inl (by decide)) rfl dX12_waits_0 ?_
  refine r_iload_n 1 hC 1 rfl rfl dX12_waits_1 ?_
  refine r_callVP 2 hC [(0, x1)] [] rfl vl_X12_266 rfl h0 (by decide) (Nat.le_of_ble_eq_true rfl) (by decide) (by decide) dX12_waits_2 (t_X12_isField x0 x1 M h0) (fun v1 => ?_)
  refine r_jn (P := fun j22 => Bk E C 4 M (r0, M0) 22 [(0, 30, x0)] [] M 0 0 (j22)) ?_ (fun j22 hj22 => ?_)
  · refine r_aload_n 22 hC 0 rfl (Or.inl (by decide)) rfl dX12_waits_22 ?_
    refine r_iconst 23 hC (r32c rfl) dX12_waits_23 ?_
    refine r_callVI 24 hC [(0, 1)] [] rfl vl_X12_87 rfl h0 (by decide) (Nat.le_of_ble_eq_true rfl) (by decide) (by decide) dX12_waits_24 (t_X12_refuse x0 1 M h0) (fun v2 M3 => ?_)
    exact r_ireturn 27 hC hq (by decide) (by decide) dX12_waits_27
  refine r_if_eq 5 hC (tgt := 22) (by decide) dX12_waits_5 ?_ ?_
  · exact r_sub [0] rfl (hj22)
  · refine r_iload_n 8 hC 2 rfl rfl dX12_waits_8 ?_
    refine r_if_lt 9 hC (tgt := 22) (by decide) dX12_waits_9 ?_ ?_
    · exact r_sub [0] rfl (hj22)
    · refine r_iload_n 12 hC 2 rfl rfl dX12_waits_12 ?_
      refine r_aload_n 13 hC 0 rfl (Or.inl (by decide)) rfl dX12_waits_13 ?_
      refine r_get 14 hC fd_10_0 fl_X12_7 dX12_waits_14 (fun v4 => ?_)
      refine r_iconst 17 hC (r32c rfl) dX12_waits_17 ?_
      refine r_iaload 18 hC dX12_waits_18 (fun v5 => ?_)
      refine r_icmp_lt 19 hC (tgt := 28) (by decide) dX12_waits_19 ?_ ?_
      · refine r_aload_n 28 hC 0 rfl (Or.inl (by decide)) rfl dX12_waits_28 ?_
        refine r_callVV 29 hC [] [] rfl vl_X12_389 rfl h0 (by decide) (Nat.le_of_ble_eq_true rfl) (by decide) (by decide) dX12_waits_29 (t_X12_laysWet x0 M h0) (fun M6 => ?_)
        refine r_iload_n 32 hC 2 rfl rfl dX12_waits_32 ?_
        refine r_istore_n 33 hC rfl (by decide) dX12_waits_33 (r_eqls (ls' := [(3, 0, x2), (0, 30, x0), (1, 0, x1), (2, 0, x2)]) rfl ?_)
        refine r_sub [1, 2, 3, 0] rfl (f_X12_waits_L34_ok h0 hC hq ?_ KF x2)
        · refine r_aload_n 68 hC 0 rfl (Or.inl (by decide)) rfl dX12_waits_68 ?_
          refine r_bipush 69 hC kb_6 dX12_waits_69 ?_
          refine r_callVI 71 hC [(0, 6)] [] rfl vl_X12_87 rfl h0 (by decide) (Nat.le_of_ble_eq_true rfl) (by decide) (by decide) dX12_waits_71 (t_X12_refuse x0 6 M6 h0) (fun v14 M15 => ?_)
          exact r_ireturn 74 hC hq (by decide) (by decide) dX12_waits_74
      · exact r_sub [0] rfl (hj22)

/-! WaterTurnsModel.headFor(I)I -/
theorem dX12_headFor_0 : decode cX12_headFor 0 = .ok (.aload_n 0, 1) := by decide +kernel
theorem dX12_headFor_1 : decode cX12_headFor 1 = .ok (.iload_n 1, 1) := by decide +kernel
theorem dX12_headFor_2 : decode cX12_headFor 2 = .ok (.invokevirtual 266, 3) := by decide +kernel
theorem dX12_headFor_5 : decode cX12_headFor 5 = .ok (.ifCond .ne 9, 3) := by decide +kernel
theorem dX12_headFor_8 : decode cX12_headFor 8 = .ok (.aload_n 0, 1) := by decide +kernel
theorem dX12_headFor_9 : decode cX12_headFor 9 = .ok (.iconst 1, 1) := by decide +kernel
theorem dX12_headFor_10 : decode cX12_headFor 10 = .ok (.invokevirtual 87, 3) := by decide +kernel
theorem dX12_headFor_13 : decode cX12_headFor 13 = .ok (.ireturn, 1) := by decide +kernel
theorem dX12_headFor_14 : decode cX12_headFor 14 = .ok (.aload_n 0, 1) := by decide +kernel
theorem dX12_headFor_15 : decode cX12_headFor 15 = .ok (.getfield 7, 3) := by decide +kernel
theorem dX12_headFor_18 : decode cX12_headFor 18 = .ok (.iconst 0, 1) := by decide +kernel
theorem dX12_headFor_19 : decode cX12_headFor 19 = .ok (.iaload, 1) := by decide +kernel
theorem dX12_headFor_20 : decode cX12_headFor 20 = .ok (.istore_n 2, 1) := by decide +kernel
theorem dX12_headFor_21 : decode cX12_headFor 21 = .ok (.aload_n 0, 1) := by decide +kernel
theorem dX12_headFor_22 : decode cX12_headFor 22 = .ok (.iload_n 1, 1) := by decide +kernel
theorem dX12_headFor_23 : decode cX12_headFor 23 = .ok (.iconst 1, 1) := by decide +kernel
theorem dX12_headFor_24 : decode cX12_headFor 24 = .ok (.invokevirtual 325, 3) := by decide +kernel
theorem dX12_headFor_27 : decode cX12_headFor 27 = .ok (.istore_n 3, 1) := by decide +kernel
theorem dX12_headFor_28 : decode cX12_headFor 28 = .ok (.aload_n 0, 1) := by decide +kernel
theorem dX12_headFor_29 : decode cX12_headFor 29 = .ok (.iload_n 1, 1) := by decide +kernel
theorem dX12_headFor_30 : decode cX12_headFor 30 = .ok (.iconst 2, 1) := by decide +kernel
theorem dX12_headFor_31 : decode cX12_headFor 31 = .ok (.invokevirtual 269, 3) := by decide +kernel
theorem dX12_headFor_34 : decode cX12_headFor 34 = .ok (.i2l, 1) := by decide +kernel
theorem dX12_headFor_35 : decode cX12_headFor 35 = .ok (.aload_n 0, 1) := by decide +kernel
theorem dX12_headFor_36 : decode cX12_headFor 36 = .ok (.invokevirtual 331, 3) := by decide +kernel
theorem dX12_headFor_39 : decode cX12_headFor 39 = .ok (.lmul, 1) := by decide +kernel
theorem dX12_headFor_40 : decode cX12_headFor 40 = .ok (.lstore 4, 2) := by decide +kernel
theorem dX12_headFor_42 : decode cX12_headFor 42 = .ok (.iconst (-1), 1) := by decide +kernel
theorem dX12_headFor_43 : decode cX12_headFor 43 = .ok (.istore 6, 2) := by decide +kernel
theorem dX12_headFor_45 : decode cX12_headFor 45 = .ok (.iconst 0, 1) := by decide +kernel
theorem dX12_headFor_46 : decode cX12_headFor 46 = .ok (.istore 7, 2) := by decide +kernel
theorem dX12_headFor_48 : decode cX12_headFor 48 = .ok (.iload 7, 2) := by decide +kernel
theorem dX12_headFor_50 : decode cX12_headFor 50 = .ok (.sipush 999, 3) := by decide +kernel
theorem dX12_headFor_53 : decode cX12_headFor 53 = .ok (.if_icmp .gt 41, 3) := by decide +kernel
theorem dX12_headFor_56 : decode cX12_headFor 56 = .ok (.iload 6, 2) := by decide +kernel
theorem dX12_headFor_58 : decode cX12_headFor 58 = .ok (.iconst (-1), 1) := by decide +kernel
theorem dX12_headFor_59 : decode cX12_headFor 59 = .ok (.if_icmp .ne 35, 3) := by decide +kernel
theorem dX12_headFor_62 : decode cX12_headFor 62 = .ok (.aload_n 0, 1) := by decide +kernel
theorem dX12_headFor_63 : decode cX12_headFor 63 = .ok (.getfield 7, 3) := by decide +kernel
theorem dX12_headFor_66 : decode cX12_headFor 66 = .ok (.iconst 0, 1) := by decide +kernel
theorem dX12_headFor_67 : decode cX12_headFor 67 = .ok (.iload 7, 2) := by decide +kernel
theorem dX12_headFor_69 : decode cX12_headFor 69 = .ok (.iastore, 1) := by decide +kernel
theorem dX12_headFor_70 : decode cX12_headFor 70 = .ok (.aload_n 0, 1) := by decide +kernel
theorem dX12_headFor_71 : decode cX12_headFor 71 = .ok (.iload_n 1, 1) := by decide +kernel
theorem dX12_headFor_72 : decode cX12_headFor 72 = .ok (.invokevirtual 349, 3) := by decide +kernel
theorem dX12_headFor_75 : decode cX12_headFor 75 = .ok (.iload_n 3, 1) := by decide +kernel
theorem dX12_headFor_76 : decode cX12_headFor 76 = .ok (.i2l, 1) := by decide +kernel
theorem dX12_headFor_77 : decode cX12_headFor 77 = .ok (.lmul, 1) := by decide +kernel
theorem dX12_headFor_78 : decode cX12_headFor 78 = .ok (.lload 4, 2) := by decide +kernel
theorem dX12_headFor_80 : decode cX12_headFor 80 = .ok (.lcmp, 1) := by decide +kernel
theorem dX12_headFor_81 : decode cX12_headFor 81 = .ok (.ifCond .lt 7, 3) := by decide +kernel
theorem dX12_headFor_84 : decode cX12_headFor 84 = .ok (.iload 7, 2) := by decide +kernel
theorem dX12_headFor_86 : decode cX12_headFor 86 = .ok (.istore 6, 2) := by decide +kernel
theorem dX12_headFor_88 : decode cX12_headFor 88 = .ok (.iinc 7 1, 3) := by decide +kernel
theorem dX12_headFor_91 : decode cX12_headFor 91 = .ok (.goto (-43), 3) := by decide +kernel
theorem dX12_headFor_94 : decode cX12_headFor 94 = .ok (.aload_n 0, 1) := by decide +kernel
theorem dX12_headFor_95 : decode cX12_headFor 95 = .ok (.getfield 7, 3) := by decide +kernel
theorem dX12_headFor_98 : decode cX12_headFor 98 = .ok (.iconst 0, 1) := by decide +kernel
theorem dX12_headFor_99 : decode cX12_headFor 99 = .ok (.iload_n 2, 1) := by decide +kernel
theorem dX12_headFor_100 : decode cX12_headFor 100 = .ok (.iastore, 1) := by decide +kernel
theorem dX12_headFor_101 : decode cX12_headFor 101 = .ok (.aload_n 0, 1) := by decide +kernel
theorem dX12_headFor_102 : decode cX12_headFor 102 = .ok (.iload 6, 2) := by decide +kernel
theorem dX12_headFor_104 : decode cX12_headFor 104 = .ok (.invokevirtual 263, 3) := by decide +kernel
theorem dX12_headFor_107 : decode cX12_headFor 107 = .ok (.ireturn, 1) := by decide +kernel
set_option maxRecDepth 100000 in
theorem f_X12_headFor_L48_ok {E : EnvT} {C : Cx} {Mi : Mem} {x0 : Int} (h0 : x0 ≠ 0) (hC : CxOK E C cX12_headFor 8 yX12_headFor.cls 8 0 0) {r0 : Int} {M0 : Mem} (hq : RQ E C 0 0 Mi (some .int) (some (0, r0)) M0) {v3 v4 v8 x1 : Int} {k : Int → Mem → Option (Int × Mem)} (hk : ∀ q17 M18, Bk E C 8 Mi (r0, M0) 94 [(0, 30, x0), (2, 0, v3), (6, 0, q17)] [] M18 0 0 (k q17 M18)) : ∀ (n : Nat) (p9 : Int) (p10 : Int) (M11 : Mem), Bk E C 8 Mi (r0, M0) 48 [(0, 30, x0), (1, 0, x1), (2, 0, v3), (3, 0, v4), (4, 1, v8), (6, 0, p9), (7, 0, p10)] [] M11 0 0 (f_X12_headFor_L48 v3 v4 v8 x0 x1 k n p9 p10 M11) := by
  intro n
  induction n with
  | zero =>
    intro p9 p10 M11
    exact r_none
  | succ n ih =>
    intro p9 p10 M11
    rw [f_X12_headFor_L48]
    refine r_iload 48 hC 6 rfl dX12_headFor_48 ?_
    refine r_sipush 50 hC ks_999 dX12_headFor_50 ?_
    refine r_icmp_gt 53 hC (tgt := 94) (by decide) dX12_headFor_53 ?_ ?_
    · exact r_sub [0, 2, 5] rfl (hk p9 M11)
    · refine r_iload 56 hC 5 rfl dX12_headFor_56 ?_
      refine r_iconst 58 hC (r32c rfl) dX12_headFor_58 ?_
      refine r_icmp_ne 59 hC (tgt := 94) (by decide) dX12_headFor_59 ?_ ?_
      · exact r_sub [0, 2, 5] rfl (hk p9 M11)
      · refine r_aload_n 62 hC 0 rfl (Or.inl (by decide)) rfl dX12_headFor_62 ?_
        refine r_get 63 hC fd_10_0 fl_X12_7 dX12_headFor_63 (fun v12 => ?_)
        refine r_iconst 66 hC (r32c rfl) dX12_headFor_66 ?_
        refine r_iload 67 hC 6 rfl dX12_headFor_67 ?_
        refine r_iastore 69 hC dX12_headFor_69 (fun M13 => ?_)
        refine r_aload_n 70 hC 0 rfl (Or.inl (by decide)) rfl dX12_headFor_70 ?_
        refine r_iload_n 71 hC 1 rfl rfl dX12_headFor_71 ?_
        refine r_callVI 72 hC [(0, x1)] [] rfl vl_X12_349 rfl h0 (by decide) (Nat.le_of_ble_eq_true rfl) (by decide) (by decide) dX12_headFor_72 (t_X12_rateOf x0 x1 M13 h0) (fun v14 M15 => ?_)
        refine r_iload_n 75 hC 3 rfl rfl dX12_headFor_75 ?_
        refine r_i2l 76 hC dX12_headFor_76 ?_
        refine r_lmul 77 hC dX12_headFor_77 ?_
        refine r_lload 78 hC 4 rfl dX12_headFor_78 ?_
        refine r_jn (P := fun j88 => ∀ (q16 : Int), Bk E C 8 Mi (r0, M0) 88 [(0, 30, x0), (1, 0, x1), (2, 0, v3), (3, 0, v4), (4, 1, v8), (6, 0, q16), (7, 0, p10)] [] M15 0 0 (j88 q16)) ?_ (fun j88 hj88 => ?_)
        · intro q16
          refine r_iinc 88 hC 6 rfl (by decide) dX12_headFor_88 (r_eqls (ls' := [(7, 0, w32 (p10 + 1)), (0, 30, x0), (1, 0, x1), (2, 0, v3), (3, 0, v4), (4, 1, v8), (6, 0, q16)]) rfl ?_)
          refine r_goto 91 hC (tgt := 48) (by decide) dX12_headFor_91 ?_
          exact r_sub [1, 2, 3, 4, 5, 6, 0] rfl (ih q16 (w32 (p10 + 1)) M15)
        refine r_lcmp_lt 80 hC (tgt := 88) (by decide) dX12_headFor_80 dX12_headFor_81 ?_ ?_
        · exact hj88 p9
        · refine r_iload 84 hC 6 rfl dX12_headFor_84 ?_
          refine r_istore 86 hC (by decide) dX12_headFor_86 (r_eqls (ls' := [(6, 0, p10), (0, 30, x0), (1, 0, x1), (2, 0, v3), (3, 0, v4), (4, 1, v8), (7, 0, p10)]) rfl ?_)
          exact r_sub [1, 2, 3, 4, 5, 0, 6] rfl (hj88 p10)
set_option maxRecDepth 100000 in
theorem t_X12_headFor (x0 x1 : Int) (M : Mem) (h0 : x0 ≠ 0) : MtI yX12_headFor cX12_headFor 8 (some .int) 8 0 0 [(30, x0), (0, x1)] M 0 (f_X12_headFor x0 x1 M) := by
  refine mk_I (by decide +kernel) (Nat.le_of_ble_eq_true rfl) (fun E C r0 M0 hC hq hin => ?_)
  refine r_eqls (ls' := [(0, 30, x0), (1, 0, x1)]) rfl ?_
  unfold f_X12_headFor
  refine r_aload_n 0 hC 0 rfl (Or.inl (by decide)) rfl dX12_headFor_0 ?_
  refine r_iload_n 1 hC 1 rfl rfl dX12_headFor_1 ?_
  refine r_callVP 2 hC [(0, x1)] [] rfl vl_X12_266 rfl h0 (by decide) (Nat.le_of_ble_eq_true rfl) (by decide) (by decide) dX12_headFor_2 (t_X12_isField x0 x1 M h0) (fun v1 => ?_)
  refine r_if_ne 5 hC (tgt := 14) (by decide) dX12_headFor_5 ?_ ?_
  · refine r_aload_n 14 hC 0 rfl (Or.inl (by decide)) rfl dX12_headFor_14 ?_
    refine r_get 15 hC fd_10_0 fl_X12_7 dX12_headFor_15 (fun v2 => ?_)
    refine r_iconst 18 hC (r32c rfl) dX12_headFor_18 ?_
    refine r_iaload 19 hC dX12_headFor_19 (fun v3 => ?_)
    refine r_istore_n 20 hC rfl (by decide) dX12_headFor_20 (r_eqls (ls' := [(2, 0, v3), (0, 30, x0), (1, 0, x1)]) rfl ?_)
    refine r_aload_n 21 hC 1 rfl (Or.inl (by decide)) rfl dX12_headFor_21 ?_
    refine r_iload_n 22 hC 2 rfl rfl dX12_headFor_22 ?_
    refine r_iconst 23 hC (r32c rfl) dX12_headFor_23 ?_
    refine r_callVI 24 hC [(0, x1), (0, 1)] [] rfl vl_X12_325 rfl h0 (by decide) (Nat.le_of_ble_eq_true rfl) (by decide) (by decide) dX12_headFor_24 (t_X12_minutesOf x0 x1 1 M h0) (fun v4 M5 => ?_)
    refine r_istore_n 27 hC rfl (by decide) dX12_headFor_27 (r_eqls (ls' := [(3, 0, v4), (2, 0, v3), (0, 30, x0), (1, 0, x1)]) rfl ?_)
    refine r_aload_n 28 hC 2 rfl (Or.inl (by decide)) rfl dX12_headFor_28 ?_
    refine r_iload_n 29 hC 3 rfl rfl dX12_headFor_29 ?_
    refine r_iconst 30 hC (r32c rfl) dX12_headFor_30 ?_
    refine r_callVP 31 hC [(0, x1), (0, 2)] [] rfl vl_X12_269 rfl h0 (by decide) (Nat.le_of_ble_eq_true rfl) (by decide) (by decide) dX12_headFor_31 (t_X12_ofField x0 x1 2 M5 h0) (fun v6 => ?_)
    refine r_i2l 34 hC dX12_headFor_34 ?_
    refine r_aload_n 35 hC 2 rfl (Or.inl (by decide)) rfl dX12_headFor_35 ?_
    refine r_callVP 36 hC [] [(1, v6)] rfl vl_X12_331 rfl h0 (by decide) (Nat.le_of_ble_eq_true rfl) (by decide) (by decide) dX12_headFor_36 (t_X12_litre x0 M5 h0) (fun v7 => ?_)
    refine r_lmul 39 hC dX12_headFor_39 ?_
    refine r_lstoreL 40 hC (by decide) dX12_headFor_40 (fun v8 => r_eqls (ls' := [(4, 1, v8), (3, 0, v4), (2, 0, v3), (0, 30, x0), (1, 0, x1)]) rfl ?_)
    refine r_iconst 42 hC (r32c rfl) dX12_headFor_42 ?_
    refine r_istore 43 hC (by decide) dX12_headFor_43 (r_eqls (ls' := [(6, 0, (-1)), (4, 1, v8), (3, 0, v4), (2, 0, v3), (0, 30, x0), (1, 0, x1)]) rfl ?_)
    refine r_iconst 45 hC (r32c rfl) dX12_headFor_45 ?_
    refine r_istore 46 hC (by decide) dX12_headFor_46 (r_eqls (ls' := [(7, 0, 0), (6, 0, (-1)), (4, 1, v8), (3, 0, v4), (2, 0, v3), (0, 30, x0), (1, 0, x1)]) rfl ?_)
    refine r_sub [5, 6, 4, 3, 2, 1, 0] rfl (f_X12_headFor_L48_ok h0 hC hq (fun q19 M20 => ?_) KF (-1) 0 M5)
    · refine r_aload_n 94 hC 0 rfl (Or.inl (by decide)) rfl dX12_headFor_94 ?_
      refine r_get 95 hC fd_10_0 fl_X12_7 dX12_headFor_95 (fun v21 => ?_)
      refine r_iconst 98 hC (r32c rfl) dX12_headFor_98 ?_
      refine r_iload_n 99 hC 1 rfl rfl dX12_headFor_99 ?_
      refine r_iastore 100 hC dX12_headFor_100 (fun M22 => ?_)
      refine r_aload_n 101 hC 0 rfl (Or.inl (by decide)) rfl dX12_headFor_101 ?_
      refine r_iload 102 hC 2 rfl dX12_headFor_102 ?_
      refine r_callVI 104 hC [(0, q19)] [] rfl vl_X12_263 rfl h0 (by decide) (Nat.le_of_ble_eq_true rfl) (by decide) (by decide) dX12_headFor_104 (t_X12_orNone x0 q19 M22 h0) (fun v23 M24 => ?_)
      exact r_ireturn 107 hC hq (by decide) (by decide) dX12_headFor_107
  · refine r_aload_n 8 hC 0 rfl (Or.inl (by decide)) rfl dX12_headFor_8 ?_
    refine r_iconst 9 hC (r32c rfl) dX12_headFor_9 ?_
    refine r_callVI 10 hC [(0, 1)] [] rfl vl_X12_87 rfl h0 (by decide) (Nat.le_of_ble_eq_true rfl) (by decide) (by decide) dX12_headFor_10 (t_X12_refuse x0 1 M h0) (fun v25 M26 => ?_)
    exact r_ireturn 13 hC hq (by decide) (by decide) dX12_headFor_13

/-! WaterTurnsModel.shadow()I -/
theorem dX12_shadow_0 : decode cX12_shadow 0 = .ok (.aload_n 0, 1) := by decide +kernel
theorem dX12_shadow_1 : decode cX12_shadow 1 = .ok (.invokevirtual 380, 3) := by decide +kernel
theorem dX12_shadow_4 : decode cX12_shadow 4 = .ok (.lstore_n 1, 1) := by decide +kernel
theorem dX12_shadow_5 : decode cX12_shadow 5 = .ok (.aload_n 0, 1) := by decide +kernel
theorem dX12_shadow_6 : decode cX12_shadow 6 = .ok (.getfield 7, 3) := by decide +kernel
theorem dX12_shadow_9 : decode cX12_shadow 9 = .ok (.bipush 7, 2) := by decide +kernel
theorem dX12_shadow_11 : decode cX12_shadow 11 = .ok (.iaload, 1) := by decide +kernel
theorem dX12_shadow_12 : decode cX12_shadow 12 = .ok (.istore_n 3, 1) := by decide +kernel
theorem dX12_shadow_13 : decode cX12_shadow 13 = .ok (.lconst 0, 1) := by decide +kernel
theorem dX12_shadow_14 : decode cX12_shadow 14 = .ok (.lstore 4, 2) := by decide +kernel
theorem dX12_shadow_16 : decode cX12_shadow 16 = .ok (.iconst (-1), 1) := by decide +kernel
theorem dX12_shadow_17 : decode cX12_shadow 17 = .ok (.istore 6, 2) := by decide +kernel
theorem dX12_shadow_19 : decode cX12_shadow 19 = .ok (.iconst 0, 1) := by decide +kernel
theorem dX12_shadow_20 : decode cX12_shadow 20 = .ok (.istore 7, 2) := by decide +kernel
theorem dX12_shadow_22 : decode cX12_shadow 22 = .ok (.iload 7, 2) := by decide +kernel
theorem dX12_shadow_24 : decode cX12_shadow 24 = .ok (.aload_n 0, 1) := by decide +kernel
theorem dX12_shadow_25 : decode cX12_shadow 25 = .ok (.getfield 7, 3) := by decide +kernel
theorem dX12_shadow_28 : decode cX12_shadow 28 = .ok (.iconst 3, 1) := by decide +kernel
theorem dX12_shadow_29 : decode cX12_shadow 29 = .ok (.iaload, 1) := by decide +kernel
theorem dX12_shadow_30 : decode cX12_shadow 30 = .ok (.if_icmp .ge 57, 3) := by decide +kernel
theorem dX12_shadow_33 : decode cX12_shadow 33 = .ok (.aload_n 0, 1) := by decide +kernel
theorem dX12_shadow_34 : decode cX12_shadow 34 = .ok (.getfield 7, 3) := by decide +kernel
theorem dX12_shadow_37 : decode cX12_shadow 37 = .ok (.bipush 7, 2) := by decide +kernel
theorem dX12_shadow_39 : decode cX12_shadow 39 = .ok (.iload_n 3, 1) := by decide +kernel
theorem dX12_shadow_40 : decode cX12_shadow 40 = .ok (.iconst 1, 1) := by decide +kernel
theorem dX12_shadow_41 : decode cX12_shadow 41 = .ok (.iload 7, 2) := by decide +kernel
theorem dX12_shadow_43 : decode cX12_shadow 43 = .ok (.ishl, 1) := by decide +kernel
theorem dX12_shadow_44 : decode cX12_shadow 44 = .ok (.ior, 1) := by decide +kernel
theorem dX12_shadow_45 : decode cX12_shadow 45 = .ok (.iastore, 1) := by decide +kernel
theorem dX12_shadow_46 : decode cX12_shadow 46 = .ok (.lload_n 1, 1) := by decide +kernel
theorem dX12_shadow_47 : decode cX12_shadow 47 = .ok (.aload_n 0, 1) := by decide +kernel
theorem dX12_shadow_48 : decode cX12_shadow 48 = .ok (.invokevirtual 380, 3) := by decide +kernel
theorem dX12_shadow_51 : decode cX12_shadow 51 = .ok (.lsub, 1) := by decide +kernel
theorem dX12_shadow_52 : decode cX12_shadow 52 = .ok (.lstore 8, 2) := by decide +kernel
theorem dX12_shadow_54 : decode cX12_shadow 54 = .ok (.aload_n 0, 1) := by decide +kernel
theorem dX12_shadow_55 : decode cX12_shadow 55 = .ok (.getfield 7, 3) := by decide +kernel
theorem dX12_shadow_58 : decode cX12_shadow 58 = .ok (.bipush 7, 2) := by decide +kernel
theorem dX12_shadow_60 : decode cX12_shadow 60 = .ok (.iload_n 3, 1) := by decide +kernel
theorem dX12_shadow_61 : decode cX12_shadow 61 = .ok (.iastore, 1) := by decide +kernel
theorem dX12_shadow_62 : decode cX12_shadow 62 = .ok (.lload 8, 2) := by decide +kernel
theorem dX12_shadow_64 : decode cX12_shadow 64 = .ok (.lload 4, 2) := by decide +kernel
theorem dX12_shadow_66 : decode cX12_shadow 66 = .ok (.lcmp, 1) := by decide +kernel
theorem dX12_shadow_67 : decode cX12_shadow 67 = .ok (.ifCond .gt 6, 3) := by decide +kernel
theorem dX12_shadow_70 : decode cX12_shadow 70 = .ok (.goto 11, 3) := by decide +kernel
theorem dX12_shadow_73 : decode cX12_shadow 73 = .ok (.lload 8, 2) := by decide +kernel
theorem dX12_shadow_75 : decode cX12_shadow 75 = .ok (.lstore 4, 2) := by decide +kernel
theorem dX12_shadow_77 : decode cX12_shadow 77 = .ok (.iload 7, 2) := by decide +kernel
theorem dX12_shadow_79 : decode cX12_shadow 79 = .ok (.istore 6, 2) := by decide +kernel
theorem dX12_shadow_81 : decode cX12_shadow 81 = .ok (.iinc 7 1, 3) := by decide +kernel
theorem dX12_shadow_84 : decode cX12_shadow 84 = .ok (.goto (-62), 3) := by decide +kernel
theorem dX12_shadow_87 : decode cX12_shadow 87 = .ok (.iload 6, 2) := by decide +kernel
theorem dX12_shadow_89 : decode cX12_shadow 89 = .ok (.iconst (-1), 1) := by decide +kernel
theorem dX12_shadow_90 : decode cX12_shadow 90 = .ok (.if_icmp .ne 10, 3) := by decide +kernel
theorem dX12_shadow_93 : decode cX12_shadow 93 = .ok (.aload_n 0, 1) := by decide +kernel
theorem dX12_shadow_94 : decode cX12_shadow 94 = .ok (.bipush 6, 2) := by decide +kernel
theorem dX12_shadow_96 : decode cX12_shadow 96 = .ok (.invokevirtual 87, 3) := by decide +kernel
theorem dX12_shadow_99 : decode cX12_shadow 99 = .ok (.ireturn, 1) := by decide +kernel
theorem dX12_shadow_100 : decode cX12_shadow 100 = .ok (.aload_n 0, 1) := by decide +kernel
theorem dX12_shadow_101 : decode cX12_shadow 101 = .ok (.lload 4, 2) := by decide +kernel
theorem dX12_shadow_103 : decode cX12_shadow 103 = .ok (.aload_n 0, 1) := by decide +kernel
theorem dX12_shadow_104 : decode cX12_shadow 104 = .ok (.invokevirtual 331, 3) := by decide +kernel
theorem dX12_shadow_107 : decode cX12_shadow 107 = .ok (.invokevirtual 353, 3) := by decide +kernel
theorem dX12_shadow_110 : decode cX12_shadow 110 = .ok (.ifCond .eq 12, 3) := by decide +kernel
theorem dX12_shadow_113 : decode cX12_shadow 113 = .ok (.aload_n 0, 1) := by decide +kernel
theorem dX12_shadow_114 : decode cX12_shadow 114 = .ok (.iload 6, 2) := by decide +kernel
theorem dX12_shadow_116 : decode cX12_shadow 116 = .ok (.invokevirtual 91, 3) := by decide +kernel
theorem dX12_shadow_119 : decode cX12_shadow 119 = .ok (.goto 4, 3) := by decide +kernel
theorem dX12_shadow_122 : decode cX12_shadow 122 = .ok (.iconst (-1), 1) := by decide +kernel
theorem dX12_shadow_123 : decode cX12_shadow 123 = .ok (.ireturn, 1) := by decide +kernel
set_option maxRecDepth 100000 in
theorem f_X12_shadow_L22_ok {E : EnvT} {C : Cx} {Mi : Mem} {x0 : Int} (h0 : x0 ≠ 0) (hC : CxOK E C cX12_shadow 10 yX12_shadow.cls 10 0 0) {r0 : Int} {M0 : Mem} (hq : RQ E C 0 0 Mi (some .int) (some (0, r0)) M0) {v1 v4 : Int} {k : Int → Int → Mem → Option (Int × Mem)} (hk : ∀ q20 q21 M22, Bk E C 10 Mi (r0, M0) 87 [(0, 30, x0), (4, 1, q20), (6, 0, q21)] [] M22 0 0 (k q20 q21 M22)) : ∀ (n : Nat) (p5 : Int) (p6 : Int) (p7 : Int) (M8 : Mem), Bk E C 10 Mi (r0, M0) 22 [(0, 30, x0), (1, 1, v1), (3, 0, v4), (4, 1, p5), (6, 0, p6), (7, 0, p7)] [] M8 0 0 (f_X12_shadow_L22 v1 v4 x0 k n p5 p6 p7 M8) := by
  intro n
  induction n with
  | zero =>
    intro p5 p6 p7 M8
    exact r_none
  | succ n ih =>
    intro p5 p6 p7 M8
    rw [f_X12_shadow_L22]
    refine r_iload 22 hC 5 rfl dX12_shadow_22 ?_
    refine r_aload_n 24 hC 0 rfl (Or.inl (by decide)) rfl dX12_shadow_24 ?_
    refine r_get 25 hC fd_10_0 fl_X12_7 dX12_shadow_25 (fun v9 => ?_)
    refine r_iconst 28 hC (r32c rfl) dX12_shadow_28 ?_
    refine r_iaload 29 hC dX12_shadow_29 (fun v10 => ?_)
    refine r_icmp_ge 30 hC (tgt := 87) (by decide) dX12_shadow_30 ?_ ?_
    · exact r_sub [0, 3, 4] rfl (hk p5 p6 M8)
    · refine r_aload_n 33 hC 0 rfl (Or.inl (by decide)) rfl dX12_shadow_33 ?_
      refine r_get 34 hC fd_10_0 fl_X12_7 dX12_shadow_34 (fun v11 => ?_)
      refine r_bipush 37 hC kb_7 dX12_shadow_37 ?_
      refine r_iload_n 39 hC 2 rfl rfl dX12_shadow_39 ?_
      refine r_iconst 40 hC (r32c rfl) dX12_shadow_40 ?_
      refine r_iload 41 hC 5 rfl dX12_shadow_41 ?_
      refine r_ishl 43 hC dX12_shadow_43 ?_
      refine r_ior 44 hC dX12_shadow_44 ?_
      refine r_iastore 45 hC dX12_shadow_45 (fun M12 => ?_)
      refine r_lload_n 46 hC 1 rfl rfl dX12_shadow_46 ?_
      refine r_aload_n 47 hC 0 rfl (Or.inl (by decide)) rfl dX12_shadow_47 ?_
      refine r_callVI 48 hC [] [(1, v1)] rfl vl_X12_380 rfl h0 (by decide) (Nat.le_of_ble_eq_true rfl) (by decide) (by decide) dX12_shadow_48 (t_X12_allWater x0 M12 h0) (fun v13 M14 => ?_)
      refine r_lsub 51 hC dX12_shadow_51 ?_
      refine r_lstoreL 52 hC (by decide) dX12_shadow_52 (fun v15 => r_eqls (ls' := [(8, 1, v15), (0, 30, x0), (1, 1, v1), (3, 0, v4), (4, 1, p5), (6, 0, p6), (7, 0, p7)]) rfl ?_)
      refine r_aload_n 54 hC 1 rfl (Or.inl (by decide)) rfl dX12_shadow_54 ?_
      refine r_get 55 hC fd_10_0 fl_X12_7 dX12_shadow_55 (fun v16 => ?_)
      refine r_bipush 58 hC kb_7 dX12_shadow_58 ?_
      refine r_iload_n 60 hC 3 rfl rfl dX12_shadow_60 ?_
      refine r_iastore 61 hC dX12_shadow_61 (fun M17 => ?_)
      refine r_lload 62 hC 0 rfl dX12_shadow_62 ?_
      refine r_lload 64 hC 4 rfl dX12_shadow_64 ?_
      refine r_jn (P := fun j81 => ∀ (q18 : Int) (q19 : Int), Bk E C 10 Mi (r0, M0) 81 [(0, 30, x0), (1, 1, v1), (3, 0, v4), (4, 1, q18), (6, 0, q19), (7, 0, p7)] [] M17 0 0 (j81 q18 q19)) ?_ (fun j81 hj81 => ?_)
      · intro q18 q19
        refine r_iinc 81 hC 5 rfl (by decide) dX12_shadow_81 (r_eqls (ls' := [(7, 0, w32 (p7 + 1)), (0, 30, x0), (1, 1, v1), (3, 0, v4), (4, 1, q18), (6, 0, q19)]) rfl ?_)
        refine r_goto 84 hC (tgt := 22) (by decide) dX12_shadow_84 ?_
        exact r_sub [1, 2, 3, 4, 5, 0] rfl (ih q18 q19 (w32 (p7 + 1)) M17)
      refine r_lcmp_gt 66 hC (tgt := 73) (by decide) dX12_shadow_66 dX12_shadow_67 ?_ ?_
      · refine r_lload 73 hC 0 rfl dX12_shadow_73 ?_
        refine r_lstore 75 hC (by decide) dX12_shadow_75 (r_eqls (ls' := [(4, 1, v15), (8, 1, v15), (0, 30, x0), (1, 1, v1), (3, 0, v4), (6, 0, p6), (7, 0, p7)]) rfl ?_)
        refine r_iload 77 hC 6 rfl dX12_shadow_77 ?_
        refine r_istore 79 hC (by decide) dX12_shadow_79 (r_eqls (ls' := [(6, 0, p7), (4, 1, v15), (8, 1, v15), (0, 30, x0), (1, 1, v1), (3, 0, v4), (7, 0, p7)]) rfl ?_)
        exact r_sub [3, 4, 5, 1, 0, 6] rfl (hj81 v15 p7)
      · refine r_goto 70 hC (tgt := 81) (by decide) dX12_shadow_70 ?_
        exact r_sub [1, 2, 3, 4, 5, 6] rfl (hj81 p5 p6)
set_option maxRecDepth 100000 in
theorem t_X12_shadow (x0 : Int) (M : Mem) (h0 : x0 ≠ 0) : MtI yX12_shadow cX12_shadow 10 (some .int) 10 0 0 [(30, x0)] M 0 (f_X12_shadow x0 M) := by
  refine mk_I (by decide +kernel) (Nat.le_of_ble_eq_true rfl) (fun E C r0 M0 hC hq hin => ?_)
  refine r_eqls (ls' := [(0, 30, x0)]) rfl ?_
  unfold f_X12_shadow
  refine r_aload_n 0 hC 0 rfl (Or.inl (by decide)) rfl dX12_shadow_0 ?_
  refine r_callVI 1 hC [] [] rfl vl_X12_380 rfl h0 (by decide) (Nat.le_of_ble_eq_true rfl) (by decide) (by decide) dX12_shadow_1 (t_X12_allWater x0 M h0) (fun v1 M2 => ?_)
  refine r_lstore_n 4 hC rfl (by decide) dX12_shadow_4 (r_eqls (ls' := [(1, 1, v1), (0, 30, x0)]) rfl ?_)
  refine r_aload_n 5 hC 1 rfl (Or.inl (by decide)) rfl dX12_shadow_5 ?_
  refine r_get 6 hC fd_10_0 fl_X12_7 dX12_shadow_6 (fun v3 => ?_)
  refine r_bipush 9 hC kb_7 dX12_shadow_9 ?_
  refine r_iaload 11 hC dX12_shadow_11 (fun v4 => ?_)
  refine r_istore_n 12 hC rfl (by decide) dX12_shadow_12 (r_eqls (ls' := [(3, 0, v4), (1, 1, v1), (0, 30, x0)]) rfl ?_)
  refine r_lconst 13 hC (x := 0) ⟨by decide +kernel, r64c rfl⟩ dX12_shadow_13 ?_
  refine r_lstore 14 hC (by decide) dX12_shadow_14 (r_eqls (ls' := [(4, 1, 0), (3, 0, v4), (1, 1, v1), (0, 30, x0)]) rfl ?_)
  refine r_iconst 16 hC (r32c rfl) dX12_shadow_16 ?_
  refine r_istore 17 hC (by decide) dX12_shadow_17 (r_eqls (ls' := [(6, 0, (-1)), (4, 1, 0), (3, 0, v4), (1, 1, v1), (0, 30, x0)]) rfl ?_)
  refine r_iconst 19 hC (r32c rfl) dX12_shadow_19 ?_
  refine r_istore 20 hC (by decide) dX12_shadow_20 (r_eqls (ls' := [(7, 0, 0), (6, 0, (-1)), (4, 1, 0), (3, 0, v4), (1, 1, v1), (0, 30, x0)]) rfl ?_)
  refine r_sub [5, 4, 3, 2, 1, 0] rfl (f_X12_shadow_L22_ok h0 hC hq (fun q23 q24 M25 => ?_) KF 0 (-1) 0 M2)
  · refine r_iload 87 hC 2 rfl dX12_shadow_87 ?_
    refine r_iconst 89 hC (r32c rfl) dX12_shadow_89 ?_
    refine r_icmp_ne 90 hC (tgt := 100) (by decide) dX12_shadow_90 ?_ ?_
    · refine r_aload_n 100 hC 0 rfl (Or.inl (by decide)) rfl dX12_shadow_100 ?_
      refine r_lload 101 hC 1 rfl dX12_shadow_101 ?_
      refine r_aload_n 103 hC 0 rfl (Or.inl (by decide)) rfl dX12_shadow_103 ?_
      refine r_callVP 104 hC [] [(1, q23), (30, x0)] rfl vl_X12_331 rfl h0 (by decide) (Nat.le_of_ble_eq_true rfl) (by decide) (by decide) dX12_shadow_104 (t_X12_litre x0 M25 h0) (fun v26 => ?_)
      refine r_callVI 107 hC [(1, q23), (1, v26)] [] rfl vl_X12_353 rfl h0 (by decide) (Nat.le_of_ble_eq_true rfl) (by decide) (by decide) dX12_shadow_107 (t_X12_tellsBy x0 q23 v26 M25 h0) (fun v27 M28 => ?_)
      refine r_jn (P := fun j123 => ∀ (q29 : Int) (M30 : Mem), Bk E C 10 M (r0, M0) 123 [] [(0, q29)] M30 0 0 (j123 q29 M30)) ?_ (fun j123 hj123 => ?_)
      · intro q29 M30
        exact r_ireturn 123 hC hq (by decide) (by decide) dX12_shadow_123
      refine r_if_eq 110 hC (tgt := 122) (by decide) dX12_shadow_110 ?_ ?_
      · refine r_iconst 122 hC (r32c rfl) dX12_shadow_122 ?_
        exact r_sub [] rfl (hj123 (-1) M28)
      · refine r_aload_n 113 hC 0 rfl (Or.inl (by decide)) rfl dX12_shadow_113 ?_
        refine r_iload 114 hC 2 rfl dX12_shadow_114 ?_
        refine r_callVI 116 hC [(0, q24)] [] rfl vl_X12_91 rfl h0 (by decide) (Nat.le_of_ble_eq_true rfl) (by decide) (by decide) dX12_shadow_116 (t_X12_gives x0 q24 M28 h0) (fun v31 M32 => ?_)
        refine r_goto 119 hC (tgt := 123) (by decide) dX12_shadow_119 ?_
        exact r_sub [] rfl (hj123 v31 M32)
    · refine r_aload_n 93 hC 0 rfl (Or.inl (by decide)) rfl dX12_shadow_93 ?_
      refine r_bipush 94 hC kb_6 dX12_shadow_94 ?_
      refine r_callVI 96 hC [(0, 6)] [] rfl vl_X12_87 rfl h0 (by decide) (Nat.le_of_ble_eq_true rfl) (by decide) (by decide) dX12_shadow_96 (t_X12_refuse x0 6 M25 h0) (fun v33 M34 => ?_)
      exact r_ireturn 99 hC hq (by decide) (by decide) dX12_shadow_99

/-! WaterTurnsModel.bestSwap(I)I -/
theorem dX12_bestSwap_0 : decode cX12_bestSwap 0 = .ok (.iload_n 1, 1) := by decide +kernel
theorem dX12_bestSwap_1 : decode cX12_bestSwap 1 = .ok (.ifCond .lt 8, 3) := by decide +kernel
theorem dX12_bestSwap_4 : decode cX12_bestSwap 4 = .ok (.iload_n 1, 1) := by decide +kernel
theorem dX12_bestSwap_5 : decode cX12_bestSwap 5 = .ok (.iconst 1, 1) := by decide +kernel
theorem dX12_bestSwap_6 : decode cX12_bestSwap 6 = .ok (.if_icmp .le 9, 3) := by decide +kernel
theorem dX12_bestSwap_9 : decode cX12_bestSwap 9 = .ok (.aload_n 0, 1) := by decide +kernel
theorem dX12_bestSwap_10 : decode cX12_bestSwap 10 = .ok (.iconst 1, 1) := by decide +kernel
theorem dX12_bestSwap_11 : decode cX12_bestSwap 11 = .ok (.invokevirtual 87, 3) := by decide +kernel
theorem dX12_bestSwap_14 : decode cX12_bestSwap 14 = .ok (.ireturn, 1) := by decide +kernel
theorem dX12_bestSwap_15 : decode cX12_bestSwap 15 = .ok (.aload_n 0, 1) := by decide +kernel
theorem dX12_bestSwap_16 : decode cX12_bestSwap 16 = .ok (.getfield 7, 3) := by decide +kernel
theorem dX12_bestSwap_19 : decode cX12_bestSwap 19 = .ok (.bipush 8, 2) := by decide +kernel
theorem dX12_bestSwap_21 : decode cX12_bestSwap 21 = .ok (.iaload, 1) := by decide +kernel
theorem dX12_bestSwap_22 : decode cX12_bestSwap 22 = .ok (.ifCond .le 10, 3) := by decide +kernel
theorem dX12_bestSwap_25 : decode cX12_bestSwap 25 = .ok (.aload_n 0, 1) := by decide +kernel
theorem dX12_bestSwap_26 : decode cX12_bestSwap 26 = .ok (.bipush 7, 2) := by decide +kernel
theorem dX12_bestSwap_28 : decode cX12_bestSwap 28 = .ok (.invokevirtual 87, 3) := by decide +kernel
theorem dX12_bestSwap_31 : decode cX12_bestSwap 31 = .ok (.ireturn, 1) := by decide +kernel
theorem dX12_bestSwap_32 : decode cX12_bestSwap 32 = .ok (.aload_n 0, 1) := by decide +kernel
theorem dX12_bestSwap_33 : decode cX12_bestSwap 33 = .ok (.invokevirtual 380, 3) := by decide +kernel
theorem dX12_bestSwap_36 : decode cX12_bestSwap 36 = .ok (.lstore_n 2, 1) := by decide +kernel
theorem dX12_bestSwap_37 : decode cX12_bestSwap 37 = .ok (.lconst 0, 1) := by decide +kernel
theorem dX12_bestSwap_38 : decode cX12_bestSwap 38 = .ok (.lstore 4, 2) := by decide +kernel
theorem dX12_bestSwap_40 : decode cX12_bestSwap 40 = .ok (.iconst (-1), 1) := by decide +kernel
theorem dX12_bestSwap_41 : decode cX12_bestSwap 41 = .ok (.istore 6, 2) := by decide +kernel
theorem dX12_bestSwap_43 : decode cX12_bestSwap 43 = .ok (.iconst (-1), 1) := by decide +kernel
theorem dX12_bestSwap_44 : decode cX12_bestSwap 44 = .ok (.istore 7, 2) := by decide +kernel
theorem dX12_bestSwap_46 : decode cX12_bestSwap 46 = .ok (.iconst 0, 1) := by decide +kernel
theorem dX12_bestSwap_47 : decode cX12_bestSwap 47 = .ok (.istore 8, 2) := by decide +kernel
theorem dX12_bestSwap_49 : decode cX12_bestSwap 49 = .ok (.iload 8, 2) := by decide +kernel
theorem dX12_bestSwap_51 : decode cX12_bestSwap 51 = .ok (.aload_n 0, 1) := by decide +kernel
theorem dX12_bestSwap_52 : decode cX12_bestSwap 52 = .ok (.getfield 7, 3) := by decide +kernel
theorem dX12_bestSwap_55 : decode cX12_bestSwap 55 = .ok (.iconst 5, 1) := by decide +kernel
theorem dX12_bestSwap_56 : decode cX12_bestSwap 56 = .ok (.iaload, 1) := by decide +kernel
theorem dX12_bestSwap_57 : decode cX12_bestSwap 57 = .ok (.if_icmp .ge 103, 3) := by decide +kernel
theorem dX12_bestSwap_60 : decode cX12_bestSwap 60 = .ok (.iload 8, 2) := by decide +kernel
theorem dX12_bestSwap_62 : decode cX12_bestSwap 62 = .ok (.iconst 1, 1) := by decide +kernel
theorem dX12_bestSwap_63 : decode cX12_bestSwap 63 = .ok (.iadd, 1) := by decide +kernel
theorem dX12_bestSwap_64 : decode cX12_bestSwap 64 = .ok (.istore 9, 2) := by decide +kernel
theorem dX12_bestSwap_66 : decode cX12_bestSwap 66 = .ok (.iload 9, 2) := by decide +kernel
theorem dX12_bestSwap_68 : decode cX12_bestSwap 68 = .ok (.aload_n 0, 1) := by decide +kernel
theorem dX12_bestSwap_69 : decode cX12_bestSwap 69 = .ok (.getfield 7, 3) := by decide +kernel
theorem dX12_bestSwap_72 : decode cX12_bestSwap 72 = .ok (.iconst 5, 1) := by decide +kernel
theorem dX12_bestSwap_73 : decode cX12_bestSwap 73 = .ok (.iaload, 1) := by decide +kernel
theorem dX12_bestSwap_74 : decode cX12_bestSwap 74 = .ok (.if_icmp .ge 80, 3) := by decide +kernel
theorem dX12_bestSwap_77 : decode cX12_bestSwap 77 = .ok (.aload_n 0, 1) := by decide +kernel
theorem dX12_bestSwap_78 : decode cX12_bestSwap 78 = .ok (.getfield 7, 3) := by decide +kernel
theorem dX12_bestSwap_81 : decode cX12_bestSwap 81 = .ok (.bipush 112, 2) := by decide +kernel
theorem dX12_bestSwap_83 : decode cX12_bestSwap 83 = .ok (.iload 8, 2) := by decide +kernel
theorem dX12_bestSwap_85 : decode cX12_bestSwap 85 = .ok (.iadd, 1) := by decide +kernel
theorem dX12_bestSwap_86 : decode cX12_bestSwap 86 = .ok (.iaload, 1) := by decide +kernel
theorem dX12_bestSwap_87 : decode cX12_bestSwap 87 = .ok (.istore 10, 2) := by decide +kernel
theorem dX12_bestSwap_89 : decode cX12_bestSwap 89 = .ok (.aload_n 0, 1) := by decide +kernel
theorem dX12_bestSwap_90 : decode cX12_bestSwap 90 = .ok (.getfield 7, 3) := by decide +kernel
theorem dX12_bestSwap_93 : decode cX12_bestSwap 93 = .ok (.bipush 112, 2) := by decide +kernel
theorem dX12_bestSwap_95 : decode cX12_bestSwap 95 = .ok (.iload 9, 2) := by decide +kernel
theorem dX12_bestSwap_97 : decode cX12_bestSwap 97 = .ok (.iadd, 1) := by decide +kernel
theorem dX12_bestSwap_98 : decode cX12_bestSwap 98 = .ok (.iaload, 1) := by decide +kernel
theorem dX12_bestSwap_99 : decode cX12_bestSwap 99 = .ok (.istore 11, 2) := by decide +kernel
theorem dX12_bestSwap_101 : decode cX12_bestSwap 101 = .ok (.aload_n 0, 1) := by decide +kernel
theorem dX12_bestSwap_102 : decode cX12_bestSwap 102 = .ok (.iload 10, 2) := by decide +kernel
theorem dX12_bestSwap_104 : decode cX12_bestSwap 104 = .ok (.iload 11, 2) := by decide +kernel
theorem dX12_bestSwap_106 : decode cX12_bestSwap 106 = .ok (.invokevirtual 293, 3) := by decide +kernel
theorem dX12_bestSwap_109 : decode cX12_bestSwap 109 = .ok (.aload_n 0, 1) := by decide +kernel
theorem dX12_bestSwap_110 : decode cX12_bestSwap 110 = .ok (.invokevirtual 380, 3) := by decide +kernel
theorem dX12_bestSwap_113 : decode cX12_bestSwap 113 = .ok (.lload_n 2, 1) := by decide +kernel
theorem dX12_bestSwap_114 : decode cX12_bestSwap 114 = .ok (.lsub, 1) := by decide +kernel
theorem dX12_bestSwap_115 : decode cX12_bestSwap 115 = .ok (.lstore 12, 2) := by decide +kernel
theorem dX12_bestSwap_117 : decode cX12_bestSwap 117 = .ok (.aload_n 0, 1) := by decide +kernel
theorem dX12_bestSwap_118 : decode cX12_bestSwap 118 = .ok (.iload 10, 2) := by decide +kernel
theorem dX12_bestSwap_120 : decode cX12_bestSwap 120 = .ok (.iload 11, 2) := by decide +kernel
theorem dX12_bestSwap_122 : decode cX12_bestSwap 122 = .ok (.invokevirtual 293, 3) := by decide +kernel
theorem dX12_bestSwap_125 : decode cX12_bestSwap 125 = .ok (.lload 12, 2) := by decide +kernel
theorem dX12_bestSwap_127 : decode cX12_bestSwap 127 = .ok (.lload 4, 2) := by decide +kernel
theorem dX12_bestSwap_129 : decode cX12_bestSwap 129 = .ok (.lcmp, 1) := by decide +kernel
theorem dX12_bestSwap_130 : decode cX12_bestSwap 130 = .ok (.ifCond .gt 6, 3) := by decide +kernel
theorem dX12_bestSwap_133 : decode cX12_bestSwap 133 = .ok (.goto 15, 3) := by decide +kernel
theorem dX12_bestSwap_136 : decode cX12_bestSwap 136 = .ok (.lload 12, 2) := by decide +kernel
theorem dX12_bestSwap_138 : decode cX12_bestSwap 138 = .ok (.lstore 4, 2) := by decide +kernel
theorem dX12_bestSwap_140 : decode cX12_bestSwap 140 = .ok (.iload 10, 2) := by decide +kernel
theorem dX12_bestSwap_142 : decode cX12_bestSwap 142 = .ok (.istore 6, 2) := by decide +kernel
theorem dX12_bestSwap_144 : decode cX12_bestSwap 144 = .ok (.iload 11, 2) := by decide +kernel
theorem dX12_bestSwap_146 : decode cX12_bestSwap 146 = .ok (.istore 7, 2) := by decide +kernel
theorem dX12_bestSwap_148 : decode cX12_bestSwap 148 = .ok (.iinc 9 1, 3) := by decide +kernel
theorem dX12_bestSwap_151 : decode cX12_bestSwap 151 = .ok (.goto (-85), 3) := by decide +kernel
theorem dX12_bestSwap_154 : decode cX12_bestSwap 154 = .ok (.iinc 8 1, 3) := by decide +kernel
theorem dX12_bestSwap_157 : decode cX12_bestSwap 157 = .ok (.goto (-108), 3) := by decide +kernel
theorem dX12_bestSwap_160 : decode cX12_bestSwap 160 = .ok (.iload 6, 2) := by decide +kernel
theorem dX12_bestSwap_162 : decode cX12_bestSwap 162 = .ok (.iconst (-1), 1) := by decide +kernel
theorem dX12_bestSwap_163 : decode cX12_bestSwap 163 = .ok (.if_icmp .ne 10, 3) := by decide +kernel
theorem dX12_bestSwap_166 : decode cX12_bestSwap 166 = .ok (.aload_n 0, 1) := by decide +kernel
theorem dX12_bestSwap_167 : decode cX12_bestSwap 167 = .ok (.bipush 6, 2) := by decide +kernel
theorem dX12_bestSwap_169 : decode cX12_bestSwap 169 = .ok (.invokevirtual 87, 3) := by decide +kernel
theorem dX12_bestSwap_172 : decode cX12_bestSwap 172 = .ok (.ireturn, 1) := by decide +kernel
theorem dX12_bestSwap_173 : decode cX12_bestSwap 173 = .ok (.aload_n 0, 1) := by decide +kernel
theorem dX12_bestSwap_174 : decode cX12_bestSwap 174 = .ok (.lload 4, 2) := by decide +kernel
theorem dX12_bestSwap_176 : decode cX12_bestSwap 176 = .ok (.aload_n 0, 1) := by decide +kernel
theorem dX12_bestSwap_177 : decode cX12_bestSwap 177 = .ok (.invokevirtual 331, 3) := by decide +kernel
theorem dX12_bestSwap_180 : decode cX12_bestSwap 180 = .ok (.invokevirtual 353, 3) := by decide +kernel
theorem dX12_bestSwap_183 : decode cX12_bestSwap 183 = .ok (.ifCond .eq 21, 3) := by decide +kernel
theorem dX12_bestSwap_186 : decode cX12_bestSwap 186 = .ok (.aload_n 0, 1) := by decide +kernel
theorem dX12_bestSwap_187 : decode cX12_bestSwap 187 = .ok (.iload_n 1, 1) := by decide +kernel
theorem dX12_bestSwap_188 : decode cX12_bestSwap 188 = .ok (.ifCond .ne 8, 3) := by decide +kernel
theorem dX12_bestSwap_191 : decode cX12_bestSwap 191 = .ok (.iload 6, 2) := by decide +kernel
theorem dX12_bestSwap_193 : decode cX12_bestSwap 193 = .ok (.goto 5, 3) := by decide +kernel
theorem dX12_bestSwap_196 : decode cX12_bestSwap 196 = .ok (.iload 7, 2) := by decide +kernel
theorem dX12_bestSwap_198 : decode cX12_bestSwap 198 = .ok (.invokevirtual 91, 3) := by decide +kernel
theorem dX12_bestSwap_201 : decode cX12_bestSwap 201 = .ok (.goto 4, 3) := by decide +kernel
theorem dX12_bestSwap_204 : decode cX12_bestSwap 204 = .ok (.iconst (-1), 1) := by decide +kernel
theorem dX12_bestSwap_205 : decode cX12_bestSwap 205 = .ok (.ireturn, 1) := by decide +kernel
set_option maxRecDepth 100000 in
theorem f_X12_bestSwap_L66_ok {E : EnvT} {C : Cx} {Mi : Mem} {x0 : Int} (h0 : x0 ≠ 0) (hC : CxOK E C cX12_bestSwap 14 yX12_bestSwap.cls 10 0 0) {r0 : Int} {M0 : Mem} (hq : RQ E C 0 0 Mi (some .int) (some (0, r0)) M0) {p10 v5 x1 : Int} {k : Int → Int → Int → Mem → Option (Int × Mem)} (hk : ∀ q34 q35 q36 M37, Bk E C 14 Mi (r0, M0) 154 [(0, 30, x0), (1, 0, x1), (2, 1, v5), (4, 1, q34), (6, 0, q35), (7, 0, q36), (8, 0, p10)] [] M37 0 0 (k q34 q35 q36 M37)) : ∀ (n : Nat) (p15 : Int) (p16 : Int) (p17 : Int) (p18 : Int) (M19 : Mem), Bk E C 14 Mi (r0, M0) 66 [(0, 30, x0), (1, 0, x1), (2, 1, v5), (4, 1, p15), (6, 0, p16), (7, 0, p17), (8, 0, p10), (9, 0, p18)] [] M19 0 0 (f_X12_bestSwap_L66 p10 v5 x0 x1 k n p15 p16 p17 p18 M19) := by
  intro n
  induction n with
  | zero =>
    intro p15 p16 p17 p18 M19
    exact r_none
  | succ n ih =>
    intro p15 p16 p17 p18 M19
    rw [f_X12_bestSwap_L66]
    refine r_iload 66 hC 7 rfl dX12_bestSwap_66 ?_
    refine r_aload_n 68 hC 0 rfl (Or.inl (by decide)) rfl dX12_bestSwap_68 ?_
    refine r_get 69 hC fd_10_0 fl_X12_7 dX12_bestSwap_69 (fun v20 => ?_)
    refine r_iconst 72 hC (r32c rfl) dX12_bestSwap_72 ?_
    refine r_iaload 73 hC dX12_bestSwap_73 (fun v21 => ?_)
    refine r_icmp_ge 74 hC (tgt := 154) (by decide) dX12_bestSwap_74 ?_ ?_
    · exact r_sub [0, 1, 2, 3, 4, 5, 6] rfl (hk p15 p16 p17 M19)
    · refine r_aload_n 77 hC 0 rfl (Or.inl (by decide)) rfl dX12_bestSwap_77 ?_
      refine r_get 78 hC fd_10_0 fl_X12_7 dX12_bestSwap_78 (fun v22 => ?_)
      refine r_bipush 81 hC kb_112 dX12_bestSwap_81 ?_
      refine r_iload 83 hC 6 rfl dX12_bestSwap_83 ?_
      refine r_iadd 85 hC dX12_bestSwap_85 ?_
      refine r_iaload 86 hC dX12_bestSwap_86 (fun v23 => ?_)
      refine r_istore 87 hC (by decide) dX12_bestSwap_87 (r_eqls (ls' := [(10, 0, v23), (0, 30, x0), (1, 0, x1), (2, 1, v5), (4, 1, p15), (6, 0, p16), (7, 0, p17), (8, 0, p10), (9, 0, p18)]) rfl ?_)
      refine r_aload_n 89 hC 1 rfl (Or.inl (by decide)) rfl dX12_bestSwap_89 ?_
      refine r_get 90 hC fd_10_0 fl_X12_7 dX12_bestSwap_90 (fun v24 => ?_)
      refine r_bipush 93 hC kb_112 dX12_bestSwap_93 ?_
      refine r_iload 95 hC 8 rfl dX12_bestSwap_95 ?_
      refine r_iadd 97 hC dX12_bestSwap_97 ?_
      refine r_iaload 98 hC dX12_bestSwap_98 (fun v25 => ?_)
      refine r_istore 99 hC (by decide) dX12_bestSwap_99 (r_eqls (ls' := [(11, 0, v25), (10, 0, v23), (0, 30, x0), (1, 0, x1), (2, 1, v5), (4, 1, p15), (6, 0, p16), (7, 0, p17), (8, 0, p10), (9, 0, p18)]) rfl ?_)
      refine r_aload_n 101 hC 2 rfl (Or.inl (by decide)) rfl dX12_bestSwap_101 ?_
      refine r_iload 102 hC 1 rfl dX12_bestSwap_102 ?_
      refine r_iload 104 hC 0 rfl dX12_bestSwap_104 ?_
      refine r_callVV 106 hC [(0, v23), (0, v25)] [] rfl vl_X12_293 rfl h0 (by decide) (Nat.le_of_ble_eq_true rfl) (by decide) (by decide) dX12_bestSwap_106 (t_X12_swaps x0 v23 v25 M19 h0) (fun M26 => ?_)
      refine r_aload_n 109 hC 2 rfl (Or.inl (by decide)) rfl dX12_bestSwap_109 ?_
      refine r_callVI 110 hC [] [] rfl vl_X12_380 rfl h0 (by decide) (Nat.le_of_ble_eq_true rfl) (by decide) (by decide) dX12_bestSwap_110 (t_X12_allWater x0 M26 h0) (fun v27 M28 => ?_)
      refine r_lload_n 113 hC 4 rfl rfl dX12_bestSwap_113 ?_
      refine r_lsub 114 hC dX12_bestSwap_114 ?_
      refine r_lstoreL 115 hC (by decide) dX12_bestSwap_115 (fun v29 => r_eqls (ls' := [(12, 1, v29), (11, 0, v25), (10, 0, v23), (0, 30, x0), (1, 0, x1), (2, 1, v5), (4, 1, p15), (6, 0, p16), (7, 0, p17), (8, 0, p10), (9, 0, p18)]) rfl ?_)
      refine r_aload_n 117 hC 3 rfl (Or.inl (by decide)) rfl dX12_bestSwap_117 ?_
      refine r_iload 118 hC 2 rfl dX12_bestSwap_118 ?_
      refine r_iload 120 hC 1 rfl dX12_bestSwap_120 ?_
      refine r_callVV 122 hC [(0, v23), (0, v25)] [] rfl vl_X12_293 rfl h0 (by decide) (Nat.le_of_ble_eq_true rfl) (by decide) (by decide) dX12_bestSwap_122 (t_X12_swaps x0 v23 v25 M28 h0) (fun M30 => ?_)
      refine r_lload 125 hC 0 rfl dX12_bestSwap_125 ?_
      refine r_lload 127 hC 6 rfl dX12_bestSwap_127 ?_
      refine r_jn (P := fun j148 => ∀ (q31 : Int) (q32 : Int) (q33 : Int), Bk E C 14 Mi (r0, M0) 148 [(0, 30, x0), (1, 0, x1), (2, 1, v5), (4, 1, q31), (6, 0, q32), (7, 0, q33), (8, 0, p10), (9, 0, p18)] [] M30 0 0 (j148 q31 q32 q33)) ?_ (fun j148 hj148 => ?_)
      · intro q31 q32 q33
        refine r_iinc 148 hC 7 rfl (by decide) dX12_bestSwap_148 (r_eqls (ls' := [(9, 0, w32 (p18 + 1)), (0, 30, x0), (1, 0, x1), (2, 1, v5), (4, 1, q31), (6, 0, q32), (7, 0, q33), (8, 0, p10)]) rfl ?_)
        refine r_goto 151 hC (tgt := 66) (by decide) dX12_bestSwap_151 ?_
        exact r_sub [1, 2, 3, 4, 5, 6, 7, 0] rfl (ih q31 q32 q33 (w32 (p18 + 1)) M30)
      refine r_lcmp_gt 129 hC (tgt := 136) (by decide) dX12_bestSwap_129 dX12_bestSwap_130 ?_ ?_
      · refine r_lload 136 hC 0 rfl dX12_bestSwap_136 ?_
        refine r_lstore 138 hC (by decide) dX12_bestSwap_138 (r_eqls (ls' := [(4, 1, v29), (12, 1, v29), (11, 0, v25), (10, 0, v23), (0, 30, x0), (1, 0, x1), (2, 1, v5), (6, 0, p16), (7, 0, p17), (8, 0, p10), (9, 0, p18)]) rfl ?_)
        refine r_iload 140 hC 3 rfl dX12_bestSwap_140 ?_
        refine r_istore 142 hC (by decide) dX12_bestSwap_142 (r_eqls (ls' := [(6, 0, v23), (4, 1, v29), (12, 1, v29), (11, 0, v25), (10, 0, v23), (0, 30, x0), (1, 0, x1), (2, 1, v5), (7, 0, p17), (8, 0, p10), (9, 0, p18)]) rfl ?_)
        refine r_iload 144 hC 3 rfl dX12_bestSwap_144 ?_
        refine r_istore 146 hC (by decide) dX12_bestSwap_146 (r_eqls (ls' := [(7, 0, v25), (6, 0, v23), (4, 1, v29), (12, 1, v29), (11, 0, v25), (10, 0, v23), (0, 30, x0), (1, 0, x1), (2, 1, v5), (8, 0, p10), (9, 0, p18)]) rfl ?_)
        exact r_sub [6, 7, 8, 2, 1, 0, 9, 10] rfl (hj148 v29 v23 v25)
      · refine r_goto 133 hC (tgt := 148) (by decide) dX12_bestSwap_133 ?_
        exact r_sub [3, 4, 5, 6, 7, 8, 9, 10] rfl (hj148 p15 p16 p17)
set_option maxRecDepth 100000 in
theorem f_X12_bestSwap_L49_ok {E : EnvT} {C : Cx} {Mi : Mem} {x0 : Int} (h0 : x0 ≠ 0) (hC : CxOK E C cX12_bestSwap 14 yX12_bestSwap.cls 10 0 0) {r0 : Int} {M0 : Mem} (hq : RQ E C 0 0 Mi (some .int) (some (0, r0)) M0) {v5 x1 : Int} {k : Int → Int → Int → Mem → Option (Int × Mem)} (hk : ∀ q42 q43 q44 M45, Bk E C 14 Mi (r0, M0) 160 [(0, 30, x0), (1, 0, x1), (4, 1, q42), (6, 0, q43), (7, 0, q44)] [] M45 0 0 (k q42 q43 q44 M45)) : ∀ (n : Nat) (p7 : Int) (p8 : Int) (p9 : Int) (p10 : Int) (M11 : Mem), Bk E C 14 Mi (r0, M0) 49 [(0, 30, x0), (1, 0, x1), (2, 1, v5), (4, 1, p7), (6, 0, p8), (7, 0, p9), (8, 0, p10)] [] M11 0 0 (f_X12_bestSwap_L49 v5 x0 x1 k n p7 p8 p9 p10 M11) := by
  intro n
  induction n with
  | zero =>
    intro p7 p8 p9 p10 M11
    exact r_none
  | succ n ih =>
    intro p7 p8 p9 p10 M11
    rw [f_X12_bestSwap_L49]
    refine r_iload 49 hC 6 rfl dX12_bestSwap_49 ?_
    refine r_aload_n 51 hC 0 rfl (Or.inl (by decide)) rfl dX12_bestSwap_51 ?_
    refine r_get 52 hC fd_10_0 fl_X12_7 dX12_bestSwap_52 (fun v12 => ?_)
    refine r_iconst 55 hC (r32c rfl) dX12_bestSwap_55 ?_
    refine r_iaload 56 hC dX12_bestSwap_56 (fun v13 => ?_)
    refine r_icmp_ge 57 hC (tgt := 160) (by decide) dX12_bestSwap_57 ?_ ?_
    · exact r_sub [0, 1, 3, 4, 5] rfl (hk p7 p8 p9 M11)
    · refine r_iload 60 hC 6 rfl dX12_bestSwap_60 ?_
      refine r_iconst 62 hC (r32c rfl) dX12_bestSwap_62 ?_
      refine r_iadd 63 hC dX12_bestSwap_63 ?_
      refine r_istoreL 64 hC (by decide) dX12_bestSwap_64 (fun v14 => r_eqls (ls' := [(9, 0, v14), (0, 30, x0), (1, 0, x1), (2, 1, v5), (4, 1, p7), (6, 0, p8), (7, 0, p9), (8, 0, p10)]) rfl ?_)
      refine r_sub [1, 2, 3, 4, 5, 6, 7, 0] rfl (f_X12_bestSwap_L66_ok h0 hC hq (fun q38 q39 q40 M41 => ?_) KF p7 p8 p9 v14 M11)
      · refine r_iinc 154 hC 6 rfl (by decide) dX12_bestSwap_154 (r_eqls (ls' := [(8, 0, w32 (p10 + 1)), (0, 30, x0), (1, 0, x1), (2, 1, v5), (4, 1, q38), (6, 0, q39), (7, 0, q40)]) rfl ?_)
        refine r_goto 157 hC (tgt := 49) (by decide) dX12_bestSwap_157 ?_
        exact r_sub [1, 2, 3, 4, 5, 6, 0] rfl (ih q38 q39 q40 (w32 (p10 + 1)) M41)
set_option maxRecDepth 100000 in
theorem t_X12_bestSwap (x0 x1 : Int) (M : Mem) (h0 : x0 ≠ 0) : MtI yX12_bestSwap cX12_bestSwap 14 (some .int) 10 0 0 [(30, x0), (0, x1)] M 0 (f_X12_bestSwap x0 x1 M) := by
  refine mk_I (by decide +kernel) (Nat.le_of_ble_eq_true rfl) (fun E C r0 M0 hC hq hin => ?_)
  refine r_eqls (ls' := [(0, 30, x0), (1, 0, x1)]) rfl ?_
  unfold f_X12_bestSwap
  refine r_iload_n 0 hC 1 rfl rfl dX12_bestSwap_0 ?_
  refine r_jn (P := fun j9 => Bk E C 14 M (r0, M0) 9 [(0, 30, x0)] [] M 0 0 (j9)) ?_ (fun j9 hj9 => ?_)
  · refine r_aload_n 9 hC 0 rfl (Or.inl (by decide)) rfl dX12_bestSwap_9 ?_
    refine r_iconst 10 hC (r32c rfl) dX12_bestSwap_10 ?_
    refine r_callVI 11 hC [(0, 1)] [] rfl vl_X12_87 rfl h0 (by decide) (Nat.le_of_ble_eq_true rfl) (by decide) (by decide) dX12_bestSwap_11 (t_X12_refuse x0 1 M h0) (fun v1 M2 => ?_)
    exact r_ireturn 14 hC hq (by decide) (by decide) dX12_bestSwap_14
  refine r_if_lt 1 hC (tgt := 9) (by decide) dX12_bestSwap_1 ?_ ?_
  · exact r_sub [0] rfl (hj9)
  · refine r_iload_n 4 hC 1 rfl rfl dX12_bestSwap_4 ?_
    refine r_iconst 5 hC (r32c rfl) dX12_bestSwap_5 ?_
    refine r_icmp_le 6 hC (tgt := 15) (by decide) dX12_bestSwap_6 ?_ ?_
    · refine r_aload_n 15 hC 0 rfl (Or.inl (by decide)) rfl dX12_bestSwap_15 ?_
      refine r_get 16 hC fd_10_0 fl_X12_7 dX12_bestSwap_16 (fun v3 => ?_)
      refine r_bipush 19 hC kb_8 dX12_bestSwap_19 ?_
      refine r_iaload 21 hC dX12_bestSwap_21 (fun v4 => ?_)
      refine r_if_le 22 hC (tgt := 32) (by decide) dX12_bestSwap_22 ?_ ?_
      · refine r_aload_n 32 hC 0 rfl (Or.inl (by decide)) rfl dX12_bestSwap_32 ?_
        refine r_callVI 33 hC [] [] rfl vl_X12_380 rfl h0 (by decide) (Nat.le_of_ble_eq_true rfl) (by decide) (by decide) dX12_bestSwap_33 (t_X12_allWater x0 M h0) (fun v5 M6 => ?_)
        refine r_lstore_n 36 hC rfl (by decide) dX12_bestSwap_36 (r_eqls (ls' := [(2, 1, v5), (0, 30, x0), (1, 0, x1)]) rfl ?_)
        refine r_lconst 37 hC (x := 0) ⟨by decide +kernel, r64c rfl⟩ dX12_bestSwap_37 ?_
        refine r_lstore 38 hC (by decide) dX12_bestSwap_38 (r_eqls (ls' := [(4, 1, 0), (2, 1, v5), (0, 30, x0), (1, 0, x1)]) rfl ?_)
        refine r_iconst 40 hC (r32c rfl) dX12_bestSwap_40 ?_
        refine r_istore 41 hC (by decide) dX12_bestSwap_41 (r_eqls (ls' := [(6, 0, (-1)), (4, 1, 0), (2, 1, v5), (0, 30, x0), (1, 0, x1)]) rfl ?_)
        refine r_iconst 43 hC (r32c rfl) dX12_bestSwap_43 ?_
        refine r_istore 44 hC (by decide) dX12_bestSwap_44 (r_eqls (ls' := [(7, 0, (-1)), (6, 0, (-1)), (4, 1, 0), (2, 1, v5), (0, 30, x0), (1, 0, x1)]) rfl ?_)
        refine r_iconst 46 hC (r32c rfl) dX12_bestSwap_46 ?_
        refine r_istore 47 hC (by decide) dX12_bestSwap_47 (r_eqls (ls' := [(8, 0, 0), (7, 0, (-1)), (6, 0, (-1)), (4, 1, 0), (2, 1, v5), (0, 30, x0), (1, 0, x1)]) rfl ?_)
        refine r_sub [5, 6, 4, 3, 2, 1, 0] rfl (f_X12_bestSwap_L49_ok h0 hC hq (fun q46 q47 q48 M49 => ?_) KF 0 (-1) (-1) 0 M6)
        · refine r_iload 160 hC 3 rfl dX12_bestSwap_160 ?_
          refine r_iconst 162 hC (r32c rfl) dX12_bestSwap_162 ?_
          refine r_icmp_ne 163 hC (tgt := 173) (by decide) dX12_bestSwap_163 ?_ ?_
          · refine r_aload_n 173 hC 0 rfl (Or.inl (by decide)) rfl dX12_bestSwap_173 ?_
            refine r_lload 174 hC 2 rfl dX12_bestSwap_174 ?_
            refine r_aload_n 176 hC 0 rfl (Or.inl (by decide)) rfl dX12_bestSwap_176 ?_
            refine r_callVP 177 hC [] [(1, q46), (30, x0)] rfl vl_X12_331 rfl h0 (by decide) (Nat.le_of_ble_eq_true rfl) (by decide) (by decide) dX12_bestSwap_177 (t_X12_litre x0 M49 h0) (fun v50 => ?_)
            refine r_callVI 180 hC [(1, q46), (1, v50)] [] rfl vl_X12_353 rfl h0 (by decide) (Nat.le_of_ble_eq_true rfl) (by decide) (by decide) dX12_bestSwap_180 (t_X12_tellsBy x0 q46 v50 M49 h0) (fun v51 M52 => ?_)
            refine r_jn (P := fun j205 => ∀ (q53 : Int) (M54 : Mem), Bk E C 14 M (r0, M0) 205 [] [(0, q53)] M54 0 0 (j205 q53 M54)) ?_ (fun j205 hj205 => ?_)
            · intro q53 M54
              exact r_ireturn 205 hC hq (by decide) (by decide) dX12_bestSwap_205
            refine r_if_eq 183 hC (tgt := 204) (by decide) dX12_bestSwap_183 ?_ ?_
            · refine r_iconst 204 hC (r32c rfl) dX12_bestSwap_204 ?_
              exact r_sub [] rfl (hj205 (-1) M52)
            · refine r_aload_n 186 hC 0 rfl (Or.inl (by decide)) rfl dX12_bestSwap_186 ?_
              refine r_iload_n 187 hC 1 rfl rfl dX12_bestSwap_187 ?_
              refine r_jn (P := fun j198 => ∀ (q55 : Int), Bk E C 14 M (r0, M0) 198 [] [(0, q55), (30, x0)] M52 0 0 (j198 q55)) ?_ (fun j198 hj198 => ?_)
              · intro q55
                refine r_callVI 198 hC [(0, q55)] [] rfl vl_X12_91 rfl h0 (by decide) (Nat.le_of_ble_eq_true rfl) (by decide) (by decide) dX12_bestSwap_198 (t_X12_gives x0 q55 M52 h0) (fun v56 M57 => ?_)
                refine r_goto 201 hC (tgt := 205) (by decide) dX12_bestSwap_201 ?_
                exact hj205 v56 M57
              refine r_if_ne 188 hC (tgt := 196) (by decide) dX12_bestSwap_188 ?_ ?_
              · refine r_iload 196 hC 4 rfl dX12_bestSwap_196 ?_
                exact r_sub [] rfl (hj198 q48)
              · refine r_iload 191 hC 3 rfl dX12_bestSwap_191 ?_
                refine r_goto 193 hC (tgt := 198) (by decide) dX12_bestSwap_193 ?_
                exact r_sub [] rfl (hj198 q47)
          · refine r_aload_n 166 hC 0 rfl (Or.inl (by decide)) rfl dX12_bestSwap_166 ?_
            refine r_bipush 167 hC kb_6 dX12_bestSwap_167 ?_
            refine r_callVI 169 hC [(0, 6)] [] rfl vl_X12_87 rfl h0 (by decide) (Nat.le_of_ble_eq_true rfl) (by decide) (by decide) dX12_bestSwap_169 (t_X12_refuse x0 6 M49 h0) (fun v58 M59 => ?_)
            exact r_ireturn 172 hC hq (by decide) (by decide) dX12_bestSwap_172
      · refine r_aload_n 25 hC 0 rfl (Or.inl (by decide)) rfl dX12_bestSwap_25 ?_
        refine r_bipush 26 hC kb_7 dX12_bestSwap_26 ?_
        refine r_callVI 28 hC [(0, 7)] [] rfl vl_X12_87 rfl h0 (by decide) (Nat.le_of_ble_eq_true rfl) (by decide) (by decide) dX12_bestSwap_28 (t_X12_refuse x0 7 M h0) (fun v60 M61 => ?_)
        exact r_ireturn 31 hC hq (by decide) (by decide) dX12_bestSwap_31
    · exact r_sub [0] rfl (hj9)

/-! WaterTurnsModel.debts()I -/
theorem dX12_debts_0 : decode cX12_debts 0 = .ok (.iconst 0, 1) := by decide +kernel
theorem dX12_debts_1 : decode cX12_debts 1 = .ok (.istore_n 1, 1) := by decide +kernel
theorem dX12_debts_2 : decode cX12_debts 2 = .ok (.iconst 0, 1) := by decide +kernel
theorem dX12_debts_3 : decode cX12_debts 3 = .ok (.istore_n 2, 1) := by decide +kernel
theorem dX12_debts_4 : decode cX12_debts 4 = .ok (.iload_n 2, 1) := by decide +kernel
theorem dX12_debts_5 : decode cX12_debts 5 = .ok (.bipush 10, 2) := by decide +kernel
theorem dX12_debts_7 : decode cX12_debts 7 = .ok (.if_icmp .ge 67, 3) := by decide +kernel
theorem dX12_debts_10 : decode cX12_debts 10 = .ok (.iload_n 2, 1) := by decide +kernel
theorem dX12_debts_11 : decode cX12_debts 11 = .ok (.iconst 1, 1) := by decide +kernel
theorem dX12_debts_12 : decode cX12_debts 12 = .ok (.iadd, 1) := by decide +kernel
theorem dX12_debts_13 : decode cX12_debts 13 = .ok (.istore_n 3, 1) := by decide +kernel
theorem dX12_debts_14 : decode cX12_debts 14 = .ok (.iload_n 3, 1) := by decide +kernel
theorem dX12_debts_15 : decode cX12_debts 15 = .ok (.bipush 10, 2) := by decide +kernel
theorem dX12_debts_17 : decode cX12_debts 17 = .ok (.if_icmp .ge 51, 3) := by decide +kernel
theorem dX12_debts_20 : decode cX12_debts 20 = .ok (.iload_n 1, 1) := by decide +kernel
theorem dX12_debts_21 : decode cX12_debts 21 = .ok (.aload_n 0, 1) := by decide +kernel
theorem dX12_debts_22 : decode cX12_debts 22 = .ok (.getfield 7, 3) := by decide +kernel
theorem dX12_debts_25 : decode cX12_debts 25 = .ok (.sipush 158, 3) := by decide +kernel
theorem dX12_debts_28 : decode cX12_debts 28 = .ok (.bipush 10, 2) := by decide +kernel
theorem dX12_debts_30 : decode cX12_debts 30 = .ok (.iload_n 2, 1) := by decide +kernel
theorem dX12_debts_31 : decode cX12_debts 31 = .ok (.imul, 1) := by decide +kernel
theorem dX12_debts_32 : decode cX12_debts 32 = .ok (.iadd, 1) := by decide +kernel
theorem dX12_debts_33 : decode cX12_debts 33 = .ok (.iload_n 3, 1) := by decide +kernel
theorem dX12_debts_34 : decode cX12_debts 34 = .ok (.iadd, 1) := by decide +kernel
theorem dX12_debts_35 : decode cX12_debts 35 = .ok (.iaload, 1) := by decide +kernel
theorem dX12_debts_36 : decode cX12_debts 36 = .ok (.aload_n 0, 1) := by decide +kernel
theorem dX12_debts_37 : decode cX12_debts 37 = .ok (.getfield 7, 3) := by decide +kernel
theorem dX12_debts_40 : decode cX12_debts 40 = .ok (.sipush 158, 3) := by decide +kernel
theorem dX12_debts_43 : decode cX12_debts 43 = .ok (.bipush 10, 2) := by decide +kernel
theorem dX12_debts_45 : decode cX12_debts 45 = .ok (.iload_n 3, 1) := by decide +kernel
theorem dX12_debts_46 : decode cX12_debts 46 = .ok (.imul, 1) := by decide +kernel
theorem dX12_debts_47 : decode cX12_debts 47 = .ok (.iadd, 1) := by decide +kernel
theorem dX12_debts_48 : decode cX12_debts 48 = .ok (.iload_n 2, 1) := by decide +kernel
theorem dX12_debts_49 : decode cX12_debts 49 = .ok (.iadd, 1) := by decide +kernel
theorem dX12_debts_50 : decode cX12_debts 50 = .ok (.iaload, 1) := by decide +kernel
theorem dX12_debts_51 : decode cX12_debts 51 = .ok (.iadd, 1) := by decide +kernel
theorem dX12_debts_52 : decode cX12_debts 52 = .ok (.ifCond .le 7, 3) := by decide +kernel
theorem dX12_debts_55 : decode cX12_debts 55 = .ok (.iconst 1, 1) := by decide +kernel
theorem dX12_debts_56 : decode cX12_debts 56 = .ok (.goto 4, 3) := by decide +kernel
theorem dX12_debts_59 : decode cX12_debts 59 = .ok (.iconst 0, 1) := by decide +kernel
theorem dX12_debts_60 : decode cX12_debts 60 = .ok (.iadd, 1) := by decide +kernel
theorem dX12_debts_61 : decode cX12_debts 61 = .ok (.istore_n 1, 1) := by decide +kernel
theorem dX12_debts_62 : decode cX12_debts 62 = .ok (.iinc 3 1, 3) := by decide +kernel
theorem dX12_debts_65 : decode cX12_debts 65 = .ok (.goto (-51), 3) := by decide +kernel
theorem dX12_debts_68 : decode cX12_debts 68 = .ok (.iinc 2 1, 3) := by decide +kernel
theorem dX12_debts_71 : decode cX12_debts 71 = .ok (.goto (-67), 3) := by decide +kernel
theorem dX12_debts_74 : decode cX12_debts 74 = .ok (.aload_n 0, 1) := by decide +kernel
theorem dX12_debts_75 : decode cX12_debts 75 = .ok (.iload_n 1, 1) := by decide +kernel
theorem dX12_debts_76 : decode cX12_debts 76 = .ok (.invokevirtual 91, 3) := by decide +kernel
theorem dX12_debts_79 : decode cX12_debts 79 = .ok (.ireturn, 1) := by decide +kernel
set_option maxRecDepth 100000 in
theorem f_X12_debts_L14_ok {E : EnvT} {C : Cx} {Mi M : Mem} {x0 : Int} (h0 : x0 ≠ 0) (hC : CxOK E C cX12_debts 4 yX12_debts.cls 2 0 0) {r0 : Int} {M0 : Mem} (hq : RQ E C 0 0 Mi (some .int) (some (0, r0)) M0) {p2 : Int} {k : Int → Option (Int × Mem)} (hk : ∀ q12, Bk E C 4 Mi (r0, M0) 68 [(0, 30, x0), (1, 0, q12), (2, 0, p2)] [] M 0 0 (k q12)) : ∀ (n : Nat) (p4 : Int) (p5 : Int), Bk E C 4 Mi (r0, M0) 14 [(0, 30, x0), (1, 0, p4), (2, 0, p2), (3, 0, p5)] [] M 0 0 (f_X12_debts_L14 M p2 x0 k n p4 p5) := by
  intro n
  induction n with
  | zero =>
    intro p4 p5
    exact r_none
  | succ n ih =>
    intro p4 p5
    rw [f_X12_debts_L14]
    refine r_iload_n 14 hC 3 rfl rfl dX12_debts_14 ?_
    refine r_bipush 15 hC kb_10 dX12_debts_15 ?_
    refine r_icmp_ge 17 hC (tgt := 68) (by decide) dX12_debts_17 ?_ ?_
    · exact r_sub [0, 1, 2] rfl (hk p4)
    · refine r_iload_n 20 hC 1 rfl rfl dX12_debts_20 ?_
      refine r_aload_n 21 hC 0 rfl (Or.inl (by decide)) rfl dX12_debts_21 ?_
      refine r_get 22 hC fd_10_0 fl_X12_7 dX12_debts_22 (fun v6 => ?_)
      refine r_sipush 25 hC ks_158 dX12_debts_25 ?_
      refine r_bipush 28 hC kb_10 dX12_debts_28 ?_
      refine r_iload_n 30 hC 2 rfl rfl dX12_debts_30 ?_
      refine r_imul 31 hC dX12_debts_31 ?_
      refine r_iadd 32 hC dX12_debts_32 ?_
      refine r_iload_n 33 hC 3 rfl rfl dX12_debts_33 ?_
      refine r_iadd 34 hC dX12_debts_34 ?_
      refine r_iaload 35 hC dX12_debts_35 (fun v7 => ?_)
      refine r_aload_n 36 hC 0 rfl (Or.inl (by decide)) rfl dX12_debts_36 ?_
      refine r_get 37 hC fd_10_0 fl_X12_7 dX12_debts_37 (fun v8 => ?_)
      refine r_sipush 40 hC ks_158 dX12_debts_40 ?_
      refine r_bipush 43 hC kb_10 dX12_debts_43 ?_
      refine r_iload_n 45 hC 3 rfl rfl dX12_debts_45 ?_
      refine r_imul 46 hC dX12_debts_46 ?_
      refine r_iadd 47 hC dX12_debts_47 ?_
      refine r_iload_n 48 hC 2 rfl rfl dX12_debts_48 ?_
      refine r_iadd 49 hC dX12_debts_49 ?_
      refine r_iaload 50 hC dX12_debts_50 (fun v9 => ?_)
      refine r_iadd 51 hC dX12_debts_51 ?_
      refine r_jn (P := fun j60 => ∀ (q10 : Int), Bk E C 4 Mi (r0, M0) 60 [(0, 30, x0), (2, 0, p2), (3, 0, p5)] [(0, q10), (0, p4)] M 0 0 (j60 q10)) ?_ (fun j60 hj60 => ?_)
      · intro q10
        refine r_iadd 60 hC dX12_debts_60 ?_
        refine r_istore_nL 61 hC rfl (by decide) dX12_debts_61 (fun v11 => r_eqls (ls' := [(1, 0, v11), (0, 30, x0), (2, 0, p2), (3, 0, p5)]) rfl ?_)
        refine r_iinc 62 hC 3 rfl (by decide) dX12_debts_62 (r_eqls (ls' := [(3, 0, w32 (p5 + 1)), (1, 0, v11), (0, 30, x0), (2, 0, p2)]) rfl ?_)
        refine r_goto 65 hC (tgt := 14) (by decide) dX12_debts_65 ?_
        exact r_sub [2, 1, 3, 0] rfl (ih v11 (w32 (p5 + 1)))
      refine r_if_le 52 hC (tgt := 59) (by decide) dX12_debts_52 ?_ ?_
      · refine r_iconst 59 hC (r32c rfl) dX12_debts_59 ?_
        exact r_sub [0, 2, 3] rfl (hj60 0)
      · refine r_iconst 55 hC (r32c rfl) dX12_debts_55 ?_
        refine r_goto 56 hC (tgt := 60) (by decide) dX12_debts_56 ?_
        exact r_sub [0, 2, 3] rfl (hj60 1)
set_option maxRecDepth 100000 in
theorem f_X12_debts_L4_ok {E : EnvT} {C : Cx} {Mi M : Mem} {x0 : Int} (h0 : x0 ≠ 0) (hC : CxOK E C cX12_debts 4 yX12_debts.cls 2 0 0) {r0 : Int} {M0 : Mem} (hq : RQ E C 0 0 Mi (some .int) (some (0, r0)) M0) {k : Int → Option (Int × Mem)} (hk : ∀ q14, Bk E C 4 Mi (r0, M0) 74 [(0, 30, x0), (1, 0, q14)] [] M 0 0 (k q14)) : ∀ (n : Nat) (p1 : Int) (p2 : Int), Bk E C 4 Mi (r0, M0) 4 [(0, 30, x0), (1, 0, p1), (2, 0, p2)] [] M 0 0 (f_X12_debts_L4 M x0 k n p1 p2) := by
  intro n
  induction n with
  | zero =>
    intro p1 p2
    exact r_none
  | succ n ih =>
    intro p1 p2
    rw [f_X12_debts_L4]
    refine r_iload_n 4 hC 2 rfl rfl dX12_debts_4 ?_
    refine r_bipush 5 hC kb_10 dX12_debts_5 ?_
    refine r_icmp_ge 7 hC (tgt := 74) (by decide) dX12_debts_7 ?_ ?_
    · exact r_sub [0, 1] rfl (hk p1)
    · refine r_iload_n 10 hC 2 rfl rfl dX12_debts_10 ?_
      refine r_iconst 11 hC (r32c rfl) dX12_debts_11 ?_
      refine r_iadd 12 hC dX12_debts_12 ?_
      refine r_istore_nL 13 hC rfl (by decide) dX12_debts_13 (fun v3 => r_eqls (ls' := [(3, 0, v3), (0, 30, x0), (1, 0, p1), (2, 0, p2)]) rfl ?_)
      refine r_sub [1, 2, 3, 0] rfl (f_X12_debts_L14_ok h0 hC hq (fun q13 => ?_) KF p1 v3)
      · refine r_iinc 68 hC 2 rfl (by decide) dX12_debts_68 (r_eqls (ls' := [(2, 0, w32 (p2 + 1)), (0, 30, x0), (1, 0, q13)]) rfl ?_)
        refine r_goto 71 hC (tgt := 4) (by decide) dX12_debts_71 ?_
        exact r_sub [1, 2, 0] rfl (ih q13 (w32 (p2 + 1)))
set_option maxRecDepth 100000 in
theorem t_X12_debts (x0 : Int) (M : Mem) (h0 : x0 ≠ 0) : MtI yX12_debts cX12_debts 4 (some .int) 2 0 0 [(30, x0)] M 0 (f_X12_debts x0 M) := by
  refine mk_I (by decide +kernel) (Nat.le_of_ble_eq_true rfl) (fun E C r0 M0 hC hq hin => ?_)
  refine r_eqls (ls' := [(0, 30, x0)]) rfl ?_
  unfold f_X12_debts
  refine r_iconst 0 hC (r32c rfl) dX12_debts_0 ?_
  refine r_istore_n 1 hC rfl (by decide) dX12_debts_1 (r_eqls (ls' := [(1, 0, 0), (0, 30, x0)]) rfl ?_)
  refine r_iconst 2 hC (r32c rfl) dX12_debts_2 ?_
  refine r_istore_n 3 hC rfl (by decide) dX12_debts_3 (r_eqls (ls' := [(2, 0, 0), (1, 0, 0), (0, 30, x0)]) rfl ?_)
  refine r_sub [2, 1, 0] rfl (f_X12_debts_L4_ok h0 hC hq (fun q15 => ?_) KF 0 0)
  · refine r_aload_n 74 hC 0 rfl (Or.inl (by decide)) rfl dX12_debts_74 ?_
    refine r_iload_n 75 hC 1 rfl rfl dX12_debts_75 ?_
    refine r_callVI 76 hC [(0, q15)] [] rfl vl_X12_91 rfl h0 (by decide) (Nat.le_of_ble_eq_true rfl) (by decide) (by decide) dX12_debts_76 (t_X12_gives x0 q15 M h0) (fun v16 M17 => ?_)
    exact r_ireturn 79 hC hq (by decide) (by decide) dX12_debts_79

/-! WaterTurnsModel.balance(I)I -/
theorem dX12_balance_0 : decode cX12_balance 0 = .ok (.iload_n 1, 1) := by decide +kernel
theorem dX12_balance_1 : decode cX12_balance 1 = .ok (.ifCond .lt 13, 3) := by decide +kernel
theorem dX12_balance_4 : decode cX12_balance 4 = .ok (.iload_n 1, 1) := by decide +kernel
theorem dX12_balance_5 : decode cX12_balance 5 = .ok (.aload_n 0, 1) := by decide +kernel
theorem dX12_balance_6 : decode cX12_balance 6 = .ok (.getfield 7, 3) := by decide +kernel
theorem dX12_balance_9 : decode cX12_balance 9 = .ok (.iconst 4, 1) := by decide +kernel
theorem dX12_balance_10 : decode cX12_balance 10 = .ok (.iaload, 1) := by decide +kernel
theorem dX12_balance_11 : decode cX12_balance 11 = .ok (.if_icmp .lt 9, 3) := by decide +kernel
theorem dX12_balance_14 : decode cX12_balance 14 = .ok (.aload_n 0, 1) := by decide +kernel
theorem dX12_balance_15 : decode cX12_balance 15 = .ok (.iconst 1, 1) := by decide +kernel
theorem dX12_balance_16 : decode cX12_balance 16 = .ok (.invokevirtual 87, 3) := by decide +kernel
theorem dX12_balance_19 : decode cX12_balance 19 = .ok (.ireturn, 1) := by decide +kernel
theorem dX12_balance_20 : decode cX12_balance 20 = .ok (.iconst 0, 1) := by decide +kernel
theorem dX12_balance_21 : decode cX12_balance 21 = .ok (.istore_n 2, 1) := by decide +kernel
theorem dX12_balance_22 : decode cX12_balance 22 = .ok (.iconst 0, 1) := by decide +kernel
theorem dX12_balance_23 : decode cX12_balance 23 = .ok (.istore_n 3, 1) := by decide +kernel
theorem dX12_balance_24 : decode cX12_balance 24 = .ok (.iload_n 3, 1) := by decide +kernel
theorem dX12_balance_25 : decode cX12_balance 25 = .ok (.aload_n 0, 1) := by decide +kernel
theorem dX12_balance_26 : decode cX12_balance 26 = .ok (.getfield 7, 3) := by decide +kernel
theorem dX12_balance_29 : decode cX12_balance 29 = .ok (.iconst 5, 1) := by decide +kernel
theorem dX12_balance_30 : decode cX12_balance 30 = .ok (.iaload, 1) := by decide +kernel
theorem dX12_balance_31 : decode cX12_balance 31 = .ok (.if_icmp .ge 74, 3) := by decide +kernel
theorem dX12_balance_34 : decode cX12_balance 34 = .ok (.aload_n 0, 1) := by decide +kernel
theorem dX12_balance_35 : decode cX12_balance 35 = .ok (.iload_n 3, 1) := by decide +kernel
theorem dX12_balance_36 : decode cX12_balance 36 = .ok (.iconst 3, 1) := by decide +kernel
theorem dX12_balance_37 : decode cX12_balance 37 = .ok (.invokevirtual 269, 3) := by decide +kernel
theorem dX12_balance_40 : decode cX12_balance 40 = .ok (.iload_n 1, 1) := by decide +kernel
theorem dX12_balance_41 : decode cX12_balance 41 = .ok (.if_icmp .eq 6, 3) := by decide +kernel
theorem dX12_balance_44 : decode cX12_balance 44 = .ok (.goto 55, 3) := by decide +kernel
theorem dX12_balance_47 : decode cX12_balance 47 = .ok (.iconst 0, 1) := by decide +kernel
theorem dX12_balance_48 : decode cX12_balance 48 = .ok (.istore 4, 2) := by decide +kernel
theorem dX12_balance_50 : decode cX12_balance 50 = .ok (.iload 4, 2) := by decide +kernel
theorem dX12_balance_52 : decode cX12_balance 52 = .ok (.bipush 10, 2) := by decide +kernel
theorem dX12_balance_54 : decode cX12_balance 54 = .ok (.if_icmp .ge 45, 3) := by decide +kernel
theorem dX12_balance_57 : decode cX12_balance 57 = .ok (.iload_n 2, 1) := by decide +kernel
theorem dX12_balance_58 : decode cX12_balance 58 = .ok (.aload_n 0, 1) := by decide +kernel
theorem dX12_balance_59 : decode cX12_balance 59 = .ok (.getfield 7, 3) := by decide +kernel
theorem dX12_balance_62 : decode cX12_balance 62 = .ok (.sipush 158, 3) := by decide +kernel
theorem dX12_balance_65 : decode cX12_balance 65 = .ok (.bipush 10, 2) := by decide +kernel
theorem dX12_balance_67 : decode cX12_balance 67 = .ok (.iload 4, 2) := by decide +kernel
theorem dX12_balance_69 : decode cX12_balance 69 = .ok (.imul, 1) := by decide +kernel
theorem dX12_balance_70 : decode cX12_balance 70 = .ok (.iadd, 1) := by decide +kernel
theorem dX12_balance_71 : decode cX12_balance 71 = .ok (.iload_n 3, 1) := by decide +kernel
theorem dX12_balance_72 : decode cX12_balance 72 = .ok (.iadd, 1) := by decide +kernel
theorem dX12_balance_73 : decode cX12_balance 73 = .ok (.iaload, 1) := by decide +kernel
theorem dX12_balance_74 : decode cX12_balance 74 = .ok (.aload_n 0, 1) := by decide +kernel
theorem dX12_balance_75 : decode cX12_balance 75 = .ok (.getfield 7, 3) := by decide +kernel
theorem dX12_balance_78 : decode cX12_balance 78 = .ok (.sipush 158, 3) := by decide +kernel
theorem dX12_balance_81 : decode cX12_balance 81 = .ok (.bipush 10, 2) := by decide +kernel
theorem dX12_balance_83 : decode cX12_balance 83 = .ok (.iload_n 3, 1) := by decide +kernel
theorem dX12_balance_84 : decode cX12_balance 84 = .ok (.imul, 1) := by decide +kernel
theorem dX12_balance_85 : decode cX12_balance 85 = .ok (.iadd, 1) := by decide +kernel
theorem dX12_balance_86 : decode cX12_balance 86 = .ok (.iload 4, 2) := by decide +kernel
theorem dX12_balance_88 : decode cX12_balance 88 = .ok (.iadd, 1) := by decide +kernel
theorem dX12_balance_89 : decode cX12_balance 89 = .ok (.iaload, 1) := by decide +kernel
theorem dX12_balance_90 : decode cX12_balance 90 = .ok (.isub, 1) := by decide +kernel
theorem dX12_balance_91 : decode cX12_balance 91 = .ok (.iadd, 1) := by decide +kernel
theorem dX12_balance_92 : decode cX12_balance 92 = .ok (.istore_n 2, 1) := by decide +kernel
theorem dX12_balance_93 : decode cX12_balance 93 = .ok (.iinc 4 1, 3) := by decide +kernel
theorem dX12_balance_96 : decode cX12_balance 96 = .ok (.goto (-46), 3) := by decide +kernel
theorem dX12_balance_99 : decode cX12_balance 99 = .ok (.iinc 3 1, 3) := by decide +kernel
theorem dX12_balance_102 : decode cX12_balance 102 = .ok (.goto (-78), 3) := by decide +kernel
theorem dX12_balance_105 : decode cX12_balance 105 = .ok (.aload_n 0, 1) := by decide +kernel
theorem dX12_balance_106 : decode cX12_balance 106 = .ok (.iload_n 2, 1) := by decide +kernel
theorem dX12_balance_107 : decode cX12_balance 107 = .ok (.invokevirtual 91, 3) := by decide +kernel
theorem dX12_balance_110 : decode cX12_balance 110 = .ok (.ireturn, 1) := by decide +kernel
set_option maxRecDepth 100000 in
theorem f_X12_balance_L50_ok {E : EnvT} {C : Cx} {Mi M : Mem} {x0 : Int} (h0 : x0 ≠ 0) (hC : CxOK E C cX12_balance 5 yX12_balance.cls 2 0 0) {r0 : Int} {M0 : Mem} (hq : RQ E C 0 0 Mi (some .int) (some (0, r0)) M0) {p6 x1 : Int} {k : Int → Option (Int × Mem)} (hk : ∀ q18, Bk E C 5 Mi (r0, M0) 99 [(0, 30, x0), (1, 0, x1), (2, 0, q18), (3, 0, p6)] [] M 0 0 (k q18)) : ∀ (n : Nat) (p11 : Int) (p12 : Int), Bk E C 5 Mi (r0, M0) 50 [(0, 30, x0), (1, 0, x1), (2, 0, p11), (3, 0, p6), (4, 0, p12)] [] M 0 0 (f_X12_balance_L50 M p6 x0 x1 k n p11 p12) := by
  intro n
  induction n with
  | zero =>
    intro p11 p12
    exact r_none
  | succ n ih =>
    intro p11 p12
    rw [f_X12_balance_L50]
    refine r_iload 50 hC 4 rfl dX12_balance_50 ?_
    refine r_bipush 52 hC kb_10 dX12_balance_52 ?_
    refine r_icmp_ge 54 hC (tgt := 99) (by decide) dX12_balance_54 ?_ ?_
    · exact r_sub [0, 1, 2, 3] rfl (hk p11)
    · refine r_iload_n 57 hC 2 rfl rfl dX12_balance_57 ?_
      refine r_aload_n 58 hC 0 rfl (Or.inl (by decide)) rfl dX12_balance_58 ?_
      refine r_get 59 hC fd_10_0 fl_X12_7 dX12_balance_59 (fun v13 => ?_)
      refine r_sipush 62 hC ks_158 dX12_balance_62 ?_
      refine r_bipush 65 hC kb_10 dX12_balance_65 ?_
      refine r_iload 67 hC 4 rfl dX12_balance_67 ?_
      refine r_imul 69 hC dX12_balance_69 ?_
      refine r_iadd 70 hC dX12_balance_70 ?_
      refine r_iload_n 71 hC 3 rfl rfl dX12_balance_71 ?_
      refine r_iadd 72 hC dX12_balance_72 ?_
      refine r_iaload 73 hC dX12_balance_73 (fun v14 => ?_)
      refine r_aload_n 74 hC 0 rfl (Or.inl (by decide)) rfl dX12_balance_74 ?_
      refine r_get 75 hC fd_10_0 fl_X12_7 dX12_balance_75 (fun v15 => ?_)
      refine r_sipush 78 hC ks_158 dX12_balance_78 ?_
      refine r_bipush 81 hC kb_10 dX12_balance_81 ?_
      refine r_iload_n 83 hC 3 rfl rfl dX12_balance_83 ?_
      refine r_imul 84 hC dX12_balance_84 ?_
      refine r_iadd 85 hC dX12_balance_85 ?_
      refine r_iload 86 hC 4 rfl dX12_balance_86 ?_
      refine r_iadd 88 hC dX12_balance_88 ?_
      refine r_iaload 89 hC dX12_balance_89 (fun v16 => ?_)
      refine r_isub 90 hC dX12_balance_90 ?_
      refine r_iadd 91 hC dX12_balance_91 ?_
      refine r_istore_nL 92 hC rfl (by decide) dX12_balance_92 (fun v17 => r_eqls (ls' := [(2, 0, v17), (0, 30, x0), (1, 0, x1), (3, 0, p6), (4, 0, p12)]) rfl ?_)
      refine r_iinc 93 hC 4 rfl (by decide) dX12_balance_93 (r_eqls (ls' := [(4, 0, w32 (p12 + 1)), (2, 0, v17), (0, 30, x0), (1, 0, x1), (3, 0, p6)]) rfl ?_)
      refine r_goto 96 hC (tgt := 50) (by decide) dX12_balance_96 ?_
      exact r_sub [2, 3, 1, 4, 0] rfl (ih v17 (w32 (p12 + 1)))
set_option maxRecDepth 100000 in
theorem f_X12_balance_L24_ok {E : EnvT} {C : Cx} {Mi M : Mem} {x0 : Int} (h0 : x0 ≠ 0) (hC : CxOK E C cX12_balance 5 yX12_balance.cls 2 0 0) {r0 : Int} {M0 : Mem} (hq : RQ E C 0 0 Mi (some .int) (some (0, r0)) M0) {x1 : Int} {k : Int → Option (Int × Mem)} (hk : ∀ q20, Bk E C 5 Mi (r0, M0) 105 [(0, 30, x0), (2, 0, q20)] [] M 0 0 (k q20)) : ∀ (n : Nat) (p5 : Int) (p6 : Int), Bk E C 5 Mi (r0, M0) 24 [(0, 30, x0), (1, 0, x1), (2, 0, p5), (3, 0, p6)] [] M 0 0 (f_X12_balance_L24 M x0 x1 k n p5 p6) := by
  intro n
  induction n with
  | zero =>
    intro p5 p6
    exact r_none
  | succ n ih =>
    intro p5 p6
    rw [f_X12_balance_L24]
    refine r_iload_n 24 hC 3 rfl rfl dX12_balance_24 ?_
    refine r_aload_n 25 hC 0 rfl (Or.inl (by decide)) rfl dX12_balance_25 ?_
    refine r_get 26 hC fd_10_0 fl_X12_7 dX12_balance_26 (fun v7 => ?_)
    refine r_iconst 29 hC (r32c rfl) dX12_balance_29 ?_
    refine r_iaload 30 hC dX12_balance_30 (fun v8 => ?_)
    refine r_icmp_ge 31 hC (tgt := 105) (by decide) dX12_balance_31 ?_ ?_
    · exact r_sub [0, 2] rfl (hk p5)
    · refine r_aload_n 34 hC 0 rfl (Or.inl (by decide)) rfl dX12_balance_34 ?_
      refine r_iload_n 35 hC 3 rfl rfl dX12_balance_35 ?_
      refine r_iconst 36 hC (r32c rfl) dX12_balance_36 ?_
      refine r_callVP 37 hC [(0, p6), (0, 3)] [] rfl vl_X12_269 rfl h0 (by decide) (Nat.le_of_ble_eq_true rfl) (by decide) (by decide) dX12_balance_37 (t_X12_ofField x0 p6 3 M h0) (fun v9 => ?_)
      refine r_iload_n 40 hC 1 rfl rfl dX12_balance_40 ?_
      refine r_jn (P := fun j99 => ∀ (q10 : Int), Bk E C 5 Mi (r0, M0) 99 [(0, 30, x0), (1, 0, x1), (2, 0, q10), (3, 0, p6)] [] M 0 0 (j99 q10)) ?_ (fun j99 hj99 => ?_)
      · intro q10
        refine r_iinc 99 hC 3 rfl (by decide) dX12_balance_99 (r_eqls (ls' := [(3, 0, w32 (p6 + 1)), (0, 30, x0), (1, 0, x1), (2, 0, q10)]) rfl ?_)
        refine r_goto 102 hC (tgt := 24) (by decide) dX12_balance_102 ?_
        exact r_sub [1, 2, 3, 0] rfl (ih q10 (w32 (p6 + 1)))
      refine r_icmp_eq 41 hC (tgt := 47) (by decide) dX12_balance_41 ?_ ?_
      · refine r_iconst 47 hC (r32c rfl) dX12_balance_47 ?_
        refine r_istore 48 hC (by decide) dX12_balance_48 (r_eqls (ls' := [(4, 0, 0), (0, 30, x0), (1, 0, x1), (2, 0, p5), (3, 0, p6)]) rfl ?_)
        refine r_sub [1, 2, 3, 4, 0] rfl (f_X12_balance_L50_ok h0 hC hq (fun q19 => ?_) KF p5 0)
        · exact hj99 q19
      · refine r_goto 44 hC (tgt := 99) (by decide) dX12_balance_44 ?_
        exact hj99 p5
set_option maxRecDepth 100000 in
theorem t_X12_balance (x0 x1 : Int) (M : Mem) (h0 : x0 ≠ 0) : MtI yX12_balance cX12_balance 5 (some .int) 2 0 0 [(30, x0), (0, x1)] M 0 (f_X12_balance x0 x1 M) := by
  refine mk_I (by decide +kernel) (Nat.le_of_ble_eq_true rfl) (fun E C r0 M0 hC hq hin => ?_)
  refine r_eqls (ls' := [(0, 30, x0), (1, 0, x1)]) rfl ?_
  unfold f_X12_balance
  refine r_iload_n 0 hC 1 rfl rfl dX12_balance_0 ?_
  refine r_jn (P := fun j14 => Bk E C 5 M (r0, M0) 14 [(0, 30, x0)] [] M 0 0 (j14)) ?_ (fun j14 hj14 => ?_)
  · refine r_aload_n 14 hC 0 rfl (Or.inl (by decide)) rfl dX12_balance_14 ?_
    refine r_iconst 15 hC (r32c rfl) dX12_balance_15 ?_
    refine r_callVI 16 hC [(0, 1)] [] rfl vl_X12_87 rfl h0 (by decide) (Nat.le_of_ble_eq_true rfl) (by decide) (by decide) dX12_balance_16 (t_X12_refuse x0 1 M h0) (fun v1 M2 => ?_)
    exact r_ireturn 19 hC hq (by decide) (by decide) dX12_balance_19
  refine r_if_lt 1 hC (tgt := 14) (by decide) dX12_balance_1 ?_ ?_
  · exact r_sub [0] rfl (hj14)
  · refine r_iload_n 4 hC 1 rfl rfl dX12_balance_4 ?_
    refine r_aload_n 5 hC 0 rfl (Or.inl (by decide)) rfl dX12_balance_5 ?_
    refine r_get 6 hC fd_10_0 fl_X12_7 dX12_balance_6 (fun v3 => ?_)
    refine r_iconst 9 hC (r32c rfl) dX12_balance_9 ?_
    refine r_iaload 10 hC dX12_balance_10 (fun v4 => ?_)
    refine r_icmp_lt 11 hC (tgt := 20) (by decide) dX12_balance_11 ?_ ?_
    · refine r_iconst 20 hC (r32c rfl) dX12_balance_20 ?_
      refine r_istore_n 21 hC rfl (by decide) dX12_balance_21 (r_eqls (ls' := [(2, 0, 0), (0, 30, x0), (1, 0, x1)]) rfl ?_)
      refine r_iconst 22 hC (r32c rfl) dX12_balance_22 ?_
      refine r_istore_n 23 hC rfl (by decide) dX12_balance_23 (r_eqls (ls' := [(3, 0, 0), (2, 0, 0), (0, 30, x0), (1, 0, x1)]) rfl ?_)
      refine r_sub [2, 3, 1, 0] rfl (f_X12_balance_L24_ok h0 hC hq (fun q21 => ?_) KF 0 0)
      · refine r_aload_n 105 hC 0 rfl (Or.inl (by decide)) rfl dX12_balance_105 ?_
        refine r_iload_n 106 hC 1 rfl rfl dX12_balance_106 ?_
        refine r_callVI 107 hC [(0, q21)] [] rfl vl_X12_91 rfl h0 (by decide) (Nat.le_of_ble_eq_true rfl) (by decide) (by decide) dX12_balance_107 (t_X12_gives x0 q21 M h0) (fun v22 M23 => ?_)
        exact r_ireturn 110 hC hq (by decide) (by decide) dX12_balance_110
    · exact r_sub [0] rfl (hj14)

/-! WaterTurnsModel.wrongGauge(IIJ)I -/
theorem dX12_wrongGauge_0 : decode cX12_wrongGauge 0 = .ok (.iload_n 1, 1) := by decide +kernel
theorem dX12_wrongGauge_1 : decode cX12_wrongGauge 1 = .ok (.invokestatic 98, 3) := by decide +kernel
theorem dX12_wrongGauge_4 : decode cX12_wrongGauge 4 = .ok (.ifCond .eq 13, 3) := by decide +kernel
theorem dX12_wrongGauge_7 : decode cX12_wrongGauge 7 = .ok (.iload_n 2, 1) := by decide +kernel
theorem dX12_wrongGauge_8 : decode cX12_wrongGauge 8 = .ok (.ifCond .lt 9, 3) := by decide +kernel
theorem dX12_wrongGauge_11 : decode cX12_wrongGauge 11 = .ok (.iload_n 2, 1) := by decide +kernel
theorem dX12_wrongGauge_12 : decode cX12_wrongGauge 12 = .ok (.bipush 60, 2) := by decide +kernel
theorem dX12_wrongGauge_14 : decode cX12_wrongGauge 14 = .ok (.if_icmp .le 5, 3) := by decide +kernel
theorem dX12_wrongGauge_17 : decode cX12_wrongGauge 17 = .ok (.iconst 1, 1) := by decide +kernel
theorem dX12_wrongGauge_18 : decode cX12_wrongGauge 18 = .ok (.ireturn, 1) := by decide +kernel
theorem dX12_wrongGauge_19 : decode cX12_wrongGauge 19 = .ok (.aload_n 0, 1) := by decide +kernel
theorem dX12_wrongGauge_20 : decode cX12_wrongGauge 20 = .ok (.getfield 24, 3) := by decide +kernel
theorem dX12_wrongGauge_23 : decode cX12_wrongGauge 23 = .ok (.iload_n 1, 1) := by decide +kernel
theorem dX12_wrongGauge_24 : decode cX12_wrongGauge 24 = .ok (.iaload, 1) := by decide +kernel
theorem dX12_wrongGauge_25 : decode cX12_wrongGauge 25 = .ok (.iconst (-1), 1) := by decide +kernel
theorem dX12_wrongGauge_26 : decode cX12_wrongGauge 26 = .ok (.if_icmp .ne 5, 3) := by decide +kernel
theorem dX12_wrongGauge_29 : decode cX12_wrongGauge 29 = .ok (.iconst 2, 1) := by decide +kernel
theorem dX12_wrongGauge_30 : decode cX12_wrongGauge 30 = .ok (.ireturn, 1) := by decide +kernel
theorem dX12_wrongGauge_31 : decode cX12_wrongGauge 31 = .ok (.aload_n 0, 1) := by decide +kernel
theorem dX12_wrongGauge_32 : decode cX12_wrongGauge 32 = .ok (.getfield 24, 3) := by decide +kernel
theorem dX12_wrongGauge_35 : decode cX12_wrongGauge 35 = .ok (.iload_n 1, 1) := by decide +kernel
theorem dX12_wrongGauge_36 : decode cX12_wrongGauge 36 = .ok (.iaload, 1) := by decide +kernel
theorem dX12_wrongGauge_37 : decode cX12_wrongGauge 37 = .ok (.iload_n 2, 1) := by decide +kernel
theorem dX12_wrongGauge_38 : decode cX12_wrongGauge 38 = .ok (.if_icmp .ge 5, 3) := by decide +kernel
theorem dX12_wrongGauge_41 : decode cX12_wrongGauge 41 = .ok (.iconst 3, 1) := by decide +kernel
theorem dX12_wrongGauge_42 : decode cX12_wrongGauge 42 = .ok (.ireturn, 1) := by decide +kernel
theorem dX12_wrongGauge_43 : decode cX12_wrongGauge 43 = .ok (.iconst 0, 1) := by decide +kernel
theorem dX12_wrongGauge_44 : decode cX12_wrongGauge 44 = .ok (.istore 5, 2) := by decide +kernel
theorem dX12_wrongGauge_46 : decode cX12_wrongGauge 46 = .ok (.iload 5, 2) := by decide +kernel
theorem dX12_wrongGauge_48 : decode cX12_wrongGauge 48 = .ok (.iload_n 2, 1) := by decide +kernel
theorem dX12_wrongGauge_49 : decode cX12_wrongGauge 49 = .ok (.if_icmp .ge 47, 3) := by decide +kernel
theorem dX12_wrongGauge_52 : decode cX12_wrongGauge 52 = .ok (.aload_n 0, 1) := by decide +kernel
theorem dX12_wrongGauge_53 : decode cX12_wrongGauge 53 = .ok (.getfield 27, 3) := by decide +kernel
theorem dX12_wrongGauge_56 : decode cX12_wrongGauge 56 = .ok (.bipush 60, 2) := by decide +kernel
theorem dX12_wrongGauge_58 : decode cX12_wrongGauge 58 = .ok (.iload_n 1, 1) := by decide +kernel
theorem dX12_wrongGauge_59 : decode cX12_wrongGauge 59 = .ok (.imul, 1) := by decide +kernel
theorem dX12_wrongGauge_60 : decode cX12_wrongGauge 60 = .ok (.iload 5, 2) := by decide +kernel
theorem dX12_wrongGauge_62 : decode cX12_wrongGauge 62 = .ok (.iadd, 1) := by decide +kernel
theorem dX12_wrongGauge_63 : decode cX12_wrongGauge 63 = .ok (.laload, 1) := by decide +kernel
theorem dX12_wrongGauge_64 : decode cX12_wrongGauge 64 = .ok (.ldc2_w 109, 3) := by decide +kernel
theorem dX12_wrongGauge_67 : decode cX12_wrongGauge 67 = .ok (.lcmp, 1) := by decide +kernel
theorem dX12_wrongGauge_68 : decode cX12_wrongGauge 68 = .ok (.ifCond .lt 20, 3) := by decide +kernel
theorem dX12_wrongGauge_71 : decode cX12_wrongGauge 71 = .ok (.aload_n 0, 1) := by decide +kernel
theorem dX12_wrongGauge_72 : decode cX12_wrongGauge 72 = .ok (.getfield 27, 3) := by decide +kernel
theorem dX12_wrongGauge_75 : decode cX12_wrongGauge 75 = .ok (.bipush 60, 2) := by decide +kernel
theorem dX12_wrongGauge_77 : decode cX12_wrongGauge 77 = .ok (.iload_n 1, 1) := by decide +kernel
theorem dX12_wrongGauge_78 : decode cX12_wrongGauge 78 = .ok (.imul, 1) := by decide +kernel
theorem dX12_wrongGauge_79 : decode cX12_wrongGauge 79 = .ok (.iload 5, 2) := by decide +kernel
theorem dX12_wrongGauge_81 : decode cX12_wrongGauge 81 = .ok (.iadd, 1) := by decide +kernel
theorem dX12_wrongGauge_82 : decode cX12_wrongGauge 82 = .ok (.laload, 1) := by decide +kernel
theorem dX12_wrongGauge_83 : decode cX12_wrongGauge 83 = .ok (.lload_n 3, 1) := by decide +kernel
theorem dX12_wrongGauge_84 : decode cX12_wrongGauge 84 = .ok (.lcmp, 1) := by decide +kernel
theorem dX12_wrongGauge_85 : decode cX12_wrongGauge 85 = .ok (.ifCond .le 5, 3) := by decide +kernel
theorem dX12_wrongGauge_88 : decode cX12_wrongGauge 88 = .ok (.iconst 5, 1) := by decide +kernel
theorem dX12_wrongGauge_89 : decode cX12_wrongGauge 89 = .ok (.ireturn, 1) := by decide +kernel
theorem dX12_wrongGauge_90 : decode cX12_wrongGauge 90 = .ok (.iinc 5 1, 3) := by decide +kernel
theorem dX12_wrongGauge_93 : decode cX12_wrongGauge 93 = .ok (.goto (-47), 3) := by decide +kernel
theorem dX12_wrongGauge_96 : decode cX12_wrongGauge 96 = .ok (.iconst 0, 1) := by decide +kernel
theorem dX12_wrongGauge_97 : decode cX12_wrongGauge 97 = .ok (.ireturn, 1) := by decide +kernel
set_option maxRecDepth 100000 in
theorem f_X12_wrongGauge_L46_ok {E : EnvT} {C : Cx} {Mi M : Mem} {x0 : Int} (h0 : x0 ≠ 0) (hC : CxOK E C cX12_wrongGauge 6 yX12_wrongGauge.cls 2 0 0) {r0 : Int} (hq : RQ E C 0 0 Mi (some .int) (some (0, r0)) M) {x1 x2 x3 : Int} {k1 : Option (Int)} {k2 : Option (Int)} (hk1 : Bk E C 6 Mi r0 96 [] [] M 0 0 (k1)) (hk2 : Bk E C 6 Mi r0 88 [] [] M 0 0 (k2)) : ∀ (n : Nat) (p6 : Int), Bk E C 6 Mi r0 46 [(0, 30, x0), (1, 0, x1), (2, 0, x2), (3, 1, x3), (5, 0, p6)] [] M 0 0 (f_X12_wrongGauge_L46 M x0 x1 x2 x3 k1 k2 n p6) := by
  intro n
  induction n with
  | zero =>
    intro p6
    exact r_none
  | succ n ih =>
    intro p6
    rw [f_X12_wrongGauge_L46]
    refine r_iload 46 hC 4 rfl dX12_wrongGauge_46 ?_
    refine r_iload_n 48 hC 2 rfl rfl dX12_wrongGauge_48 ?_
    refine r_icmp_ge 49 hC (tgt := 96) (by decide) dX12_wrongGauge_49 ?_ ?_
    · exact r_sub [] rfl (hk1)
    · refine r_aload_n 52 hC 0 rfl (Or.inl (by decide)) rfl dX12_wrongGauge_52 ?_
      refine r_get 53 hC fd_10_7 fl_X12_27 dX12_wrongGauge_53 (fun v7 => ?_)
      refine r_bipush 56 hC kb_60 dX12_wrongGauge_56 ?_
      refine r_iload_n 58 hC 1 rfl rfl dX12_wrongGauge_58 ?_
      refine r_imul 59 hC dX12_wrongGauge_59 ?_
      refine r_iload 60 hC 4 rfl dX12_wrongGauge_60 ?_
      refine r_iadd 62 hC dX12_wrongGauge_62 ?_
      refine r_laload 63 hC dX12_wrongGauge_63 (fun v8 => ?_)
      refine r_ldc2 64 hC (x := (-1)) kl_X12_109 ⟨by decide +kernel, r64c rfl⟩ dX12_wrongGauge_64 ?_
      refine r_lcmp_lt 67 hC (tgt := 88) (by decide) dX12_wrongGauge_67 dX12_wrongGauge_68 ?_ ?_
      · exact r_sub [] rfl (hk2)
      · refine r_aload_n 71 hC 0 rfl (Or.inl (by decide)) rfl dX12_wrongGauge_71 ?_
        refine r_get 72 hC fd_10_7 fl_X12_27 dX12_wrongGauge_72 (fun v9 => ?_)
        refine r_bipush 75 hC kb_60 dX12_wrongGauge_75 ?_
        refine r_iload_n 77 hC 1 rfl rfl dX12_wrongGauge_77 ?_
        refine r_imul 78 hC dX12_wrongGauge_78 ?_
        refine r_iload 79 hC 4 rfl dX12_wrongGauge_79 ?_
        refine r_iadd 81 hC dX12_wrongGauge_81 ?_
        refine r_laload 82 hC dX12_wrongGauge_82 (fun v10 => ?_)
        refine r_lload_n 83 hC 3 rfl rfl dX12_wrongGauge_83 ?_
        refine r_lcmp_le 84 hC (tgt := 90) (by decide) dX12_wrongGauge_84 dX12_wrongGauge_85 ?_ ?_
        · refine r_iinc 90 hC 4 rfl (by decide) dX12_wrongGauge_90 (r_eqls (ls' := [(5, 0, w32 (p6 + 1)), (0, 30, x0), (1, 0, x1), (2, 0, x2), (3, 1, x3)]) rfl ?_)
          refine r_goto 93 hC (tgt := 46) (by decide) dX12_wrongGauge_93 ?_
          exact r_sub [1, 2, 3, 4, 0] rfl (ih (w32 (p6 + 1)))
        · exact r_sub [] rfl (hk2)
set_option maxRecDepth 100000 in
theorem t_X12_wrongGauge (x0 x1 x2 x3 : Int) (M : Mem) (h0 : x0 ≠ 0) : MtP yX12_wrongGauge cX12_wrongGauge 6 (some .int) 2 0 0 [(30, x0), (0, x1), (0, x2), (1, x3)] M 0 (f_X12_wrongGauge x0 x1 x2 x3 M) := by
  refine mk_P (by decide +kernel) (Nat.le_of_ble_eq_true rfl) (fun E C r0 hC hq hin => ?_)
  refine r_eqls (ls' := [(0, 30, x0), (1, 0, x1), (2, 0, x2), (3, 1, x3)]) rfl ?_
  unfold f_X12_wrongGauge
  refine r_iload_n 0 hC 1 rfl rfl dX12_wrongGauge_0 ?_
  refine r_callSP 1 hC [(0, x1)] [] rfl sl_X12_98 rfl (by decide) (Nat.le_of_ble_eq_true rfl) (by decide) (by decide) dX12_wrongGauge_1 (t_X12_isTray x1 M) (fun v1 => ?_)
  refine r_jn (P := fun j17 => Bk E C 6 M r0 17 [] [] M 0 0 (j17)) ?_ (fun j17 hj17 => ?_)
  · refine r_iconst 17 hC (r32c rfl) dX12_wrongGauge_17 ?_
    exact r_ireturnP 18 hC hq (by decide) (by decide) dX12_wrongGauge_18
  refine r_if_eq 4 hC (tgt := 17) (by decide) dX12_wrongGauge_4 ?_ ?_
  · exact r_sub [] rfl (hj17)
  · refine r_iload_n 7 hC 2 rfl rfl dX12_wrongGauge_7 ?_
    refine r_if_lt 8 hC (tgt := 17) (by decide) dX12_wrongGauge_8 ?_ ?_
    · exact r_sub [] rfl (hj17)
    · refine r_iload_n 11 hC 2 rfl rfl dX12_wrongGauge_11 ?_
      refine r_bipush 12 hC kb_60 dX12_wrongGauge_12 ?_
      refine r_icmp_le 14 hC (tgt := 19) (by decide) dX12_wrongGauge_14 ?_ ?_
      · refine r_aload_n 19 hC 0 rfl (Or.inl (by decide)) rfl dX12_wrongGauge_19 ?_
        refine r_get 20 hC fd_10_6 fl_X12_24 dX12_wrongGauge_20 (fun v2 => ?_)
        refine r_iload_n 23 hC 1 rfl rfl dX12_wrongGauge_23 ?_
        refine r_iaload 24 hC dX12_wrongGauge_24 (fun v3 => ?_)
        refine r_iconst 25 hC (r32c rfl) dX12_wrongGauge_25 ?_
        refine r_icmp_ne 26 hC (tgt := 31) (by decide) dX12_wrongGauge_26 ?_ ?_
        · refine r_aload_n 31 hC 0 rfl (Or.inl (by decide)) rfl dX12_wrongGauge_31 ?_
          refine r_get 32 hC fd_10_6 fl_X12_24 dX12_wrongGauge_32 (fun v4 => ?_)
          refine r_iload_n 35 hC 1 rfl rfl dX12_wrongGauge_35 ?_
          refine r_iaload 36 hC dX12_wrongGauge_36 (fun v5 => ?_)
          refine r_iload_n 37 hC 2 rfl rfl dX12_wrongGauge_37 ?_
          refine r_icmp_ge 38 hC (tgt := 43) (by decide) dX12_wrongGauge_38 ?_ ?_
          · refine r_iconst 43 hC (r32c rfl) dX12_wrongGauge_43 ?_
            refine r_istore 44 hC (by decide) dX12_wrongGauge_44 (r_eqls (ls' := [(5, 0, 0), (0, 30, x0), (1, 0, x1), (2, 0, x2), (3, 1, x3)]) rfl ?_)
            refine r_sub [1, 2, 3, 4, 0] rfl (f_X12_wrongGauge_L46_ok h0 hC hq ?_ ?_ KF 0)
            · refine r_iconst 96 hC (r32c rfl) dX12_wrongGauge_96 ?_
              exact r_ireturnP 97 hC hq (by decide) (by decide) dX12_wrongGauge_97
            · refine r_iconst 88 hC (r32c rfl) dX12_wrongGauge_88 ?_
              exact r_ireturnP 89 hC hq (by decide) (by decide) dX12_wrongGauge_89
          · refine r_iconst 41 hC (r32c rfl) dX12_wrongGauge_41 ?_
            exact r_ireturnP 42 hC hq (by decide) (by decide) dX12_wrongGauge_42
        · refine r_iconst 29 hC (r32c rfl) dX12_wrongGauge_29 ?_
          exact r_ireturnP 30 hC hq (by decide) (by decide) dX12_wrongGauge_30
      · exact r_sub [] rfl (hj17)

/-! WaterTurnsModel.mean(II)Z -/
theorem dX12_mean_0 : decode cX12_mean 0 = .ok (.iload_n 2, 1) := by decide +kernel
theorem dX12_mean_1 : decode cX12_mean 1 = .ok (.iconst 1, 1) := by decide +kernel
theorem dX12_mean_2 : decode cX12_mean 2 = .ok (.if_icmp .ge 7, 3) := by decide +kernel
theorem dX12_mean_5 : decode cX12_mean 5 = .ok (.iconst 1, 1) := by decide +kernel
theorem dX12_mean_6 : decode cX12_mean 6 = .ok (.goto 12, 3) := by decide +kernel
theorem dX12_mean_9 : decode cX12_mean 9 = .ok (.aload_n 0, 1) := by decide +kernel
theorem dX12_mean_10 : decode cX12_mean 10 = .ok (.iload_n 1, 1) := by decide +kernel
theorem dX12_mean_11 : decode cX12_mean 11 = .ok (.iload_n 2, 1) := by decide +kernel
theorem dX12_mean_12 : decode cX12_mean 12 = .ok (.ldc2_w 363, 3) := by decide +kernel
theorem dX12_mean_15 : decode cX12_mean 15 = .ok (.invokevirtual 392, 3) := by decide +kernel
theorem dX12_mean_18 : decode cX12_mean 18 = .ok (.istore_n 3, 1) := by decide +kernel
theorem dX12_mean_19 : decode cX12_mean 19 = .ok (.iload_n 3, 1) := by decide +kernel
theorem dX12_mean_20 : decode cX12_mean 20 = .ok (.ifCond .le 9, 3) := by decide +kernel
theorem dX12_mean_23 : decode cX12_mean 23 = .ok (.aload_n 0, 1) := by decide +kernel
theorem dX12_mean_24 : decode cX12_mean 24 = .ok (.iload_n 3, 1) := by decide +kernel
theorem dX12_mean_25 : decode cX12_mean 25 = .ok (.invokevirtual 94, 3) := by decide +kernel
theorem dX12_mean_28 : decode cX12_mean 28 = .ok (.ireturn, 1) := by decide +kernel
theorem dX12_mean_29 : decode cX12_mean 29 = .ok (.lconst 0, 1) := by decide +kernel
theorem dX12_mean_30 : decode cX12_mean 30 = .ok (.lstore 4, 2) := by decide +kernel
theorem dX12_mean_32 : decode cX12_mean 32 = .ok (.iconst 0, 1) := by decide +kernel
theorem dX12_mean_33 : decode cX12_mean 33 = .ok (.istore 6, 2) := by decide +kernel
theorem dX12_mean_35 : decode cX12_mean 35 = .ok (.iconst 0, 1) := by decide +kernel
theorem dX12_mean_36 : decode cX12_mean 36 = .ok (.istore 7, 2) := by decide +kernel
theorem dX12_mean_38 : decode cX12_mean 38 = .ok (.iload 7, 2) := by decide +kernel
theorem dX12_mean_40 : decode cX12_mean 40 = .ok (.iload_n 2, 1) := by decide +kernel
theorem dX12_mean_41 : decode cX12_mean 41 = .ok (.if_icmp .ge 45, 3) := by decide +kernel
theorem dX12_mean_44 : decode cX12_mean 44 = .ok (.aload_n 0, 1) := by decide +kernel
theorem dX12_mean_45 : decode cX12_mean 45 = .ok (.getfield 27, 3) := by decide +kernel
theorem dX12_mean_48 : decode cX12_mean 48 = .ok (.bipush 60, 2) := by decide +kernel
theorem dX12_mean_50 : decode cX12_mean 50 = .ok (.iload_n 1, 1) := by decide +kernel
theorem dX12_mean_51 : decode cX12_mean 51 = .ok (.imul, 1) := by decide +kernel
theorem dX12_mean_52 : decode cX12_mean 52 = .ok (.iload 7, 2) := by decide +kernel
theorem dX12_mean_54 : decode cX12_mean 54 = .ok (.iadd, 1) := by decide +kernel
theorem dX12_mean_55 : decode cX12_mean 55 = .ok (.laload, 1) := by decide +kernel
theorem dX12_mean_56 : decode cX12_mean 56 = .ok (.lstore 8, 2) := by decide +kernel
theorem dX12_mean_58 : decode cX12_mean 58 = .ok (.lload 8, 2) := by decide +kernel
theorem dX12_mean_60 : decode cX12_mean 60 = .ok (.ldc2_w 109, 3) := by decide +kernel
theorem dX12_mean_63 : decode cX12_mean 63 = .ok (.lcmp, 1) := by decide +kernel
theorem dX12_mean_64 : decode cX12_mean 64 = .ok (.ifCond .ne 6, 3) := by decide +kernel
theorem dX12_mean_67 : decode cX12_mean 67 = .ok (.goto 13, 3) := by decide +kernel
theorem dX12_mean_70 : decode cX12_mean 70 = .ok (.lload 4, 2) := by decide +kernel
theorem dX12_mean_72 : decode cX12_mean 72 = .ok (.lload 8, 2) := by decide +kernel
theorem dX12_mean_74 : decode cX12_mean 74 = .ok (.ladd, 1) := by decide +kernel
theorem dX12_mean_75 : decode cX12_mean 75 = .ok (.lstore 4, 2) := by decide +kernel
theorem dX12_mean_77 : decode cX12_mean 77 = .ok (.iinc 6 1, 3) := by decide +kernel
theorem dX12_mean_80 : decode cX12_mean 80 = .ok (.iinc 7 1, 3) := by decide +kernel
theorem dX12_mean_83 : decode cX12_mean 83 = .ok (.goto (-45), 3) := by decide +kernel
theorem dX12_mean_86 : decode cX12_mean 86 = .ok (.iload 6, 2) := by decide +kernel
theorem dX12_mean_88 : decode cX12_mean 88 = .ok (.ifCond .ne 12, 3) := by decide +kernel
theorem dX12_mean_91 : decode cX12_mean 91 = .ok (.aload_n 0, 1) := by decide +kernel
theorem dX12_mean_92 : decode cX12_mean 92 = .ok (.bipush 6, 2) := by decide +kernel
theorem dX12_mean_94 : decode cX12_mean 94 = .ok (.invokevirtual 94, 3) := by decide +kernel
theorem dX12_mean_97 : decode cX12_mean 97 = .ok (.goto 12, 3) := by decide +kernel
theorem dX12_mean_100 : decode cX12_mean 100 = .ok (.aload_n 0, 1) := by decide +kernel
theorem dX12_mean_101 : decode cX12_mean 101 = .ok (.lload 4, 2) := by decide +kernel
theorem dX12_mean_103 : decode cX12_mean 103 = .ok (.iload 6, 2) := by decide +kernel
theorem dX12_mean_105 : decode cX12_mean 105 = .ok (.i2l, 1) := by decide +kernel
theorem dX12_mean_106 : decode cX12_mean 106 = .ok (.invokevirtual 353, 3) := by decide +kernel
theorem dX12_mean_109 : decode cX12_mean 109 = .ok (.ireturn, 1) := by decide +kernel
set_option maxRecDepth 100000 in
theorem f_X12_mean_L38_ok {E : EnvT} {C : Cx} {Mi M : Mem} {x0 : Int} (h0 : x0 ≠ 0) (hC : CxOK E C cX12_mean 10 yX12_mean.cls 3 0 0) {r0 : Int} {M0 : Mem} (hq : RQ E C 0 0 Mi (some .boolean) (some (0, r0)) M0) {x1 x2 : Int} {k : Int → Int → Option (Int × Mem)} (hk : ∀ q10 q11, Bk E C 10 Mi (r0, M0) 86 [(0, 30, x0), (4, 1, q10), (6, 0, q11)] [] M 0 0 (k q10 q11)) : ∀ (n : Nat) (p2 : Int) (p3 : Int) (p4 : Int), Bk E C 10 Mi (r0, M0) 38 [(0, 30, x0), (1, 0, x1), (2, 0, x2), (4, 1, p2), (6, 0, p3), (7, 0, p4)] [] M 0 0 (f_X12_mean_L38 M x0 x1 x2 k n p2 p3 p4) := by
  intro n
  induction n with
  | zero =>
    intro p2 p3 p4
    exact r_none
  | succ n ih =>
    intro p2 p3 p4
    rw [f_X12_mean_L38]
    refine r_iload 38 hC 5 rfl dX12_mean_38 ?_
    refine r_iload_n 40 hC 2 rfl rfl dX12_mean_40 ?_
    refine r_icmp_ge 41 hC (tgt := 86) (by decide) dX12_mean_41 ?_ ?_
    · exact r_sub [0, 3, 4] rfl (hk p2 p3)
    · refine r_aload_n 44 hC 0 rfl (Or.inl (by decide)) rfl dX12_mean_44 ?_
      refine r_get 45 hC fd_10_7 fl_X12_27 dX12_mean_45 (fun v5 => ?_)
      refine r_bipush 48 hC kb_60 dX12_mean_48 ?_
      refine r_iload_n 50 hC 1 rfl rfl dX12_mean_50 ?_
      refine r_imul 51 hC dX12_mean_51 ?_
      refine r_iload 52 hC 5 rfl dX12_mean_52 ?_
      refine r_iadd 54 hC dX12_mean_54 ?_
      refine r_laload 55 hC dX12_mean_55 (fun v6 => ?_)
      refine r_lstore 56 hC (by decide) dX12_mean_56 (r_eqls (ls' := [(8, 1, v6), (0, 30, x0), (1, 0, x1), (2, 0, x2), (4, 1, p2), (6, 0, p3), (7, 0, p4)]) rfl ?_)
      refine r_lload 58 hC 0 rfl dX12_mean_58 ?_
      refine r_ldc2 60 hC (x := (-1)) kl_X12_109 ⟨by decide +kernel, r64c rfl⟩ dX12_mean_60 ?_
      refine r_jn (P := fun j80 => ∀ (q7 : Int) (q8 : Int), Bk E C 10 Mi (r0, M0) 80 [(0, 30, x0), (1, 0, x1), (2, 0, x2), (4, 1, q7), (6, 0, q8), (7, 0, p4)] [] M 0 0 (j80 q7 q8)) ?_ (fun j80 hj80 => ?_)
      · intro q7 q8
        refine r_iinc 80 hC 5 rfl (by decide) dX12_mean_80 (r_eqls (ls' := [(7, 0, w32 (p4 + 1)), (0, 30, x0), (1, 0, x1), (2, 0, x2), (4, 1, q7), (6, 0, q8)]) rfl ?_)
        refine r_goto 83 hC (tgt := 38) (by decide) dX12_mean_83 ?_
        exact r_sub [1, 2, 3, 4, 5, 0] rfl (ih q7 q8 (w32 (p4 + 1)))
      refine r_lcmp_ne 63 hC (tgt := 70) (by decide) dX12_mean_63 dX12_mean_64 ?_ ?_
      · refine r_lload 70 hC 4 rfl dX12_mean_70 ?_
        refine r_lload 72 hC 0 rfl dX12_mean_72 ?_
        refine r_ladd 74 hC dX12_mean_74 ?_
        refine r_lstoreL 75 hC (by decide) dX12_mean_75 (fun v9 => r_eqls (ls' := [(4, 1, v9), (8, 1, v6), (0, 30, x0), (1, 0, x1), (2, 0, x2), (6, 0, p3), (7, 0, p4)]) rfl ?_)
        refine r_iinc 77 hC 5 rfl (by decide) dX12_mean_77 (r_eqls (ls' := [(6, 0, w32 (p3 + 1)), (4, 1, v9), (8, 1, v6), (0, 30, x0), (1, 0, x1), (2, 0, x2), (7, 0, p4)]) rfl ?_)
        exact r_sub [3, 4, 5, 1, 0, 6] rfl (hj80 v9 (w32 (p3 + 1)))
      · refine r_goto 67 hC (tgt := 80) (by decide) dX12_mean_67 ?_
        exact r_sub [1, 2, 3, 4, 5, 6] rfl (hj80 p2 p3)
set_option maxRecDepth 100000 in
theorem t_X12_mean (x0 x1 x2 : Int) (M : Mem) (h0 : x0 ≠ 0) : MtI yX12_mean cX12_mean 10 (some .boolean) 3 0 0 [(30, x0), (0, x1), (0, x2)] M 0 (f_X12_mean x0 x1 x2 M) := by
  refine mk_I (by decide +kernel) (Nat.le_of_ble_eq_true rfl) (fun E C r0 M0 hC hq hin => ?_)
  refine r_eqls (ls' := [(0, 30, x0), (1, 0, x1), (2, 0, x2)]) rfl ?_
  unfold f_X12_mean
  refine r_iload_n 0 hC 2 rfl rfl dX12_mean_0 ?_
  refine r_iconst 1 hC (r32c rfl) dX12_mean_1 ?_
  refine r_jn (P := fun j18 => ∀ (q1 : Int), Bk E C 10 M (r0, M0) 18 [(0, 30, x0), (1, 0, x1), (2, 0, x2)] [(0, q1)] M 0 0 (j18 q1)) ?_ (fun j18 hj18 => ?_)
  · intro q1
    refine r_istore_n 18 hC rfl (by decide) dX12_mean_18 (r_eqls (ls' := [(3, 0, q1), (0, 30, x0), (1, 0, x1), (2, 0, x2)]) rfl ?_)
    refine r_iload_n 19 hC 0 rfl rfl dX12_mean_19 ?_
    refine r_if_le 20 hC (tgt := 29) (by decide) dX12_mean_20 ?_ ?_
    · refine r_lconst 29 hC (x := 0) ⟨by decide +kernel, r64c rfl⟩ dX12_mean_29 ?_
      refine r_lstore 30 hC (by decide) dX12_mean_30 (r_eqls (ls' := [(4, 1, 0), (3, 0, q1), (0, 30, x0), (1, 0, x1), (2, 0, x2)]) rfl ?_)
      refine r_iconst 32 hC (r32c rfl) dX12_mean_32 ?_
      refine r_istore 33 hC (by decide) dX12_mean_33 (r_eqls (ls' := [(6, 0, 0), (4, 1, 0), (3, 0, q1), (0, 30, x0), (1, 0, x1), (2, 0, x2)]) rfl ?_)
      refine r_iconst 35 hC (r32c rfl) dX12_mean_35 ?_
      refine r_istore 36 hC (by decide) dX12_mean_36 (r_eqls (ls' := [(7, 0, 0), (6, 0, 0), (4, 1, 0), (3, 0, q1), (0, 30, x0), (1, 0, x1), (2, 0, x2)]) rfl ?_)
      refine r_sub [4, 5, 6, 2, 1, 0] rfl (f_X12_mean_L38_ok h0 hC hq (fun q12 q13 => ?_) KF 0 0 0)
      · refine r_iload 86 hC 2 rfl dX12_mean_86 ?_
        refine r_jn (P := fun j109 => ∀ (q14 : Int) (M15 : Mem), Bk E C 10 M (r0, M0) 109 [] [(0, q14)] M15 0 0 (j109 q14 M15)) ?_ (fun j109 hj109 => ?_)
        · intro q14 M15
          exact r_zreturn 109 hC hq (by decide) (by decide) dX12_mean_109
        refine r_if_ne 88 hC (tgt := 100) (by decide) dX12_mean_88 ?_ ?_
        · refine r_aload_n 100 hC 0 rfl (Or.inl (by decide)) rfl dX12_mean_100 ?_
          refine r_lload 101 hC 1 rfl dX12_mean_101 ?_
          refine r_iload 103 hC 2 rfl dX12_mean_103 ?_
          refine r_i2l 105 hC dX12_mean_105 ?_
          refine r_callVI 106 hC [(1, q12), (1, q13)] [] rfl vl_X12_353 rfl h0 (by decide) (Nat.le_of_ble_eq_true rfl) (by decide) (by decide) dX12_mean_106 (t_X12_tellsBy x0 q12 q13 M h0) (fun v16 M17 => ?_)
          exact r_sub [] rfl (hj109 v16 M17)
        · refine r_aload_n 91 hC 0 rfl (Or.inl (by decide)) rfl dX12_mean_91 ?_
          refine r_bipush 92 hC kb_6 dX12_mean_92 ?_
          refine r_callVI 94 hC [(0, 6)] [] rfl vl_X12_94 rfl h0 (by decide) (Nat.le_of_ble_eq_true rfl) (by decide) (by decide) dX12_mean_94 (t_X12_is x0 6 M h0) (fun v18 M19 => ?_)
          refine r_goto 97 hC (tgt := 109) (by decide) dX12_mean_97 ?_
          exact r_sub [] rfl (hj109 v18 M19)
    · refine r_aload_n 23 hC 1 rfl (Or.inl (by decide)) rfl dX12_mean_23 ?_
      refine r_iload_n 24 hC 0 rfl rfl dX12_mean_24 ?_
      refine r_callVI 25 hC [(0, q1)] [] rfl vl_X12_94 rfl h0 (by decide) (Nat.le_of_ble_eq_true rfl) (by decide) (by decide) dX12_mean_25 (t_X12_is x0 q1 M h0) (fun v20 M21 => ?_)
      exact r_zreturn 28 hC hq (by decide) (by decide) dX12_mean_28
  refine r_icmp_ge 2 hC (tgt := 9) (by decide) dX12_mean_2 ?_ ?_
  · refine r_aload_n 9 hC 0 rfl (Or.inl (by decide)) rfl dX12_mean_9 ?_
    refine r_iload_n 10 hC 1 rfl rfl dX12_mean_10 ?_
    refine r_iload_n 11 hC 2 rfl rfl dX12_mean_11 ?_
    refine r_ldc2 12 hC (x := 999999) kl_X12_363 ⟨by decide +kernel, r64c rfl⟩ dX12_mean_12 ?_
    refine r_callVP 15 hC [(0, x1), (0, x2), (1, 999999)] [] rfl vl_X12_392 rfl h0 (by decide) (Nat.le_of_ble_eq_true rfl) (by decide) (by decide) dX12_mean_15 (t_X12_wrongGauge x0 x1 x2 999999 M h0) (fun v22 => ?_)
    exact hj18 v22
  · refine r_iconst 5 hC (r32c rfl) dX12_mean_5 ?_
    refine r_goto 6 hC (tgt := 18) (by decide) dX12_mean_6 ?_
    exact hj18 1

/-! WaterTurnsModel.gaps(II)I -/
theorem dX12_gaps_0 : decode cX12_gaps 0 = .ok (.iload_n 2, 1) := by decide +kernel
theorem dX12_gaps_1 : decode cX12_gaps 1 = .ok (.iconst 1, 1) := by decide +kernel
theorem dX12_gaps_2 : decode cX12_gaps 2 = .ok (.if_icmp .ge 7, 3) := by decide +kernel
theorem dX12_gaps_5 : decode cX12_gaps 5 = .ok (.iconst 1, 1) := by decide +kernel
theorem dX12_gaps_6 : decode cX12_gaps 6 = .ok (.goto 12, 3) := by decide +kernel
theorem dX12_gaps_9 : decode cX12_gaps 9 = .ok (.aload_n 0, 1) := by decide +kernel
theorem dX12_gaps_10 : decode cX12_gaps 10 = .ok (.iload_n 1, 1) := by decide +kernel
theorem dX12_gaps_11 : decode cX12_gaps 11 = .ok (.iload_n 2, 1) := by decide +kernel
theorem dX12_gaps_12 : decode cX12_gaps 12 = .ok (.ldc2_w 363, 3) := by decide +kernel
theorem dX12_gaps_15 : decode cX12_gaps 15 = .ok (.invokevirtual 392, 3) := by decide +kernel
theorem dX12_gaps_18 : decode cX12_gaps 18 = .ok (.istore_n 3, 1) := by decide +kernel
theorem dX12_gaps_19 : decode cX12_gaps 19 = .ok (.iload_n 3, 1) := by decide +kernel
theorem dX12_gaps_20 : decode cX12_gaps 20 = .ok (.ifCond .le 9, 3) := by decide +kernel
theorem dX12_gaps_23 : decode cX12_gaps 23 = .ok (.aload_n 0, 1) := by decide +kernel
theorem dX12_gaps_24 : decode cX12_gaps 24 = .ok (.iload_n 3, 1) := by decide +kernel
theorem dX12_gaps_25 : decode cX12_gaps 25 = .ok (.invokevirtual 87, 3) := by decide +kernel
theorem dX12_gaps_28 : decode cX12_gaps 28 = .ok (.ireturn, 1) := by decide +kernel
theorem dX12_gaps_29 : decode cX12_gaps 29 = .ok (.iconst 0, 1) := by decide +kernel
theorem dX12_gaps_30 : decode cX12_gaps 30 = .ok (.istore 4, 2) := by decide +kernel
theorem dX12_gaps_32 : decode cX12_gaps 32 = .ok (.iconst 0, 1) := by decide +kernel
theorem dX12_gaps_33 : decode cX12_gaps 33 = .ok (.istore 5, 2) := by decide +kernel
theorem dX12_gaps_35 : decode cX12_gaps 35 = .ok (.iconst 0, 1) := by decide +kernel
theorem dX12_gaps_36 : decode cX12_gaps 36 = .ok (.istore 6, 2) := by decide +kernel
theorem dX12_gaps_38 : decode cX12_gaps 38 = .ok (.iload 6, 2) := by decide +kernel
theorem dX12_gaps_40 : decode cX12_gaps 40 = .ok (.iload_n 2, 1) := by decide +kernel
theorem dX12_gaps_41 : decode cX12_gaps 41 = .ok (.if_icmp .ge 47, 3) := by decide +kernel
theorem dX12_gaps_44 : decode cX12_gaps 44 = .ok (.aload_n 0, 1) := by decide +kernel
theorem dX12_gaps_45 : decode cX12_gaps 45 = .ok (.getfield 27, 3) := by decide +kernel
theorem dX12_gaps_48 : decode cX12_gaps 48 = .ok (.bipush 60, 2) := by decide +kernel
theorem dX12_gaps_50 : decode cX12_gaps 50 = .ok (.iload_n 1, 1) := by decide +kernel
theorem dX12_gaps_51 : decode cX12_gaps 51 = .ok (.imul, 1) := by decide +kernel
theorem dX12_gaps_52 : decode cX12_gaps 52 = .ok (.iload 6, 2) := by decide +kernel
theorem dX12_gaps_54 : decode cX12_gaps 54 = .ok (.iadd, 1) := by decide +kernel
theorem dX12_gaps_55 : decode cX12_gaps 55 = .ok (.laload, 1) := by decide +kernel
theorem dX12_gaps_56 : decode cX12_gaps 56 = .ok (.ldc2_w 109, 3) := by decide +kernel
theorem dX12_gaps_59 : decode cX12_gaps 59 = .ok (.lcmp, 1) := by decide +kernel
theorem dX12_gaps_60 : decode cX12_gaps 60 = .ok (.ifCond .ne 10, 3) := by decide +kernel
theorem dX12_gaps_63 : decode cX12_gaps 63 = .ok (.iload 5, 2) := by decide +kernel
theorem dX12_gaps_65 : decode cX12_gaps 65 = .ok (.iconst 1, 1) := by decide +kernel
theorem dX12_gaps_66 : decode cX12_gaps 66 = .ok (.iadd, 1) := by decide +kernel
theorem dX12_gaps_67 : decode cX12_gaps 67 = .ok (.goto 4, 3) := by decide +kernel
theorem dX12_gaps_70 : decode cX12_gaps 70 = .ok (.iconst 0, 1) := by decide +kernel
theorem dX12_gaps_71 : decode cX12_gaps 71 = .ok (.istore 5, 2) := by decide +kernel
theorem dX12_gaps_73 : decode cX12_gaps 73 = .ok (.iload 4, 2) := by decide +kernel
theorem dX12_gaps_75 : decode cX12_gaps 75 = .ok (.iload 5, 2) := by decide +kernel
theorem dX12_gaps_77 : decode cX12_gaps 77 = .ok (.invokestatic 386, 3) := by decide +kernel
theorem dX12_gaps_80 : decode cX12_gaps 80 = .ok (.istore 4, 2) := by decide +kernel
theorem dX12_gaps_82 : decode cX12_gaps 82 = .ok (.iinc 6 1, 3) := by decide +kernel
theorem dX12_gaps_85 : decode cX12_gaps 85 = .ok (.goto (-47), 3) := by decide +kernel
theorem dX12_gaps_88 : decode cX12_gaps 88 = .ok (.aload_n 0, 1) := by decide +kernel
theorem dX12_gaps_89 : decode cX12_gaps 89 = .ok (.iload 4, 2) := by decide +kernel
theorem dX12_gaps_91 : decode cX12_gaps 91 = .ok (.invokevirtual 91, 3) := by decide +kernel
theorem dX12_gaps_94 : decode cX12_gaps 94 = .ok (.ireturn, 1) := by decide +kernel
set_option maxRecDepth 100000 in
theorem f_X12_gaps_L38_ok {E : EnvT} {C : Cx} {Mi M : Mem} {x0 : Int} (h0 : x0 ≠ 0) (hC : CxOK E C cX12_gaps 7 yX12_gaps.cls 3 0 0) {r0 : Int} {M0 : Mem} (hq : RQ E C 0 0 Mi (some .int) (some (0, r0)) M0) {x1 x2 : Int} {k : Int → Option (Int × Mem)} (hk : ∀ q9, Bk E C 7 Mi (r0, M0) 88 [(0, 30, x0), (4, 0, q9)] [] M 0 0 (k q9)) : ∀ (n : Nat) (p2 : Int) (p3 : Int) (p4 : Int), Bk E C 7 Mi (r0, M0) 38 [(0, 30, x0), (1, 0, x1), (2, 0, x2), (4, 0, p2), (5, 0, p3), (6, 0, p4)] [] M 0 0 (f_X12_gaps_L38 M x0 x1 x2 k n p2 p3 p4) := by
  intro n
  induction n with
  | zero =>
    intro p2 p3 p4
    exact r_none
  | succ n ih =>
    intro p2 p3 p4
    rw [f_X12_gaps_L38]
    refine r_iload 38 hC 5 rfl dX12_gaps_38 ?_
    refine r_iload_n 40 hC 2 rfl rfl dX12_gaps_40 ?_
    refine r_icmp_ge 41 hC (tgt := 88) (by decide) dX12_gaps_41 ?_ ?_
    · exact r_sub [0, 3] rfl (hk p2)
    · refine r_aload_n 44 hC 0 rfl (Or.inl (by decide)) rfl dX12_gaps_44 ?_
      refine r_get 45 hC fd_10_7 fl_X12_27 dX12_gaps_45 (fun v5 => ?_)
      refine r_bipush 48 hC kb_60 dX12_gaps_48 ?_
      refine r_iload_n 50 hC 1 rfl rfl dX12_gaps_50 ?_
      refine r_imul 51 hC dX12_gaps_51 ?_
      refine r_iload 52 hC 5 rfl dX12_gaps_52 ?_
      refine r_iadd 54 hC dX12_gaps_54 ?_
      refine r_laload 55 hC dX12_gaps_55 (fun v6 => ?_)
      refine r_ldc2 56 hC (x := (-1)) kl_X12_109 ⟨by decide +kernel, r64c rfl⟩ dX12_gaps_56 ?_
      refine r_jn (P := fun j71 => ∀ (q7 : Int), Bk E C 7 Mi (r0, M0) 71 [(0, 30, x0), (1, 0, x1), (2, 0, x2), (4, 0, p2), (6, 0, p4)] [(0, q7)] M 0 0 (j71 q7)) ?_ (fun j71 hj71 => ?_)
      · intro q7
        refine r_istore 71 hC (by decide) dX12_gaps_71 (r_eqls (ls' := [(5, 0, q7), (0, 30, x0), (1, 0, x1), (2, 0, x2), (4, 0, p2), (6, 0, p4)]) rfl ?_)
        refine r_iload 73 hC 4 rfl dX12_gaps_73 ?_
        refine r_iload 75 hC 0 rfl dX12_gaps_75 ?_
        refine r_callSP 77 hC [(0, p2), (0, q7)] [] rfl sl_X12_386 rfl (by decide) (Nat.le_of_ble_eq_true rfl) (by decide) (by decide) dX12_gaps_77 (t_J9_max_7cf53 p2 q7 M) (fun v8 => ?_)
        refine r_istore 80 hC (by decide) dX12_gaps_80 (r_eqls (ls' := [(4, 0, v8), (5, 0, q7), (0, 30, x0), (1, 0, x1), (2, 0, x2), (6, 0, p4)]) rfl ?_)
        refine r_iinc 82 hC 5 rfl (by decide) dX12_gaps_82 (r_eqls (ls' := [(6, 0, w32 (p4 + 1)), (4, 0, v8), (5, 0, q7), (0, 30, x0), (1, 0, x1), (2, 0, x2)]) rfl ?_)
        refine r_goto 85 hC (tgt := 38) (by decide) dX12_gaps_85 ?_
        exact r_sub [3, 4, 5, 1, 2, 0] rfl (ih v8 q7 (w32 (p4 + 1)))
      refine r_lcmp_ne 59 hC (tgt := 70) (by decide) dX12_gaps_59 dX12_gaps_60 ?_ ?_
      · refine r_iconst 70 hC (r32c rfl) dX12_gaps_70 ?_
        exact r_sub [0, 1, 2, 3, 5] rfl (hj71 0)
      · refine r_iload 63 hC 4 rfl dX12_gaps_63 ?_
        refine r_iconst 65 hC (r32c rfl) dX12_gaps_65 ?_
        refine r_iadd 66 hC dX12_gaps_66 ?_
        refine r_goto 67 hC (tgt := 71) (by decide) dX12_gaps_67 ?_
        exact r_sub [0, 1, 2, 3, 5] rfl (hj71 (w32 (p3 + 1)))
set_option maxRecDepth 100000 in
theorem t_X12_gaps (x0 x1 x2 : Int) (M : Mem) (h0 : x0 ≠ 0) : MtI yX12_gaps cX12_gaps 7 (some .int) 3 0 0 [(30, x0), (0, x1), (0, x2)] M 0 (f_X12_gaps x0 x1 x2 M) := by
  refine mk_I (by decide +kernel) (Nat.le_of_ble_eq_true rfl) (fun E C r0 M0 hC hq hin => ?_)
  refine r_eqls (ls' := [(0, 30, x0), (1, 0, x1), (2, 0, x2)]) rfl ?_
  unfold f_X12_gaps
  refine r_iload_n 0 hC 2 rfl rfl dX12_gaps_0 ?_
  refine r_iconst 1 hC (r32c rfl) dX12_gaps_1 ?_
  refine r_jn (P := fun j18 => ∀ (q1 : Int), Bk E C 7 M (r0, M0) 18 [(0, 30, x0), (1, 0, x1), (2, 0, x2)] [(0, q1)] M 0 0 (j18 q1)) ?_ (fun j18 hj18 => ?_)
  · intro q1
    refine r_istore_n 18 hC rfl (by decide) dX12_gaps_18 (r_eqls (ls' := [(3, 0, q1), (0, 30, x0), (1, 0, x1), (2, 0, x2)]) rfl ?_)
    refine r_iload_n 19 hC 0 rfl rfl dX12_gaps_19 ?_
    refine r_if_le 20 hC (tgt := 29) (by decide) dX12_gaps_20 ?_ ?_
    · refine r_iconst 29 hC (r32c rfl) dX12_gaps_29 ?_
      refine r_istore 30 hC (by decide) dX12_gaps_30 (r_eqls (ls' := [(4, 0, 0), (3, 0, q1), (0, 30, x0), (1, 0, x1), (2, 0, x2)]) rfl ?_)
      refine r_iconst 32 hC (r32c rfl) dX12_gaps_32 ?_
      refine r_istore 33 hC (by decide) dX12_gaps_33 (r_eqls (ls' := [(5, 0, 0), (4, 0, 0), (3, 0, q1), (0, 30, x0), (1, 0, x1), (2, 0, x2)]) rfl ?_)
      refine r_iconst 35 hC (r32c rfl) dX12_gaps_35 ?_
      refine r_istore 36 hC (by decide) dX12_gaps_36 (r_eqls (ls' := [(6, 0, 0), (5, 0, 0), (4, 0, 0), (3, 0, q1), (0, 30, x0), (1, 0, x1), (2, 0, x2)]) rfl ?_)
      refine r_sub [4, 5, 6, 2, 1, 0] rfl (f_X12_gaps_L38_ok h0 hC hq (fun q10 => ?_) KF 0 0 0)
      · refine r_aload_n 88 hC 0 rfl (Or.inl (by decide)) rfl dX12_gaps_88 ?_
        refine r_iload 89 hC 1 rfl dX12_gaps_89 ?_
        refine r_callVI 91 hC [(0, q10)] [] rfl vl_X12_91 rfl h0 (by decide) (Nat.le_of_ble_eq_true rfl) (by decide) (by decide) dX12_gaps_91 (t_X12_gives x0 q10 M h0) (fun v11 M12 => ?_)
        exact r_ireturn 94 hC hq (by decide) (by decide) dX12_gaps_94
    · refine r_aload_n 23 hC 1 rfl (Or.inl (by decide)) rfl dX12_gaps_23 ?_
      refine r_iload_n 24 hC 0 rfl rfl dX12_gaps_24 ?_
      refine r_callVI 25 hC [(0, q1)] [] rfl vl_X12_87 rfl h0 (by decide) (Nat.le_of_ble_eq_true rfl) (by decide) (by decide) dX12_gaps_25 (t_X12_refuse x0 q1 M h0) (fun v13 M14 => ?_)
      exact r_ireturn 28 hC hq (by decide) (by decide) dX12_gaps_28
  refine r_icmp_ge 2 hC (tgt := 9) (by decide) dX12_gaps_2 ?_ ?_
  · refine r_aload_n 9 hC 0 rfl (Or.inl (by decide)) rfl dX12_gaps_9 ?_
    refine r_iload_n 10 hC 1 rfl rfl dX12_gaps_10 ?_
    refine r_iload_n 11 hC 2 rfl rfl dX12_gaps_11 ?_
    refine r_ldc2 12 hC (x := 999999) kl_X12_363 ⟨by decide +kernel, r64c rfl⟩ dX12_gaps_12 ?_
    refine r_callVP 15 hC [(0, x1), (0, x2), (1, 999999)] [] rfl vl_X12_392 rfl h0 (by decide) (Nat.le_of_ble_eq_true rfl) (by decide) (by decide) dX12_gaps_15 (t_X12_wrongGauge x0 x1 x2 999999 M h0) (fun v15 => ?_)
    exact hj18 v15
  · refine r_iconst 5 hC (r32c rfl) dX12_gaps_5 ?_
    refine r_goto 6 hC (tgt := 18) (by decide) dX12_gaps_6 ?_
    exact hj18 1

/-! WaterTurnsModel.suspects(I)I -/
theorem dX12_suspects_0 : decode cX12_suspects 0 = .ok (.aload_n 0, 1) := by decide +kernel
theorem dX12_suspects_1 : decode cX12_suspects 1 = .ok (.iload_n 1, 1) := by decide +kernel
theorem dX12_suspects_2 : decode cX12_suspects 2 = .ok (.aload_n 0, 1) := by decide +kernel
theorem dX12_suspects_3 : decode cX12_suspects 3 = .ok (.getfield 7, 3) := by decide +kernel
theorem dX12_suspects_6 : decode cX12_suspects 6 = .ok (.iconst 5, 1) := by decide +kernel
theorem dX12_suspects_7 : decode cX12_suspects 7 = .ok (.iaload, 1) := by decide +kernel
theorem dX12_suspects_8 : decode cX12_suspects 8 = .ok (.ldc2_w 297, 3) := by decide +kernel
theorem dX12_suspects_11 : decode cX12_suspects 11 = .ok (.invokevirtual 392, 3) := by decide +kernel
theorem dX12_suspects_14 : decode cX12_suspects 14 = .ok (.istore_n 2, 1) := by decide +kernel
theorem dX12_suspects_15 : decode cX12_suspects 15 = .ok (.iload_n 2, 1) := by decide +kernel
theorem dX12_suspects_16 : decode cX12_suspects 16 = .ok (.ifCond .le 9, 3) := by decide +kernel
theorem dX12_suspects_19 : decode cX12_suspects 19 = .ok (.aload_n 0, 1) := by decide +kernel
theorem dX12_suspects_20 : decode cX12_suspects 20 = .ok (.iload_n 2, 1) := by decide +kernel
theorem dX12_suspects_21 : decode cX12_suspects 21 = .ok (.invokevirtual 87, 3) := by decide +kernel
theorem dX12_suspects_24 : decode cX12_suspects 24 = .ok (.ireturn, 1) := by decide +kernel
theorem dX12_suspects_25 : decode cX12_suspects 25 = .ok (.iconst 0, 1) := by decide +kernel
theorem dX12_suspects_26 : decode cX12_suspects 26 = .ok (.istore_n 3, 1) := by decide +kernel
theorem dX12_suspects_27 : decode cX12_suspects 27 = .ok (.iconst 0, 1) := by decide +kernel
theorem dX12_suspects_28 : decode cX12_suspects 28 = .ok (.istore 4, 2) := by decide +kernel
theorem dX12_suspects_30 : decode cX12_suspects 30 = .ok (.iconst 0, 1) := by decide +kernel
theorem dX12_suspects_31 : decode cX12_suspects 31 = .ok (.istore 5, 2) := by decide +kernel
theorem dX12_suspects_33 : decode cX12_suspects 33 = .ok (.iload 5, 2) := by decide +kernel
theorem dX12_suspects_35 : decode cX12_suspects 35 = .ok (.aload_n 0, 1) := by decide +kernel
theorem dX12_suspects_36 : decode cX12_suspects 36 = .ok (.getfield 7, 3) := by decide +kernel
theorem dX12_suspects_39 : decode cX12_suspects 39 = .ok (.iconst 5, 1) := by decide +kernel
theorem dX12_suspects_40 : decode cX12_suspects 40 = .ok (.iaload, 1) := by decide +kernel
theorem dX12_suspects_41 : decode cX12_suspects 41 = .ok (.if_icmp .ge 80, 3) := by decide +kernel
theorem dX12_suspects_44 : decode cX12_suspects 44 = .ok (.aload_n 0, 1) := by decide +kernel
theorem dX12_suspects_45 : decode cX12_suspects 45 = .ok (.getfield 27, 3) := by decide +kernel
theorem dX12_suspects_48 : decode cX12_suspects 48 = .ok (.bipush 60, 2) := by decide +kernel
theorem dX12_suspects_50 : decode cX12_suspects 50 = .ok (.iload_n 1, 1) := by decide +kernel
theorem dX12_suspects_51 : decode cX12_suspects 51 = .ok (.imul, 1) := by decide +kernel
theorem dX12_suspects_52 : decode cX12_suspects 52 = .ok (.iload 5, 2) := by decide +kernel
theorem dX12_suspects_54 : decode cX12_suspects 54 = .ok (.iadd, 1) := by decide +kernel
theorem dX12_suspects_55 : decode cX12_suspects 55 = .ok (.laload, 1) := by decide +kernel
theorem dX12_suspects_56 : decode cX12_suspects 56 = .ok (.lstore 6, 2) := by decide +kernel
theorem dX12_suspects_58 : decode cX12_suspects 58 = .ok (.iload_n 3, 1) := by decide +kernel
theorem dX12_suspects_59 : decode cX12_suspects 59 = .ok (.lload 6, 2) := by decide +kernel
theorem dX12_suspects_61 : decode cX12_suspects 61 = .ok (.ldc2_w 109, 3) := by decide +kernel
theorem dX12_suspects_64 : decode cX12_suspects 64 = .ok (.lcmp, 1) := by decide +kernel
theorem dX12_suspects_65 : decode cX12_suspects 65 = .ok (.ifCond .ne 7, 3) := by decide +kernel
theorem dX12_suspects_68 : decode cX12_suspects 68 = .ok (.iconst 0, 1) := by decide +kernel
theorem dX12_suspects_69 : decode cX12_suspects 69 = .ok (.goto 7, 3) := by decide +kernel
theorem dX12_suspects_72 : decode cX12_suspects 72 = .ok (.iconst 1, 1) := by decide +kernel
theorem dX12_suspects_73 : decode cX12_suspects 73 = .ok (.iload 5, 2) := by decide +kernel
theorem dX12_suspects_75 : decode cX12_suspects 75 = .ok (.ishl, 1) := by decide +kernel
theorem dX12_suspects_76 : decode cX12_suspects 76 = .ok (.ior, 1) := by decide +kernel
theorem dX12_suspects_77 : decode cX12_suspects 77 = .ok (.istore_n 3, 1) := by decide +kernel
theorem dX12_suspects_78 : decode cX12_suspects 78 = .ok (.iload 4, 2) := by decide +kernel
theorem dX12_suspects_80 : decode cX12_suspects 80 = .ok (.lload 6, 2) := by decide +kernel
theorem dX12_suspects_82 : decode cX12_suspects 82 = .ok (.lconst 0, 1) := by decide +kernel
theorem dX12_suspects_83 : decode cX12_suspects 83 = .ok (.lcmp, 1) := by decide +kernel
theorem dX12_suspects_84 : decode cX12_suspects 84 = .ok (.ifCond .lt 27, 3) := by decide +kernel
theorem dX12_suspects_87 : decode cX12_suspects 87 = .ok (.lload 6, 2) := by decide +kernel
theorem dX12_suspects_89 : decode cX12_suspects 89 = .ok (.aload_n 0, 1) := by decide +kernel
theorem dX12_suspects_90 : decode cX12_suspects 90 = .ok (.iload 5, 2) := by decide +kernel
theorem dX12_suspects_92 : decode cX12_suspects 92 = .ok (.invokevirtual 349, 3) := by decide +kernel
theorem dX12_suspects_95 : decode cX12_suspects 95 = .ok (.aload_n 0, 1) := by decide +kernel
theorem dX12_suspects_96 : decode cX12_suspects 96 = .ok (.invokevirtual 331, 3) := by decide +kernel
theorem dX12_suspects_99 : decode cX12_suspects 99 = .ok (.ldiv, 1) := by decide +kernel
theorem dX12_suspects_100 : decode cX12_suspects 100 = .ok (.lcmp, 1) := by decide +kernel
theorem dX12_suspects_101 : decode cX12_suspects 101 = .ok (.ifCond .ge 10, 3) := by decide +kernel
theorem dX12_suspects_104 : decode cX12_suspects 104 = .ok (.iconst 1, 1) := by decide +kernel
theorem dX12_suspects_105 : decode cX12_suspects 105 = .ok (.iload 5, 2) := by decide +kernel
theorem dX12_suspects_107 : decode cX12_suspects 107 = .ok (.ishl, 1) := by decide +kernel
theorem dX12_suspects_108 : decode cX12_suspects 108 = .ok (.goto 4, 3) := by decide +kernel
theorem dX12_suspects_111 : decode cX12_suspects 111 = .ok (.iconst 0, 1) := by decide +kernel
theorem dX12_suspects_112 : decode cX12_suspects 112 = .ok (.ior, 1) := by decide +kernel
theorem dX12_suspects_113 : decode cX12_suspects 113 = .ok (.istore 4, 2) := by decide +kernel
theorem dX12_suspects_115 : decode cX12_suspects 115 = .ok (.iinc 5 1, 3) := by decide +kernel
theorem dX12_suspects_118 : decode cX12_suspects 118 = .ok (.goto (-85), 3) := by decide +kernel
theorem dX12_suspects_121 : decode cX12_suspects 121 = .ok (.iconst 0, 1) := by decide +kernel
theorem dX12_suspects_122 : decode cX12_suspects 122 = .ok (.istore 5, 2) := by decide +kernel
theorem dX12_suspects_124 : decode cX12_suspects 124 = .ok (.iconst 0, 1) := by decide +kernel
theorem dX12_suspects_125 : decode cX12_suspects 125 = .ok (.istore 6, 2) := by decide +kernel
theorem dX12_suspects_127 : decode cX12_suspects 127 = .ok (.iload 6, 2) := by decide +kernel
theorem dX12_suspects_129 : decode cX12_suspects 129 = .ok (.aload_n 0, 1) := by decide +kernel
theorem dX12_suspects_130 : decode cX12_suspects 130 = .ok (.getfield 7, 3) := by decide +kernel
theorem dX12_suspects_133 : decode cX12_suspects 133 = .ok (.iconst 3, 1) := by decide +kernel
theorem dX12_suspects_134 : decode cX12_suspects 134 = .ok (.iaload, 1) := by decide +kernel
theorem dX12_suspects_135 : decode cX12_suspects 135 = .ok (.if_icmp .ge 40, 3) := by decide +kernel
theorem dX12_suspects_138 : decode cX12_suspects 138 = .ok (.iload 5, 2) := by decide +kernel
theorem dX12_suspects_140 : decode cX12_suspects 140 = .ok (.iload 4, 2) := by decide +kernel
theorem dX12_suspects_142 : decode cX12_suspects 142 = .ok (.ifCond .eq 23, 3) := by decide +kernel
theorem dX12_suspects_145 : decode cX12_suspects 145 = .ok (.iload 4, 2) := by decide +kernel
theorem dX12_suspects_147 : decode cX12_suspects 147 = .ok (.aload_n 0, 1) := by decide +kernel
theorem dX12_suspects_148 : decode cX12_suspects 148 = .ok (.iload 6, 2) := by decide +kernel
theorem dX12_suspects_150 : decode cX12_suspects 150 = .ok (.invokevirtual 278, 3) := by decide +kernel
theorem dX12_suspects_153 : decode cX12_suspects 153 = .ok (.iload_n 3, 1) := by decide +kernel
theorem dX12_suspects_154 : decode cX12_suspects 154 = .ok (.iand, 1) := by decide +kernel
theorem dX12_suspects_155 : decode cX12_suspects 155 = .ok (.if_icmp .ne 10, 3) := by decide +kernel
theorem dX12_suspects_158 : decode cX12_suspects 158 = .ok (.iconst 1, 1) := by decide +kernel
theorem dX12_suspects_159 : decode cX12_suspects 159 = .ok (.iload 6, 2) := by decide +kernel
theorem dX12_suspects_161 : decode cX12_suspects 161 = .ok (.ishl, 1) := by decide +kernel
theorem dX12_suspects_162 : decode cX12_suspects 162 = .ok (.goto 4, 3) := by decide +kernel
theorem dX12_suspects_165 : decode cX12_suspects 165 = .ok (.iconst 0, 1) := by decide +kernel
theorem dX12_suspects_166 : decode cX12_suspects 166 = .ok (.ior, 1) := by decide +kernel
theorem dX12_suspects_167 : decode cX12_suspects 167 = .ok (.istore 5, 2) := by decide +kernel
theorem dX12_suspects_169 : decode cX12_suspects 169 = .ok (.iinc 6 1, 3) := by decide +kernel
theorem dX12_suspects_172 : decode cX12_suspects 172 = .ok (.goto (-45), 3) := by decide +kernel
theorem dX12_suspects_175 : decode cX12_suspects 175 = .ok (.aload_n 0, 1) := by decide +kernel
theorem dX12_suspects_176 : decode cX12_suspects 176 = .ok (.iload 5, 2) := by decide +kernel
theorem dX12_suspects_178 : decode cX12_suspects 178 = .ok (.invokevirtual 91, 3) := by decide +kernel
theorem dX12_suspects_181 : decode cX12_suspects 181 = .ok (.ireturn, 1) := by decide +kernel
set_option maxRecDepth 100000 in
theorem f_X12_suspects_L33_ok {E : EnvT} {C : Cx} {Mi : Mem} {x0 : Int} (h0 : x0 ≠ 0) (hC : CxOK E C cX12_suspects 8 yX12_suspects.cls 5 0 0) {r0 : Int} {M0 : Mem} (hq : RQ E C 0 0 Mi (some .int) (some (0, r0)) M0) {x1 : Int} {k : Int → Int → Mem → Option (Int × Mem)} (hk : ∀ q22 q23 M24, Bk E C 8 Mi (r0, M0) 121 [(0, 30, x0), (3, 0, q22), (4, 0, q23)] [] M24 0 0 (k q22 q23 M24)) : ∀ (n : Nat) (p4 : Int) (p5 : Int) (p6 : Int) (M7 : Mem), Bk E C 8 Mi (r0, M0) 33 [(0, 30, x0), (1, 0, x1), (3, 0, p4), (4, 0, p5), (5, 0, p6)] [] M7 0 0 (f_X12_suspects_L33 x0 x1 k n p4 p5 p6 M7) := by
  intro n
  induction n with
  | zero =>
    intro p4 p5 p6 M7
    exact r_none
  | succ n ih =>
    intro p4 p5 p6 M7
    rw [f_X12_suspects_L33]
    refine r_iload 33 hC 4 rfl dX12_suspects_33 ?_
    refine r_aload_n 35 hC 0 rfl (Or.inl (by decide)) rfl dX12_suspects_35 ?_
    refine r_get 36 hC fd_10_0 fl_X12_7 dX12_suspects_36 (fun v8 => ?_)
    refine r_iconst 39 hC (r32c rfl) dX12_suspects_39 ?_
    refine r_iaload 40 hC dX12_suspects_40 (fun v9 => ?_)
    refine r_icmp_ge 41 hC (tgt := 121) (by decide) dX12_suspects_41 ?_ ?_
    · exact r_sub [0, 2, 3] rfl (hk p4 p5 M7)
    · refine r_aload_n 44 hC 0 rfl (Or.inl (by decide)) rfl dX12_suspects_44 ?_
      refine r_get 45 hC fd_10_7 fl_X12_27 dX12_suspects_45 (fun v10 => ?_)
      refine r_bipush 48 hC kb_60 dX12_suspects_48 ?_
      refine r_iload_n 50 hC 1 rfl rfl dX12_suspects_50 ?_
      refine r_imul 51 hC dX12_suspects_51 ?_
      refine r_iload 52 hC 4 rfl dX12_suspects_52 ?_
      refine r_iadd 54 hC dX12_suspects_54 ?_
      refine r_laload 55 hC dX12_suspects_55 (fun v11 => ?_)
      refine r_lstore 56 hC (by decide) dX12_suspects_56 (r_eqls (ls' := [(6, 1, v11), (0, 30, x0), (1, 0, x1), (3, 0, p4), (4, 0, p5), (5, 0, p6)]) rfl ?_)
      refine r_iload_n 58 hC 3 rfl rfl dX12_suspects_58 ?_
      refine r_lload 59 hC 0 rfl dX12_suspects_59 ?_
      refine r_ldc2 61 hC (x := (-1)) kl_X12_109 ⟨by decide +kernel, r64c rfl⟩ dX12_suspects_61 ?_
      refine r_jn (P := fun j76 => ∀ (q12 : Int), Bk E C 8 Mi (r0, M0) 76 [(0, 30, x0), (1, 0, x1), (4, 0, p5), (5, 0, p6), (6, 1, v11)] [(0, q12), (0, p4)] M7 0 0 (j76 q12)) ?_ (fun j76 hj76 => ?_)
      · intro q12
        refine r_ior 76 hC dX12_suspects_76 ?_
        refine r_istore_nL 77 hC rfl (by decide) dX12_suspects_77 (fun v13 => r_eqls (ls' := [(3, 0, v13), (0, 30, x0), (1, 0, x1), (4, 0, p5), (5, 0, p6), (6, 1, v11)]) rfl ?_)
        refine r_iload 78 hC 3 rfl dX12_suspects_78 ?_
        refine r_lload 80 hC 5 rfl dX12_suspects_80 ?_
        refine r_lconst 82 hC (x := 0) ⟨by decide +kernel, r64c rfl⟩ dX12_suspects_82 ?_
        refine r_jn (P := fun j112 => ∀ (q14 : Int) (M15 : Mem), Bk E C 8 Mi (r0, M0) 112 [(0, 30, x0), (1, 0, x1), (3, 0, v13), (5, 0, p6)] [(0, q14), (0, p5)] M15 0 0 (j112 q14 M15)) ?_ (fun j112 hj112 => ?_)
        · intro q14 M15
          refine r_ior 112 hC dX12_suspects_112 ?_
          refine r_istoreL 113 hC (by decide) dX12_suspects_113 (fun v16 => r_eqls (ls' := [(4, 0, v16), (0, 30, x0), (1, 0, x1), (3, 0, v13), (5, 0, p6)]) rfl ?_)
          refine r_iinc 115 hC 4 rfl (by decide) dX12_suspects_115 (r_eqls (ls' := [(5, 0, w32 (p6 + 1)), (4, 0, v16), (0, 30, x0), (1, 0, x1), (3, 0, v13)]) rfl ?_)
          refine r_goto 118 hC (tgt := 33) (by decide) dX12_suspects_118 ?_
          exact r_sub [2, 3, 4, 1, 0] rfl (ih v13 v16 (w32 (p6 + 1)) M15)
        refine r_jn (P := fun j111 => ∀ (M17 : Mem), Bk E C 8 Mi (r0, M0) 111 [(0, 30, x0), (1, 0, x1), (3, 0, v13), (5, 0, p6)] [(0, p5)] M17 0 0 (j111 M17)) ?_ (fun j111 hj111 => ?_)
        · intro M17
          refine r_iconst 111 hC (r32c rfl) dX12_suspects_111 ?_
          exact hj112 0 M17
        refine r_lcmp_lt 83 hC (tgt := 111) (by decide) dX12_suspects_83 dX12_suspects_84 ?_ ?_
        · exact r_sub [1, 2, 0, 4] rfl (hj111 M7)
        · refine r_lload 87 hC 5 rfl dX12_suspects_87 ?_
          refine r_aload_n 89 hC 1 rfl (Or.inl (by decide)) rfl dX12_suspects_89 ?_
          refine r_iload 90 hC 4 rfl dX12_suspects_90 ?_
          refine r_callVI 92 hC [(0, p6)] [(1, v11), (0, p5)] rfl vl_X12_349 rfl h0 (by decide) (Nat.le_of_ble_eq_true rfl) (by decide) (by decide) dX12_suspects_92 (t_X12_rateOf x0 p6 M7 h0) (fun v18 M19 => ?_)
          refine r_aload_n 95 hC 1 rfl (Or.inl (by decide)) rfl dX12_suspects_95 ?_
          refine r_callVP 96 hC [] [(1, v18), (1, v11), (0, p5)] rfl vl_X12_331 rfl h0 (by decide) (Nat.le_of_ble_eq_true rfl) (by decide) (by decide) dX12_suspects_96 (t_X12_litre x0 M19 h0) (fun v20 => ?_)
          refine r_ldiv 99 hC dX12_suspects_99 (fun v21 => ?_)
          refine r_lcmp_ge 100 hC (tgt := 111) (by decide) dX12_suspects_100 dX12_suspects_101 ?_ ?_
          · exact r_sub [1, 2, 0, 4] rfl (hj111 M19)
          · refine r_iconst 104 hC (r32c rfl) dX12_suspects_104 ?_
            refine r_iload 105 hC 4 rfl dX12_suspects_105 ?_
            refine r_ishl 107 hC dX12_suspects_107 ?_
            refine r_goto 108 hC (tgt := 112) (by decide) dX12_suspects_108 ?_
            exact r_sub [1, 2, 0, 4] rfl (hj112 (ishlv 1 p6) M19)
      refine r_lcmp_ne 64 hC (tgt := 72) (by decide) dX12_suspects_64 dX12_suspects_65 ?_ ?_
      · refine r_iconst 72 hC (r32c rfl) dX12_suspects_72 ?_
        refine r_iload 73 hC 5 rfl dX12_suspects_73 ?_
        refine r_ishl 75 hC dX12_suspects_75 ?_
        exact r_sub [1, 2, 4, 5, 0] rfl (hj76 (ishlv 1 p6))
      · refine r_iconst 68 hC (r32c rfl) dX12_suspects_68 ?_
        refine r_goto 69 hC (tgt := 76) (by decide) dX12_suspects_69 ?_
        exact r_sub [1, 2, 4, 5, 0] rfl (hj76 0)
set_option maxRecDepth 100000 in
theorem f_X12_suspects_L127_ok {E : EnvT} {C : Cx} {Mi : Mem} {x0 : Int} (h0 : x0 ≠ 0) (hC : CxOK E C cX12_suspects 8 yX12_suspects.cls 5 0 0) {r0 : Int} {M0 : Mem} (hq : RQ E C 0 0 Mi (some .int) (some (0, r0)) M0) {M27 : Mem} {q25 q26 : Int} {k : Int → Option (Int × Mem)} (hk : ∀ q35, Bk E C 8 Mi (r0, M0) 175 [(0, 30, x0), (5, 0, q35)] [] M27 0 0 (k q35)) : ∀ (n : Nat) (p28 : Int) (p29 : Int), Bk E C 8 Mi (r0, M0) 127 [(0, 30, x0), (3, 0, q25), (4, 0, q26), (5, 0, p28), (6, 0, p29)] [] M27 0 0 (f_X12_suspects_L127 M27 q25 q26 x0 k n p28 p29) := by
  intro n
  induction n with
  | zero =>
    intro p28 p29
    exact r_none
  | succ n ih =>
    intro p28 p29
    rw [f_X12_suspects_L127]
    refine r_iload 127 hC 4 rfl dX12_suspects_127 ?_
    refine r_aload_n 129 hC 0 rfl (Or.inl (by decide)) rfl dX12_suspects_129 ?_
    refine r_get 130 hC fd_10_0 fl_X12_7 dX12_suspects_130 (fun v30 => ?_)
    refine r_iconst 133 hC (r32c rfl) dX12_suspects_133 ?_
    refine r_iaload 134 hC dX12_suspects_134 (fun v31 => ?_)
    refine r_icmp_ge 135 hC (tgt := 175) (by decide) dX12_suspects_135 ?_ ?_
    · exact r_sub [0, 3] rfl (hk p28)
    · refine r_iload 138 hC 3 rfl dX12_suspects_138 ?_
      refine r_iload 140 hC 2 rfl dX12_suspects_140 ?_
      refine r_jn (P := fun j166 => ∀ (q32 : Int), Bk E C 8 Mi (r0, M0) 166 [(0, 30, x0), (3, 0, q25), (4, 0, q26), (6, 0, p29)] [(0, q32), (0, p28)] M27 0 0 (j166 q32)) ?_ (fun j166 hj166 => ?_)
      · intro q32
        refine r_ior 166 hC dX12_suspects_166 ?_
        refine r_istoreL 167 hC (by decide) dX12_suspects_167 (fun v33 => r_eqls (ls' := [(5, 0, v33), (0, 30, x0), (3, 0, q25), (4, 0, q26), (6, 0, p29)]) rfl ?_)
        refine r_iinc 169 hC 4 rfl (by decide) dX12_suspects_169 (r_eqls (ls' := [(6, 0, w32 (p29 + 1)), (5, 0, v33), (0, 30, x0), (3, 0, q25), (4, 0, q26)]) rfl ?_)
        refine r_goto 172 hC (tgt := 127) (by decide) dX12_suspects_172 ?_
        exact r_sub [2, 3, 4, 1, 0] rfl (ih v33 (w32 (p29 + 1)))
      refine r_jn (P := fun j165 => Bk E C 8 Mi (r0, M0) 165 [(0, 30, x0), (3, 0, q25), (4, 0, q26), (6, 0, p29)] [(0, p28)] M27 0 0 (j165)) ?_ (fun j165 hj165 => ?_)
      · refine r_iconst 165 hC (r32c rfl) dX12_suspects_165 ?_
        exact hj166 0
      refine r_if_eq 142 hC (tgt := 165) (by decide) dX12_suspects_142 ?_ ?_
      · exact r_sub [0, 1, 2, 4] rfl (hj165)
      · refine r_iload 145 hC 2 rfl dX12_suspects_145 ?_
        refine r_aload_n 147 hC 0 rfl (Or.inl (by decide)) rfl dX12_suspects_147 ?_
        refine r_iload 148 hC 4 rfl dX12_suspects_148 ?_
        refine r_callVP 150 hC [(0, p29)] [(0, q26), (0, p28)] rfl vl_X12_278 rfl h0 (by decide) (Nat.le_of_ble_eq_true rfl) (by decide) (by decide) dX12_suspects_150 (t_X12_belowOf x0 p29 M27 h0) (fun v34 => ?_)
        refine r_iload_n 153 hC 1 rfl rfl dX12_suspects_153 ?_
        refine r_iand 154 hC dX12_suspects_154 ?_
        refine r_icmp_ne 155 hC (tgt := 165) (by decide) dX12_suspects_155 ?_ ?_
        · exact r_sub [0, 1, 2, 4] rfl (hj165)
        · refine r_iconst 158 hC (r32c rfl) dX12_suspects_158 ?_
          refine r_iload 159 hC 4 rfl dX12_suspects_159 ?_
          refine r_ishl 161 hC dX12_suspects_161 ?_
          refine r_goto 162 hC (tgt := 166) (by decide) dX12_suspects_162 ?_
          exact r_sub [0, 1, 2, 4] rfl (hj166 (ishlv 1 p29))
set_option maxRecDepth 100000 in
theorem t_X12_suspects (x0 x1 : Int) (M : Mem) (h0 : x0 ≠ 0) : MtI yX12_suspects cX12_suspects 8 (some .int) 5 0 0 [(30, x0), (0, x1)] M 0 (f_X12_suspects x0 x1 M) := by
  refine mk_I (by decide +kernel) (Nat.le_of_ble_eq_true rfl) (fun E C r0 M0 hC hq hin => ?_)
  refine r_eqls (ls' := [(0, 30, x0), (1, 0, x1)]) rfl ?_
  unfold f_X12_suspects
  refine r_aload_n 0 hC 0 rfl (Or.inl (by decide)) rfl dX12_suspects_0 ?_
  refine r_iload_n 1 hC 1 rfl rfl dX12_suspects_1 ?_
  refine r_aload_n 2 hC 0 rfl (Or.inl (by decide)) rfl dX12_suspects_2 ?_
  refine r_get 3 hC fd_10_0 fl_X12_7 dX12_suspects_3 (fun v1 => ?_)
  refine r_iconst 6 hC (r32c rfl) dX12_suspects_6 ?_
  refine r_iaload 7 hC dX12_suspects_7 (fun v2 => ?_)
  refine r_ldc2 8 hC (x := 999) kl_X12_297 ⟨by decide +kernel, r64c rfl⟩ dX12_suspects_8 ?_
  refine r_callVP 11 hC [(0, x1), (0, v2), (1, 999)] [] rfl vl_X12_392 rfl h0 (by decide) (Nat.le_of_ble_eq_true rfl) (by decide) (by decide) dX12_suspects_11 (t_X12_wrongGauge x0 x1 v2 999 M h0) (fun v3 => ?_)
  refine r_istore_n 14 hC rfl (by decide) dX12_suspects_14 (r_eqls (ls' := [(2, 0, v3), (0, 30, x0), (1, 0, x1)]) rfl ?_)
  refine r_iload_n 15 hC 0 rfl rfl dX12_suspects_15 ?_
  refine r_if_le 16 hC (tgt := 25) (by decide) dX12_suspects_16 ?_ ?_
  · refine r_iconst 25 hC (r32c rfl) dX12_suspects_25 ?_
    refine r_istore_n 26 hC rfl (by decide) dX12_suspects_26 (r_eqls (ls' := [(3, 0, 0), (2, 0, v3), (0, 30, x0), (1, 0, x1)]) rfl ?_)
    refine r_iconst 27 hC (r32c rfl) dX12_suspects_27 ?_
    refine r_istore 28 hC (by decide) dX12_suspects_28 (r_eqls (ls' := [(4, 0, 0), (3, 0, 0), (2, 0, v3), (0, 30, x0), (1, 0, x1)]) rfl ?_)
    refine r_iconst 30 hC (r32c rfl) dX12_suspects_30 ?_
    refine r_istore 31 hC (by decide) dX12_suspects_31 (r_eqls (ls' := [(5, 0, 0), (4, 0, 0), (3, 0, 0), (2, 0, v3), (0, 30, x0), (1, 0, x1)]) rfl ?_)
    refine r_sub [4, 5, 2, 1, 0] rfl (f_X12_suspects_L33_ok h0 hC hq (fun q25 q26 M27 => ?_) KF 0 0 0 M)
    · refine r_iconst 121 hC (r32c rfl) dX12_suspects_121 ?_
      refine r_istore 122 hC (by decide) dX12_suspects_122 (r_eqls (ls' := [(5, 0, 0), (0, 30, x0), (3, 0, q25), (4, 0, q26)]) rfl ?_)
      refine r_iconst 124 hC (r32c rfl) dX12_suspects_124 ?_
      refine r_istore 125 hC (by decide) dX12_suspects_125 (r_eqls (ls' := [(6, 0, 0), (5, 0, 0), (0, 30, x0), (3, 0, q25), (4, 0, q26)]) rfl ?_)
      refine r_sub [2, 3, 4, 1, 0] rfl (f_X12_suspects_L127_ok h0 hC hq (fun q36 => ?_) KF 0 0)
      · refine r_aload_n 175 hC 0 rfl (Or.inl (by decide)) rfl dX12_suspects_175 ?_
        refine r_iload 176 hC 1 rfl dX12_suspects_176 ?_
        refine r_callVI 178 hC [(0, q36)] [] rfl vl_X12_91 rfl h0 (by decide) (Nat.le_of_ble_eq_true rfl) (by decide) (by decide) dX12_suspects_178 (t_X12_gives x0 q36 M27 h0) (fun v37 M38 => ?_)
        exact r_ireturn 181 hC hq (by decide) (by decide) dX12_suspects_181
  · refine r_aload_n 19 hC 1 rfl (Or.inl (by decide)) rfl dX12_suspects_19 ?_
    refine r_iload_n 20 hC 0 rfl rfl dX12_suspects_20 ?_
    refine r_callVI 21 hC [(0, v3)] [] rfl vl_X12_87 rfl h0 (by decide) (Nat.le_of_ble_eq_true rfl) (by decide) (by decide) dX12_suspects_21 (t_X12_refuse x0 v3 M h0) (fun v39 M40 => ?_)
    exact r_ireturn 24 hC hq (by decide) (by decide) dX12_suspects_24
