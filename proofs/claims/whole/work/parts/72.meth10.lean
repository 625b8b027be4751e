/-! WaterTurnsModel.slots()I -/
theorem dX12_slots_0 : decode cX12_slots 0 = .ok (.aload_n 0, 1) := by decide +kernel
theorem dX12_slots_1 : decode cX12_slots 1 = .ok (.invokevirtual 316, 3) := by decide +kernel
theorem dX12_slots_4 : decode cX12_slots 4 = .ok (.aload_n 0, 1) := by decide +kernel
theorem dX12_slots_5 : decode cX12_slots 5 = .ok (.aload_n 0, 1) := by decide +kernel
theorem dX12_slots_6 : decode cX12_slots 6 = .ok (.getfield 310, 3) := by decide +kernel
theorem dX12_slots_9 : decode cX12_slots 9 = .ok (.invokevirtual 91, 3) := by decide +kernel
theorem dX12_slots_12 : decode cX12_slots 12 = .ok (.ireturn, 1) := by decide +kernel
set_option maxRecDepth 100000 in
theorem t_X12_slots (x0 : Int) (M : Mem) (h0 : x0 ≠ 0) : MtI yX12_slots cX12_slots 1 (some .int) 7 0 0 [(30, x0)] M 0 (f_X12_slots x0 M) := by
  refine mk_I (by decide +kernel) (Nat.le_of_ble_eq_true rfl) (fun E C r0 M0 hC hq hin => ?_)
  refine r_eqls (ls' := [(0, 30, x0)]) rfl ?_
  unfold f_X12_slots
  refine r_aload_n 0 hC 0 rfl (Or.inl (by decide)) rfl dX12_slots_0 ?_
  refine r_callVV 1 hC [] [] rfl vl_X12_316 rfl h0 (by decide) (Nat.le_of_ble_eq_true rfl) (by decide) (by decide) dX12_slots_1 (t_X12_laysSlots x0 M h0) (fun M1 => ?_)
  refine r_aload_n 4 hC 0 rfl (Or.inl (by decide)) rfl dX12_slots_4 ?_
  refine r_aload_n 5 hC 0 rfl (Or.inl (by decide)) rfl dX12_slots_5 ?_
  refine r_get 6 hC fd_10_30 fl_X12_310 dX12_slots_6 (fun v2 => ?_)
  refine r_callVI 9 hC [(0, v2)] [] rfl vl_X12_91 rfl h0 (by decide) (Nat.le_of_ble_eq_true rfl) (by decide) (by decide) dX12_slots_9 (t_X12_gives x0 v2 M1 h0) (fun v3 M4 => ?_)
  exact r_ireturn 12 hC hq (by decide) (by decide) dX12_slots_12

/-! WaterTurnsModel.slot(II)I -/
theorem dX12_slot_0 : decode cX12_slot 0 = .ok (.iload_n 2, 1) := by decide +kernel
theorem dX12_slot_1 : decode cX12_slot 1 = .ok (.ifCond .lt 8, 3) := by decide +kernel
theorem dX12_slot_4 : decode cX12_slot 4 = .ok (.iload_n 2, 1) := by decide +kernel
theorem dX12_slot_5 : decode cX12_slot 5 = .ok (.iconst 2, 1) := by decide +kernel
theorem dX12_slot_6 : decode cX12_slot 6 = .ok (.if_icmp .le 9, 3) := by decide +kernel
theorem dX12_slot_9 : decode cX12_slot 9 = .ok (.aload_n 0, 1) := by decide +kernel
theorem dX12_slot_10 : decode cX12_slot 10 = .ok (.iconst 1, 1) := by decide +kernel
theorem dX12_slot_11 : decode cX12_slot 11 = .ok (.invokevirtual 87, 3) := by decide +kernel
theorem dX12_slot_14 : decode cX12_slot 14 = .ok (.ireturn, 1) := by decide +kernel
theorem dX12_slot_15 : decode cX12_slot 15 = .ok (.aload_n 0, 1) := by decide +kernel
theorem dX12_slot_16 : decode cX12_slot 16 = .ok (.invokevirtual 316, 3) := by decide +kernel
theorem dX12_slot_19 : decode cX12_slot 19 = .ok (.iload_n 1, 1) := by decide +kernel
theorem dX12_slot_20 : decode cX12_slot 20 = .ok (.ifCond .lt 11, 3) := by decide +kernel
theorem dX12_slot_23 : decode cX12_slot 23 = .ok (.iload_n 1, 1) := by decide +kernel
theorem dX12_slot_24 : decode cX12_slot 24 = .ok (.aload_n 0, 1) := by decide +kernel
theorem dX12_slot_25 : decode cX12_slot 25 = .ok (.getfield 310, 3) := by decide +kernel
theorem dX12_slot_28 : decode cX12_slot 28 = .ok (.if_icmp .lt 12, 3) := by decide +kernel
theorem dX12_slot_31 : decode cX12_slot 31 = .ok (.aload_n 0, 1) := by decide +kernel
theorem dX12_slot_32 : decode cX12_slot 32 = .ok (.bipush 6, 2) := by decide +kernel
theorem dX12_slot_34 : decode cX12_slot 34 = .ok (.invokevirtual 87, 3) := by decide +kernel
theorem dX12_slot_37 : decode cX12_slot 37 = .ok (.goto 40, 3) := by decide +kernel
theorem dX12_slot_40 : decode cX12_slot 40 = .ok (.aload_n 0, 1) := by decide +kernel
theorem dX12_slot_41 : decode cX12_slot 41 = .ok (.iload_n 2, 1) := by decide +kernel
theorem dX12_slot_42 : decode cX12_slot 42 = .ok (.ifCond .ne 12, 3) := by decide +kernel
theorem dX12_slot_45 : decode cX12_slot 45 = .ok (.aload_n 0, 1) := by decide +kernel
theorem dX12_slot_46 : decode cX12_slot 46 = .ok (.getfield 53, 3) := by decide +kernel
theorem dX12_slot_49 : decode cX12_slot 49 = .ok (.iload_n 1, 1) := by decide +kernel
theorem dX12_slot_50 : decode cX12_slot 50 = .ok (.iaload, 1) := by decide +kernel
theorem dX12_slot_51 : decode cX12_slot 51 = .ok (.goto 23, 3) := by decide +kernel
theorem dX12_slot_54 : decode cX12_slot 54 = .ok (.iload_n 2, 1) := by decide +kernel
theorem dX12_slot_55 : decode cX12_slot 55 = .ok (.iconst 1, 1) := by decide +kernel
theorem dX12_slot_56 : decode cX12_slot 56 = .ok (.if_icmp .ne 12, 3) := by decide +kernel
theorem dX12_slot_59 : decode cX12_slot 59 = .ok (.aload_n 0, 1) := by decide +kernel
theorem dX12_slot_60 : decode cX12_slot 60 = .ok (.getfield 56, 3) := by decide +kernel
theorem dX12_slot_63 : decode cX12_slot 63 = .ok (.iload_n 1, 1) := by decide +kernel
theorem dX12_slot_64 : decode cX12_slot 64 = .ok (.iaload, 1) := by decide +kernel
theorem dX12_slot_65 : decode cX12_slot 65 = .ok (.goto 9, 3) := by decide +kernel
theorem dX12_slot_68 : decode cX12_slot 68 = .ok (.aload_n 0, 1) := by decide +kernel
theorem dX12_slot_69 : decode cX12_slot 69 = .ok (.getfield 59, 3) := by decide +kernel
theorem dX12_slot_72 : decode cX12_slot 72 = .ok (.iload_n 1, 1) := by decide +kernel
theorem dX12_slot_73 : decode cX12_slot 73 = .ok (.iaload, 1) := by decide +kernel
theorem dX12_slot_74 : decode cX12_slot 74 = .ok (.invokevirtual 91, 3) := by decide +kernel
theorem dX12_slot_77 : decode cX12_slot 77 = .ok (.ireturn, 1) := by decide +kernel
set_option maxRecDepth 100000 in
theorem t_X12_slot (x0 x1 x2 : Int) (M : Mem) (h0 : x0 ≠ 0) : MtI yX12_slot cX12_slot 3 (some .int) 7 0 0 [(30, x0), (0, x1), (0, x2)] M 0 (f_X12_slot x0 x1 x2 M) := by
  refine mk_I (by decide +kernel) (Nat.le_of_ble_eq_true rfl) (fun E C r0 M0 hC hq hin => ?_)
  refine r_eqls (ls' := [(0, 30, x0), (1, 0, x1), (2, 0, x2)]) rfl ?_
  unfold f_X12_slot
  refine r_iload_n 0 hC 2 rfl rfl dX12_slot_0 ?_
  refine r_jn (P := fun j9 => Bk E C 3 M (r0, M0) 9 [(0, 30, x0)] [] M 0 0 (j9)) ?_ (fun j9 hj9 => ?_)
  · refine r_aload_n 9 hC 0 rfl (Or.inl (by decide)) rfl dX12_slot_9 ?_
    refine r_iconst 10 hC (r32c rfl) dX12_slot_10 ?_
    refine r_callVI 11 hC [(0, 1)] [] rfl vl_X12_87 rfl h0 (by decide) (Nat.le_of_ble_eq_true rfl) (by decide) (by decide) dX12_slot_11 (t_X12_refuse x0 1 M h0) (fun v1 M2 => ?_)
    exact r_ireturn 14 hC hq (by decide) (by decide) dX12_slot_14
  refine r_if_lt 1 hC (tgt := 9) (by decide) dX12_slot_1 ?_ ?_
  · exact r_sub [0] rfl (hj9)
  · refine r_iload_n 4 hC 2 rfl rfl dX12_slot_4 ?_
    refine r_iconst 5 hC (r32c rfl) dX12_slot_5 ?_
    refine r_icmp_le 6 hC (tgt := 15) (by decide) dX12_slot_6 ?_ ?_
    · refine r_aload_n 15 hC 0 rfl (Or.inl (by decide)) rfl dX12_slot_15 ?_
      refine r_callVV 16 hC [] [] rfl vl_X12_316 rfl h0 (by decide) (Nat.le_of_ble_eq_true rfl) (by decide) (by decide) dX12_slot_16 (t_X12_laysSlots x0 M h0) (fun M3 => ?_)
      refine r_iload_n 19 hC 1 rfl rfl dX12_slot_19 ?_
      refine r_jn (P := fun j77 => ∀ (q4 : Int) (M5 : Mem), Bk E C 3 M (r0, M0) 77 [] [(0, q4)] M5 0 0 (j77 q4 M5)) ?_ (fun j77 hj77 => ?_)
      · intro q4 M5
        exact r_ireturn 77 hC hq (by decide) (by decide) dX12_slot_77
      refine r_jn (P := fun j31 => Bk E C 3 M (r0, M0) 31 [(0, 30, x0)] [] M3 0 0 (j31)) ?_ (fun j31 hj31 => ?_)
      · refine r_aload_n 31 hC 0 rfl (Or.inl (by decide)) rfl dX12_slot_31 ?_
        refine r_bipush 32 hC kb_6 dX12_slot_32 ?_
        refine r_callVI 34 hC [(0, 6)] [] rfl vl_X12_87 rfl h0 (by decide) (Nat.le_of_ble_eq_true rfl) (by decide) (by decide) dX12_slot_34 (t_X12_refuse x0 6 M3 h0) (fun v6 M7 => ?_)
        refine r_goto 37 hC (tgt := 77) (by decide) dX12_slot_37 ?_
        exact r_sub [] rfl (hj77 v6 M7)
      refine r_if_lt 20 hC (tgt := 31) (by decide) dX12_slot_20 ?_ ?_
      · exact r_sub [0] rfl (hj31)
      · refine r_iload_n 23 hC 1 rfl rfl dX12_slot_23 ?_
        refine r_aload_n 24 hC 0 rfl (Or.inl (by decide)) rfl dX12_slot_24 ?_
        refine r_get 25 hC fd_10_30 fl_X12_310 dX12_slot_25 (fun v8 => ?_)
        refine r_icmp_lt 28 hC (tgt := 40) (by decide) dX12_slot_28 ?_ ?_
        · refine r_aload_n 40 hC 0 rfl (Or.inl (by decide)) rfl dX12_slot_40 ?_
          refine r_iload_n 41 hC 2 rfl rfl dX12_slot_41 ?_
          refine r_jn (P := fun j74 => ∀ (q9 : Int), Bk E C 3 M (r0, M0) 74 [] [(0, q9), (30, x0)] M3 0 0 (j74 q9)) ?_ (fun j74 hj74 => ?_)
          · intro q9
            refine r_callVI 74 hC [(0, q9)] [] rfl vl_X12_91 rfl h0 (by decide) (Nat.le_of_ble_eq_true rfl) (by decide) (by decide) dX12_slot_74 (t_X12_gives x0 q9 M3 h0) (fun v10 M11 => ?_)
            exact hj77 v10 M11
          refine r_if_ne 42 hC (tgt := 54) (by decide) dX12_slot_42 ?_ ?_
          · refine r_iload_n 54 hC 2 rfl rfl dX12_slot_54 ?_
            refine r_iconst 55 hC (r32c rfl) dX12_slot_55 ?_
            refine r_icmp_ne 56 hC (tgt := 68) (by decide) dX12_slot_56 ?_ ?_
            · refine r_aload_n 68 hC 0 rfl (Or.inl (by decide)) rfl dX12_slot_68 ?_
              refine r_get 69 hC fd_10_29 fl_X12_59 dX12_slot_69 (fun v12 => ?_)
              refine r_iload_n 72 hC 1 rfl rfl dX12_slot_72 ?_
              refine r_iaload 73 hC dX12_slot_73 (fun v13 => ?_)
              exact r_sub [] rfl (hj74 v13)
            · refine r_aload_n 59 hC 0 rfl (Or.inl (by decide)) rfl dX12_slot_59 ?_
              refine r_get 60 hC fd_10_28 fl_X12_56 dX12_slot_60 (fun v14 => ?_)
              refine r_iload_n 63 hC 1 rfl rfl dX12_slot_63 ?_
              refine r_iaload 64 hC dX12_slot_64 (fun v15 => ?_)
              refine r_goto 65 hC (tgt := 74) (by decide) dX12_slot_65 ?_
              exact r_sub [] rfl (hj74 v15)
          · refine r_aload_n 45 hC 0 rfl (Or.inl (by decide)) rfl dX12_slot_45 ?_
            refine r_get 46 hC fd_10_27 fl_X12_53 dX12_slot_46 (fun v16 => ?_)
            refine r_iload_n 49 hC 1 rfl rfl dX12_slot_49 ?_
            refine r_iaload 50 hC dX12_slot_50 (fun v17 => ?_)
            refine r_goto 51 hC (tgt := 74) (by decide) dX12_slot_51 ?_
            exact r_sub [] rfl (hj74 v17)
        · exact r_sub [0] rfl (hj31)
    · exact r_sub [0] rfl (hj9)

/-! WaterTurnsModel.whose(I)I -/
theorem dX12_whose_0 : decode cX12_whose 0 = .ok (.iload_n 1, 1) := by decide +kernel
theorem dX12_whose_1 : decode cX12_whose 1 = .ok (.ifCond .lt 13, 3) := by decide +kernel
theorem dX12_whose_4 : decode cX12_whose 4 = .ok (.iload_n 1, 1) := by decide +kernel
theorem dX12_whose_5 : decode cX12_whose 5 = .ok (.aload_n 0, 1) := by decide +kernel
theorem dX12_whose_6 : decode cX12_whose 6 = .ok (.getfield 7, 3) := by decide +kernel
theorem dX12_whose_9 : decode cX12_whose 9 = .ok (.iconst 1, 1) := by decide +kernel
theorem dX12_whose_10 : decode cX12_whose 10 = .ok (.iaload, 1) := by decide +kernel
theorem dX12_whose_11 : decode cX12_whose 11 = .ok (.if_icmp .lt 9, 3) := by decide +kernel
theorem dX12_whose_14 : decode cX12_whose 14 = .ok (.aload_n 0, 1) := by decide +kernel
theorem dX12_whose_15 : decode cX12_whose 15 = .ok (.iconst 1, 1) := by decide +kernel
theorem dX12_whose_16 : decode cX12_whose 16 = .ok (.invokevirtual 87, 3) := by decide +kernel
theorem dX12_whose_19 : decode cX12_whose 19 = .ok (.ireturn, 1) := by decide +kernel
theorem dX12_whose_20 : decode cX12_whose 20 = .ok (.aload_n 0, 1) := by decide +kernel
theorem dX12_whose_21 : decode cX12_whose 21 = .ok (.invokevirtual 316, 3) := by decide +kernel
theorem dX12_whose_24 : decode cX12_whose 24 = .ok (.iconst 0, 1) := by decide +kernel
theorem dX12_whose_25 : decode cX12_whose 25 = .ok (.istore_n 2, 1) := by decide +kernel
theorem dX12_whose_26 : decode cX12_whose 26 = .ok (.iload_n 2, 1) := by decide +kernel
theorem dX12_whose_27 : decode cX12_whose 27 = .ok (.aload_n 0, 1) := by decide +kernel
theorem dX12_whose_28 : decode cX12_whose 28 = .ok (.getfield 310, 3) := by decide +kernel
theorem dX12_whose_31 : decode cX12_whose 31 = .ok (.if_icmp .ge 47, 3) := by decide +kernel
theorem dX12_whose_34 : decode cX12_whose 34 = .ok (.iload_n 1, 1) := by decide +kernel
theorem dX12_whose_35 : decode cX12_whose 35 = .ok (.aload_n 0, 1) := by decide +kernel
theorem dX12_whose_36 : decode cX12_whose 36 = .ok (.getfield 56, 3) := by decide +kernel
theorem dX12_whose_39 : decode cX12_whose 39 = .ok (.iload_n 2, 1) := by decide +kernel
theorem dX12_whose_40 : decode cX12_whose 40 = .ok (.iaload, 1) := by decide +kernel
theorem dX12_whose_41 : decode cX12_whose 41 = .ok (.if_icmp .lt 31, 3) := by decide +kernel
theorem dX12_whose_44 : decode cX12_whose 44 = .ok (.iload_n 1, 1) := by decide +kernel
theorem dX12_whose_45 : decode cX12_whose 45 = .ok (.aload_n 0, 1) := by decide +kernel
theorem dX12_whose_46 : decode cX12_whose 46 = .ok (.getfield 56, 3) := by decide +kernel
theorem dX12_whose_49 : decode cX12_whose 49 = .ok (.iload_n 2, 1) := by decide +kernel
theorem dX12_whose_50 : decode cX12_whose 50 = .ok (.iaload, 1) := by decide +kernel
theorem dX12_whose_51 : decode cX12_whose 51 = .ok (.aload_n 0, 1) := by decide +kernel
theorem dX12_whose_52 : decode cX12_whose 52 = .ok (.getfield 59, 3) := by decide +kernel
theorem dX12_whose_55 : decode cX12_whose 55 = .ok (.iload_n 2, 1) := by decide +kernel
theorem dX12_whose_56 : decode cX12_whose 56 = .ok (.iaload, 1) := by decide +kernel
theorem dX12_whose_57 : decode cX12_whose 57 = .ok (.iadd, 1) := by decide +kernel
theorem dX12_whose_58 : decode cX12_whose 58 = .ok (.if_icmp .ge 14, 3) := by decide +kernel
theorem dX12_whose_61 : decode cX12_whose 61 = .ok (.aload_n 0, 1) := by decide +kernel
theorem dX12_whose_62 : decode cX12_whose 62 = .ok (.aload_n 0, 1) := by decide +kernel
theorem dX12_whose_63 : decode cX12_whose 63 = .ok (.getfield 53, 3) := by decide +kernel
theorem dX12_whose_66 : decode cX12_whose 66 = .ok (.iload_n 2, 1) := by decide +kernel
theorem dX12_whose_67 : decode cX12_whose 67 = .ok (.iaload, 1) := by decide +kernel
theorem dX12_whose_68 : decode cX12_whose 68 = .ok (.invokevirtual 91, 3) := by decide +kernel
theorem dX12_whose_71 : decode cX12_whose 71 = .ok (.ireturn, 1) := by decide +kernel
theorem dX12_whose_72 : decode cX12_whose 72 = .ok (.iinc 2 1, 3) := by decide +kernel
theorem dX12_whose_75 : decode cX12_whose 75 = .ok (.goto (-49), 3) := by decide +kernel
theorem dX12_whose_78 : decode cX12_whose 78 = .ok (.aload_n 0, 1) := by decide +kernel
theorem dX12_whose_79 : decode cX12_whose 79 = .ok (.bipush 6, 2) := by decide +kernel
theorem dX12_whose_81 : decode cX12_whose 81 = .ok (.invokevirtual 87, 3) := by decide +kernel
theorem dX12_whose_84 : decode cX12_whose 84 = .ok (.ireturn, 1) := by decide +kernel
set_option maxRecDepth 100000 in
theorem f_X12_whose_L26_ok {E : EnvT} {C : Cx} {Mi : Mem} {x0 : Int} (h0 : x0 ≠ 0) (hC : CxOK E C cX12_whose 3 yX12_whose.cls 7 0 0) {r0 : Int} {M0 : Mem} (hq : RQ E C 0 0 Mi (some .int) (some (0, r0)) M0) {M5 : Mem} {x1 : Int} {k : Option (Int × Mem)} (hk : Bk E C 3 Mi (r0, M0) 78 [(0, 30, x0)] [] M5 0 0 (k)) : ∀ (n : Nat) (p6 : Int), Bk E C 3 Mi (r0, M0) 26 [(0, 30, x0), (1, 0, x1), (2, 0, p6)] [] M5 0 0 (f_X12_whose_L26 M5 x0 x1 k n p6) := by
  intro n
  induction n with
  | zero =>
    intro p6
    exact r_none
  | succ n ih =>
    intro p6
    rw [f_X12_whose_L26]
    refine r_iload_n 26 hC 2 rfl rfl dX12_whose_26 ?_
    refine r_aload_n 27 hC 0 rfl (Or.inl (by decide)) rfl dX12_whose_27 ?_
    refine r_get 28 hC fd_10_30 fl_X12_310 dX12_whose_28 (fun v7 => ?_)
    refine r_icmp_ge 31 hC (tgt := 78) (by decide) dX12_whose_31 ?_ ?_
    · exact r_sub [0] rfl (hk)
    · refine r_iload_n 34 hC 1 rfl rfl dX12_whose_34 ?_
      refine r_aload_n 35 hC 0 rfl (Or.inl (by decide)) rfl dX12_whose_35 ?_
      refine r_get 36 hC fd_10_28 fl_X12_56 dX12_whose_36 (fun v8 => ?_)
      refine r_iload_n 39 hC 2 rfl rfl dX12_whose_39 ?_
      refine r_iaload 40 hC dX12_whose_40 (fun v9 => ?_)
      refine r_jn (P := fun j72 => Bk E C 3 Mi (r0, M0) 72 [(0, 30, x0), (1, 0, x1), (2, 0, p6)] [] M5 0 0 (j72)) ?_ (fun j72 hj72 => ?_)
      · refine r_iinc 72 hC 2 rfl (by decide) dX12_whose_72 (r_eqls (ls' := [(2, 0, w32 (p6 + 1)), (0, 30, x0), (1, 0, x1)]) rfl ?_)
        refine r_goto 75 hC (tgt := 26) (by decide) dX12_whose_75 ?_
        exact r_sub [1, 2, 0] rfl (ih (w32 (p6 + 1)))
      refine r_icmp_lt 41 hC (tgt := 72) (by decide) dX12_whose_41 ?_ ?_
      · exact hj72
      · refine r_iload_n 44 hC 1 rfl rfl dX12_whose_44 ?_
        refine r_aload_n 45 hC 0 rfl (Or.inl (by decide)) rfl dX12_whose_45 ?_
        refine r_get 46 hC fd_10_28 fl_X12_56 dX12_whose_46 (fun v10 => ?_)
        refine r_iload_n 49 hC 2 rfl rfl dX12_whose_49 ?_
        refine r_iaload 50 hC dX12_whose_50 (fun v11 => ?_)
        refine r_aload_n 51 hC 0 rfl (Or.inl (by decide)) rfl dX12_whose_51 ?_
        refine r_get 52 hC fd_10_29 fl_X12_59 dX12_whose_52 (fun v12 => ?_)
        refine r_iload_n 55 hC 2 rfl rfl dX12_whose_55 ?_
        refine r_iaload 56 hC dX12_whose_56 (fun v13 => ?_)
        refine r_iadd 57 hC dX12_whose_57 ?_
        refine r_icmp_ge 58 hC (tgt := 72) (by decide) dX12_whose_58 ?_ ?_
        · exact hj72
        · refine r_aload_n 61 hC 0 rfl (Or.inl (by decide)) rfl dX12_whose_61 ?_
          refine r_aload_n 62 hC 0 rfl (Or.inl (by decide)) rfl dX12_whose_62 ?_
          refine r_get 63 hC fd_10_27 fl_X12_53 dX12_whose_63 (fun v14 => ?_)
          refine r_iload_n 66 hC 2 rfl rfl dX12_whose_66 ?_
          refine r_iaload 67 hC dX12_whose_67 (fun v15 => ?_)
          refine r_callVI 68 hC [(0, v15)] [] rfl vl_X12_91 rfl h0 (by decide) (Nat.le_of_ble_eq_true rfl) (by decide) (by decide) dX12_whose_68 (t_X12_gives x0 v15 M5 h0) (fun v16 M17 => ?_)
          exact r_ireturn 71 hC hq (by decide) (by decide) dX12_whose_71
set_option maxRecDepth 100000 in
theorem t_X12_whose (x0 x1 : Int) (M : Mem) (h0 : x0 ≠ 0) : MtI yX12_whose cX12_whose 3 (some .int) 7 0 0 [(30, x0), (0, x1)] M 0 (f_X12_whose x0 x1 M) := by
  refine mk_I (by decide +kernel) (Nat.le_of_ble_eq_true rfl) (fun E C r0 M0 hC hq hin => ?_)
  refine r_eqls (ls' := [(0, 30, x0), (1, 0, x1)]) rfl ?_
  unfold f_X12_whose
  refine r_iload_n 0 hC 1 rfl rfl dX12_whose_0 ?_
  refine r_jn (P := fun j14 => Bk E C 3 M (r0, M0) 14 [(0, 30, x0)] [] M 0 0 (j14)) ?_ (fun j14 hj14 => ?_)
  · refine r_aload_n 14 hC 0 rfl (Or.inl (by decide)) rfl dX12_whose_14 ?_
    refine r_iconst 15 hC (r32c rfl) dX12_whose_15 ?_
    refine r_callVI 16 hC [(0, 1)] [] rfl vl_X12_87 rfl h0 (by decide) (Nat.le_of_ble_eq_true rfl) (by decide) (by decide) dX12_whose_16 (t_X12_refuse x0 1 M h0) (fun v1 M2 => ?_)
    exact r_ireturn 19 hC hq (by decide) (by decide) dX12_whose_19
  refine r_if_lt 1 hC (tgt := 14) (by decide) dX12_whose_1 ?_ ?_
  · exact r_sub [0] rfl (hj14)
  · refine r_iload_n 4 hC 1 rfl rfl dX12_whose_4 ?_
    refine r_aload_n 5 hC 0 rfl (Or.inl (by decide)) rfl dX12_whose_5 ?_
    refine r_get 6 hC fd_10_0 fl_X12_7 dX12_whose_6 (fun v3 => ?_)
    refine r_iconst 9 hC (r32c rfl) dX12_whose_9 ?_
    refine r_iaload 10 hC dX12_whose_10 (fun v4 => ?_)
    refine r_icmp_lt 11 hC (tgt := 20) (by decide) dX12_whose_11 ?_ ?_
    · refine r_aload_n 20 hC 0 rfl (Or.inl (by decide)) rfl dX12_whose_20 ?_
      refine r_callVV 21 hC [] [] rfl vl_X12_316 rfl h0 (by decide) (Nat.le_of_ble_eq_true rfl) (by decide) (by decide) dX12_whose_21 (t_X12_laysSlots x0 M h0) (fun M5 => ?_)
      refine r_iconst 24 hC (r32c rfl) dX12_whose_24 ?_
      refine r_istore_n 25 hC rfl (by decide) dX12_whose_25 (r_eqls (ls' := [(2, 0, 0), (0, 30, x0), (1, 0, x1)]) rfl ?_)
      refine r_sub [1, 2, 0] rfl (f_X12_whose_L26_ok h0 hC hq ?_ KF 0)
      · refine r_aload_n 78 hC 0 rfl (Or.inl (by decide)) rfl dX12_whose_78 ?_
        refine r_bipush 79 hC kb_6 dX12_whose_79 ?_
        refine r_callVI 81 hC [(0, 6)] [] rfl vl_X12_87 rfl h0 (by decide) (Nat.le_of_ble_eq_true rfl) (by decide) (by decide) dX12_whose_81 (t_X12_refuse x0 6 M5 h0) (fun v18 M19 => ?_)
        exact r_ireturn 84 hC hq (by decide) (by decide) dX12_whose_84
    · exact r_sub [0] rfl (hj14)

/-! WaterTurnsModel.letsBy(II)Z -/
theorem dX12_letsBy_0 : decode cX12_letsBy 0 = .ok (.aload_n 0, 1) := by decide +kernel
theorem dX12_letsBy_1 : decode cX12_letsBy 1 = .ok (.getfield 7, 3) := by decide +kernel
theorem dX12_letsBy_4 : decode cX12_letsBy 4 = .ok (.bipush 7, 2) := by decide +kernel
theorem dX12_letsBy_6 : decode cX12_letsBy 6 = .ok (.iaload, 1) := by decide +kernel
theorem dX12_letsBy_7 : decode cX12_letsBy 7 = .ok (.iload_n 1, 1) := by decide +kernel
theorem dX12_letsBy_8 : decode cX12_letsBy 8 = .ok (.ishr, 1) := by decide +kernel
theorem dX12_letsBy_9 : decode cX12_letsBy 9 = .ok (.iconst 1, 1) := by decide +kernel
theorem dX12_letsBy_10 : decode cX12_letsBy 10 = .ok (.iand, 1) := by decide +kernel
theorem dX12_letsBy_11 : decode cX12_letsBy 11 = .ok (.iconst 1, 1) := by decide +kernel
theorem dX12_letsBy_12 : decode cX12_letsBy 12 = .ok (.if_icmp .ne 5, 3) := by decide +kernel
theorem dX12_letsBy_15 : decode cX12_letsBy 15 = .ok (.iconst 0, 1) := by decide +kernel
theorem dX12_letsBy_16 : decode cX12_letsBy 16 = .ok (.ireturn, 1) := by decide +kernel
theorem dX12_letsBy_17 : decode cX12_letsBy 17 = .ok (.aload_n 0, 1) := by decide +kernel
theorem dX12_letsBy_18 : decode cX12_letsBy 18 = .ok (.getfield 7, 3) := by decide +kernel
theorem dX12_letsBy_21 : decode cX12_letsBy 21 = .ok (.iconst 2, 1) := by decide +kernel
theorem dX12_letsBy_22 : decode cX12_letsBy 22 = .ok (.iaload, 1) := by decide +kernel
theorem dX12_letsBy_23 : decode cX12_letsBy 23 = .ok (.iload_n 2, 1) := by decide +kernel
theorem dX12_letsBy_24 : decode cX12_letsBy 24 = .ok (.iadd, 1) := by decide +kernel
theorem dX12_letsBy_25 : decode cX12_letsBy 25 = .ok (.sipush 1440, 3) := by decide +kernel
theorem dX12_letsBy_28 : decode cX12_letsBy 28 = .ok (.irem, 1) := by decide +kernel
theorem dX12_letsBy_29 : decode cX12_letsBy 29 = .ok (.istore_n 3, 1) := by decide +kernel
theorem dX12_letsBy_30 : decode cX12_letsBy 30 = .ok (.aload_n 0, 1) := by decide +kernel
theorem dX12_letsBy_31 : decode cX12_letsBy 31 = .ok (.iload_n 1, 1) := by decide +kernel
theorem dX12_letsBy_32 : decode cX12_letsBy 32 = .ok (.iconst 4, 1) := by decide +kernel
theorem dX12_letsBy_33 : decode cX12_letsBy 33 = .ok (.invokevirtual 260, 3) := by decide +kernel
theorem dX12_letsBy_36 : decode cX12_letsBy 36 = .ok (.iconst (-1), 1) := by decide +kernel
theorem dX12_letsBy_37 : decode cX12_letsBy 37 = .ok (.if_icmp .eq 23, 3) := by decide +kernel
theorem dX12_letsBy_40 : decode cX12_letsBy 40 = .ok (.iload_n 3, 1) := by decide +kernel
theorem dX12_letsBy_41 : decode cX12_letsBy 41 = .ok (.aload_n 0, 1) := by decide +kernel
theorem dX12_letsBy_42 : decode cX12_letsBy 42 = .ok (.iload_n 1, 1) := by decide +kernel
theorem dX12_letsBy_43 : decode cX12_letsBy 43 = .ok (.iconst 4, 1) := by decide +kernel
theorem dX12_letsBy_44 : decode cX12_letsBy 44 = .ok (.invokevirtual 260, 3) := by decide +kernel
theorem dX12_letsBy_47 : decode cX12_letsBy 47 = .ok (.if_icmp .lt 13, 3) := by decide +kernel
theorem dX12_letsBy_50 : decode cX12_letsBy 50 = .ok (.iload_n 3, 1) := by decide +kernel
theorem dX12_letsBy_51 : decode cX12_letsBy 51 = .ok (.aload_n 0, 1) := by decide +kernel
theorem dX12_letsBy_52 : decode cX12_letsBy 52 = .ok (.iload_n 1, 1) := by decide +kernel
theorem dX12_letsBy_53 : decode cX12_letsBy 53 = .ok (.iconst 5, 1) := by decide +kernel
theorem dX12_letsBy_54 : decode cX12_letsBy 54 = .ok (.invokevirtual 260, 3) := by decide +kernel
theorem dX12_letsBy_57 : decode cX12_letsBy 57 = .ok (.if_icmp .lt 7, 3) := by decide +kernel
theorem dX12_letsBy_60 : decode cX12_letsBy 60 = .ok (.iconst 1, 1) := by decide +kernel
theorem dX12_letsBy_61 : decode cX12_letsBy 61 = .ok (.goto 4, 3) := by decide +kernel
theorem dX12_letsBy_64 : decode cX12_letsBy 64 = .ok (.iconst 0, 1) := by decide +kernel
theorem dX12_letsBy_65 : decode cX12_letsBy 65 = .ok (.ireturn, 1) := by decide +kernel
set_option maxRecDepth 100000 in
theorem t_X12_letsBy (x0 x1 x2 : Int) (M : Mem) (h0 : x0 ≠ 0) : MtP yX12_letsBy cX12_letsBy 4 (some .boolean) 2 0 0 [(30, x0), (0, x1), (0, x2)] M 0 (f_X12_letsBy x0 x1 x2 M) := by
  refine mk_P (by decide +kernel) (Nat.le_of_ble_eq_true rfl) (fun E C r0 hC hq hin => ?_)
  refine r_eqls (ls' := [(0, 30, x0), (1, 0, x1), (2, 0, x2)]) rfl ?_
  unfold f_X12_letsBy
  refine r_aload_n 0 hC 0 rfl (Or.inl (by decide)) rfl dX12_letsBy_0 ?_
  refine r_get 1 hC fd_10_0 fl_X12_7 dX12_letsBy_1 (fun v1 => ?_)
  refine r_bipush 4 hC kb_7 dX12_letsBy_4 ?_
  refine r_iaload 6 hC dX12_letsBy_6 (fun v2 => ?_)
  refine r_iload_n 7 hC 1 rfl rfl dX12_letsBy_7 ?_
  refine r_ishr 8 hC dX12_letsBy_8 ?_
  refine r_iconst 9 hC (r32c rfl) dX12_letsBy_9 ?_
  refine r_iand 10 hC dX12_letsBy_10 ?_
  refine r_iconst 11 hC (r32c rfl) dX12_letsBy_11 ?_
  refine r_icmp_ne 12 hC (tgt := 17) (by decide) dX12_letsBy_12 ?_ ?_
  · refine r_aload_n 17 hC 0 rfl (Or.inl (by decide)) rfl dX12_letsBy_17 ?_
    refine r_get 18 hC fd_10_0 fl_X12_7 dX12_letsBy_18 (fun v3 => ?_)
    refine r_iconst 21 hC (r32c rfl) dX12_letsBy_21 ?_
    refine r_iaload 22 hC dX12_letsBy_22 (fun v4 => ?_)
    refine r_iload_n 23 hC 2 rfl rfl dX12_letsBy_23 ?_
    refine r_iadd 24 hC dX12_letsBy_24 ?_
    refine r_sipush 25 hC ks_1440 dX12_letsBy_25 ?_
    refine r_irem 28 hC dX12_letsBy_28 (fun v5 => ?_)
    refine r_istore_n 29 hC rfl (by decide) dX12_letsBy_29 (r_eqls (ls' := [(3, 0, v5), (0, 30, x0), (1, 0, x1), (2, 0, x2)]) rfl ?_)
    refine r_aload_n 30 hC 1 rfl (Or.inl (by decide)) rfl dX12_letsBy_30 ?_
    refine r_iload_n 31 hC 2 rfl rfl dX12_letsBy_31 ?_
    refine r_iconst 32 hC (r32c rfl) dX12_letsBy_32 ?_
    refine r_callVP 33 hC [(0, x1), (0, 4)] [] rfl vl_X12_260 rfl h0 (by decide) (Nat.le_of_ble_eq_true rfl) (by decide) (by decide) dX12_letsBy_33 (t_X12_ofReach x0 x1 4 M h0) (fun v6 => ?_)
    refine r_iconst 36 hC (r32c rfl) dX12_letsBy_36 ?_
    refine r_jn (P := fun j65 => ∀ (q7 : Int), Bk E C 4 M r0 65 [] [(0, q7)] M 0 0 (j65 q7)) ?_ (fun j65 hj65 => ?_)
    · intro q7
      exact r_zreturnP 65 hC hq (by decide) (by decide) dX12_letsBy_65
    refine r_jn (P := fun j60 => Bk E C 4 M r0 60 [] [] M 0 0 (j60)) ?_ (fun j60 hj60 => ?_)
    · refine r_iconst 60 hC (r32c rfl) dX12_letsBy_60 ?_
      refine r_goto 61 hC (tgt := 65) (by decide) dX12_letsBy_61 ?_
      exact hj65 1
    refine r_icmp_eq 37 hC (tgt := 60) (by decide) dX12_letsBy_37 ?_ ?_
    · exact r_sub [] rfl (hj60)
    · refine r_iload_n 40 hC 0 rfl rfl dX12_letsBy_40 ?_
      refine r_aload_n 41 hC 1 rfl (Or.inl (by decide)) rfl dX12_letsBy_41 ?_
      refine r_iload_n 42 hC 2 rfl rfl dX12_letsBy_42 ?_
      refine r_iconst 43 hC (r32c rfl) dX12_letsBy_43 ?_
      refine r_callVP 44 hC [(0, x1), (0, 4)] [(0, v5)] rfl vl_X12_260 rfl h0 (by decide) (Nat.le_of_ble_eq_true rfl) (by decide) (by decide) dX12_letsBy_44 (t_X12_ofReach x0 x1 4 M h0) (fun v8 => ?_)
      refine r_icmp_lt 47 hC (tgt := 60) (by decide) dX12_letsBy_47 ?_ ?_
      · exact r_sub [] rfl (hj60)
      · refine r_iload_n 50 hC 0 rfl rfl dX12_letsBy_50 ?_
        refine r_aload_n 51 hC 1 rfl (Or.inl (by decide)) rfl dX12_letsBy_51 ?_
        refine r_iload_n 52 hC 2 rfl rfl dX12_letsBy_52 ?_
        refine r_iconst 53 hC (r32c rfl) dX12_letsBy_53 ?_
        refine r_callVP 54 hC [(0, x1), (0, 5)] [(0, v5)] rfl vl_X12_260 rfl h0 (by decide) (Nat.le_of_ble_eq_true rfl) (by decide) (by decide) dX12_letsBy_54 (t_X12_ofReach x0 x1 5 M h0) (fun v9 => ?_)
        refine r_icmp_lt 57 hC (tgt := 64) (by decide) dX12_letsBy_57 ?_ ?_
        · refine r_iconst 64 hC (r32c rfl) dX12_letsBy_64 ?_
          exact r_sub [] rfl (hj65 0)
        · exact r_sub [] rfl (hj60)
  · refine r_iconst 15 hC (r32c rfl) dX12_letsBy_15 ?_
    exact r_zreturnP 16 hC hq (by decide) (by decide) dX12_letsBy_16

/-! WaterTurnsModel.comesTo(II)Z -/
theorem dX12_comesTo_0 : decode cX12_comesTo 0 = .ok (.iload_n 1, 1) := by decide +kernel
theorem dX12_comesTo_1 : decode cX12_comesTo 1 = .ok (.istore_n 3, 1) := by decide +kernel
theorem dX12_comesTo_2 : decode cX12_comesTo 2 = .ok (.iload_n 3, 1) := by decide +kernel
theorem dX12_comesTo_3 : decode cX12_comesTo 3 = .ok (.iconst (-1), 1) := by decide +kernel
theorem dX12_comesTo_4 : decode cX12_comesTo 4 = .ok (.if_icmp .eq 24, 3) := by decide +kernel
theorem dX12_comesTo_7 : decode cX12_comesTo 7 = .ok (.aload_n 0, 1) := by decide +kernel
theorem dX12_comesTo_8 : decode cX12_comesTo 8 = .ok (.iload_n 3, 1) := by decide +kernel
theorem dX12_comesTo_9 : decode cX12_comesTo 9 = .ok (.iload_n 2, 1) := by decide +kernel
theorem dX12_comesTo_10 : decode cX12_comesTo 10 = .ok (.invokevirtual 319, 3) := by decide +kernel
theorem dX12_comesTo_13 : decode cX12_comesTo 13 = .ok (.ifCond .ne 5, 3) := by decide +kernel
theorem dX12_comesTo_16 : decode cX12_comesTo 16 = .ok (.iconst 0, 1) := by decide +kernel
theorem dX12_comesTo_17 : decode cX12_comesTo 17 = .ok (.ireturn, 1) := by decide +kernel
theorem dX12_comesTo_18 : decode cX12_comesTo 18 = .ok (.aload_n 0, 1) := by decide +kernel
theorem dX12_comesTo_19 : decode cX12_comesTo 19 = .ok (.iload_n 3, 1) := by decide +kernel
theorem dX12_comesTo_20 : decode cX12_comesTo 20 = .ok (.iconst 0, 1) := by decide +kernel
theorem dX12_comesTo_21 : decode cX12_comesTo 21 = .ok (.invokevirtual 260, 3) := by decide +kernel
theorem dX12_comesTo_24 : decode cX12_comesTo 24 = .ok (.istore_n 3, 1) := by decide +kernel
theorem dX12_comesTo_25 : decode cX12_comesTo 25 = .ok (.goto (-23), 3) := by decide +kernel
theorem dX12_comesTo_28 : decode cX12_comesTo 28 = .ok (.iconst 1, 1) := by decide +kernel
theorem dX12_comesTo_29 : decode cX12_comesTo 29 = .ok (.ireturn, 1) := by decide +kernel
set_option maxRecDepth 100000 in
theorem f_X12_comesTo_L2_ok {E : EnvT} {C : Cx} {Mi M : Mem} {x0 : Int} (h0 : x0 ≠ 0) (hC : CxOK E C cX12_comesTo 4 yX12_comesTo.cls 3 0 0) {r0 : Int} (hq : RQ E C 0 0 Mi (some .boolean) (some (0, r0)) M) {x2 : Int} {k : Option (Int)} (hk : Bk E C 4 Mi r0 28 [] [] M 0 0 (k)) : ∀ (n : Nat) (p1 : Int), Bk E C 4 Mi r0 2 [(0, 30, x0), (2, 0, x2), (3, 0, p1)] [] M 0 0 (f_X12_comesTo_L2 M x0 x2 k n p1) := by
  intro n
  induction n with
  | zero =>
    intro p1
    exact r_none
  | succ n ih =>
    intro p1
    rw [f_X12_comesTo_L2]
    refine r_iload_n 2 hC 2 rfl rfl dX12_comesTo_2 ?_
    refine r_iconst 3 hC (r32c rfl) dX12_comesTo_3 ?_
    refine r_icmp_eq 4 hC (tgt := 28) (by decide) dX12_comesTo_4 ?_ ?_
    · exact r_sub [] rfl (hk)
    · refine r_aload_n 7 hC 0 rfl (Or.inl (by decide)) rfl dX12_comesTo_7 ?_
      refine r_iload_n 8 hC 2 rfl rfl dX12_comesTo_8 ?_
      refine r_iload_n 9 hC 1 rfl rfl dX12_comesTo_9 ?_
      refine r_callVP 10 hC [(0, p1), (0, x2)] [] rfl vl_X12_319 rfl h0 (by decide) (Nat.le_of_ble_eq_true rfl) (by decide) (by decide) dX12_comesTo_10 (t_X12_letsBy x0 p1 x2 M h0) (fun v2 => ?_)
      refine r_if_ne 13 hC (tgt := 18) (by decide) dX12_comesTo_13 ?_ ?_
      · refine r_aload_n 18 hC 0 rfl (Or.inl (by decide)) rfl dX12_comesTo_18 ?_
        refine r_iload_n 19 hC 2 rfl rfl dX12_comesTo_19 ?_
        refine r_iconst 20 hC (r32c rfl) dX12_comesTo_20 ?_
        refine r_callVP 21 hC [(0, p1), (0, 0)] [] rfl vl_X12_260 rfl h0 (by decide) (Nat.le_of_ble_eq_true rfl) (by decide) (by decide) dX12_comesTo_21 (t_X12_ofReach x0 p1 0 M h0) (fun v3 => ?_)
        refine r_istore_n 24 hC rfl (by decide) dX12_comesTo_24 (r_eqls (ls' := [(3, 0, v3), (0, 30, x0), (2, 0, x2)]) rfl ?_)
        refine r_goto 25 hC (tgt := 2) (by decide) dX12_comesTo_25 ?_
        exact r_sub [1, 2, 0] rfl (ih v3)
      · refine r_iconst 16 hC (r32c rfl) dX12_comesTo_16 ?_
        exact r_zreturnP 17 hC hq (by decide) (by decide) dX12_comesTo_17
set_option maxRecDepth 100000 in
theorem t_X12_comesTo (x0 x1 x2 : Int) (M : Mem) (h0 : x0 ≠ 0) : MtP yX12_comesTo cX12_comesTo 4 (some .boolean) 3 0 0 [(30, x0), (0, x1), (0, x2)] M 0 (f_X12_comesTo x0 x1 x2 M) := by
  refine mk_P (by decide +kernel) (Nat.le_of_ble_eq_true rfl) (fun E C r0 hC hq hin => ?_)
  refine r_eqls (ls' := [(0, 30, x0), (1, 0, x1), (2, 0, x2)]) rfl ?_
  unfold f_X12_comesTo
  refine r_iload_n 0 hC 1 rfl rfl dX12_comesTo_0 ?_
  refine r_istore_n 1 hC rfl (by decide) dX12_comesTo_1 (r_eqls (ls' := [(3, 0, x1), (0, 30, x0), (1, 0, x1), (2, 0, x2)]) rfl ?_)
  refine r_sub [1, 3, 0] rfl (f_X12_comesTo_L2_ok h0 hC hq ?_ KF x1)
  · refine r_iconst 28 hC (r32c rfl) dX12_comesTo_28 ?_
    exact r_zreturnP 29 hC hq (by decide) (by decide) dX12_comesTo_29

/-! WaterTurnsModel.minutesOf(II)I -/
theorem dX12_minutesOf_0 : decode cX12_minutesOf 0 = .ok (.aload_n 0, 1) := by decide +kernel
theorem dX12_minutesOf_1 : decode cX12_minutesOf 1 = .ok (.invokevirtual 316, 3) := by decide +kernel
theorem dX12_minutesOf_4 : decode cX12_minutesOf 4 = .ok (.iconst 0, 1) := by decide +kernel
theorem dX12_minutesOf_5 : decode cX12_minutesOf 5 = .ok (.istore_n 3, 1) := by decide +kernel
theorem dX12_minutesOf_6 : decode cX12_minutesOf 6 = .ok (.iconst 0, 1) := by decide +kernel
theorem dX12_minutesOf_7 : decode cX12_minutesOf 7 = .ok (.istore 4, 2) := by decide +kernel
theorem dX12_minutesOf_9 : decode cX12_minutesOf 9 = .ok (.iload 4, 2) := by decide +kernel
theorem dX12_minutesOf_11 : decode cX12_minutesOf 11 = .ok (.aload_n 0, 1) := by decide +kernel
theorem dX12_minutesOf_12 : decode cX12_minutesOf 12 = .ok (.getfield 310, 3) := by decide +kernel
theorem dX12_minutesOf_15 : decode cX12_minutesOf 15 = .ok (.if_icmp .ge 79, 3) := by decide +kernel
theorem dX12_minutesOf_18 : decode cX12_minutesOf 18 = .ok (.aload_n 0, 1) := by decide +kernel
theorem dX12_minutesOf_19 : decode cX12_minutesOf 19 = .ok (.getfield 53, 3) := by decide +kernel
theorem dX12_minutesOf_22 : decode cX12_minutesOf 22 = .ok (.iload 4, 2) := by decide +kernel
theorem dX12_minutesOf_24 : decode cX12_minutesOf 24 = .ok (.iaload, 1) := by decide +kernel
theorem dX12_minutesOf_25 : decode cX12_minutesOf 25 = .ok (.iload_n 1, 1) := by decide +kernel
theorem dX12_minutesOf_26 : decode cX12_minutesOf 26 = .ok (.if_icmp .eq 6, 3) := by decide +kernel
theorem dX12_minutesOf_29 : decode cX12_minutesOf 29 = .ok (.goto 59, 3) := by decide +kernel
theorem dX12_minutesOf_32 : decode cX12_minutesOf 32 = .ok (.iconst 0, 1) := by decide +kernel
theorem dX12_minutesOf_33 : decode cX12_minutesOf 33 = .ok (.istore 5, 2) := by decide +kernel
theorem dX12_minutesOf_35 : decode cX12_minutesOf 35 = .ok (.iload 5, 2) := by decide +kernel
theorem dX12_minutesOf_37 : decode cX12_minutesOf 37 = .ok (.aload_n 0, 1) := by decide +kernel
theorem dX12_minutesOf_38 : decode cX12_minutesOf 38 = .ok (.getfield 59, 3) := by decide +kernel
theorem dX12_minutesOf_41 : decode cX12_minutesOf 41 = .ok (.iload 4, 2) := by decide +kernel
theorem dX12_minutesOf_43 : decode cX12_minutesOf 43 = .ok (.iaload, 1) := by decide +kernel
theorem dX12_minutesOf_44 : decode cX12_minutesOf 44 = .ok (.if_icmp .ge 44, 3) := by decide +kernel
theorem dX12_minutesOf_47 : decode cX12_minutesOf 47 = .ok (.iload_n 3, 1) := by decide +kernel
theorem dX12_minutesOf_48 : decode cX12_minutesOf 48 = .ok (.iload_n 2, 1) := by decide +kernel
theorem dX12_minutesOf_49 : decode cX12_minutesOf 49 = .ok (.ifCond .eq 26, 3) := by decide +kernel
theorem dX12_minutesOf_52 : decode cX12_minutesOf 52 = .ok (.aload_n 0, 1) := by decide +kernel
theorem dX12_minutesOf_53 : decode cX12_minutesOf 53 = .ok (.aload_n 0, 1) := by decide +kernel
theorem dX12_minutesOf_54 : decode cX12_minutesOf 54 = .ok (.iload_n 1, 1) := by decide +kernel
theorem dX12_minutesOf_55 : decode cX12_minutesOf 55 = .ok (.iconst 0, 1) := by decide +kernel
theorem dX12_minutesOf_56 : decode cX12_minutesOf 56 = .ok (.invokevirtual 269, 3) := by decide +kernel
theorem dX12_minutesOf_59 : decode cX12_minutesOf 59 = .ok (.aload_n 0, 1) := by decide +kernel
theorem dX12_minutesOf_60 : decode cX12_minutesOf 60 = .ok (.getfield 56, 3) := by decide +kernel
theorem dX12_minutesOf_63 : decode cX12_minutesOf 63 = .ok (.iload 4, 2) := by decide +kernel
theorem dX12_minutesOf_65 : decode cX12_minutesOf 65 = .ok (.iaload, 1) := by decide +kernel
theorem dX12_minutesOf_66 : decode cX12_minutesOf 66 = .ok (.iload 5, 2) := by decide +kernel
theorem dX12_minutesOf_68 : decode cX12_minutesOf 68 = .ok (.iadd, 1) := by decide +kernel
theorem dX12_minutesOf_69 : decode cX12_minutesOf 69 = .ok (.invokevirtual 322, 3) := by decide +kernel
theorem dX12_minutesOf_72 : decode cX12_minutesOf 72 = .ok (.ifCond .eq 7, 3) := by decide +kernel
theorem dX12_minutesOf_75 : decode cX12_minutesOf 75 = .ok (.iconst 1, 1) := by decide +kernel
theorem dX12_minutesOf_76 : decode cX12_minutesOf 76 = .ok (.goto 4, 3) := by decide +kernel
theorem dX12_minutesOf_79 : decode cX12_minutesOf 79 = .ok (.iconst 0, 1) := by decide +kernel
theorem dX12_minutesOf_80 : decode cX12_minutesOf 80 = .ok (.iadd, 1) := by decide +kernel
theorem dX12_minutesOf_81 : decode cX12_minutesOf 81 = .ok (.istore_n 3, 1) := by decide +kernel
theorem dX12_minutesOf_82 : decode cX12_minutesOf 82 = .ok (.iinc 5 1, 3) := by decide +kernel
theorem dX12_minutesOf_85 : decode cX12_minutesOf 85 = .ok (.goto (-50), 3) := by decide +kernel
theorem dX12_minutesOf_88 : decode cX12_minutesOf 88 = .ok (.iinc 4 1, 3) := by decide +kernel
theorem dX12_minutesOf_91 : decode cX12_minutesOf 91 = .ok (.goto (-82), 3) := by decide +kernel
theorem dX12_minutesOf_94 : decode cX12_minutesOf 94 = .ok (.iload_n 3, 1) := by decide +kernel
theorem dX12_minutesOf_95 : decode cX12_minutesOf 95 = .ok (.ireturn, 1) := by decide +kernel
set_option maxRecDepth 100000 in
theorem f_X12_minutesOf_L35_ok {E : EnvT} {C : Cx} {Mi : Mem} {x0 : Int} (h0 : x0 ≠ 0) (hC : CxOK E C cX12_minutesOf 6 yX12_minutesOf.cls 7 0 0) {r0 : Int} {M0 : Mem} (hq : RQ E C 0 0 Mi (some .int) (some (0, r0)) M0) {M1 : Mem} {p3 x1 x2 : Int} {k : Int → Option (Int × Mem)} (hk : ∀ q18, Bk E C 6 Mi (r0, M0) 88 [(0, 30, x0), (1, 0, x1), (2, 0, x2), (3, 0, q18), (4, 0, p3)] [] M1 0 0 (k q18)) : ∀ (n : Nat) (p8 : Int) (p9 : Int), Bk E C 6 Mi (r0, M0) 35 [(0, 30, x0), (1, 0, x1), (2, 0, x2), (3, 0, p8), (4, 0, p3), (5, 0, p9)] [] M1 0 0 (f_X12_minutesOf_L35 M1 p3 x0 x1 x2 k n p8 p9) := by
  intro n
  induction n with
  | zero =>
    intro p8 p9
    exact r_none
  | succ n ih =>
    intro p8 p9
    rw [f_X12_minutesOf_L35]
    refine r_iload 35 hC 5 rfl dX12_minutesOf_35 ?_
    refine r_aload_n 37 hC 0 rfl (Or.inl (by decide)) rfl dX12_minutesOf_37 ?_
    refine r_get 38 hC fd_10_29 fl_X12_59 dX12_minutesOf_38 (fun v10 => ?_)
    refine r_iload 41 hC 4 rfl dX12_minutesOf_41 ?_
    refine r_iaload 43 hC dX12_minutesOf_43 (fun v11 => ?_)
    refine r_icmp_ge 44 hC (tgt := 88) (by decide) dX12_minutesOf_44 ?_ ?_
    · exact r_sub [0, 1, 2, 3, 4] rfl (hk p8)
    · refine r_iload_n 47 hC 3 rfl rfl dX12_minutesOf_47 ?_
      refine r_iload_n 48 hC 2 rfl rfl dX12_minutesOf_48 ?_
      refine r_jn (P := fun j80 => ∀ (q12 : Int), Bk E C 6 Mi (r0, M0) 80 [(0, 30, x0), (1, 0, x1), (2, 0, x2), (4, 0, p3), (5, 0, p9)] [(0, q12), (0, p8)] M1 0 0 (j80 q12)) ?_ (fun j80 hj80 => ?_)
      · intro q12
        refine r_iadd 80 hC dX12_minutesOf_80 ?_
        refine r_istore_nL 81 hC rfl (by decide) dX12_minutesOf_81 (fun v13 => r_eqls (ls' := [(3, 0, v13), (0, 30, x0), (1, 0, x1), (2, 0, x2), (4, 0, p3), (5, 0, p9)]) rfl ?_)
        refine r_iinc 82 hC 5 rfl (by decide) dX12_minutesOf_82 (r_eqls (ls' := [(5, 0, w32 (p9 + 1)), (3, 0, v13), (0, 30, x0), (1, 0, x1), (2, 0, x2), (4, 0, p3)]) rfl ?_)
        refine r_goto 85 hC (tgt := 35) (by decide) dX12_minutesOf_85 ?_
        exact r_sub [2, 3, 4, 1, 5, 0] rfl (ih v13 (w32 (p9 + 1)))
      refine r_jn (P := fun j75 => Bk E C 6 Mi (r0, M0) 75 [(0, 30, x0), (1, 0, x1), (2, 0, x2), (4, 0, p3), (5, 0, p9)] [(0, p8)] M1 0 0 (j75)) ?_ (fun j75 hj75 => ?_)
      · refine r_iconst 75 hC (r32c rfl) dX12_minutesOf_75 ?_
        refine r_goto 76 hC (tgt := 80) (by decide) dX12_minutesOf_76 ?_
        exact hj80 1
      refine r_if_eq 49 hC (tgt := 75) (by decide) dX12_minutesOf_49 ?_ ?_
      · exact r_sub [0, 1, 2, 4, 5] rfl (hj75)
      · refine r_aload_n 52 hC 0 rfl (Or.inl (by decide)) rfl dX12_minutesOf_52 ?_
        refine r_aload_n 53 hC 0 rfl (Or.inl (by decide)) rfl dX12_minutesOf_53 ?_
        refine r_iload_n 54 hC 1 rfl rfl dX12_minutesOf_54 ?_
        refine r_iconst 55 hC (r32c rfl) dX12_minutesOf_55 ?_
        refine r_callVP 56 hC [(0, x1), (0, 0)] [(30, x0), (0, p8)] rfl vl_X12_269 rfl h0 (by decide) (Nat.le_of_ble_eq_true rfl) (by decide) (by decide) dX12_minutesOf_56 (t_X12_ofField x0 x1 0 M1 h0) (fun v14 => ?_)
        refine r_aload_n 59 hC 0 rfl (Or.inl (by decide)) rfl dX12_minutesOf_59 ?_
        refine r_get 60 hC fd_10_28 fl_X12_56 dX12_minutesOf_60 (fun v15 => ?_)
        refine r_iload 63 hC 4 rfl dX12_minutesOf_63 ?_
        refine r_iaload 65 hC dX12_minutesOf_65 (fun v16 => ?_)
        refine r_iload 66 hC 5 rfl dX12_minutesOf_66 ?_
        refine r_iadd 68 hC dX12_minutesOf_68 ?_
        refine r_callVP 69 hC [(0, v14), (0, w32 (v16 + p9))] [(0, p8)] rfl vl_X12_322 rfl h0 (by decide) (Nat.le_of_ble_eq_true rfl) (by decide) (by decide) dX12_minutesOf_69 (t_X12_comesTo x0 v14 (w32 (v16 + p9)) M1 h0) (fun v17 => ?_)
        refine r_if_eq 72 hC (tgt := 79) (by decide) dX12_minutesOf_72 ?_ ?_
        · refine r_iconst 79 hC (r32c rfl) dX12_minutesOf_79 ?_
          exact r_sub [0, 1, 2, 4, 5] rfl (hj80 0)
        · exact r_sub [0, 1, 2, 4, 5] rfl (hj75)
set_option maxRecDepth 100000 in
theorem f_X12_minutesOf_L9_ok {E : EnvT} {C : Cx} {Mi : Mem} {x0 : Int} (h0 : x0 ≠ 0) (hC : CxOK E C cX12_minutesOf 6 yX12_minutesOf.cls 7 0 0) {r0 : Int} {M0 : Mem} (hq : RQ E C 0 0 Mi (some .int) (some (0, r0)) M0) {M1 : Mem} {x1 x2 : Int} {k : Int → Option (Int × Mem)} (hk : ∀ q20, Bk E C 6 Mi (r0, M0) 94 [(3, 0, q20)] [] M1 0 0 (k q20)) : ∀ (n : Nat) (p2 : Int) (p3 : Int), Bk E C 6 Mi (r0, M0) 9 [(0, 30, x0), (1, 0, x1), (2, 0, x2), (3, 0, p2), (4, 0, p3)] [] M1 0 0 (f_X12_minutesOf_L9 M1 x0 x1 x2 k n p2 p3) := by
  intro n
  induction n with
  | zero =>
    intro p2 p3
    exact r_none
  | succ n ih =>
    intro p2 p3
    rw [f_X12_minutesOf_L9]
    refine r_iload 9 hC 4 rfl dX12_minutesOf_9 ?_
    refine r_aload_n 11 hC 0 rfl (Or.inl (by decide)) rfl dX12_minutesOf_11 ?_
    refine r_get 12 hC fd_10_30 fl_X12_310 dX12_minutesOf_12 (fun v4 => ?_)
    refine r_icmp_ge 15 hC (tgt := 94) (by decide) dX12_minutesOf_15 ?_ ?_
    · exact r_sub [3] rfl (hk p2)
    · refine r_aload_n 18 hC 0 rfl (Or.inl (by decide)) rfl dX12_minutesOf_18 ?_
      refine r_get 19 hC fd_10_27 fl_X12_53 dX12_minutesOf_19 (fun v5 => ?_)
      refine r_iload 22 hC 4 rfl dX12_minutesOf_22 ?_
      refine r_iaload 24 hC dX12_minutesOf_24 (fun v6 => ?_)
      refine r_iload_n 25 hC 1 rfl rfl dX12_minutesOf_25 ?_
      refine r_jn (P := fun j88 => ∀ (q7 : Int), Bk E C 6 Mi (r0, M0) 88 [(0, 30, x0), (1, 0, x1), (2, 0, x2), (3, 0, q7), (4, 0, p3)] [] M1 0 0 (j88 q7)) ?_ (fun j88 hj88 => ?_)
      · intro q7
        refine r_iinc 88 hC 4 rfl (by decide) dX12_minutesOf_88 (r_eqls (ls' := [(4, 0, w32 (p3 + 1)), (0, 30, x0), (1, 0, x1), (2, 0, x2), (3, 0, q7)]) rfl ?_)
        refine r_goto 91 hC (tgt := 9) (by decide) dX12_minutesOf_91 ?_
        exact r_sub [1, 2, 3, 4, 0] rfl (ih q7 (w32 (p3 + 1)))
      refine r_icmp_eq 26 hC (tgt := 32) (by decide) dX12_minutesOf_26 ?_ ?_
      · refine r_iconst 32 hC (r32c rfl) dX12_minutesOf_32 ?_
        refine r_istore 33 hC (by decide) dX12_minutesOf_33 (r_eqls (ls' := [(5, 0, 0), (0, 30, x0), (1, 0, x1), (2, 0, x2), (3, 0, p2), (4, 0, p3)]) rfl ?_)
        refine r_sub [1, 2, 3, 4, 5, 0] rfl (f_X12_minutesOf_L35_ok h0 hC hq (fun q19 => ?_) KF p2 0)
        · exact hj88 q19
      · refine r_goto 29 hC (tgt := 88) (by decide) dX12_minutesOf_29 ?_
        exact hj88 p2
set_option maxRecDepth 100000 in
theorem t_X12_minutesOf (x0 x1 x2 : Int) (M : Mem) (h0 : x0 ≠ 0) : MtI yX12_minutesOf cX12_minutesOf 6 (some .int) 7 0 0 [(30, x0), (0, x1), (0, x2)] M 0 (f_X12_minutesOf x0 x1 x2 M) := by
  refine mk_I (by decide +kernel) (Nat.le_of_ble_eq_true rfl) (fun E C r0 M0 hC hq hin => ?_)
  refine r_eqls (ls' := [(0, 30, x0), (1, 0, x1), (2, 0, x2)]) rfl ?_
  unfold f_X12_minutesOf
  refine r_aload_n 0 hC 0 rfl (Or.inl (by decide)) rfl dX12_minutesOf_0 ?_
  refine r_callVV 1 hC [] [] rfl vl_X12_316 rfl h0 (by decide) (Nat.le_of_ble_eq_true rfl) (by decide) (by decide) dX12_minutesOf_1 (t_X12_laysSlots x0 M h0) (fun M1 => ?_)
  refine r_iconst 4 hC (r32c rfl) dX12_minutesOf_4 ?_
  refine r_istore_n 5 hC rfl (by decide) dX12_minutesOf_5 (r_eqls (ls' := [(3, 0, 0), (0, 30, x0), (1, 0, x1), (2, 0, x2)]) rfl ?_)
  refine r_iconst 6 hC (r32c rfl) dX12_minutesOf_6 ?_
  refine r_istore 7 hC (by decide) dX12_minutesOf_7 (r_eqls (ls' := [(4, 0, 0), (3, 0, 0), (0, 30, x0), (1, 0, x1), (2, 0, x2)]) rfl ?_)
  refine r_sub [2, 3, 4, 1, 0] rfl (f_X12_minutesOf_L9_ok h0 hC hq (fun q21 => ?_) KF 0 0)
  · refine r_iload_n 94 hC 0 rfl rfl dX12_minutesOf_94 ?_
    exact r_ireturn 95 hC hq (by decide) (by decide) dX12_minutesOf_95

/-! WaterTurnsModel.minutes(II)I -/
theorem dX12_minutes_0 : decode cX12_minutes 0 = .ok (.aload_n 0, 1) := by decide +kernel
theorem dX12_minutes_1 : decode cX12_minutes 1 = .ok (.iload_n 1, 1) := by decide +kernel
theorem dX12_minutes_2 : decode cX12_minutes 2 = .ok (.invokevirtual 266, 3) := by decide +kernel
theorem dX12_minutes_5 : decode cX12_minutes 5 = .ok (.ifCond .eq 25, 3) := by decide +kernel
theorem dX12_minutes_8 : decode cX12_minutes 8 = .ok (.iload_n 2, 1) := by decide +kernel
theorem dX12_minutes_9 : decode cX12_minutes 9 = .ok (.ifCond .eq 8, 3) := by decide +kernel
theorem dX12_minutes_12 : decode cX12_minutes 12 = .ok (.iload_n 2, 1) := by decide +kernel
theorem dX12_minutes_13 : decode cX12_minutes 13 = .ok (.iconst 1, 1) := by decide +kernel
theorem dX12_minutes_14 : decode cX12_minutes 14 = .ok (.if_icmp .ne 16, 3) := by decide +kernel
theorem dX12_minutes_17 : decode cX12_minutes 17 = .ok (.aload_n 0, 1) := by decide +kernel
theorem dX12_minutes_18 : decode cX12_minutes 18 = .ok (.aload_n 0, 1) := by decide +kernel
theorem dX12_minutes_19 : decode cX12_minutes 19 = .ok (.iload_n 1, 1) := by decide +kernel
theorem dX12_minutes_20 : decode cX12_minutes 20 = .ok (.iload_n 2, 1) := by decide +kernel
theorem dX12_minutes_21 : decode cX12_minutes 21 = .ok (.invokevirtual 325, 3) := by decide +kernel
theorem dX12_minutes_24 : decode cX12_minutes 24 = .ok (.invokevirtual 91, 3) := by decide +kernel
theorem dX12_minutes_27 : decode cX12_minutes 27 = .ok (.goto 8, 3) := by decide +kernel
theorem dX12_minutes_30 : decode cX12_minutes 30 = .ok (.aload_n 0, 1) := by decide +kernel
theorem dX12_minutes_31 : decode cX12_minutes 31 = .ok (.iconst 1, 1) := by decide +kernel
theorem dX12_minutes_32 : decode cX12_minutes 32 = .ok (.invokevirtual 87, 3) := by decide +kernel
theorem dX12_minutes_35 : decode cX12_minutes 35 = .ok (.ireturn, 1) := by decide +kernel
set_option maxRecDepth 100000 in
theorem t_X12_minutes (x0 x1 x2 : Int) (M : Mem) (h0 : x0 ≠ 0) : MtI yX12_minutes cX12_minutes 3 (some .int) 8 0 0 [(30, x0), (0, x1), (0, x2)] M 0 (f_X12_minutes x0 x1 x2 M) := by
  refine mk_I (by decide +kernel) (Nat.le_of_ble_eq_true rfl) (fun E C r0 M0 hC hq hin => ?_)
  refine r_eqls (ls' := [(0, 30, x0), (1, 0, x1), (2, 0, x2)]) rfl ?_
  unfold f_X12_minutes
  refine r_aload_n 0 hC 0 rfl (Or.inl (by decide)) rfl dX12_minutes_0 ?_
  refine r_iload_n 1 hC 1 rfl rfl dX12_minutes_1 ?_
  refine r_callVP 2 hC [(0, x1)] [] rfl vl_X12_266 rfl h0 (by decide) (Nat.le_of_ble_eq_true rfl) (by decide) (by decide) dX12_minutes_2 (t_X12_isField x0 x1 M h0) (fun v1 => ?_)
  refine r_jn (P := fun j35 => ∀ (q2 : Int) (M3 : Mem), Bk E C 3 M (r0, M0) 35 [] [(0, q2)] M3 0 0 (j35 q2 M3)) ?_ (fun j35 hj35 => ?_)
  · intro q2 M3
    exact r_ireturn 35 hC hq (by decide) (by decide) dX12_minutes_35
  refine r_jn (P := fun j30 => Bk E C 3 M (r0, M0) 30 [(0, 30, x0)] [] M 0 0 (j30)) ?_ (fun j30 hj30 => ?_)
  · refine r_aload_n 30 hC 0 rfl (Or.inl (by decide)) rfl dX12_minutes_30 ?_
    refine r_iconst 31 hC (r32c rfl) dX12_minutes_31 ?_
    refine r_callVI 32 hC [(0, 1)] [] rfl vl_X12_87 rfl h0 (by decide) (Nat.le_of_ble_eq_true rfl) (by decide) (by decide) dX12_minutes_32 (t_X12_refuse x0 1 M h0) (fun v4 M5 => ?_)
    exact r_sub [] rfl (hj35 v4 M5)
  refine r_if_eq 5 hC (tgt := 30) (by decide) dX12_minutes_5 ?_ ?_
  · exact r_sub [0] rfl (hj30)
  · refine r_iload_n 8 hC 2 rfl rfl dX12_minutes_8 ?_
    refine r_jn (P := fun j17 => Bk E C 3 M (r0, M0) 17 [(0, 30, x0), (1, 0, x1), (2, 0, x2)] [] M 0 0 (j17)) ?_ (fun j17 hj17 => ?_)
    · refine r_aload_n 17 hC 0 rfl (Or.inl (by decide)) rfl dX12_minutes_17 ?_
      refine r_aload_n 18 hC 0 rfl (Or.inl (by decide)) rfl dX12_minutes_18 ?_
      refine r_iload_n 19 hC 1 rfl rfl dX12_minutes_19 ?_
      refine r_iload_n 20 hC 2 rfl rfl dX12_minutes_20 ?_
      refine r_callVI 21 hC [(0, x1), (0, x2)] [(30, x0)] rfl vl_X12_325 rfl h0 (by decide) (Nat.le_of_ble_eq_true rfl) (by decide) (by decide) dX12_minutes_21 (t_X12_minutesOf x0 x1 x2 M h0) (fun v6 M7 => ?_)
      refine r_callVI 24 hC [(0, v6)] [] rfl vl_X12_91 rfl h0 (by decide) (Nat.le_of_ble_eq_true rfl) (by decide) (by decide) dX12_minutes_24 (t_X12_gives x0 v6 M7 h0) (fun v8 M9 => ?_)
      refine r_goto 27 hC (tgt := 35) (by decide) dX12_minutes_27 ?_
      exact r_sub [] rfl (hj35 v8 M9)
    refine r_if_eq 9 hC (tgt := 17) (by decide) dX12_minutes_9 ?_ ?_
    · exact hj17
    · refine r_iload_n 12 hC 2 rfl rfl dX12_minutes_12 ?_
      refine r_iconst 13 hC (r32c rfl) dX12_minutes_13 ?_
      refine r_icmp_ne 14 hC (tgt := 30) (by decide) dX12_minutes_14 ?_ ?_
      · exact r_sub [0] rfl (hj30)
      · exact hj17

/-! WaterTurnsModel.litre()J -/
theorem dX12_litre_0 : decode cX12_litre 0 = .ok (.lconst 1, 1) := by decide +kernel
theorem dX12_litre_1 : decode cX12_litre 1 = .ok (.lstore_n 1, 1) := by decide +kernel
theorem dX12_litre_2 : decode cX12_litre 2 = .ok (.iconst 0, 1) := by decide +kernel
theorem dX12_litre_3 : decode cX12_litre 3 = .ok (.istore_n 3, 1) := by decide +kernel
theorem dX12_litre_4 : decode cX12_litre 4 = .ok (.iload_n 3, 1) := by decide +kernel
theorem dX12_litre_5 : decode cX12_litre 5 = .ok (.aload_n 0, 1) := by decide +kernel
theorem dX12_litre_6 : decode cX12_litre 6 = .ok (.getfield 7, 3) := by decide +kernel
theorem dX12_litre_9 : decode cX12_litre 9 = .ok (.iconst 3, 1) := by decide +kernel
theorem dX12_litre_10 : decode cX12_litre 10 = .ok (.iaload, 1) := by decide +kernel
theorem dX12_litre_11 : decode cX12_litre 11 = .ok (.if_icmp .ge 19, 3) := by decide +kernel
theorem dX12_litre_14 : decode cX12_litre 14 = .ok (.lload_n 1, 1) := by decide +kernel
theorem dX12_litre_15 : decode cX12_litre 15 = .ok (.aload_n 0, 1) := by decide +kernel
theorem dX12_litre_16 : decode cX12_litre 16 = .ok (.iload_n 3, 1) := by decide +kernel
theorem dX12_litre_17 : decode cX12_litre 17 = .ok (.iconst 2, 1) := by decide +kernel
theorem dX12_litre_18 : decode cX12_litre 18 = .ok (.invokevirtual 260, 3) := by decide +kernel
theorem dX12_litre_21 : decode cX12_litre 21 = .ok (.i2l, 1) := by decide +kernel
theorem dX12_litre_22 : decode cX12_litre 22 = .ok (.lmul, 1) := by decide +kernel
theorem dX12_litre_23 : decode cX12_litre 23 = .ok (.lstore_n 1, 1) := by decide +kernel
theorem dX12_litre_24 : decode cX12_litre 24 = .ok (.iinc 3 1, 3) := by decide +kernel
theorem dX12_litre_27 : decode cX12_litre 27 = .ok (.goto (-23), 3) := by decide +kernel
theorem dX12_litre_30 : decode cX12_litre 30 = .ok (.lload_n 1, 1) := by decide +kernel
theorem dX12_litre_31 : decode cX12_litre 31 = .ok (.lreturn, 1) := by decide +kernel
set_option maxRecDepth 100000 in
theorem f_X12_litre_L4_ok {E : EnvT} {C : Cx} {Mi M : Mem} {x0 : Int} (h0 : x0 ≠ 0) (hC : CxOK E C cX12_litre 4 yX12_litre.cls 2 0 0) {r0 : Int} (hq : RQ E C 0 0 Mi (some .long) (some (1, r0)) M) {k : Int → Option (Int)} (hk : ∀ q7, Bk E C 4 Mi r0 30 [(1, 1, q7)] [] M 0 0 (k q7)) : ∀ (n : Nat) (p1 : Int) (p2 : Int), Bk E C 4 Mi r0 4 [(0, 30, x0), (1, 1, p1), (3, 0, p2)] [] M 0 0 (f_X12_litre_L4 M x0 k n p1 p2) := by
  intro n
  induction n with
  | zero =>
    intro p1 p2
    exact r_none
  | succ n ih =>
    intro p1 p2
    rw [f_X12_litre_L4]
    refine r_iload_n 4 hC 2 rfl rfl dX12_litre_4 ?_
    refine r_aload_n 5 hC 0 rfl (Or.inl (by decide)) rfl dX12_litre_5 ?_
    refine r_get 6 hC fd_10_0 fl_X12_7 dX12_litre_6 (fun v3 => ?_)
    refine r_iconst 9 hC (r32c rfl) dX12_litre_9 ?_
    refine r_iaload 10 hC dX12_litre_10 (fun v4 => ?_)
    refine r_icmp_ge 11 hC (tgt := 30) (by decide) dX12_litre_11 ?_ ?_
    · exact r_sub [1] rfl (hk p1)
    · refine r_lload_n 14 hC 1 rfl rfl dX12_litre_14 ?_
      refine r_aload_n 15 hC 0 rfl (Or.inl (by decide)) rfl dX12_litre_15 ?_
      refine r_iload_n 16 hC 2 rfl rfl dX12_litre_16 ?_
      refine r_iconst 17 hC (r32c rfl) dX12_litre_17 ?_
      refine r_callVP 18 hC [(0, p2), (0, 2)] [(1, p1)] rfl vl_X12_260 rfl h0 (by decide) (Nat.le_of_ble_eq_true rfl) (by decide) (by decide) dX12_litre_18 (t_X12_ofReach x0 p2 2 M h0) (fun v5 => ?_)
      refine r_i2l 21 hC dX12_litre_21 ?_
      refine r_lmul 22 hC dX12_litre_22 ?_
      refine r_lstore_nL 23 hC rfl (by decide) dX12_litre_23 (fun v6 => r_eqls (ls' := [(1, 1, v6), (0, 30, x0), (3, 0, p2)]) rfl ?_)
      refine r_iinc 24 hC 2 rfl (by decide) dX12_litre_24 (r_eqls (ls' := [(3, 0, w32 (p2 + 1)), (1, 1, v6), (0, 30, x0)]) rfl ?_)
      refine r_goto 27 hC (tgt := 4) (by decide) dX12_litre_27 ?_
      exact r_sub [2, 1, 0] rfl (ih v6 (w32 (p2 + 1)))
set_option maxRecDepth 100000 in
theorem t_X12_litre (x0 : Int) (M : Mem) (h0 : x0 ≠ 0) : MtP yX12_litre cX12_litre 4 (some .long) 2 0 0 [(30, x0)] M 1 (f_X12_litre x0 M) := by
  refine mk_P (by decide +kernel) (Nat.le_of_ble_eq_true rfl) (fun E C r0 hC hq hin => ?_)
  refine r_eqls (ls' := [(0, 30, x0)]) rfl ?_
  unfold f_X12_litre
  refine r_lconst 0 hC (x := 1) ⟨by decide +kernel, r64c rfl⟩ dX12_litre_0 ?_
  refine r_lstore_n 1 hC rfl (by decide) dX12_litre_1 (r_eqls (ls' := [(1, 1, 1), (0, 30, x0)]) rfl ?_)
  refine r_iconst 2 hC (r32c rfl) dX12_litre_2 ?_
  refine r_istore_n 3 hC rfl (by decide) dX12_litre_3 (r_eqls (ls' := [(3, 0, 0), (1, 1, 1), (0, 30, x0)]) rfl ?_)
  refine r_sub [2, 1, 0] rfl (f_X12_litre_L4_ok h0 hC hq (fun q8 => ?_) KF 1 0)
  · refine r_lload_n 30 hC 0 rfl rfl dX12_litre_30 ?_
    exact r_lreturnP 31 hC hq (by decide) (by decide) dX12_litre_31

/-! WaterTurnsModel.flowsTo(I)V -/
theorem dX12_flowsTo_0 : decode cX12_flowsTo 0 = .ok (.aload_n 0, 1) := by decide +kernel
theorem dX12_flowsTo_1 : decode cX12_flowsTo 1 = .ok (.iload_n 1, 1) := by decide +kernel
theorem dX12_flowsTo_2 : decode cX12_flowsTo 2 = .ok (.invokevirtual 328, 3) := by decide +kernel
theorem dX12_flowsTo_5 : decode cX12_flowsTo 5 = .ok (.aload_n 0, 1) := by decide +kernel
theorem dX12_flowsTo_6 : decode cX12_flowsTo 6 = .ok (.invokevirtual 331, 3) := by decide +kernel
theorem dX12_flowsTo_9 : decode cX12_flowsTo 9 = .ok (.lstore_n 2, 1) := by decide +kernel
theorem dX12_flowsTo_10 : decode cX12_flowsTo 10 = .ok (.aload_n 0, 1) := by decide +kernel
theorem dX12_flowsTo_11 : decode cX12_flowsTo 11 = .ok (.aload_n 0, 1) := by decide +kernel
theorem dX12_flowsTo_12 : decode cX12_flowsTo 12 = .ok (.getfield 7, 3) := by decide +kernel
theorem dX12_flowsTo_15 : decode cX12_flowsTo 15 = .ok (.iconst 0, 1) := by decide +kernel
theorem dX12_flowsTo_16 : decode cX12_flowsTo 16 = .ok (.iaload, 1) := by decide +kernel
theorem dX12_flowsTo_17 : decode cX12_flowsTo 17 = .ok (.i2l, 1) := by decide +kernel
theorem dX12_flowsTo_18 : decode cX12_flowsTo 18 = .ok (.lload_n 2, 1) := by decide +kernel
theorem dX12_flowsTo_19 : decode cX12_flowsTo 19 = .ok (.lmul, 1) := by decide +kernel
theorem dX12_flowsTo_20 : decode cX12_flowsTo 20 = .ok (.putfield 334, 3) := by decide +kernel
theorem dX12_flowsTo_23 : decode cX12_flowsTo 23 = .ok (.iconst 0, 1) := by decide +kernel
theorem dX12_flowsTo_24 : decode cX12_flowsTo 24 = .ok (.istore 4, 2) := by decide +kernel
theorem dX12_flowsTo_26 : decode cX12_flowsTo 26 = .ok (.iload 4, 2) := by decide +kernel
theorem dX12_flowsTo_28 : decode cX12_flowsTo 28 = .ok (.aload_n 0, 1) := by decide +kernel
theorem dX12_flowsTo_29 : decode cX12_flowsTo 29 = .ok (.getfield 272, 3) := by decide +kernel
theorem dX12_flowsTo_32 : decode cX12_flowsTo 32 = .ok (.if_icmp .ge 120, 3) := by decide +kernel
theorem dX12_flowsTo_35 : decode cX12_flowsTo 35 = .ok (.aload_n 0, 1) := by decide +kernel
theorem dX12_flowsTo_36 : decode cX12_flowsTo 36 = .ok (.getfield 50, 3) := by decide +kernel
theorem dX12_flowsTo_39 : decode cX12_flowsTo 39 = .ok (.iload 4, 2) := by decide +kernel
theorem dX12_flowsTo_41 : decode cX12_flowsTo 41 = .ok (.iaload, 1) := by decide +kernel
theorem dX12_flowsTo_42 : decode cX12_flowsTo 42 = .ok (.istore 5, 2) := by decide +kernel
theorem dX12_flowsTo_44 : decode cX12_flowsTo 44 = .ok (.iload 4, 2) := by decide +kernel
theorem dX12_flowsTo_46 : decode cX12_flowsTo 46 = .ok (.ifCond .le 11, 3) := by decide +kernel
theorem dX12_flowsTo_49 : decode cX12_flowsTo 49 = .ok (.aload_n 0, 1) := by decide +kernel
theorem dX12_flowsTo_50 : decode cX12_flowsTo 50 = .ok (.aload_n 0, 1) := by decide +kernel
theorem dX12_flowsTo_51 : decode cX12_flowsTo 51 = .ok (.getfield 337, 3) := by decide +kernel
theorem dX12_flowsTo_54 : decode cX12_flowsTo 54 = .ok (.putfield 334, 3) := by decide +kernel
theorem dX12_flowsTo_57 : decode cX12_flowsTo 57 = .ok (.aload_n 0, 1) := by decide +kernel
theorem dX12_flowsTo_58 : decode cX12_flowsTo 58 = .ok (.aload_n 0, 1) := by decide +kernel
theorem dX12_flowsTo_59 : decode cX12_flowsTo 59 = .ok (.iload 5, 2) := by decide +kernel
theorem dX12_flowsTo_61 : decode cX12_flowsTo 61 = .ok (.iconst 3, 1) := by decide +kernel
theorem dX12_flowsTo_62 : decode cX12_flowsTo 62 = .ok (.invokevirtual 260, 3) := by decide +kernel
theorem dX12_flowsTo_65 : decode cX12_flowsTo 65 = .ok (.iconst (-1), 1) := by decide +kernel
theorem dX12_flowsTo_66 : decode cX12_flowsTo 66 = .ok (.if_icmp .ne 10, 3) := by decide +kernel
theorem dX12_flowsTo_69 : decode cX12_flowsTo 69 = .ok (.aload_n 0, 1) := by decide +kernel
theorem dX12_flowsTo_70 : decode cX12_flowsTo 70 = .ok (.getfield 334, 3) := by decide +kernel
theorem dX12_flowsTo_73 : decode cX12_flowsTo 73 = .ok (.goto 20, 3) := by decide +kernel
theorem dX12_flowsTo_76 : decode cX12_flowsTo 76 = .ok (.aload_n 0, 1) := by decide +kernel
theorem dX12_flowsTo_77 : decode cX12_flowsTo 77 = .ok (.getfield 334, 3) := by decide +kernel
theorem dX12_flowsTo_80 : decode cX12_flowsTo 80 = .ok (.aload_n 0, 1) := by decide +kernel
theorem dX12_flowsTo_81 : decode cX12_flowsTo 81 = .ok (.iload 5, 2) := by decide +kernel
theorem dX12_flowsTo_83 : decode cX12_flowsTo 83 = .ok (.iconst 3, 1) := by decide +kernel
theorem dX12_flowsTo_84 : decode cX12_flowsTo 84 = .ok (.invokevirtual 260, 3) := by decide +kernel
theorem dX12_flowsTo_87 : decode cX12_flowsTo 87 = .ok (.i2l, 1) := by decide +kernel
theorem dX12_flowsTo_88 : decode cX12_flowsTo 88 = .ok (.lload_n 2, 1) := by decide +kernel
theorem dX12_flowsTo_89 : decode cX12_flowsTo 89 = .ok (.lmul, 1) := by decide +kernel
theorem dX12_flowsTo_90 : decode cX12_flowsTo 90 = .ok (.invokestatic 340, 3) := by decide +kernel
theorem dX12_flowsTo_93 : decode cX12_flowsTo 93 = .ok (.putfield 343, 3) := by decide +kernel
theorem dX12_flowsTo_96 : decode cX12_flowsTo 96 = .ok (.aload_n 0, 1) := by decide +kernel
theorem dX12_flowsTo_97 : decode cX12_flowsTo 97 = .ok (.iload 5, 2) := by decide +kernel
theorem dX12_flowsTo_99 : decode cX12_flowsTo 99 = .ok (.aload_n 0, 1) := by decide +kernel
theorem dX12_flowsTo_100 : decode cX12_flowsTo 100 = .ok (.getfield 62, 3) := by decide +kernel
theorem dX12_flowsTo_103 : decode cX12_flowsTo 103 = .ok (.if_icmp .ne 10, 3) := by decide +kernel
theorem dX12_flowsTo_106 : decode cX12_flowsTo 106 = .ok (.aload_n 0, 1) := by decide +kernel
theorem dX12_flowsTo_107 : decode cX12_flowsTo 107 = .ok (.getfield 343, 3) := by decide +kernel
theorem dX12_flowsTo_110 : decode cX12_flowsTo 110 = .ok (.goto 33, 3) := by decide +kernel
theorem dX12_flowsTo_113 : decode cX12_flowsTo 113 = .ok (.aload_n 0, 1) := by decide +kernel
theorem dX12_flowsTo_114 : decode cX12_flowsTo 114 = .ok (.getfield 343, 3) := by decide +kernel
theorem dX12_flowsTo_117 : decode cX12_flowsTo 117 = .ok (.aload_n 0, 1) := by decide +kernel
theorem dX12_flowsTo_118 : decode cX12_flowsTo 118 = .ok (.iload 5, 2) := by decide +kernel
theorem dX12_flowsTo_120 : decode cX12_flowsTo 120 = .ok (.iconst 2, 1) := by decide +kernel
theorem dX12_flowsTo_121 : decode cX12_flowsTo 121 = .ok (.invokevirtual 260, 3) := by decide +kernel
theorem dX12_flowsTo_124 : decode cX12_flowsTo 124 = .ok (.i2l, 1) := by decide +kernel
theorem dX12_flowsTo_125 : decode cX12_flowsTo 125 = .ok (.ldiv, 1) := by decide +kernel
theorem dX12_flowsTo_126 : decode cX12_flowsTo 126 = .ok (.aload_n 0, 1) := by decide +kernel
theorem dX12_flowsTo_127 : decode cX12_flowsTo 127 = .ok (.iload 5, 2) := by decide +kernel
theorem dX12_flowsTo_129 : decode cX12_flowsTo 129 = .ok (.iconst 2, 1) := by decide +kernel
theorem dX12_flowsTo_130 : decode cX12_flowsTo 130 = .ok (.invokevirtual 260, 3) := by decide +kernel
theorem dX12_flowsTo_133 : decode cX12_flowsTo 133 = .ok (.aload_n 0, 1) := by decide +kernel
theorem dX12_flowsTo_134 : decode cX12_flowsTo 134 = .ok (.iload 5, 2) := by decide +kernel
theorem dX12_flowsTo_136 : decode cX12_flowsTo 136 = .ok (.iconst 1, 1) := by decide +kernel
theorem dX12_flowsTo_137 : decode cX12_flowsTo 137 = .ok (.invokevirtual 260, 3) := by decide +kernel
theorem dX12_flowsTo_140 : decode cX12_flowsTo 140 = .ok (.isub, 1) := by decide +kernel
theorem dX12_flowsTo_141 : decode cX12_flowsTo 141 = .ok (.i2l, 1) := by decide +kernel
theorem dX12_flowsTo_142 : decode cX12_flowsTo 142 = .ok (.lmul, 1) := by decide +kernel
theorem dX12_flowsTo_143 : decode cX12_flowsTo 143 = .ok (.putfield 337, 3) := by decide +kernel
theorem dX12_flowsTo_146 : decode cX12_flowsTo 146 = .ok (.iinc 4 1, 3) := by decide +kernel
theorem dX12_flowsTo_149 : decode cX12_flowsTo 149 = .ok (.goto (-123), 3) := by decide +kernel
theorem dX12_flowsTo_152 : decode cX12_flowsTo 152 = .ok (.return_, 1) := by decide +kernel
set_option maxRecDepth 100000 in
theorem f_X12_flowsTo_L26_ok {E : EnvT} {C : Cx} {Mi : Mem} {x0 : Int} (h0 : x0 ≠ 0) (hC : CxOK E C cX12_flowsTo 6 yX12_flowsTo.cls 3 0 0) {M0 : Mem} (hq : RQ E C 0 0 Mi none none M0) {v2 : Int} {k : Mem → Option (Mem)} (hk : ∀ M30, Bk E C 6 Mi M0 152 [] [] M30 0 0 (k M30)) : ∀ (n : Nat) (p6 : Int) (M7 : Mem), Bk E C 6 Mi M0 26 [(0, 30, x0), (2, 1, v2), (4, 0, p6)] [] M7 0 0 (f_X12_flowsTo_L26 v2 x0 k n p6 M7) := by
  intro n
  induction n with
  | zero =>
    intro p6 M7
    exact r_none
  | succ n ih =>
    intro p6 M7
    rw [f_X12_flowsTo_L26]
    refine r_iload 26 hC 2 rfl dX12_flowsTo_26 ?_
    refine r_aload_n 28 hC 0 rfl (Or.inl (by decide)) rfl dX12_flowsTo_28 ?_
    refine r_get 29 hC fd_10_26 fl_X12_272 dX12_flowsTo_29 (fun v8 => ?_)
    refine r_icmp_ge 32 hC (tgt := 152) (by decide) dX12_flowsTo_32 ?_ ?_
    · exact r_sub [] rfl (hk M7)
    · refine r_aload_n 35 hC 0 rfl (Or.inl (by decide)) rfl dX12_flowsTo_35 ?_
      refine r_get 36 hC fd_10_25 fl_X12_50 dX12_flowsTo_36 (fun v9 => ?_)
      refine r_iload 39 hC 2 rfl dX12_flowsTo_39 ?_
      refine r_iaload 41 hC dX12_flowsTo_41 (fun v10 => ?_)
      refine r_istore 42 hC (by decide) dX12_flowsTo_42 (r_eqls (ls' := [(5, 0, v10), (0, 30, x0), (2, 1, v2), (4, 0, p6)]) rfl ?_)
      refine r_iload 44 hC 3 rfl dX12_flowsTo_44 ?_
      refine r_jn (P := fun j57 => ∀ (M11 : Mem), Bk E C 6 Mi M0 57 [(0, 30, x0), (2, 1, v2), (4, 0, p6), (5, 0, v10)] [] M11 0 0 (j57 M11)) ?_ (fun j57 hj57 => ?_)
      · intro M11
        refine r_aload_n 57 hC 0 rfl (Or.inl (by decide)) rfl dX12_flowsTo_57 ?_
        refine r_aload_n 58 hC 0 rfl (Or.inl (by decide)) rfl dX12_flowsTo_58 ?_
        refine r_iload 59 hC 3 rfl dX12_flowsTo_59 ?_
        refine r_iconst 61 hC (r32c rfl) dX12_flowsTo_61 ?_
        refine r_callVP 62 hC [(0, v10), (0, 3)] [(30, x0)] rfl vl_X12_260 rfl h0 (by decide) (Nat.le_of_ble_eq_true rfl) (by decide) (by decide) dX12_flowsTo_62 (t_X12_ofReach x0 v10 3 M11 h0) (fun v12 => ?_)
        refine r_iconst 65 hC (r32c rfl) dX12_flowsTo_65 ?_
        refine r_jn (P := fun j93 => ∀ (q13 : Int), Bk E C 6 Mi M0 93 [(0, 30, x0), (2, 1, v2), (4, 0, p6), (5, 0, v10)] [(1, q13), (30, x0)] M11 0 0 (j93 q13)) ?_ (fun j93 hj93 => ?_)
        · intro q13
          refine r_put 93 hC fd_10_32 fl_X12_343 dX12_flowsTo_93 (fun M14 => ?_)
          refine r_aload_n 96 hC 0 rfl (Or.inl (by decide)) rfl dX12_flowsTo_96 ?_
          refine r_iload 97 hC 3 rfl dX12_flowsTo_97 ?_
          refine r_aload_n 99 hC 0 rfl (Or.inl (by decide)) rfl dX12_flowsTo_99 ?_
          refine r_get 100 hC fd_10_34 fl_X12_62 dX12_flowsTo_100 (fun v15 => ?_)
          refine r_jn (P := fun j143 => ∀ (q16 : Int), Bk E C 6 Mi M0 143 [(0, 30, x0), (2, 1, v2), (4, 0, p6)] [(1, q16), (30, x0)] M14 0 0 (j143 q16)) ?_ (fun j143 hj143 => ?_)
          · intro q16
            refine r_put 143 hC fd_10_33 fl_X12_337 dX12_flowsTo_143 (fun M17 => ?_)
            refine r_iinc 146 hC 2 rfl (by decide) dX12_flowsTo_146 (r_eqls (ls' := [(4, 0, w32 (p6 + 1)), (0, 30, x0), (2, 1, v2)]) rfl ?_)
            refine r_goto 149 hC (tgt := 26) (by decide) dX12_flowsTo_149 ?_
            exact r_sub [1, 2, 0] rfl (ih (w32 (p6 + 1)) M17)
          refine r_icmp_ne 103 hC (tgt := 113) (by decide) dX12_flowsTo_103 ?_ ?_
          · refine r_aload_n 113 hC 0 rfl (Or.inl (by decide)) rfl dX12_flowsTo_113 ?_
            refine r_get 114 hC fd_10_32 fl_X12_343 dX12_flowsTo_114 (fun v18 => ?_)
            refine r_aload_n 117 hC 0 rfl (Or.inl (by decide)) rfl dX12_flowsTo_117 ?_
            refine r_iload 118 hC 3 rfl dX12_flowsTo_118 ?_
            refine r_iconst 120 hC (r32c rfl) dX12_flowsTo_120 ?_
            refine r_callVP 121 hC [(0, v10), (0, 2)] [(1, v18), (30, x0)] rfl vl_X12_260 rfl h0 (by decide) (Nat.le_of_ble_eq_true rfl) (by decide) (by decide) dX12_flowsTo_121 (t_X12_ofReach x0 v10 2 M14 h0) (fun v19 => ?_)
            refine r_i2l 124 hC dX12_flowsTo_124 ?_
            refine r_ldiv 125 hC dX12_flowsTo_125 (fun v20 => ?_)
            refine r_aload_n 126 hC 0 rfl (Or.inl (by decide)) rfl dX12_flowsTo_126 ?_
            refine r_iload 127 hC 3 rfl dX12_flowsTo_127 ?_
            refine r_iconst 129 hC (r32c rfl) dX12_flowsTo_129 ?_
            refine r_callVP 130 hC [(0, v10), (0, 2)] [(1, v20), (30, x0)] rfl vl_X12_260 rfl h0 (by decide) (Nat.le_of_ble_eq_true rfl) (by decide) (by decide) dX12_flowsTo_130 (t_X12_ofReach x0 v10 2 M14 h0) (fun v21 => ?_)
            refine r_aload_n 133 hC 0 rfl (Or.inl (by decide)) rfl dX12_flowsTo_133 ?_
            refine r_iload 134 hC 3 rfl dX12_flowsTo_134 ?_
            refine r_iconst 136 hC (r32c rfl) dX12_flowsTo_136 ?_
            refine r_callVP 137 hC [(0, v10), (0, 1)] [(0, v21), (1, v20), (30, x0)] rfl vl_X12_260 rfl h0 (by decide) (Nat.le_of_ble_eq_true rfl) (by decide) (by decide) dX12_flowsTo_137 (t_X12_ofReach x0 v10 1 M14 h0) (fun v22 => ?_)
            refine r_isub 140 hC dX12_flowsTo_140 ?_
            refine r_i2l 141 hC dX12_flowsTo_141 ?_
            refine r_lmul 142 hC dX12_flowsTo_142 ?_
            exact r_sub [0, 1, 2] rfl (hj143 (w64 (v20 * (w32 (v21 - v22)))))
          · refine r_aload_n 106 hC 0 rfl (Or.inl (by decide)) rfl dX12_flowsTo_106 ?_
            refine r_get 107 hC fd_10_32 fl_X12_343 dX12_flowsTo_107 (fun v23 => ?_)
            refine r_goto 110 hC (tgt := 143) (by decide) dX12_flowsTo_110 ?_
            exact r_sub [0, 1, 2] rfl (hj143 v23)
        refine r_icmp_ne 66 hC (tgt := 76) (by decide) dX12_flowsTo_66 ?_ ?_
        · refine r_aload_n 76 hC 0 rfl (Or.inl (by decide)) rfl dX12_flowsTo_76 ?_
          refine r_get 77 hC fd_10_31 fl_X12_334 dX12_flowsTo_77 (fun v24 => ?_)
          refine r_aload_n 80 hC 0 rfl (Or.inl (by decide)) rfl dX12_flowsTo_80 ?_
          refine r_iload 81 hC 3 rfl dX12_flowsTo_81 ?_
          refine r_iconst 83 hC (r32c rfl) dX12_flowsTo_83 ?_
          refine r_callVP 84 hC [(0, v10), (0, 3)] [(1, v24), (30, x0)] rfl vl_X12_260 rfl h0 (by decide) (Nat.le_of_ble_eq_true rfl) (by decide) (by decide) dX12_flowsTo_84 (t_X12_ofReach x0 v10 3 M11 h0) (fun v25 => ?_)
          refine r_i2l 87 hC dX12_flowsTo_87 ?_
          refine r_lload_n 88 hC 1 rfl rfl dX12_flowsTo_88 ?_
          refine r_lmul 89 hC dX12_flowsTo_89 ?_
          refine r_callSP 90 hC [(1, v24), (1, w64 (v25 * v2))] [(30, x0)] rfl sl_X12_340 rfl (by decide) (Nat.le_of_ble_eq_true rfl) (by decide) (by decide) dX12_flowsTo_90 (t_J9_min_f86c9 v24 (w64 (v25 * v2)) M11) (fun v26 => ?_)
          exact hj93 v26
        · refine r_aload_n 69 hC 0 rfl (Or.inl (by decide)) rfl dX12_flowsTo_69 ?_
          refine r_get 70 hC fd_10_31 fl_X12_334 dX12_flowsTo_70 (fun v27 => ?_)
          refine r_goto 73 hC (tgt := 93) (by decide) dX12_flowsTo_73 ?_
          exact hj93 v27
      refine r_if_le 46 hC (tgt := 57) (by decide) dX12_flowsTo_46 ?_ ?_
      · exact r_sub [1, 2, 3, 0] rfl (hj57 M7)
      · refine r_aload_n 49 hC 1 rfl (Or.inl (by decide)) rfl dX12_flowsTo_49 ?_
        refine r_aload_n 50 hC 1 rfl (Or.inl (by decide)) rfl dX12_flowsTo_50 ?_
        refine r_get 51 hC fd_10_33 fl_X12_337 dX12_flowsTo_51 (fun v28 => ?_)
        refine r_put 54 hC fd_10_31 fl_X12_334 dX12_flowsTo_54 (fun M29 => ?_)
        exact r_sub [1, 2, 3, 0] rfl (hj57 M29)
set_option maxRecDepth 100000 in
theorem t_X12_flowsTo (x0 x1 : Int) (M : Mem) (h0 : x0 ≠ 0) : MtV yX12_flowsTo cX12_flowsTo 6 none 3 0 0 [(30, x0), (0, x1)] M (f_X12_flowsTo x0 x1 M) := by
  refine mk_V (by decide +kernel) (Nat.le_of_ble_eq_true rfl) (fun E C M0 hC hq hin => ?_)
  refine r_eqls (ls' := [(0, 30, x0), (1, 0, x1)]) rfl ?_
  unfold f_X12_flowsTo
  refine r_aload_n 0 hC 0 rfl (Or.inl (by decide)) rfl dX12_flowsTo_0 ?_
  refine r_iload_n 1 hC 1 rfl rfl dX12_flowsTo_1 ?_
  refine r_callVV 2 hC [(0, x1)] [] rfl vl_X12_328 rfl h0 (by decide) (Nat.le_of_ble_eq_true rfl) (by decide) (by decide) dX12_flowsTo_2 (t_X12_laysWay x0 x1 M h0) (fun M1 => ?_)
  refine r_aload_n 5 hC 0 rfl (Or.inl (by decide)) rfl dX12_flowsTo_5 ?_
  refine r_callVP 6 hC [] [] rfl vl_X12_331 rfl h0 (by decide) (Nat.le_of_ble_eq_true rfl) (by decide) (by decide) dX12_flowsTo_6 (t_X12_litre x0 M1 h0) (fun v2 => ?_)
  refine r_lstore_n 9 hC rfl (by decide) dX12_flowsTo_9 (r_eqls (ls' := [(2, 1, v2), (0, 30, x0), (1, 0, x1)]) rfl ?_)
  refine r_aload_n 10 hC 1 rfl (Or.inl (by decide)) rfl dX12_flowsTo_10 ?_
  refine r_aload_n 11 hC 1 rfl (Or.inl (by decide)) rfl dX12_flowsTo_11 ?_
  refine r_get 12 hC fd_10_0 fl_X12_7 dX12_flowsTo_12 (fun v3 => ?_)
  refine r_iconst 15 hC (r32c rfl) dX12_flowsTo_15 ?_
  refine r_iaload 16 hC dX12_flowsTo_16 (fun v4 => ?_)
  refine r_i2l 17 hC dX12_flowsTo_17 ?_
  refine r_lload_n 18 hC 0 rfl rfl dX12_flowsTo_18 ?_
  refine r_lmul 19 hC dX12_flowsTo_19 ?_
  refine r_put 20 hC fd_10_31 fl_X12_334 dX12_flowsTo_20 (fun M5 => ?_)
  refine r_iconst 23 hC (r32c rfl) dX12_flowsTo_23 ?_
  refine r_istore 24 hC (by decide) dX12_flowsTo_24 (r_eqls (ls' := [(4, 0, 0), (2, 1, v2), (0, 30, x0), (1, 0, x1)]) rfl ?_)
  refine r_sub [2, 1, 0] rfl (f_X12_flowsTo_L26_ok h0 hC hq (fun M31 => ?_) KF 0 M5)
  · exact r_return 152 hC hq (by decide) (by decide) dX12_flowsTo_152

/-! WaterTurnsModel.rateOf(I)J -/
theorem dX12_rateOf_0 : decode cX12_rateOf 0 = .ok (.aload_n 0, 1) := by decide +kernel
theorem dX12_rateOf_1 : decode cX12_rateOf 1 = .ok (.aload_n 0, 1) := by decide +kernel
theorem dX12_rateOf_2 : decode cX12_rateOf 2 = .ok (.iload_n 1, 1) := by decide +kernel
theorem dX12_rateOf_3 : decode cX12_rateOf 3 = .ok (.iconst 0, 1) := by decide +kernel
theorem dX12_rateOf_4 : decode cX12_rateOf 4 = .ok (.invokevirtual 269, 3) := by decide +kernel
theorem dX12_rateOf_7 : decode cX12_rateOf 7 = .ok (.invokevirtual 346, 3) := by decide +kernel
theorem dX12_rateOf_10 : decode cX12_rateOf 10 = .ok (.aload_n 0, 1) := by decide +kernel
theorem dX12_rateOf_11 : decode cX12_rateOf 11 = .ok (.getfield 337, 3) := by decide +kernel
theorem dX12_rateOf_14 : decode cX12_rateOf 14 = .ok (.lreturn, 1) := by decide +kernel
set_option maxRecDepth 100000 in
theorem t_X12_rateOf (x0 x1 : Int) (M : Mem) (h0 : x0 ≠ 0) : MtI yX12_rateOf cX12_rateOf 2 (some .long) 4 0 0 [(30, x0), (0, x1)] M 1 (f_X12_rateOf x0 x1 M) := by
  refine mk_I (by decide +kernel) (Nat.le_of_ble_eq_true rfl) (fun E C r0 M0 hC hq hin => ?_)
  refine r_eqls (ls' := [(0, 30, x0), (1, 0, x1)]) rfl ?_
  unfold f_X12_rateOf
  refine r_aload_n 0 hC 0 rfl (Or.inl (by decide)) rfl dX12_rateOf_0 ?_
  refine r_aload_n 1 hC 0 rfl (Or.inl (by decide)) rfl dX12_rateOf_1 ?_
  refine r_iload_n 2 hC 1 rfl rfl dX12_rateOf_2 ?_
  refine r_iconst 3 hC (r32c rfl) dX12_rateOf_3 ?_
  refine r_callVP 4 hC [(0, x1), (0, 0)] [(30, x0)] rfl vl_X12_269 rfl h0 (by decide) (Nat.le_of_ble_eq_true rfl) (by decide) (by decide) dX12_rateOf_4 (t_X12_ofField x0 x1 0 M h0) (fun v1 => ?_)
  refine r_callVV 7 hC [(0, v1)] [] rfl vl_X12_346 rfl h0 (by decide) (Nat.le_of_ble_eq_true rfl) (by decide) (by decide) dX12_rateOf_7 (t_X12_flowsTo x0 v1 M h0) (fun M2 => ?_)
  refine r_aload_n 10 hC 0 rfl (Or.inl (by decide)) rfl dX12_rateOf_10 ?_
  refine r_get 11 hC fd_10_33 fl_X12_337 dX12_rateOf_11 (fun v3 => ?_)
  exact r_lreturn 14 hC hq (by decide) (by decide) dX12_rateOf_14

/-! WaterTurnsModel.waterIn(I)J -/
theorem dX12_waterIn_0 : decode cX12_waterIn 0 = .ok (.aload_n 0, 1) := by decide +kernel
theorem dX12_waterIn_1 : decode cX12_waterIn 1 = .ok (.iload_n 1, 1) := by decide +kernel
theorem dX12_waterIn_2 : decode cX12_waterIn 2 = .ok (.invokevirtual 349, 3) := by decide +kernel
theorem dX12_waterIn_5 : decode cX12_waterIn 5 = .ok (.aload_n 0, 1) := by decide +kernel
theorem dX12_waterIn_6 : decode cX12_waterIn 6 = .ok (.iload_n 1, 1) := by decide +kernel
theorem dX12_waterIn_7 : decode cX12_waterIn 7 = .ok (.iconst 1, 1) := by decide +kernel
theorem dX12_waterIn_8 : decode cX12_waterIn 8 = .ok (.invokevirtual 325, 3) := by decide +kernel
theorem dX12_waterIn_11 : decode cX12_waterIn 11 = .ok (.i2l, 1) := by decide +kernel
theorem dX12_waterIn_12 : decode cX12_waterIn 12 = .ok (.lmul, 1) := by decide +kernel
theorem dX12_waterIn_13 : decode cX12_waterIn 13 = .ok (.lreturn, 1) := by decide +kernel
set_option maxRecDepth 100000 in
theorem t_X12_waterIn (x0 x1 : Int) (M : Mem) (h0 : x0 ≠ 0) : MtI yX12_waterIn cX12_waterIn 2 (some .long) 8 0 0 [(30, x0), (0, x1)] M 1 (f_X12_waterIn x0 x1 M) := by
  refine mk_I (by decide +kernel) (Nat.le_of_ble_eq_true rfl) (fun E C r0 M0 hC hq hin => ?_)
  refine r_eqls (ls' := [(0, 30, x0), (1, 0, x1)]) rfl ?_
  unfold f_X12_waterIn
  refine r_aload_n 0 hC 0 rfl (Or.inl (by decide)) rfl dX12_waterIn_0 ?_
  refine r_iload_n 1 hC 1 rfl rfl dX12_waterIn_1 ?_
  refine r_callVI 2 hC [(0, x1)] [] rfl vl_X12_349 rfl h0 (by decide) (Nat.le_of_ble_eq_true rfl) (by decide) (by decide) dX12_waterIn_2 (t_X12_rateOf x0 x1 M h0) (fun v1 M2 => ?_)
  refine r_aload_n 5 hC 0 rfl (Or.inl (by decide)) rfl dX12_waterIn_5 ?_
  refine r_iload_n 6 hC 1 rfl rfl dX12_waterIn_6 ?_
  refine r_iconst 7 hC (r32c rfl) dX12_waterIn_7 ?_
  refine r_callVI 8 hC [(0, x1), (0, 1)] [(1, v1)] rfl vl_X12_325 rfl h0 (by decide) (Nat.le_of_ble_eq_true rfl) (by decide) (by decide) dX12_waterIn_8 (t_X12_minutesOf x0 x1 1 M2 h0) (fun v3 M4 => ?_)
  refine r_i2l 11 hC dX12_waterIn_11 ?_
  refine r_lmul 12 hC dX12_waterIn_12 ?_
  exact r_lreturn 13 hC hq (by decide) (by decide) dX12_waterIn_13

/-! WaterTurnsModel.close(IZ)Z -/
theorem dX12_close_0 : decode cX12_close 0 = .ok (.aload_n 0, 1) := by decide +kernel
theorem dX12_close_1 : decode cX12_close 1 = .ok (.iload_n 1, 1) := by decide +kernel
theorem dX12_close_2 : decode cX12_close 2 = .ok (.invokevirtual 257, 3) := by decide +kernel
theorem dX12_close_5 : decode cX12_close 5 = .ok (.ifCond .ne 9, 3) := by decide +kernel
theorem dX12_close_8 : decode cX12_close 8 = .ok (.aload_n 0, 1) := by decide +kernel
theorem dX12_close_9 : decode cX12_close 9 = .ok (.iconst 1, 1) := by decide +kernel
theorem dX12_close_10 : decode cX12_close 10 = .ok (.invokevirtual 94, 3) := by decide +kernel
theorem dX12_close_13 : decode cX12_close 13 = .ok (.ireturn, 1) := by decide +kernel
theorem dX12_close_14 : decode cX12_close 14 = .ok (.aload_n 0, 1) := by decide +kernel
theorem dX12_close_15 : decode cX12_close 15 = .ok (.getfield 7, 3) := by decide +kernel
theorem dX12_close_18 : decode cX12_close 18 = .ok (.bipush 7, 2) := by decide +kernel
theorem dX12_close_20 : decode cX12_close 20 = .ok (.aload_n 0, 1) := by decide +kernel
theorem dX12_close_21 : decode cX12_close 21 = .ok (.getfield 7, 3) := by decide +kernel
theorem dX12_close_24 : decode cX12_close 24 = .ok (.bipush 7, 2) := by decide +kernel
theorem dX12_close_26 : decode cX12_close 26 = .ok (.iaload, 1) := by decide +kernel
theorem dX12_close_27 : decode cX12_close 27 = .ok (.iconst 1, 1) := by decide +kernel
theorem dX12_close_28 : decode cX12_close 28 = .ok (.iload_n 1, 1) := by decide +kernel
theorem dX12_close_29 : decode cX12_close 29 = .ok (.ishl, 1) := by decide +kernel
theorem dX12_close_30 : decode cX12_close 30 = .ok (.iconst (-1), 1) := by decide +kernel
theorem dX12_close_31 : decode cX12_close 31 = .ok (.ixor, 1) := by decide +kernel
theorem dX12_close_32 : decode cX12_close 32 = .ok (.iand, 1) := by decide +kernel
theorem dX12_close_33 : decode cX12_close 33 = .ok (.iload_n 2, 1) := by decide +kernel
theorem dX12_close_34 : decode cX12_close 34 = .ok (.ifCond .eq 9, 3) := by decide +kernel
theorem dX12_close_37 : decode cX12_close 37 = .ok (.iconst 1, 1) := by decide +kernel
theorem dX12_close_38 : decode cX12_close 38 = .ok (.iload_n 1, 1) := by decide +kernel
theorem dX12_close_39 : decode cX12_close 39 = .ok (.ishl, 1) := by decide +kernel
theorem dX12_close_40 : decode cX12_close 40 = .ok (.goto 4, 3) := by decide +kernel
theorem dX12_close_43 : decode cX12_close 43 = .ok (.iconst 0, 1) := by decide +kernel
theorem dX12_close_44 : decode cX12_close 44 = .ok (.ior, 1) := by decide +kernel
theorem dX12_close_45 : decode cX12_close 45 = .ok (.iastore, 1) := by decide +kernel
theorem dX12_close_46 : decode cX12_close 46 = .ok (.aload_n 0, 1) := by decide +kernel
theorem dX12_close_47 : decode cX12_close 47 = .ok (.iconst 0, 1) := by decide +kernel
theorem dX12_close_48 : decode cX12_close 48 = .ok (.invokevirtual 94, 3) := by decide +kernel
theorem dX12_close_51 : decode cX12_close 51 = .ok (.ireturn, 1) := by decide +kernel
set_option maxRecDepth 100000 in
theorem t_X12_close (x0 x1 x2 : Int) (M : Mem) (h0 : x0 ≠ 0) : MtI yX12_close cX12_close 3 (some .boolean) 2 0 0 [(30, x0), (0, x1), (0, x2)] M 0 (f_X12_close x0 x1 x2 M) := by
  refine mk_I (by decide +kernel) (Nat.le_of_ble_eq_true rfl) (fun E C r0 M0 hC hq hin => ?_)
  refine r_eqls (ls' := [(0, 30, x0), (1, 0, x1), (2, 0, x2)]) rfl ?_
  unfold f_X12_close
  refine r_aload_n 0 hC 0 rfl (Or.inl (by decide)) rfl dX12_close_0 ?_
  refine r_iload_n 1 hC 1 rfl rfl dX12_close_1 ?_
  refine r_callVP 2 hC [(0, x1)] [] rfl vl_X12_257 rfl h0 (by decide) (Nat.le_of_ble_eq_true rfl) (by decide) (by decide) dX12_close_2 (t_X12_isReach x0 x1 M h0) (fun v1 => ?_)
  refine r_if_ne 5 hC (tgt := 14) (by decide) dX12_close_5 ?_ ?_
  · refine r_aload_n 14 hC 0 rfl (Or.inl (by decide)) rfl dX12_close_14 ?_
    refine r_get 15 hC fd_10_0 fl_X12_7 dX12_close_15 (fun v2 => ?_)
    refine r_bipush 18 hC kb_7 dX12_close_18 ?_
    refine r_aload_n 20 hC 0 rfl (Or.inl (by decide)) rfl dX12_close_20 ?_
    refine r_get 21 hC fd_10_0 fl_X12_7 dX12_close_21 (fun v3 => ?_)
    refine r_bipush 24 hC kb_7 dX12_close_24 ?_
    refine r_iaload 26 hC dX12_close_26 (fun v4 => ?_)
    refine r_iconst 27 hC (r32c rfl) dX12_close_27 ?_
    refine r_iload_n 28 hC 1 rfl rfl dX12_close_28 ?_
    refine r_ishl 29 hC dX12_close_29 ?_
    refine r_iconst 30 hC (r32c rfl) dX12_close_30 ?_
    refine r_ixor 31 hC dX12_close_31 ?_
    refine r_iand 32 hC dX12_close_32 ?_
    refine r_iload_n 33 hC 2 rfl rfl dX12_close_33 ?_
    refine r_jn (P := fun j44 => ∀ (q5 : Int), Bk E C 3 M (r0, M0) 44 [(0, 30, x0)] [(0, q5), (0, iandv v4 (ixorv (ishlv 1 x1) (-1))), (0, 7), (10, v2)] M 0 0 (j44 q5)) ?_ (fun j44 hj44 => ?_)
    · intro q5
      refine r_ior 44 hC dX12_close_44 ?_
      refine r_iastore 45 hC dX12_close_45 (fun M6 => ?_)
      refine r_aload_n 46 hC 0 rfl (Or.inl (by decide)) rfl dX12_close_46 ?_
      refine r_iconst 47 hC (r32c rfl) dX12_close_47 ?_
      refine r_callVI 48 hC [(0, 0)] [] rfl vl_X12_94 rfl h0 (by decide) (Nat.le_of_ble_eq_true rfl) (by decide) (by decide) dX12_close_48 (t_X12_is x0 0 M6 h0) (fun v7 M8 => ?_)
      exact r_zreturn 51 hC hq (by decide) (by decide) dX12_close_51
    refine r_if_eq 34 hC (tgt := 43) (by decide) dX12_close_34 ?_ ?_
    · refine r_iconst 43 hC (r32c rfl) dX12_close_43 ?_
      exact r_sub [0] rfl (hj44 0)
    · refine r_iconst 37 hC (r32c rfl) dX12_close_37 ?_
      refine r_iload_n 38 hC 1 rfl rfl dX12_close_38 ?_
      refine r_ishl 39 hC dX12_close_39 ?_
      refine r_goto 40 hC (tgt := 44) (by decide) dX12_close_40 ?_
      exact r_sub [0] rfl (hj44 (ishlv 1 x1))
  · refine r_aload_n 8 hC 0 rfl (Or.inl (by decide)) rfl dX12_close_8 ?_
    refine r_iconst 9 hC (r32c rfl) dX12_close_9 ?_
    refine r_callVI 10 hC [(0, 1)] [] rfl vl_X12_94 rfl h0 (by decide) (Nat.le_of_ble_eq_true rfl) (by decide) (by decide) dX12_close_10 (t_X12_is x0 1 M h0) (fun v9 M10 => ?_)
    exact r_zreturn 13 hC hq (by decide) (by decide) dX12_close_13

/-! WaterTurnsModel.head(I)Z -/
theorem dX12_head_0 : decode cX12_head 0 = .ok (.iload_n 1, 1) := by decide +kernel
theorem dX12_head_1 : decode cX12_head 1 = .ok (.i2l, 1) := by decide +kernel
theorem dX12_head_2 : decode cX12_head 2 = .ok (.lconst 0, 1) := by decide +kernel
theorem dX12_head_3 : decode cX12_head 3 = .ok (.ldc2_w 297, 3) := by decide +kernel
theorem dX12_head_6 : decode cX12_head 6 = .ok (.invokestatic 299, 3) := by decide +kernel
theorem dX12_head_9 : decode cX12_head 9 = .ok (.ifCond .ne 9, 3) := by decide +kernel
theorem dX12_head_12 : decode cX12_head 12 = .ok (.aload_n 0, 1) := by decide +kernel
theorem dX12_head_13 : decode cX12_head 13 = .ok (.iconst 1, 1) := by decide +kernel
theorem dX12_head_14 : decode cX12_head 14 = .ok (.invokevirtual 94, 3) := by decide +kernel
theorem dX12_head_17 : decode cX12_head 17 = .ok (.ireturn, 1) := by decide +kernel
theorem dX12_head_18 : decode cX12_head 18 = .ok (.aload_n 0, 1) := by decide +kernel
theorem dX12_head_19 : decode cX12_head 19 = .ok (.getfield 7, 3) := by decide +kernel
theorem dX12_head_22 : decode cX12_head 22 = .ok (.iconst 0, 1) := by decide +kernel
theorem dX12_head_23 : decode cX12_head 23 = .ok (.iload_n 1, 1) := by decide +kernel
theorem dX12_head_24 : decode cX12_head 24 = .ok (.iastore, 1) := by decide +kernel
theorem dX12_head_25 : decode cX12_head 25 = .ok (.aload_n 0, 1) := by decide +kernel
theorem dX12_head_26 : decode cX12_head 26 = .ok (.iconst 0, 1) := by decide +kernel
theorem dX12_head_27 : decode cX12_head 27 = .ok (.invokevirtual 94, 3) := by decide +kernel
theorem dX12_head_30 : decode cX12_head 30 = .ok (.ireturn, 1) := by decide +kernel
set_option maxRecDepth 100000 in
theorem t_X12_head (x0 x1 : Int) (M : Mem) (h0 : x0 ≠ 0) : MtI yX12_head cX12_head 2 (some .boolean) 2 0 0 [(30, x0), (0, x1)] M 0 (f_X12_head x0 x1 M) := by
  refine mk_I (by decide +kernel) (Nat.le_of_ble_eq_true rfl) (fun E C r0 M0 hC hq hin => ?_)
  refine r_eqls (ls' := [(0, 30, x0), (1, 0, x1)]) rfl ?_
  unfold f_X12_head
  refine r_iload_n 0 hC 1 rfl rfl dX12_head_0 ?_
  refine r_i2l 1 hC dX12_head_1 ?_
  refine r_lconst 2 hC (x := 0) ⟨by decide +kernel, r64c rfl⟩ dX12_head_2 ?_
  refine r_ldc2 3 hC (x := 999) kl_X12_297 ⟨by decide +kernel, r64c rfl⟩ dX12_head_3 ?_
  refine r_callSP 6 hC [(1, x1), (1, 0), (1, 999)] [] rfl sl_X12_299 rfl (by decide) (Nat.le_of_ble_eq_true rfl) (by decide) (by decide) dX12_head_6 (t_X12_isFrom x1 0 999 M) (fun v1 => ?_)
  refine r_if_ne 9 hC (tgt := 18) (by decide) dX12_head_9 ?_ ?_
  · refine r_aload_n 18 hC 0 rfl (Or.inl (by decide)) rfl dX12_head_18 ?_
    refine r_get 19 hC fd_10_0 fl_X12_7 dX12_head_19 (fun v2 => ?_)
    refine r_iconst 22 hC (r32c rfl) dX12_head_22 ?_
    refine r_iload_n 23 hC 1 rfl rfl dX12_head_23 ?_
    refine r_iastore 24 hC dX12_head_24 (fun M3 => ?_)
    refine r_aload_n 25 hC 0 rfl (Or.inl (by decide)) rfl dX12_head_25 ?_
    refine r_iconst 26 hC (r32c rfl) dX12_head_26 ?_
    refine r_callVI 27 hC [(0, 0)] [] rfl vl_X12_94 rfl h0 (by decide) (Nat.le_of_ble_eq_true rfl) (by decide) (by decide) dX12_head_27 (t_X12_is x0 0 M3 h0) (fun v4 M5 => ?_)
    exact r_zreturn 30 hC hq (by decide) (by decide) dX12_head_30
  · refine r_aload_n 12 hC 0 rfl (Or.inl (by decide)) rfl dX12_head_12 ?_
    refine r_iconst 13 hC (r32c rfl) dX12_head_13 ?_
    refine r_callVI 14 hC [(0, 1)] [] rfl vl_X12_94 rfl h0 (by decide) (Nat.le_of_ble_eq_true rfl) (by decide) (by decide) dX12_head_14 (t_X12_is x0 1 M h0) (fun v6 M7 => ?_)
    exact r_zreturn 17 hC hq (by decide) (by decide) dX12_head_17

/-! WaterTurnsModel.lets(II)I -/
theorem dX12_lets_0 : decode cX12_lets 0 = .ok (.aload_n 0, 1) := by decide +kernel
theorem dX12_lets_1 : decode cX12_lets 1 = .ok (.iload_n 1, 1) := by decide +kernel
theorem dX12_lets_2 : decode cX12_lets 2 = .ok (.invokevirtual 257, 3) := by decide +kernel
theorem dX12_lets_5 : decode cX12_lets 5 = .ok (.ifCond .eq 38, 3) := by decide +kernel
theorem dX12_lets_8 : decode cX12_lets 8 = .ok (.iload_n 2, 1) := by decide +kernel
theorem dX12_lets_9 : decode cX12_lets 9 = .ok (.ifCond .lt 34, 3) := by decide +kernel
theorem dX12_lets_12 : decode cX12_lets 12 = .ok (.iload_n 2, 1) := by decide +kernel
theorem dX12_lets_13 : decode cX12_lets 13 = .ok (.aload_n 0, 1) := by decide +kernel
theorem dX12_lets_14 : decode cX12_lets 14 = .ok (.getfield 7, 3) := by decide +kernel
theorem dX12_lets_17 : decode cX12_lets 17 = .ok (.iconst 1, 1) := by decide +kernel
theorem dX12_lets_18 : decode cX12_lets 18 = .ok (.iaload, 1) := by decide +kernel
theorem dX12_lets_19 : decode cX12_lets 19 = .ok (.if_icmp .ge 24, 3) := by decide +kernel
theorem dX12_lets_22 : decode cX12_lets 22 = .ok (.aload_n 0, 1) := by decide +kernel
theorem dX12_lets_23 : decode cX12_lets 23 = .ok (.aload_n 0, 1) := by decide +kernel
theorem dX12_lets_24 : decode cX12_lets 24 = .ok (.iload_n 1, 1) := by decide +kernel
theorem dX12_lets_25 : decode cX12_lets 25 = .ok (.iload_n 2, 1) := by decide +kernel
theorem dX12_lets_26 : decode cX12_lets 26 = .ok (.invokevirtual 319, 3) := by decide +kernel
theorem dX12_lets_29 : decode cX12_lets 29 = .ok (.ifCond .eq 7, 3) := by decide +kernel
theorem dX12_lets_32 : decode cX12_lets 32 = .ok (.iconst 1, 1) := by decide +kernel
theorem dX12_lets_33 : decode cX12_lets 33 = .ok (.goto 4, 3) := by decide +kernel
theorem dX12_lets_36 : decode cX12_lets 36 = .ok (.iconst 0, 1) := by decide +kernel
theorem dX12_lets_37 : decode cX12_lets 37 = .ok (.invokevirtual 91, 3) := by decide +kernel
theorem dX12_lets_40 : decode cX12_lets 40 = .ok (.goto 8, 3) := by decide +kernel
theorem dX12_lets_43 : decode cX12_lets 43 = .ok (.aload_n 0, 1) := by decide +kernel
theorem dX12_lets_44 : decode cX12_lets 44 = .ok (.iconst 1, 1) := by decide +kernel
theorem dX12_lets_45 : decode cX12_lets 45 = .ok (.invokevirtual 87, 3) := by decide +kernel
theorem dX12_lets_48 : decode cX12_lets 48 = .ok (.ireturn, 1) := by decide +kernel
set_option maxRecDepth 100000 in
theorem t_X12_lets (x0 x1 x2 : Int) (M : Mem) (h0 : x0 ≠ 0) : MtI yX12_lets cX12_lets 3 (some .int) 3 0 0 [(30, x0), (0, x1), (0, x2)] M 0 (f_X12_lets x0 x1 x2 M) := by
  refine mk_I (by decide +kernel) (Nat.le_of_ble_eq_true rfl) (fun E C r0 M0 hC hq hin => ?_)
  refine r_eqls (ls' := [(0, 30, x0), (1, 0, x1), (2, 0, x2)]) rfl ?_
  unfold f_X12_lets
  refine r_aload_n 0 hC 0 rfl (Or.inl (by decide)) rfl dX12_lets_0 ?_
  refine r_iload_n 1 hC 1 rfl rfl dX12_lets_1 ?_
  refine r_callVP 2 hC [(0, x1)] [] rfl vl_X12_257 rfl h0 (by decide) (Nat.le_of_ble_eq_true rfl) (by decide) (by decide) dX12_lets_2 (t_X12_isReach x0 x1 M h0) (fun v1 => ?_)
  refine r_jn (P := fun j48 => ∀ (q2 : Int) (M3 : Mem), Bk E C 3 M (r0, M0) 48 [] [(0, q2)] M3 0 0 (j48 q2 M3)) ?_ (fun j48 hj48 => ?_)
  · intro q2 M3
    exact r_ireturn 48 hC hq (by decide) (by decide) dX12_lets_48
  refine r_jn (P := fun j43 => Bk E C 3 M (r0, M0) 43 [(0, 30, x0)] [] M 0 0 (j43)) ?_ (fun j43 hj43 => ?_)
  · refine r_aload_n 43 hC 0 rfl (Or.inl (by decide)) rfl dX12_lets_43 ?_
    refine r_iconst 44 hC (r32c rfl) dX12_lets_44 ?_
    refine r_callVI 45 hC [(0, 1)] [] rfl vl_X12_87 rfl h0 (by decide) (Nat.le_of_ble_eq_true rfl) (by decide) (by decide) dX12_lets_45 (t_X12_refuse x0 1 M h0) (fun v4 M5 => ?_)
    exact r_sub [] rfl (hj48 v4 M5)
  refine r_if_eq 5 hC (tgt := 43) (by decide) dX12_lets_5 ?_ ?_
  · exact r_sub [0] rfl (hj43)
  · refine r_iload_n 8 hC 2 rfl rfl dX12_lets_8 ?_
    refine r_if_lt 9 hC (tgt := 43) (by decide) dX12_lets_9 ?_ ?_
    · exact r_sub [0] rfl (hj43)
    · refine r_iload_n 12 hC 2 rfl rfl dX12_lets_12 ?_
      refine r_aload_n 13 hC 0 rfl (Or.inl (by decide)) rfl dX12_lets_13 ?_
      refine r_get 14 hC fd_10_0 fl_X12_7 dX12_lets_14 (fun v6 => ?_)
      refine r_iconst 17 hC (r32c rfl) dX12_lets_17 ?_
      refine r_iaload 18 hC dX12_lets_18 (fun v7 => ?_)
      refine r_icmp_ge 19 hC (tgt := 43) (by decide) dX12_lets_19 ?_ ?_
      · exact r_sub [0] rfl (hj43)
      · refine r_aload_n 22 hC 0 rfl (Or.inl (by decide)) rfl dX12_lets_22 ?_
        refine r_aload_n 23 hC 0 rfl (Or.inl (by decide)) rfl dX12_lets_23 ?_
        refine r_iload_n 24 hC 1 rfl rfl dX12_lets_24 ?_
        refine r_iload_n 25 hC 2 rfl rfl dX12_lets_25 ?_
        refine r_callVP 26 hC [(0, x1), (0, x2)] [(30, x0)] rfl vl_X12_319 rfl h0 (by decide) (Nat.le_of_ble_eq_true rfl) (by decide) (by decide) dX12_lets_26 (t_X12_letsBy x0 x1 x2 M h0) (fun v8 => ?_)
        refine r_jn (P := fun j37 => ∀ (q9 : Int), Bk E C 3 M (r0, M0) 37 [] [(0, q9), (30, x0)] M 0 0 (j37 q9)) ?_ (fun j37 hj37 => ?_)
        · intro q9
          refine r_callVI 37 hC [(0, q9)] [] rfl vl_X12_91 rfl h0 (by decide) (Nat.le_of_ble_eq_true rfl) (by decide) (by decide) dX12_lets_37 (t_X12_gives x0 q9 M h0) (fun v10 M11 => ?_)
          refine r_goto 40 hC (tgt := 48) (by decide) dX12_lets_40 ?_
          exact hj48 v10 M11
        refine r_if_eq 29 hC (tgt := 36) (by decide) dX12_lets_29 ?_ ?_
        · refine r_iconst 36 hC (r32c rfl) dX12_lets_36 ?_
          exact r_sub [] rfl (hj37 0)
        · refine r_iconst 32 hC (r32c rfl) dX12_lets_32 ?_
          refine r_goto 33 hC (tgt := 37) (by decide) dX12_lets_33 ?_
          exact r_sub [] rfl (hj37 1)

/-! WaterTurnsModel.rate(I)Z -/
theorem dX12_rate_0 : decode cX12_rate 0 = .ok (.aload_n 0, 1) := by decide +kernel
theorem dX12_rate_1 : decode cX12_rate 1 = .ok (.iload_n 1, 1) := by decide +kernel
theorem dX12_rate_2 : decode cX12_rate 2 = .ok (.invokevirtual 266, 3) := by decide +kernel
theorem dX12_rate_5 : decode cX12_rate 5 = .ok (.ifCond .eq 19, 3) := by decide +kernel
theorem dX12_rate_8 : decode cX12_rate 8 = .ok (.aload_n 0, 1) := by decide +kernel
theorem dX12_rate_9 : decode cX12_rate 9 = .ok (.aload_n 0, 1) := by decide +kernel
theorem dX12_rate_10 : decode cX12_rate 10 = .ok (.iload_n 1, 1) := by decide +kernel
theorem dX12_rate_11 : decode cX12_rate 11 = .ok (.invokevirtual 349, 3) := by decide +kernel
theorem dX12_rate_14 : decode cX12_rate 14 = .ok (.aload_n 0, 1) := by decide +kernel
theorem dX12_rate_15 : decode cX12_rate 15 = .ok (.invokevirtual 331, 3) := by decide +kernel
theorem dX12_rate_18 : decode cX12_rate 18 = .ok (.invokevirtual 353, 3) := by decide +kernel
theorem dX12_rate_21 : decode cX12_rate 21 = .ok (.goto 8, 3) := by decide +kernel
theorem dX12_rate_24 : decode cX12_rate 24 = .ok (.aload_n 0, 1) := by decide +kernel
theorem dX12_rate_25 : decode cX12_rate 25 = .ok (.iconst 1, 1) := by decide +kernel
theorem dX12_rate_26 : decode cX12_rate 26 = .ok (.invokevirtual 94, 3) := by decide +kernel
theorem dX12_rate_29 : decode cX12_rate 29 = .ok (.ireturn, 1) := by decide +kernel
set_option maxRecDepth 100000 in
theorem t_X12_rate (x0 x1 : Int) (M : Mem) (h0 : x0 ≠ 0) : MtI yX12_rate cX12_rate 2 (some .boolean) 5 0 0 [(30, x0), (0, x1)] M 0 (f_X12_rate x0 x1 M) := by
  refine mk_I (by decide +kernel) (Nat.le_of_ble_eq_true rfl) (fun E C r0 M0 hC hq hin => ?_)
  refine r_eqls (ls' := [(0, 30, x0), (1, 0, x1)]) rfl ?_
  unfold f_X12_rate
  refine r_aload_n 0 hC 0 rfl (Or.inl (by decide)) rfl dX12_rate_0 ?_
  refine r_iload_n 1 hC 1 rfl rfl dX12_rate_1 ?_
  refine r_callVP 2 hC [(0, x1)] [] rfl vl_X12_266 rfl h0 (by decide) (Nat.le_of_ble_eq_true rfl) (by decide) (by decide) dX12_rate_2 (t_X12_isField x0 x1 M h0) (fun v1 => ?_)
  refine r_jn (P := fun j29 => ∀ (q2 : Int) (M3 : Mem), Bk E C 2 M (r0, M0) 29 [] [(0, q2)] M3 0 0 (j29 q2 M3)) ?_ (fun j29 hj29 => ?_)
  · intro q2 M3
    exact r_zreturn 29 hC hq (by decide) (by decide) dX12_rate_29
  refine r_if_eq 5 hC (tgt := 24) (by decide) dX12_rate_5 ?_ ?_
  · refine r_aload_n 24 hC 0 rfl (Or.inl (by decide)) rfl dX12_rate_24 ?_
    refine r_iconst 25 hC (r32c rfl) dX12_rate_25 ?_
    refine r_callVI 26 hC [(0, 1)] [] rfl vl_X12_94 rfl h0 (by decide) (Nat.le_of_ble_eq_true rfl) (by decide) (by decide) dX12_rate_26 (t_X12_is x0 1 M h0) (fun v4 M5 => ?_)
    exact r_sub [] rfl (hj29 v4 M5)
  · refine r_aload_n 8 hC 0 rfl (Or.inl (by decide)) rfl dX12_rate_8 ?_
    refine r_aload_n 9 hC 0 rfl (Or.inl (by decide)) rfl dX12_rate_9 ?_
    refine r_iload_n 10 hC 1 rfl rfl dX12_rate_10 ?_
    refine r_callVI 11 hC [(0, x1)] [(30, x0)] rfl vl_X12_349 rfl h0 (by decide) (Nat.le_of_ble_eq_true rfl) (by decide) (by decide) dX12_rate_11 (t_X12_rateOf x0 x1 M h0) (fun v6 M7 => ?_)
    refine r_aload_n 14 hC 0 rfl (Or.inl (by decide)) rfl dX12_rate_14 ?_
    refine r_callVP 15 hC [] [(1, v6), (30, x0)] rfl vl_X12_331 rfl h0 (by decide) (Nat.le_of_ble_eq_true rfl) (by decide) (by decide) dX12_rate_15 (t_X12_litre x0 M7 h0) (fun v8 => ?_)
    refine r_callVI 18 hC [(1, v6), (1, v8)] [] rfl vl_X12_353 rfl h0 (by decide) (Nat.le_of_ble_eq_true rfl) (by decide) (by decide) dX12_rate_18 (t_X12_tellsBy x0 v6 v8 M7 h0) (fun v9 M10 => ?_)
    refine r_goto 21 hC (tgt := 29) (by decide) dX12_rate_21 ?_
    exact r_sub [] rfl (hj29 v9 M10)

/-! WaterTurnsModel.water(I)Z -/
theorem dX12_water_0 : decode cX12_water 0 = .ok (.aload_n 0, 1) := by decide +kernel
theorem dX12_water_1 : decode cX12_water 1 = .ok (.iload_n 1, 1) := by decide +kernel
theorem dX12_water_2 : decode cX12_water 2 = .ok (.invokevirtual 266, 3) := by decide +kernel
theorem dX12_water_5 : decode cX12_water 5 = .ok (.ifCond .eq 19, 3) := by decide +kernel
theorem dX12_water_8 : decode cX12_water 8 = .ok (.aload_n 0, 1) := by decide +kernel
theorem dX12_water_9 : decode cX12_water 9 = .ok (.aload_n 0, 1) := by decide +kernel
theorem dX12_water_10 : decode cX12_water 10 = .ok (.iload_n 1, 1) := by decide +kernel
theorem dX12_water_11 : decode cX12_water 11 = .ok (.invokevirtual 357, 3) := by decide +kernel
theorem dX12_water_14 : decode cX12_water 14 = .ok (.aload_n 0, 1) := by decide +kernel
theorem dX12_water_15 : decode cX12_water 15 = .ok (.invokevirtual 331, 3) := by decide +kernel
theorem dX12_water_18 : decode cX12_water 18 = .ok (.invokevirtual 353, 3) := by decide +kernel
theorem dX12_water_21 : decode cX12_water 21 = .ok (.goto 8, 3) := by decide +kernel
theorem dX12_water_24 : decode cX12_water 24 = .ok (.aload_n 0, 1) := by decide +kernel
theorem dX12_water_25 : decode cX12_water 25 = .ok (.iconst 1, 1) := by decide +kernel
theorem dX12_water_26 : decode cX12_water 26 = .ok (.invokevirtual 94, 3) := by decide +kernel
theorem dX12_water_29 : decode cX12_water 29 = .ok (.ireturn, 1) := by decide +kernel
set_option maxRecDepth 100000 in
theorem t_X12_water (x0 x1 : Int) (M : Mem) (h0 : x0 ≠ 0) : MtI yX12_water cX12_water 2 (some .boolean) 9 0 0 [(30, x0), (0, x1)] M 0 (f_X12_water x0 x1 M) := by
  refine mk_I (by decide +kernel) (Nat.le_of_ble_eq_true rfl) (fun E C r0 M0 hC hq hin => ?_)
  refine r_eqls (ls' := [(0, 30, x0), (1, 0, x1)]) rfl ?_
  unfold f_X12_water
  refine r_aload_n 0 hC 0 rfl (Or.inl (by decide)) rfl dX12_water_0 ?_
  refine r_iload_n 1 hC 1 rfl rfl dX12_water_1 ?_
  refine r_callVP 2 hC [(0, x1)] [] rfl vl_X12_266 rfl h0 (by decide) (Nat.le_of_ble_eq_true rfl) (by decide) (by decide) dX12_water_2 (t_X12_isField x0 x1 M h0) (fun v1 => ?_)
  refine r_jn (P := fun j29 => ∀ (q2 : Int) (M3 : Mem), Bk E C 2 M (r0, M0) 29 [] [(0, q2)] M3 0 0 (j29 q2 M3)) ?_ (fun j29 hj29 => ?_)
  · intro q2 M3
    exact r_zreturn 29 hC hq (by decide) (by decide) dX12_water_29
  refine r_if_eq 5 hC (tgt := 24) (by decide) dX12_water_5 ?_ ?_
  · refine r_aload_n 24 hC 0 rfl (Or.inl (by decide)) rfl dX12_water_24 ?_
    refine r_iconst 25 hC (r32c rfl) dX12_water_25 ?_
    refine r_callVI 26 hC [(0, 1)] [] rfl vl_X12_94 rfl h0 (by decide) (Nat.le_of_ble_eq_true rfl) (by decide) (by decide) dX12_water_26 (t_X12_is x0 1 M h0) (fun v4 M5 => ?_)
    exact r_sub [] rfl (hj29 v4 M5)
  · refine r_aload_n 8 hC 0 rfl (Or.inl (by decide)) rfl dX12_water_8 ?_
    refine r_aload_n 9 hC 0 rfl (Or.inl (by decide)) rfl dX12_water_9 ?_
    refine r_iload_n 10 hC 1 rfl rfl dX12_water_10 ?_
    refine r_callVI 11 hC [(0, x1)] [(30, x0)] rfl vl_X12_357 rfl h0 (by decide) (Nat.le_of_ble_eq_true rfl) (by decide) (by decide) dX12_water_11 (t_X12_waterIn x0 x1 M h0) (fun v6 M7 => ?_)
    refine r_aload_n 14 hC 0 rfl (Or.inl (by decide)) rfl dX12_water_14 ?_
    refine r_callVP 15 hC [] [(1, v6), (30, x0)] rfl vl_X12_331 rfl h0 (by decide) (Nat.le_of_ble_eq_true rfl) (by decide) (by decide) dX12_water_15 (t_X12_litre x0 M7 h0) (fun v8 => ?_)
    refine r_callVI 18 hC [(1, v6), (1, v8)] [] rfl vl_X12_353 rfl h0 (by decide) (Nat.le_of_ble_eq_true rfl) (by decide) (by decide) dX12_water_18 (t_X12_tellsBy x0 v6 v8 M7 h0) (fun v9 M10 => ?_)
    refine r_goto 21 hC (tgt := 29) (by decide) dX12_water_21 ?_
    exact r_sub [] rfl (hj29 v9 M10)

/-! WaterTurnsModel.passing(II)I -/
theorem dX12_passing_0 : decode cX12_passing 0 = .ok (.aload_n 0, 1) := by decide +kernel
theorem dX12_passing_1 : decode cX12_passing 1 = .ok (.invokevirtual 316, 3) := by decide +kernel
theorem dX12_passing_4 : decode cX12_passing 4 = .ok (.iconst 0, 1) := by decide +kernel
theorem dX12_passing_5 : decode cX12_passing 5 = .ok (.istore_n 3, 1) := by decide +kernel
theorem dX12_passing_6 : decode cX12_passing 6 = .ok (.iconst 0, 1) := by decide +kernel
theorem dX12_passing_7 : decode cX12_passing 7 = .ok (.istore 4, 2) := by decide +kernel
theorem dX12_passing_9 : decode cX12_passing 9 = .ok (.iload 4, 2) := by decide +kernel
theorem dX12_passing_11 : decode cX12_passing 11 = .ok (.aload_n 0, 1) := by decide +kernel
theorem dX12_passing_12 : decode cX12_passing 12 = .ok (.getfield 310, 3) := by decide +kernel
theorem dX12_passing_15 : decode cX12_passing 15 = .ok (.if_icmp .ge 135, 3) := by decide +kernel
theorem dX12_passing_18 : decode cX12_passing 18 = .ok (.aload_n 0, 1) := by decide +kernel
theorem dX12_passing_19 : decode cX12_passing 19 = .ok (.aload_n 0, 1) := by decide +kernel
theorem dX12_passing_20 : decode cX12_passing 20 = .ok (.getfield 53, 3) := by decide +kernel
theorem dX12_passing_23 : decode cX12_passing 23 = .ok (.iload 4, 2) := by decide +kernel
theorem dX12_passing_25 : decode cX12_passing 25 = .ok (.iaload, 1) := by decide +kernel
theorem dX12_passing_26 : decode cX12_passing 26 = .ok (.iload_n 1, 1) := by decide +kernel
theorem dX12_passing_27 : decode cX12_passing 27 = .ok (.invokevirtual 275, 3) := by decide +kernel
theorem dX12_passing_30 : decode cX12_passing 30 = .ok (.ifCond .ne 6, 3) := by decide +kernel
theorem dX12_passing_33 : decode cX12_passing 33 = .ok (.goto 111, 3) := by decide +kernel
theorem dX12_passing_36 : decode cX12_passing 36 = .ok (.aload_n 0, 1) := by decide +kernel
theorem dX12_passing_37 : decode cX12_passing 37 = .ok (.getfield 56, 3) := by decide +kernel
theorem dX12_passing_40 : decode cX12_passing 40 = .ok (.iload 4, 2) := by decide +kernel
theorem dX12_passing_42 : decode cX12_passing 42 = .ok (.iaload, 1) := by decide +kernel
theorem dX12_passing_43 : decode cX12_passing 43 = .ok (.istore 5, 2) := by decide +kernel
theorem dX12_passing_45 : decode cX12_passing 45 = .ok (.iload 5, 2) := by decide +kernel
theorem dX12_passing_47 : decode cX12_passing 47 = .ok (.aload_n 0, 1) := by decide +kernel
theorem dX12_passing_48 : decode cX12_passing 48 = .ok (.getfield 56, 3) := by decide +kernel
theorem dX12_passing_51 : decode cX12_passing 51 = .ok (.iload 4, 2) := by decide +kernel
theorem dX12_passing_53 : decode cX12_passing 53 = .ok (.iaload, 1) := by decide +kernel
theorem dX12_passing_54 : decode cX12_passing 54 = .ok (.aload_n 0, 1) := by decide +kernel
theorem dX12_passing_55 : decode cX12_passing 55 = .ok (.getfield 59, 3) := by decide +kernel
theorem dX12_passing_58 : decode cX12_passing 58 = .ok (.iload 4, 2) := by decide +kernel
theorem dX12_passing_60 : decode cX12_passing 60 = .ok (.iaload, 1) := by decide +kernel
theorem dX12_passing_61 : decode cX12_passing 61 = .ok (.iadd, 1) := by decide +kernel
theorem dX12_passing_62 : decode cX12_passing 62 = .ok (.if_icmp .ge 82, 3) := by decide +kernel
theorem dX12_passing_65 : decode cX12_passing 65 = .ok (.aload_n 0, 1) := by decide +kernel
theorem dX12_passing_66 : decode cX12_passing 66 = .ok (.iload_n 1, 1) := by decide +kernel
theorem dX12_passing_67 : decode cX12_passing 67 = .ok (.iconst 0, 1) := by decide +kernel
theorem dX12_passing_68 : decode cX12_passing 68 = .ok (.invokevirtual 260, 3) := by decide +kernel
theorem dX12_passing_71 : decode cX12_passing 71 = .ok (.iconst (-1), 1) := by decide +kernel
theorem dX12_passing_72 : decode cX12_passing 72 = .ok (.if_icmp .eq 18, 3) := by decide +kernel
theorem dX12_passing_75 : decode cX12_passing 75 = .ok (.aload_n 0, 1) := by decide +kernel
theorem dX12_passing_76 : decode cX12_passing 76 = .ok (.aload_n 0, 1) := by decide +kernel
theorem dX12_passing_77 : decode cX12_passing 77 = .ok (.iload_n 1, 1) := by decide +kernel
theorem dX12_passing_78 : decode cX12_passing 78 = .ok (.iconst 0, 1) := by decide +kernel
theorem dX12_passing_79 : decode cX12_passing 79 = .ok (.invokevirtual 260, 3) := by decide +kernel
theorem dX12_passing_82 : decode cX12_passing 82 = .ok (.iload 5, 2) := by decide +kernel
theorem dX12_passing_84 : decode cX12_passing 84 = .ok (.invokevirtual 322, 3) := by decide +kernel
theorem dX12_passing_87 : decode cX12_passing 87 = .ok (.ifCond .eq 7, 3) := by decide +kernel
theorem dX12_passing_90 : decode cX12_passing 90 = .ok (.iconst 1, 1) := by decide +kernel
theorem dX12_passing_91 : decode cX12_passing 91 = .ok (.goto 4, 3) := by decide +kernel
theorem dX12_passing_94 : decode cX12_passing 94 = .ok (.iconst 0, 1) := by decide +kernel
theorem dX12_passing_95 : decode cX12_passing 95 = .ok (.istore 6, 2) := by decide +kernel
theorem dX12_passing_97 : decode cX12_passing 97 = .ok (.aload_n 0, 1) := by decide +kernel
theorem dX12_passing_98 : decode cX12_passing 98 = .ok (.iload_n 1, 1) := by decide +kernel
theorem dX12_passing_99 : decode cX12_passing 99 = .ok (.iload 5, 2) := by decide +kernel
theorem dX12_passing_101 : decode cX12_passing 101 = .ok (.invokevirtual 319, 3) := by decide +kernel
theorem dX12_passing_104 : decode cX12_passing 104 = .ok (.istore 7, 2) := by decide +kernel
theorem dX12_passing_106 : decode cX12_passing 106 = .ok (.iload_n 3, 1) := by decide +kernel
theorem dX12_passing_107 : decode cX12_passing 107 = .ok (.iload 6, 2) := by decide +kernel
theorem dX12_passing_109 : decode cX12_passing 109 = .ok (.ifCond .eq 26, 3) := by decide +kernel
theorem dX12_passing_112 : decode cX12_passing 112 = .ok (.iload_n 2, 1) := by decide +kernel
theorem dX12_passing_113 : decode cX12_passing 113 = .ok (.ifCond .eq 18, 3) := by decide +kernel
theorem dX12_passing_116 : decode cX12_passing 116 = .ok (.iload_n 2, 1) := by decide +kernel
theorem dX12_passing_117 : decode cX12_passing 117 = .ok (.iconst 1, 1) := by decide +kernel
theorem dX12_passing_118 : decode cX12_passing 118 = .ok (.if_icmp .ne 7, 3) := by decide +kernel
theorem dX12_passing_121 : decode cX12_passing 121 = .ok (.iconst 1, 1) := by decide +kernel
theorem dX12_passing_122 : decode cX12_passing 122 = .ok (.goto 4, 3) := by decide +kernel
theorem dX12_passing_125 : decode cX12_passing 125 = .ok (.iconst 0, 1) := by decide +kernel
theorem dX12_passing_126 : decode cX12_passing 126 = .ok (.iload 7, 2) := by decide +kernel
theorem dX12_passing_128 : decode cX12_passing 128 = .ok (.if_icmp .ne 7, 3) := by decide +kernel
theorem dX12_passing_131 : decode cX12_passing 131 = .ok (.iconst 1, 1) := by decide +kernel
theorem dX12_passing_132 : decode cX12_passing 132 = .ok (.goto 4, 3) := by decide +kernel
theorem dX12_passing_135 : decode cX12_passing 135 = .ok (.iconst 0, 1) := by decide +kernel
theorem dX12_passing_136 : decode cX12_passing 136 = .ok (.iadd, 1) := by decide +kernel
theorem dX12_passing_137 : decode cX12_passing 137 = .ok (.istore_n 3, 1) := by decide +kernel
theorem dX12_passing_138 : decode cX12_passing 138 = .ok (.iinc 5 1, 3) := by decide +kernel
theorem dX12_passing_141 : decode cX12_passing 141 = .ok (.goto (-96), 3) := by decide +kernel
theorem dX12_passing_144 : decode cX12_passing 144 = .ok (.iinc 4 1, 3) := by decide +kernel
theorem dX12_passing_147 : decode cX12_passing 147 = .ok (.goto (-138), 3) := by decide +kernel
theorem dX12_passing_150 : decode cX12_passing 150 = .ok (.iload_n 3, 1) := by decide +kernel
theorem dX12_passing_151 : decode cX12_passing 151 = .ok (.ireturn, 1) := by decide +kernel
set_option maxRecDepth 100000 in
theorem f_X12_passing_L45_ok {E : EnvT} {C : Cx} {Mi : Mem} {x0 : Int} (h0 : x0 ≠ 0) (hC : CxOK E C cX12_passing 8 yX12_passing.cls 7 0 0) {r0 : Int} {M0 : Mem} (hq : RQ E C 0 0 Mi (some .int) (some (0, r0)) M0) {M1 : Mem} {p3 x1 x2 : Int} {k : Int → Option (Int × Mem)} (hk : ∀ q25, Bk E C 8 Mi (r0, M0) 144 [(0, 30, x0), (1, 0, x1), (2, 0, x2), (3, 0, q25), (4, 0, p3)] [] M1 0 0 (k q25)) : ∀ (n : Nat) (p11 : Int) (p12 : Int), Bk E C 8 Mi (r0, M0) 45 [(0, 30, x0), (1, 0, x1), (2, 0, x2), (3, 0, p11), (4, 0, p3), (5, 0, p12)] [] M1 0 0 (f_X12_passing_L45 M1 p3 x0 x1 x2 k n p11 p12) := by
  intro n
  induction n with
  | zero =>
    intro p11 p12
    exact r_none
  | succ n ih =>
    intro p11 p12
    rw [f_X12_passing_L45]
    refine r_iload 45 hC 5 rfl dX12_passing_45 ?_
    refine r_aload_n 47 hC 0 rfl (Or.inl (by decide)) rfl dX12_passing_47 ?_
    refine r_get 48 hC fd_10_28 fl_X12_56 dX12_passing_48 (fun v13 => ?_)
    refine r_iload 51 hC 4 rfl dX12_passing_51 ?_
    refine r_iaload 53 hC dX12_passing_53 (fun v14 => ?_)
    refine r_aload_n 54 hC 0 rfl (Or.inl (by decide)) rfl dX12_passing_54 ?_
    refine r_get 55 hC fd_10_29 fl_X12_59 dX12_passing_55 (fun v15 => ?_)
    refine r_iload 58 hC 4 rfl dX12_passing_58 ?_
    refine r_iaload 60 hC dX12_passing_60 (fun v16 => ?_)
    refine r_iadd 61 hC dX12_passing_61 ?_
    refine r_icmp_ge 62 hC (tgt := 144) (by decide) dX12_passing_62 ?_ ?_
    · exact r_sub [0, 1, 2, 3, 4] rfl (hk p11)
    · refine r_aload_n 65 hC 0 rfl (Or.inl (by decide)) rfl dX12_passing_65 ?_
      refine r_iload_n 66 hC 1 rfl rfl dX12_passing_66 ?_
      refine r_iconst 67 hC (r32c rfl) dX12_passing_67 ?_
      refine r_callVP 68 hC [(0, x1), (0, 0)] [] rfl vl_X12_260 rfl h0 (by decide) (Nat.le_of_ble_eq_true rfl) (by decide) (by decide) dX12_passing_68 (t_X12_ofReach x0 x1 0 M1 h0) (fun v17 => ?_)
      refine r_iconst 71 hC (r32c rfl) dX12_passing_71 ?_
      refine r_jn (P := fun j95 => ∀ (q18 : Int), Bk E C 8 Mi (r0, M0) 95 [(0, 30, x0), (1, 0, x1), (2, 0, x2), (3, 0, p11), (4, 0, p3), (5, 0, p12)] [(0, q18)] M1 0 0 (j95 q18)) ?_ (fun j95 hj95 => ?_)
      · intro q18
        refine r_istore 95 hC (by decide) dX12_passing_95 (r_eqls (ls' := [(6, 0, q18), (0, 30, x0), (1, 0, x1), (2, 0, x2), (3, 0, p11), (4, 0, p3), (5, 0, p12)]) rfl ?_)
        refine r_aload_n 97 hC 1 rfl (Or.inl (by decide)) rfl dX12_passing_97 ?_
        refine r_iload_n 98 hC 2 rfl rfl dX12_passing_98 ?_
        refine r_iload 99 hC 6 rfl dX12_passing_99 ?_
        refine r_callVP 101 hC [(0, x1), (0, p12)] [] rfl vl_X12_319 rfl h0 (by decide) (Nat.le_of_ble_eq_true rfl) (by decide) (by decide) dX12_passing_101 (t_X12_letsBy x0 x1 p12 M1 h0) (fun v19 => ?_)
        refine r_istore 104 hC (by decide) dX12_passing_104 (r_eqls (ls' := [(7, 0, v19), (6, 0, q18), (0, 30, x0), (1, 0, x1), (2, 0, x2), (3, 0, p11), (4, 0, p3), (5, 0, p12)]) rfl ?_)
        refine r_iload_n 106 hC 5 rfl rfl dX12_passing_106 ?_
        refine r_iload 107 hC 1 rfl dX12_passing_107 ?_
        refine r_jn (P := fun j136 => ∀ (q20 : Int), Bk E C 8 Mi (r0, M0) 136 [(0, 30, x0), (1, 0, x1), (2, 0, x2), (4, 0, p3), (5, 0, p12)] [(0, q20), (0, p11)] M1 0 0 (j136 q20)) ?_ (fun j136 hj136 => ?_)
        · intro q20
          refine r_iadd 136 hC dX12_passing_136 ?_
          refine r_istore_nL 137 hC rfl (by decide) dX12_passing_137 (fun v21 => r_eqls (ls' := [(3, 0, v21), (0, 30, x0), (1, 0, x1), (2, 0, x2), (4, 0, p3), (5, 0, p12)]) rfl ?_)
          refine r_iinc 138 hC 5 rfl (by decide) dX12_passing_138 (r_eqls (ls' := [(5, 0, w32 (p12 + 1)), (3, 0, v21), (0, 30, x0), (1, 0, x1), (2, 0, x2), (4, 0, p3)]) rfl ?_)
          refine r_goto 141 hC (tgt := 45) (by decide) dX12_passing_141 ?_
          exact r_sub [2, 3, 4, 1, 5, 0] rfl (ih v21 (w32 (p12 + 1)))
        refine r_jn (P := fun j135 => Bk E C 8 Mi (r0, M0) 135 [(0, 30, x0), (1, 0, x1), (2, 0, x2), (4, 0, p3), (5, 0, p12)] [(0, p11)] M1 0 0 (j135)) ?_ (fun j135 hj135 => ?_)
        · refine r_iconst 135 hC (r32c rfl) dX12_passing_135 ?_
          exact hj136 0
        refine r_if_eq 109 hC (tgt := 135) (by decide) dX12_passing_109 ?_ ?_
        · exact r_sub [2, 3, 4, 6, 7] rfl (hj135)
        · refine r_iload_n 112 hC 4 rfl rfl dX12_passing_112 ?_
          refine r_jn (P := fun j131 => Bk E C 8 Mi (r0, M0) 131 [(0, 30, x0), (1, 0, x1), (2, 0, x2), (4, 0, p3), (5, 0, p12)] [(0, p11)] M1 0 0 (j131)) ?_ (fun j131 hj131 => ?_)
          · refine r_iconst 131 hC (r32c rfl) dX12_passing_131 ?_
            refine r_goto 132 hC (tgt := 136) (by decide) dX12_passing_132 ?_
            exact hj136 1
          refine r_if_eq 113 hC (tgt := 131) (by decide) dX12_passing_113 ?_ ?_
          · exact r_sub [2, 3, 4, 6, 7] rfl (hj131)
          · refine r_iload_n 116 hC 4 rfl rfl dX12_passing_116 ?_
            refine r_iconst 117 hC (r32c rfl) dX12_passing_117 ?_
            refine r_jn (P := fun j126 => ∀ (q22 : Int), Bk E C 8 Mi (r0, M0) 126 [(0, 30, x0), (1, 0, x1), (2, 0, x2), (4, 0, p3), (5, 0, p12), (7, 0, v19)] [(0, q22), (0, p11)] M1 0 0 (j126 q22)) ?_ (fun j126 hj126 => ?_)
            · intro q22
              refine r_iload 126 hC 5 rfl dX12_passing_126 ?_
              refine r_icmp_ne 128 hC (tgt := 135) (by decide) dX12_passing_128 ?_ ?_
              · exact r_sub [0, 1, 2, 3, 4] rfl (hj135)
              · exact r_sub [0, 1, 2, 3, 4] rfl (hj131)
            refine r_icmp_ne 118 hC (tgt := 125) (by decide) dX12_passing_118 ?_ ?_
            · refine r_iconst 125 hC (r32c rfl) dX12_passing_125 ?_
              exact r_sub [2, 3, 4, 6, 7, 0] rfl (hj126 0)
            · refine r_iconst 121 hC (r32c rfl) dX12_passing_121 ?_
              refine r_goto 122 hC (tgt := 126) (by decide) dX12_passing_122 ?_
              exact r_sub [2, 3, 4, 6, 7, 0] rfl (hj126 1)
      refine r_jn (P := fun j90 => Bk E C 8 Mi (r0, M0) 90 [(0, 30, x0), (1, 0, x1), (2, 0, x2), (3, 0, p11), (4, 0, p3), (5, 0, p12)] [] M1 0 0 (j90)) ?_ (fun j90 hj90 => ?_)
      · refine r_iconst 90 hC (r32c rfl) dX12_passing_90 ?_
        refine r_goto 91 hC (tgt := 95) (by decide) dX12_passing_91 ?_
        exact hj95 1
      refine r_icmp_eq 72 hC (tgt := 90) (by decide) dX12_passing_72 ?_ ?_
      · exact hj90
      · refine r_aload_n 75 hC 0 rfl (Or.inl (by decide)) rfl dX12_passing_75 ?_
        refine r_aload_n 76 hC 0 rfl (Or.inl (by decide)) rfl dX12_passing_76 ?_
        refine r_iload_n 77 hC 1 rfl rfl dX12_passing_77 ?_
        refine r_iconst 78 hC (r32c rfl) dX12_passing_78 ?_
        refine r_callVP 79 hC [(0, x1), (0, 0)] [(30, x0)] rfl vl_X12_260 rfl h0 (by decide) (Nat.le_of_ble_eq_true rfl) (by decide) (by decide) dX12_passing_79 (t_X12_ofReach x0 x1 0 M1 h0) (fun v23 => ?_)
        refine r_iload 82 hC 5 rfl dX12_passing_82 ?_
        refine r_callVP 84 hC [(0, v23), (0, p12)] [] rfl vl_X12_322 rfl h0 (by decide) (Nat.le_of_ble_eq_true rfl) (by decide) (by decide) dX12_passing_84 (t_X12_comesTo x0 v23 p12 M1 h0) (fun v24 => ?_)
        refine r_if_eq 87 hC (tgt := 94) (by decide) dX12_passing_87 ?_ ?_
        · refine r_iconst 94 hC (r32c rfl) dX12_passing_94 ?_
          exact hj95 0
        · exact hj90
set_option maxRecDepth 100000 in
theorem f_X12_passing_L9_ok {E : EnvT} {C : Cx} {Mi : Mem} {x0 : Int} (h0 : x0 ≠ 0) (hC : CxOK E C cX12_passing 8 yX12_passing.cls 7 0 0) {r0 : Int} {M0 : Mem} (hq : RQ E C 0 0 Mi (some .int) (some (0, r0)) M0) {M1 : Mem} {x1 x2 : Int} {k : Int → Option (Int × Mem)} (hk : ∀ q27, Bk E C 8 Mi (r0, M0) 150 [(3, 0, q27)] [] M1 0 0 (k q27)) : ∀ (n : Nat) (p2 : Int) (p3 : Int), Bk E C 8 Mi (r0, M0) 9 [(0, 30, x0), (1, 0, x1), (2, 0, x2), (3, 0, p2), (4, 0, p3)] [] M1 0 0 (f_X12_passing_L9 M1 x0 x1 x2 k n p2 p3) := by
  intro n
  induction n with
  | zero =>
    intro p2 p3
    exact r_none
  | succ n ih =>
    intro p2 p3
    rw [f_X12_passing_L9]
    refine r_iload 9 hC 4 rfl dX12_passing_9 ?_
    refine r_aload_n 11 hC 0 rfl (Or.inl (by decide)) rfl dX12_passing_11 ?_
    refine r_get 12 hC fd_10_30 fl_X12_310 dX12_passing_12 (fun v4 => ?_)
    refine r_icmp_ge 15 hC (tgt := 150) (by decide) dX12_passing_15 ?_ ?_
    · exact r_sub [3] rfl (hk p2)
    · refine r_aload_n 18 hC 0 rfl (Or.inl (by decide)) rfl dX12_passing_18 ?_
      refine r_aload_n 19 hC 0 rfl (Or.inl (by decide)) rfl dX12_passing_19 ?_
      refine r_get 20 hC fd_10_27 fl_X12_53 dX12_passing_20 (fun v5 => ?_)
      refine r_iload 23 hC 4 rfl dX12_passing_23 ?_
      refine r_iaload 25 hC dX12_passing_25 (fun v6 => ?_)
      refine r_iload_n 26 hC 1 rfl rfl dX12_passing_26 ?_
      refine r_callVP 27 hC [(0, v6), (0, x1)] [] rfl vl_X12_275 rfl h0 (by decide) (Nat.le_of_ble_eq_true rfl) (by decide) (by decide) dX12_passing_27 (t_X12_isBelow x0 v6 x1 M1 h0) (fun v7 => ?_)
      refine r_jn (P := fun j144 => ∀ (q8 : Int), Bk E C 8 Mi (r0, M0) 144 [(0, 30, x0), (1, 0, x1), (2, 0, x2), (3, 0, q8), (4, 0, p3)] [] M1 0 0 (j144 q8)) ?_ (fun j144 hj144 => ?_)
      · intro q8
        refine r_iinc 144 hC 4 rfl (by decide) dX12_passing_144 (r_eqls (ls' := [(4, 0, w32 (p3 + 1)), (0, 30, x0), (1, 0, x1), (2, 0, x2), (3, 0, q8)]) rfl ?_)
        refine r_goto 147 hC (tgt := 9) (by decide) dX12_passing_147 ?_
        exact r_sub [1, 2, 3, 4, 0] rfl (ih q8 (w32 (p3 + 1)))
      refine r_if_ne 30 hC (tgt := 36) (by decide) dX12_passing_30 ?_ ?_
      · refine r_aload_n 36 hC 0 rfl (Or.inl (by decide)) rfl dX12_passing_36 ?_
        refine r_get 37 hC fd_10_28 fl_X12_56 dX12_passing_37 (fun v9 => ?_)
        refine r_iload 40 hC 4 rfl dX12_passing_40 ?_
        refine r_iaload 42 hC dX12_passing_42 (fun v10 => ?_)
        refine r_istore 43 hC (by decide) dX12_passing_43 (r_eqls (ls' := [(5, 0, v10), (0, 30, x0), (1, 0, x1), (2, 0, x2), (3, 0, p2), (4, 0, p3)]) rfl ?_)
        refine r_sub [1, 2, 3, 4, 5, 0] rfl (f_X12_passing_L45_ok h0 hC hq (fun q26 => ?_) KF p2 v10)
        · exact hj144 q26
      · refine r_goto 33 hC (tgt := 144) (by decide) dX12_passing_33 ?_
        exact hj144 p2
set_option maxRecDepth 100000 in
theorem t_X12_passing (x0 x1 x2 : Int) (M : Mem) (h0 : x0 ≠ 0) : MtI yX12_passing cX12_passing 8 (some .int) 7 0 0 [(30, x0), (0, x1), (0, x2)] M 0 (f_X12_passing x0 x1 x2 M) := by
  refine mk_I (by decide +kernel) (Nat.le_of_ble_eq_true rfl) (fun E C r0 M0 hC hq hin => ?_)
  refine r_eqls (ls' := [(0, 30, x0), (1, 0, x1), (2, 0, x2)]) rfl ?_
  unfold f_X12_passing
  refine r_aload_n 0 hC 0 rfl (Or.inl (by decide)) rfl dX12_passing_0 ?_
  refine r_callVV 1 hC [] [] rfl vl_X12_316 rfl h0 (by decide) (Nat.le_of_ble_eq_true rfl) (by decide) (by decide) dX12_passing_1 (t_X12_laysSlots x0 M h0) (fun M1 => ?_)
  refine r_iconst 4 hC (r32c rfl) dX12_passing_4 ?_
  refine r_istore_n 5 hC rfl (by decide) dX12_passing_5 (r_eqls (ls' := [(3, 0, 0), (0, 30, x0), (1, 0, x1), (2, 0, x2)]) rfl ?_)
  refine r_iconst 6 hC (r32c rfl) dX12_passing_6 ?_
  refine r_istore 7 hC (by decide) dX12_passing_7 (r_eqls (ls' := [(4, 0, 0), (3, 0, 0), (0, 30, x0), (1, 0, x1), (2, 0, x2)]) rfl ?_)
  refine r_sub [2, 3, 4, 1, 0] rfl (f_X12_passing_L9_ok h0 hC hq (fun q28 => ?_) KF 0 0)
  · refine r_iload_n 150 hC 0 rfl rfl dX12_passing_150 ?_
    exact r_ireturn 151 hC hq (by decide) (by decide) dX12_passing_151

/-! WaterTurnsModel.lost(I)Z -/
theorem dX12_lost_0 : decode cX12_lost 0 = .ok (.aload_n 0, 1) := by decide +kernel
theorem dX12_lost_1 : decode cX12_lost 1 = .ok (.iload_n 1, 1) := by decide +kernel
theorem dX12_lost_2 : decode cX12_lost 2 = .ok (.invokevirtual 257, 3) := by decide +kernel
theorem dX12_lost_5 : decode cX12_lost 5 = .ok (.ifCond .ne 9, 3) := by decide +kernel
theorem dX12_lost_8 : decode cX12_lost 8 = .ok (.aload_n 0, 1) := by decide +kernel
theorem dX12_lost_9 : decode cX12_lost 9 = .ok (.iconst 1, 1) := by decide +kernel
theorem dX12_lost_10 : decode cX12_lost 10 = .ok (.invokevirtual 94, 3) := by decide +kernel
theorem dX12_lost_13 : decode cX12_lost 13 = .ok (.ireturn, 1) := by decide +kernel
theorem dX12_lost_14 : decode cX12_lost 14 = .ok (.aload_n 0, 1) := by decide +kernel
theorem dX12_lost_15 : decode cX12_lost 15 = .ok (.iload_n 1, 1) := by decide +kernel
theorem dX12_lost_16 : decode cX12_lost 16 = .ok (.iconst 1, 1) := by decide +kernel
theorem dX12_lost_17 : decode cX12_lost 17 = .ok (.invokevirtual 360, 3) := by decide +kernel
theorem dX12_lost_20 : decode cX12_lost 20 = .ok (.istore_n 2, 1) := by decide +kernel
theorem dX12_lost_21 : decode cX12_lost 21 = .ok (.aload_n 0, 1) := by decide +kernel
theorem dX12_lost_22 : decode cX12_lost 22 = .ok (.iload_n 1, 1) := by decide +kernel
theorem dX12_lost_23 : decode cX12_lost 23 = .ok (.invokevirtual 346, 3) := by decide +kernel
theorem dX12_lost_26 : decode cX12_lost 26 = .ok (.aload_n 0, 1) := by decide +kernel
theorem dX12_lost_27 : decode cX12_lost 27 = .ok (.aload_n 0, 1) := by decide +kernel
theorem dX12_lost_28 : decode cX12_lost 28 = .ok (.getfield 343, 3) := by decide +kernel
theorem dX12_lost_31 : decode cX12_lost 31 = .ok (.aload_n 0, 1) := by decide +kernel
theorem dX12_lost_32 : decode cX12_lost 32 = .ok (.getfield 337, 3) := by decide +kernel
theorem dX12_lost_35 : decode cX12_lost 35 = .ok (.lsub, 1) := by decide +kernel
theorem dX12_lost_36 : decode cX12_lost 36 = .ok (.iload_n 2, 1) := by decide +kernel
theorem dX12_lost_37 : decode cX12_lost 37 = .ok (.i2l, 1) := by decide +kernel
theorem dX12_lost_38 : decode cX12_lost 38 = .ok (.lmul, 1) := by decide +kernel
theorem dX12_lost_39 : decode cX12_lost 39 = .ok (.aload_n 0, 1) := by decide +kernel
theorem dX12_lost_40 : decode cX12_lost 40 = .ok (.invokevirtual 331, 3) := by decide +kernel
theorem dX12_lost_43 : decode cX12_lost 43 = .ok (.invokevirtual 353, 3) := by decide +kernel
theorem dX12_lost_46 : decode cX12_lost 46 = .ok (.ireturn, 1) := by decide +kernel
set_option maxRecDepth 100000 in
theorem t_X12_lost (x0 x1 : Int) (M : Mem) (h0 : x0 ≠ 0) : MtI yX12_lost cX12_lost 3 (some .boolean) 8 0 0 [(30, x0), (0, x1)] M 0 (f_X12_lost x0 x1 M) := by
  refine mk_I (by decide +kernel) (Nat.le_of_ble_eq_true rfl) (fun E C r0 M0 hC hq hin => ?_)
  refine r_eqls (ls' := [(0, 30, x0), (1, 0, x1)]) rfl ?_
  unfold f_X12_lost
  refine r_aload_n 0 hC 0 rfl (Or.inl (by decide)) rfl dX12_lost_0 ?_
  refine r_iload_n 1 hC 1 rfl rfl dX12_lost_1 ?_
  refine r_callVP 2 hC [(0, x1)] [] rfl vl_X12_257 rfl h0 (by decide) (Nat.le_of_ble_eq_true rfl) (by decide) (by decide) dX12_lost_2 (t_X12_isReach x0 x1 M h0) (fun v1 => ?_)
  refine r_if_ne 5 hC (tgt := 14) (by decide) dX12_lost_5 ?_ ?_
  · refine r_aload_n 14 hC 0 rfl (Or.inl (by decide)) rfl dX12_lost_14 ?_
    refine r_iload_n 15 hC 1 rfl rfl dX12_lost_15 ?_
    refine r_iconst 16 hC (r32c rfl) dX12_lost_16 ?_
    refine r_callVI 17 hC [(0, x1), (0, 1)] [] rfl vl_X12_360 rfl h0 (by decide) (Nat.le_of_ble_eq_true rfl) (by decide) (by decide) dX12_lost_17 (t_X12_passing x0 x1 1 M h0) (fun v2 M3 => ?_)
    refine r_istore_n 20 hC rfl (by decide) dX12_lost_20 (r_eqls (ls' := [(2, 0, v2), (0, 30, x0), (1, 0, x1)]) rfl ?_)
    refine r_aload_n 21 hC 1 rfl (Or.inl (by decide)) rfl dX12_lost_21 ?_
    refine r_iload_n 22 hC 2 rfl rfl dX12_lost_22 ?_
    refine r_callVV 23 hC [(0, x1)] [] rfl vl_X12_346 rfl h0 (by decide) (Nat.le_of_ble_eq_true rfl) (by decide) (by decide) dX12_lost_23 (t_X12_flowsTo x0 x1 M3 h0) (fun M4 => ?_)
    refine r_aload_n 26 hC 1 rfl (Or.inl (by decide)) rfl dX12_lost_26 ?_
    refine r_aload_n 27 hC 1 rfl (Or.inl (by decide)) rfl dX12_lost_27 ?_
    refine r_get 28 hC fd_10_32 fl_X12_343 dX12_lost_28 (fun v5 => ?_)
    refine r_aload_n 31 hC 1 rfl (Or.inl (by decide)) rfl dX12_lost_31 ?_
    refine r_get 32 hC fd_10_33 fl_X12_337 dX12_lost_32 (fun v6 => ?_)
    refine r_lsub 35 hC dX12_lost_35 ?_
    refine r_iload_n 36 hC 0 rfl rfl dX12_lost_36 ?_
    refine r_i2l 37 hC dX12_lost_37 ?_
    refine r_lmul 38 hC dX12_lost_38 ?_
    refine r_aload_n 39 hC 1 rfl (Or.inl (by decide)) rfl dX12_lost_39 ?_
    refine r_callVP 40 hC [] [(1, w64 ((w64 (v5 - v6)) * v2)), (30, x0)] rfl vl_X12_331 rfl h0 (by decide) (Nat.le_of_ble_eq_true rfl) (by decide) (by decide) dX12_lost_40 (t_X12_litre x0 M4 h0) (fun v7 => ?_)
    refine r_callVI 43 hC [(1, w64 ((w64 (v5 - v6)) * v2)), (1, v7)] [] rfl vl_X12_353 rfl h0 (by decide) (Nat.le_of_ble_eq_true rfl) (by decide) (by decide) dX12_lost_43 (t_X12_tellsBy x0 (w64 ((w64 (v5 - v6)) * v2)) v7 M4 h0) (fun v8 M9 => ?_)
    exact r_zreturn 46 hC hq (by decide) (by decide) dX12_lost_46
  · refine r_aload_n 8 hC 0 rfl (Or.inl (by decide)) rfl dX12_lost_8 ?_
    refine r_iconst 9 hC (r32c rfl) dX12_lost_9 ?_
    refine r_callVI 10 hC [(0, 1)] [] rfl vl_X12_94 rfl h0 (by decide) (Nat.le_of_ble_eq_true rfl) (by decide) (by decide) dX12_lost_10 (t_X12_is x0 1 M h0) (fun v10 M11 => ?_)
    exact r_zreturn 13 hC hq (by decide) (by decide) dX12_lost_13

/-! WaterTurnsModel.runsOut(I)Z -/
theorem dX12_runsOut_0 : decode cX12_runsOut 0 = .ok (.iload_n 1, 1) := by decide +kernel
theorem dX12_runsOut_1 : decode cX12_runsOut 1 = .ok (.iconst (-1), 1) := by decide +kernel
theorem dX12_runsOut_2 : decode cX12_runsOut 2 = .ok (.if_icmp .ne 37, 3) := by decide +kernel
theorem dX12_runsOut_5 : decode cX12_runsOut 5 = .ok (.aload_n 0, 1) := by decide +kernel
theorem dX12_runsOut_6 : decode cX12_runsOut 6 = .ok (.aload_n 0, 1) := by decide +kernel
theorem dX12_runsOut_7 : decode cX12_runsOut 7 = .ok (.getfield 7, 3) := by decide +kernel
theorem dX12_runsOut_10 : decode cX12_runsOut 10 = .ok (.iconst 5, 1) := by decide +kernel
theorem dX12_runsOut_11 : decode cX12_runsOut 11 = .ok (.iaload, 1) := by decide +kernel
theorem dX12_runsOut_12 : decode cX12_runsOut 12 = .ok (.ifCond .le 7, 3) := by decide +kernel
theorem dX12_runsOut_15 : decode cX12_runsOut 15 = .ok (.lconst 0, 1) := by decide +kernel
theorem dX12_runsOut_16 : decode cX12_runsOut 16 = .ok (.goto 18, 3) := by decide +kernel
theorem dX12_runsOut_19 : decode cX12_runsOut 19 = .ok (.aload_n 0, 1) := by decide +kernel
theorem dX12_runsOut_20 : decode cX12_runsOut 20 = .ok (.getfield 7, 3) := by decide +kernel
theorem dX12_runsOut_23 : decode cX12_runsOut 23 = .ok (.iconst 0, 1) := by decide +kernel
theorem dX12_runsOut_24 : decode cX12_runsOut 24 = .ok (.iaload, 1) := by decide +kernel
theorem dX12_runsOut_25 : decode cX12_runsOut 25 = .ok (.i2l, 1) := by decide +kernel
theorem dX12_runsOut_26 : decode cX12_runsOut 26 = .ok (.aload_n 0, 1) := by decide +kernel
theorem dX12_runsOut_27 : decode cX12_runsOut 27 = .ok (.getfield 7, 3) := by decide +kernel
theorem dX12_runsOut_30 : decode cX12_runsOut 30 = .ok (.iconst 1, 1) := by decide +kernel
theorem dX12_runsOut_31 : decode cX12_runsOut 31 = .ok (.iaload, 1) := by decide +kernel
theorem dX12_runsOut_32 : decode cX12_runsOut 32 = .ok (.i2l, 1) := by decide +kernel
theorem dX12_runsOut_33 : decode cX12_runsOut 33 = .ok (.lmul, 1) := by decide +kernel
theorem dX12_runsOut_34 : decode cX12_runsOut 34 = .ok (.lconst 1, 1) := by decide +kernel
theorem dX12_runsOut_35 : decode cX12_runsOut 35 = .ok (.invokevirtual 353, 3) := by decide +kernel
theorem dX12_runsOut_38 : decode cX12_runsOut 38 = .ok (.ireturn, 1) := by decide +kernel
theorem dX12_runsOut_39 : decode cX12_runsOut 39 = .ok (.aload_n 0, 1) := by decide +kernel
theorem dX12_runsOut_40 : decode cX12_runsOut 40 = .ok (.iload_n 1, 1) := by decide +kernel
theorem dX12_runsOut_41 : decode cX12_runsOut 41 = .ok (.invokevirtual 257, 3) := by decide +kernel
theorem dX12_runsOut_44 : decode cX12_runsOut 44 = .ok (.ifCond .ne 9, 3) := by decide +kernel
theorem dX12_runsOut_47 : decode cX12_runsOut 47 = .ok (.aload_n 0, 1) := by decide +kernel
theorem dX12_runsOut_48 : decode cX12_runsOut 48 = .ok (.iconst 1, 1) := by decide +kernel
theorem dX12_runsOut_49 : decode cX12_runsOut 49 = .ok (.invokevirtual 94, 3) := by decide +kernel
theorem dX12_runsOut_52 : decode cX12_runsOut 52 = .ok (.ireturn, 1) := by decide +kernel
theorem dX12_runsOut_53 : decode cX12_runsOut 53 = .ok (.aload_n 0, 1) := by decide +kernel
theorem dX12_runsOut_54 : decode cX12_runsOut 54 = .ok (.iload_n 1, 1) := by decide +kernel
theorem dX12_runsOut_55 : decode cX12_runsOut 55 = .ok (.iconst 1, 1) := by decide +kernel
theorem dX12_runsOut_56 : decode cX12_runsOut 56 = .ok (.invokevirtual 360, 3) := by decide +kernel
theorem dX12_runsOut_59 : decode cX12_runsOut 59 = .ok (.istore_n 2, 1) := by decide +kernel
theorem dX12_runsOut_60 : decode cX12_runsOut 60 = .ok (.aload_n 0, 1) := by decide +kernel
theorem dX12_runsOut_61 : decode cX12_runsOut 61 = .ok (.iload_n 1, 1) := by decide +kernel
theorem dX12_runsOut_62 : decode cX12_runsOut 62 = .ok (.iconst 2, 1) := by decide +kernel
theorem dX12_runsOut_63 : decode cX12_runsOut 63 = .ok (.invokevirtual 360, 3) := by decide +kernel
theorem dX12_runsOut_66 : decode cX12_runsOut 66 = .ok (.istore_n 3, 1) := by decide +kernel
theorem dX12_runsOut_67 : decode cX12_runsOut 67 = .ok (.aload_n 0, 1) := by decide +kernel
theorem dX12_runsOut_68 : decode cX12_runsOut 68 = .ok (.iload_n 1, 1) := by decide +kernel
theorem dX12_runsOut_69 : decode cX12_runsOut 69 = .ok (.invokevirtual 346, 3) := by decide +kernel
theorem dX12_runsOut_72 : decode cX12_runsOut 72 = .ok (.aload_n 0, 1) := by decide +kernel
theorem dX12_runsOut_73 : decode cX12_runsOut 73 = .ok (.aload_n 0, 1) := by decide +kernel
theorem dX12_runsOut_74 : decode cX12_runsOut 74 = .ok (.getfield 334, 3) := by decide +kernel
theorem dX12_runsOut_77 : decode cX12_runsOut 77 = .ok (.iload_n 3, 1) := by decide +kernel
theorem dX12_runsOut_78 : decode cX12_runsOut 78 = .ok (.i2l, 1) := by decide +kernel
theorem dX12_runsOut_79 : decode cX12_runsOut 79 = .ok (.lmul, 1) := by decide +kernel
theorem dX12_runsOut_80 : decode cX12_runsOut 80 = .ok (.aload_n 0, 1) := by decide +kernel
theorem dX12_runsOut_81 : decode cX12_runsOut 81 = .ok (.getfield 334, 3) := by decide +kernel
theorem dX12_runsOut_84 : decode cX12_runsOut 84 = .ok (.aload_n 0, 1) := by decide +kernel
theorem dX12_runsOut_85 : decode cX12_runsOut 85 = .ok (.getfield 343, 3) := by decide +kernel
theorem dX12_runsOut_88 : decode cX12_runsOut 88 = .ok (.lsub, 1) := by decide +kernel
theorem dX12_runsOut_89 : decode cX12_runsOut 89 = .ok (.iload_n 2, 1) := by decide +kernel
theorem dX12_runsOut_90 : decode cX12_runsOut 90 = .ok (.i2l, 1) := by decide +kernel
theorem dX12_runsOut_91 : decode cX12_runsOut 91 = .ok (.lmul, 1) := by decide +kernel
theorem dX12_runsOut_92 : decode cX12_runsOut 92 = .ok (.ladd, 1) := by decide +kernel
theorem dX12_runsOut_93 : decode cX12_runsOut 93 = .ok (.aload_n 0, 1) := by decide +kernel
theorem dX12_runsOut_94 : decode cX12_runsOut 94 = .ok (.invokevirtual 331, 3) := by decide +kernel
theorem dX12_runsOut_97 : decode cX12_runsOut 97 = .ok (.invokevirtual 353, 3) := by decide +kernel
theorem dX12_runsOut_100 : decode cX12_runsOut 100 = .ok (.ireturn, 1) := by decide +kernel
set_option maxRecDepth 100000 in
theorem t_X12_runsOut (x0 x1 : Int) (M : Mem) (h0 : x0 ≠ 0) : MtI yX12_runsOut cX12_runsOut 4 (some .boolean) 8 0 0 [(30, x0), (0, x1)] M 0 (f_X12_runsOut x0 x1 M) := by
  refine mk_I (by decide +kernel) (Nat.le_of_ble_eq_true rfl) (fun E C r0 M0 hC hq hin => ?_)
  refine r_eqls (ls' := [(0, 30, x0), (1, 0, x1)]) rfl ?_
  unfold f_X12_runsOut
  refine r_iload_n 0 hC 1 rfl rfl dX12_runsOut_0 ?_
  refine r_iconst 1 hC (r32c rfl) dX12_runsOut_1 ?_
  refine r_icmp_ne 2 hC (tgt := 39) (by decide) dX12_runsOut_2 ?_ ?_
  · refine r_aload_n 39 hC 0 rfl (Or.inl (by decide)) rfl dX12_runsOut_39 ?_
    refine r_iload_n 40 hC 1 rfl rfl dX12_runsOut_40 ?_
    refine r_callVP 41 hC [(0, x1)] [] rfl vl_X12_257 rfl h0 (by decide) (Nat.le_of_ble_eq_true rfl) (by decide) (by decide) dX12_runsOut_41 (t_X12_isReach x0 x1 M h0) (fun v1 => ?_)
    refine r_if_ne 44 hC (tgt := 53) (by decide) dX12_runsOut_44 ?_ ?_
    · refine r_aload_n 53 hC 0 rfl (Or.inl (by decide)) rfl dX12_runsOut_53 ?_
      refine r_iload_n 54 hC 1 rfl rfl dX12_runsOut_54 ?_
      refine r_iconst 55 hC (r32c rfl) dX12_runsOut_55 ?_
      refine r_callVI 56 hC [(0, x1), (0, 1)] [] rfl vl_X12_360 rfl h0 (by decide) (Nat.le_of_ble_eq_true rfl) (by decide) (by decide) dX12_runsOut_56 (t_X12_passing x0 x1 1 M h0) (fun v2 M3 => ?_)
      refine r_istore_n 59 hC rfl (by decide) dX12_runsOut_59 (r_eqls (ls' := [(2, 0, v2), (0, 30, x0), (1, 0, x1)]) rfl ?_)
      refine r_aload_n 60 hC 1 rfl (Or.inl (by decide)) rfl dX12_runsOut_60 ?_
      refine r_iload_n 61 hC 2 rfl rfl dX12_runsOut_61 ?_
      refine r_iconst 62 hC (r32c rfl) dX12_runsOut_62 ?_
      refine r_callVI 63 hC [(0, x1), (0, 2)] [] rfl vl_X12_360 rfl h0 (by decide) (Nat.le_of_ble_eq_true rfl) (by decide) (by decide) dX12_runsOut_63 (t_X12_passing x0 x1 2 M3 h0) (fun v4 M5 => ?_)
      refine r_istore_n 66 hC rfl (by decide) dX12_runsOut_66 (r_eqls (ls' := [(3, 0, v4), (2, 0, v2), (0, 30, x0), (1, 0, x1)]) rfl ?_)
      refine r_aload_n 67 hC 2 rfl (Or.inl (by decide)) rfl dX12_runsOut_67 ?_
      refine r_iload_n 68 hC 3 rfl rfl dX12_runsOut_68 ?_
      refine r_callVV 69 hC [(0, x1)] [] rfl vl_X12_346 rfl h0 (by decide) (Nat.le_of_ble_eq_true rfl) (by decide) (by decide) dX12_runsOut_69 (t_X12_flowsTo x0 x1 M5 h0) (fun M6 => ?_)
      refine r_aload_n 72 hC 2 rfl (Or.inl (by decide)) rfl dX12_runsOut_72 ?_
      refine r_aload_n 73 hC 2 rfl (Or.inl (by decide)) rfl dX12_runsOut_73 ?_
      refine r_get 74 hC fd_10_31 fl_X12_334 dX12_runsOut_74 (fun v7 => ?_)
      refine r_iload_n 77 hC 0 rfl rfl dX12_runsOut_77 ?_
      refine r_i2l 78 hC dX12_runsOut_78 ?_
      refine r_lmul 79 hC dX12_runsOut_79 ?_
      refine r_aload_n 80 hC 2 rfl (Or.inl (by decide)) rfl dX12_runsOut_80 ?_
      refine r_get 81 hC fd_10_31 fl_X12_334 dX12_runsOut_81 (fun v8 => ?_)
      refine r_aload_n 84 hC 2 rfl (Or.inl (by decide)) rfl dX12_runsOut_84 ?_
      refine r_get 85 hC fd_10_32 fl_X12_343 dX12_runsOut_85 (fun v9 => ?_)
      refine r_lsub 88 hC dX12_runsOut_88 ?_
      refine r_iload_n 89 hC 1 rfl rfl dX12_runsOut_89 ?_
      refine r_i2l 90 hC dX12_runsOut_90 ?_
      refine r_lmul 91 hC dX12_runsOut_91 ?_
      refine r_ladd 92 hC dX12_runsOut_92 ?_
      refine r_aload_n 93 hC 2 rfl (Or.inl (by decide)) rfl dX12_runsOut_93 ?_
      refine r_callVP 94 hC [] [(1, w64 ((w64 (v7 * v4)) + (w64 ((w64 (v8 - v9)) * v2)))), (30, x0)] rfl vl_X12_331 rfl h0 (by decide) (Nat.le_of_ble_eq_true rfl) (by decide) (by decide) dX12_runsOut_94 (t_X12_litre x0 M6 h0) (fun v10 => ?_)
      refine r_callVI 97 hC [(1, w64 ((w64 (v7 * v4)) + (w64 ((w64 (v8 - v9)) * v2)))), (1, v10)] [] rfl vl_X12_353 rfl h0 (by decide) (Nat.le_of_ble_eq_true rfl) (by decide) (by decide) dX12_runsOut_97 (t_X12_tellsBy x0 (w64 ((w64 (v7 * v4)) + (w64 ((w64 (v8 - v9)) * v2)))) v10 M6 h0) (fun v11 M12 => ?_)
      exact r_zreturn 100 hC hq (by decide) (by decide) dX12_runsOut_100
    · refine r_aload_n 47 hC 0 rfl (Or.inl (by decide)) rfl dX12_runsOut_47 ?_
      refine r_iconst 48 hC (r32c rfl) dX12_runsOut_48 ?_
      refine r_callVI 49 hC [(0, 1)] [] rfl vl_X12_94 rfl h0 (by decide) (Nat.le_of_ble_eq_true rfl) (by decide) (by decide) dX12_runsOut_49 (t_X12_is x0 1 M h0) (fun v13 M14 => ?_)
      exact r_zreturn 52 hC hq (by decide) (by decide) dX12_runsOut_52
  · refine r_aload_n 5 hC 0 rfl (Or.inl (by decide)) rfl dX12_runsOut_5 ?_
    refine r_aload_n 6 hC 0 rfl (Or.inl (by decide)) rfl dX12_runsOut_6 ?_
    refine r_get 7 hC fd_10_0 fl_X12_7 dX12_runsOut_7 (fun v15 => ?_)
    refine r_iconst 10 hC (r32c rfl) dX12_runsOut_10 ?_
    refine r_iaload 11 hC dX12_runsOut_11 (fun v16 => ?_)
    refine r_jn (P := fun j34 => ∀ (q17 : Int), Bk E C 4 M (r0, M0) 34 [] [(1, q17), (30, x0)] M 0 0 (j34 q17)) ?_ (fun j34 hj34 => ?_)
    · intro q17
      refine r_lconst 34 hC (x := 1) ⟨by decide +kernel, r64c rfl⟩ dX12_runsOut_34 ?_
      refine r_callVI 35 hC [(1, q17), (1, 1)] [] rfl vl_X12_353 rfl h0 (by decide) (Nat.le_of_ble_eq_true rfl) (by decide) (by decide) dX12_runsOut_35 (t_X12_tellsBy x0 q17 1 M h0) (fun v18 M19 => ?_)
      exact r_zreturn 38 hC hq (by decide) (by decide) dX12_runsOut_38
    refine r_if_le 12 hC (tgt := 19) (by decide) dX12_runsOut_12 ?_ ?_
    · refine r_aload_n 19 hC 0 rfl (Or.inl (by decide)) rfl dX12_runsOut_19 ?_
      refine r_get 20 hC fd_10_0 fl_X12_7 dX12_runsOut_20 (fun v20 => ?_)
      refine r_iconst 23 hC (r32c rfl) dX12_runsOut_23 ?_
      refine r_iaload 24 hC dX12_runsOut_24 (fun v21 => ?_)
      refine r_i2l 25 hC dX12_runsOut_25 ?_
      refine r_aload_n 26 hC 0 rfl (Or.inl (by decide)) rfl dX12_runsOut_26 ?_
      refine r_get 27 hC fd_10_0 fl_X12_7 dX12_runsOut_27 (fun v22 => ?_)
      refine r_iconst 30 hC (r32c rfl) dX12_runsOut_30 ?_
      refine r_iaload 31 hC dX12_runsOut_31 (fun v23 => ?_)
      refine r_i2l 32 hC dX12_runsOut_32 ?_
      refine r_lmul 33 hC dX12_runsOut_33 ?_
      exact r_sub [] rfl (hj34 (w64 (v21 * v23)))
    · refine r_lconst 15 hC (x := 0) ⟨by decide +kernel, r64c rfl⟩ dX12_runsOut_15 ?_
      refine r_goto 16 hC (tgt := 34) (by decide) dX12_runsOut_16 ?_
      exact r_sub [] rfl (hj34 0)

/-! WaterTurnsModel.waterOf(I)Z -/
theorem dX12_waterOf_0 : decode cX12_waterOf 0 = .ok (.iload_n 1, 1) := by decide +kernel
theorem dX12_waterOf_1 : decode cX12_waterOf 1 = .ok (.iconst (-1), 1) := by decide +kernel
theorem dX12_waterOf_2 : decode cX12_waterOf 2 = .ok (.if_icmp .lt 13, 3) := by decide +kernel
theorem dX12_waterOf_5 : decode cX12_waterOf 5 = .ok (.iload_n 1, 1) := by decide +kernel
theorem dX12_waterOf_6 : decode cX12_waterOf 6 = .ok (.aload_n 0, 1) := by decide +kernel
theorem dX12_waterOf_7 : decode cX12_waterOf 7 = .ok (.getfield 7, 3) := by decide +kernel
theorem dX12_waterOf_10 : decode cX12_waterOf 10 = .ok (.iconst 4, 1) := by decide +kernel
theorem dX12_waterOf_11 : decode cX12_waterOf 11 = .ok (.iaload, 1) := by decide +kernel
theorem dX12_waterOf_12 : decode cX12_waterOf 12 = .ok (.if_icmp .lt 9, 3) := by decide +kernel
theorem dX12_waterOf_15 : decode cX12_waterOf 15 = .ok (.aload_n 0, 1) := by decide +kernel
theorem dX12_waterOf_16 : decode cX12_waterOf 16 = .ok (.iconst 1, 1) := by decide +kernel
theorem dX12_waterOf_17 : decode cX12_waterOf 17 = .ok (.invokevirtual 94, 3) := by decide +kernel
theorem dX12_waterOf_20 : decode cX12_waterOf 20 = .ok (.ireturn, 1) := by decide +kernel
theorem dX12_waterOf_21 : decode cX12_waterOf 21 = .ok (.lconst 0, 1) := by decide +kernel
theorem dX12_waterOf_22 : decode cX12_waterOf 22 = .ok (.lstore_n 2, 1) := by decide +kernel
theorem dX12_waterOf_23 : decode cX12_waterOf 23 = .ok (.iconst 0, 1) := by decide +kernel
theorem dX12_waterOf_24 : decode cX12_waterOf 24 = .ok (.istore 4, 2) := by decide +kernel
theorem dX12_waterOf_26 : decode cX12_waterOf 26 = .ok (.iload 4, 2) := by decide +kernel
theorem dX12_waterOf_28 : decode cX12_waterOf 28 = .ok (.aload_n 0, 1) := by decide +kernel
theorem dX12_waterOf_29 : decode cX12_waterOf 29 = .ok (.getfield 7, 3) := by decide +kernel
theorem dX12_waterOf_32 : decode cX12_waterOf 32 = .ok (.iconst 5, 1) := by decide +kernel
theorem dX12_waterOf_33 : decode cX12_waterOf 33 = .ok (.iaload, 1) := by decide +kernel
theorem dX12_waterOf_34 : decode cX12_waterOf 34 = .ok (.if_icmp .ge 33, 3) := by decide +kernel
theorem dX12_waterOf_37 : decode cX12_waterOf 37 = .ok (.lload_n 2, 1) := by decide +kernel
theorem dX12_waterOf_38 : decode cX12_waterOf 38 = .ok (.aload_n 0, 1) := by decide +kernel
theorem dX12_waterOf_39 : decode cX12_waterOf 39 = .ok (.iload 4, 2) := by decide +kernel
theorem dX12_waterOf_41 : decode cX12_waterOf 41 = .ok (.iconst 3, 1) := by decide +kernel
theorem dX12_waterOf_42 : decode cX12_waterOf 42 = .ok (.invokevirtual 269, 3) := by decide +kernel
theorem dX12_waterOf_45 : decode cX12_waterOf 45 = .ok (.iload_n 1, 1) := by decide +kernel
theorem dX12_waterOf_46 : decode cX12_waterOf 46 = .ok (.if_icmp .ne 12, 3) := by decide +kernel
theorem dX12_waterOf_49 : decode cX12_waterOf 49 = .ok (.aload_n 0, 1) := by decide +kernel
theorem dX12_waterOf_50 : decode cX12_waterOf 50 = .ok (.iload 4, 2) := by decide +kernel
theorem dX12_waterOf_52 : decode cX12_waterOf 52 = .ok (.invokevirtual 357, 3) := by decide +kernel
theorem dX12_waterOf_55 : decode cX12_waterOf 55 = .ok (.goto 4, 3) := by decide +kernel
theorem dX12_waterOf_58 : decode cX12_waterOf 58 = .ok (.lconst 0, 1) := by decide +kernel
theorem dX12_waterOf_59 : decode cX12_waterOf 59 = .ok (.ladd, 1) := by decide +kernel
theorem dX12_waterOf_60 : decode cX12_waterOf 60 = .ok (.lstore_n 2, 1) := by decide +kernel
theorem dX12_waterOf_61 : decode cX12_waterOf 61 = .ok (.iinc 4 1, 3) := by decide +kernel
theorem dX12_waterOf_64 : decode cX12_waterOf 64 = .ok (.goto (-38), 3) := by decide +kernel
theorem dX12_waterOf_67 : decode cX12_waterOf 67 = .ok (.aload_n 0, 1) := by decide +kernel
theorem dX12_waterOf_68 : decode cX12_waterOf 68 = .ok (.lload_n 2, 1) := by decide +kernel
theorem dX12_waterOf_69 : decode cX12_waterOf 69 = .ok (.aload_n 0, 1) := by decide +kernel
theorem dX12_waterOf_70 : decode cX12_waterOf 70 = .ok (.invokevirtual 331, 3) := by decide +kernel
theorem dX12_waterOf_73 : decode cX12_waterOf 73 = .ok (.invokevirtual 353, 3) := by decide +kernel
theorem dX12_waterOf_76 : decode cX12_waterOf 76 = .ok (.ireturn, 1) := by decide +kernel
set_option maxRecDepth 100000 in
theorem f_X12_waterOf_L26_ok {E : EnvT} {C : Cx} {Mi : Mem} {x0 : Int} (h0 : x0 ≠ 0) (hC : CxOK E C cX12_waterOf 5 yX12_waterOf.cls 9 0 0) {r0 : Int} {M0 : Mem} (hq : RQ E C 0 0 Mi (some .boolean) (some (0, r0)) M0) {x1 : Int} {k : Int → Mem → Option (Int × Mem)} (hk : ∀ q16 M17, Bk E C 5 Mi (r0, M0) 67 [(0, 30, x0), (2, 1, q16)] [] M17 0 0 (k q16 M17)) : ∀ (n : Nat) (p5 : Int) (p6 : Int) (M7 : Mem), Bk E C 5 Mi (r0, M0) 26 [(0, 30, x0), (1, 0, x1), (2, 1, p5), (4, 0, p6)] [] M7 0 0 (f_X12_waterOf_L26 x0 x1 k n p5 p6 M7) := by
  intro n
  induction n with
  | zero =>
    intro p5 p6 M7
    exact r_none
  | succ n ih =>
    intro p5 p6 M7
    rw [f_X12_waterOf_L26]
    refine r_iload 26 hC 3 rfl dX12_waterOf_26 ?_
    refine r_aload_n 28 hC 0 rfl (Or.inl (by decide)) rfl dX12_waterOf_28 ?_
    refine r_get 29 hC fd_10_0 fl_X12_7 dX12_waterOf_29 (fun v8 => ?_)
    refine r_iconst 32 hC (r32c rfl) dX12_waterOf_32 ?_
    refine r_iaload 33 hC dX12_waterOf_33 (fun v9 => ?_)
    refine r_icmp_ge 34 hC (tgt := 67) (by decide) dX12_waterOf_34 ?_ ?_
    · exact r_sub [0, 2] rfl (hk p5 M7)
    · refine r_lload_n 37 hC 2 rfl rfl dX12_waterOf_37 ?_
      refine r_aload_n 38 hC 0 rfl (Or.inl (by decide)) rfl dX12_waterOf_38 ?_
      refine r_iload 39 hC 3 rfl dX12_waterOf_39 ?_
      refine r_iconst 41 hC (r32c rfl) dX12_waterOf_41 ?_
      refine r_callVP 42 hC [(0, p6), (0, 3)] [(1, p5)] rfl vl_X12_269 rfl h0 (by decide) (Nat.le_of_ble_eq_true rfl) (by decide) (by decide) dX12_waterOf_42 (t_X12_ofField x0 p6 3 M7 h0) (fun v10 => ?_)
      refine r_iload_n 45 hC 1 rfl rfl dX12_waterOf_45 ?_
      refine r_jn (P := fun j59 => ∀ (q11 : Int) (M12 : Mem), Bk E C 5 Mi (r0, M0) 59 [(0, 30, x0), (1, 0, x1), (4, 0, p6)] [(1, q11), (1, p5)] M12 0 0 (j59 q11 M12)) ?_ (fun j59 hj59 => ?_)
      · intro q11 M12
        refine r_ladd 59 hC dX12_waterOf_59 ?_
        refine r_lstore_nL 60 hC rfl (by decide) dX12_waterOf_60 (fun v13 => r_eqls (ls' := [(2, 1, v13), (0, 30, x0), (1, 0, x1), (4, 0, p6)]) rfl ?_)
        refine r_iinc 61 hC 3 rfl (by decide) dX12_waterOf_61 (r_eqls (ls' := [(4, 0, w32 (p6 + 1)), (2, 1, v13), (0, 30, x0), (1, 0, x1)]) rfl ?_)
        refine r_goto 64 hC (tgt := 26) (by decide) dX12_waterOf_64 ?_
        exact r_sub [2, 3, 1, 0] rfl (ih v13 (w32 (p6 + 1)) M12)
      refine r_icmp_ne 46 hC (tgt := 58) (by decide) dX12_waterOf_46 ?_ ?_
      · refine r_lconst 58 hC (x := 0) ⟨by decide +kernel, r64c rfl⟩ dX12_waterOf_58 ?_
        exact r_sub [0, 1, 3] rfl (hj59 0 M7)
      · refine r_aload_n 49 hC 0 rfl (Or.inl (by decide)) rfl dX12_waterOf_49 ?_
        refine r_iload 50 hC 3 rfl dX12_waterOf_50 ?_
        refine r_callVI 52 hC [(0, p6)] [(1, p5)] rfl vl_X12_357 rfl h0 (by decide) (Nat.le_of_ble_eq_true rfl) (by decide) (by decide) dX12_waterOf_52 (t_X12_waterIn x0 p6 M7 h0) (fun v14 M15 => ?_)
        refine r_goto 55 hC (tgt := 59) (by decide) dX12_waterOf_55 ?_
        exact r_sub [0, 1, 3] rfl (hj59 v14 M15)
set_option maxRecDepth 100000 in
theorem t_X12_waterOf (x0 x1 : Int) (M : Mem) (h0 : x0 ≠ 0) : MtI yX12_waterOf cX12_waterOf 5 (some .boolean) 9 0 0 [(30, x0), (0, x1)] M 0 (f_X12_waterOf x0 x1 M) := by
  refine mk_I (by decide +kernel) (Nat.le_of_ble_eq_true rfl) (fun E C r0 M0 hC hq hin => ?_)
  refine r_eqls (ls' := [(0, 30, x0), (1, 0, x1)]) rfl ?_
  unfold f_X12_waterOf
  refine r_iload_n 0 hC 1 rfl rfl dX12_waterOf_0 ?_
  refine r_iconst 1 hC (r32c rfl) dX12_waterOf_1 ?_
  refine r_jn (P := fun j15 => Bk E C 5 M (r0, M0) 15 [(0, 30, x0)] [] M 0 0 (j15)) ?_ (fun j15 hj15 => ?_)
  · refine r_aload_n 15 hC 0 rfl (Or.inl (by decide)) rfl dX12_waterOf_15 ?_
    refine r_iconst 16 hC (r32c rfl) dX12_waterOf_16 ?_
    refine r_callVI 17 hC [(0, 1)] [] rfl vl_X12_94 rfl h0 (by decide) (Nat.le_of_ble_eq_true rfl) (by decide) (by decide) dX12_waterOf_17 (t_X12_is x0 1 M h0) (fun v1 M2 => ?_)
    exact r_zreturn 20 hC hq (by decide) (by decide) dX12_waterOf_20
  refine r_icmp_lt 2 hC (tgt := 15) (by decide) dX12_waterOf_2 ?_ ?_
  · exact r_sub [0] rfl (hj15)
  · refine r_iload_n 5 hC 1 rfl rfl dX12_waterOf_5 ?_
    refine r_aload_n 6 hC 0 rfl (Or.inl (by decide)) rfl dX12_waterOf_6 ?_
    refine r_get 7 hC fd_10_0 fl_X12_7 dX12_waterOf_7 (fun v3 => ?_)
    refine r_iconst 10 hC (r32c rfl) dX12_waterOf_10 ?_
    refine r_iaload 11 hC dX12_waterOf_11 (fun v4 => ?_)
    refine r_icmp_lt 12 hC (tgt := 21) (by decide) dX12_waterOf_12 ?_ ?_
    · refine r_lconst 21 hC (x := 0) ⟨by decide +kernel, r64c rfl⟩ dX12_waterOf_21 ?_
      refine r_lstore_n 22 hC rfl (by decide) dX12_waterOf_22 (r_eqls (ls' := [(2, 1, 0), (0, 30, x0), (1, 0, x1)]) rfl ?_)
      refine r_iconst 23 hC (r32c rfl) dX12_waterOf_23 ?_
      refine r_istore 24 hC (by decide) dX12_waterOf_24 (r_eqls (ls' := [(4, 0, 0), (2, 1, 0), (0, 30, x0), (1, 0, x1)]) rfl ?_)
      refine r_sub [2, 3, 1, 0] rfl (f_X12_waterOf_L26_ok h0 hC hq (fun q18 M19 => ?_) KF 0 0 M)
      · refine r_aload_n 67 hC 0 rfl (Or.inl (by decide)) rfl dX12_waterOf_67 ?_
        refine r_lload_n 68 hC 1 rfl rfl dX12_waterOf_68 ?_
        refine r_aload_n 69 hC 0 rfl (Or.inl (by decide)) rfl dX12_waterOf_69 ?_
        refine r_callVP 70 hC [] [(1, q18), (30, x0)] rfl vl_X12_331 rfl h0 (by decide) (Nat.le_of_ble_eq_true rfl) (by decide) (by decide) dX12_waterOf_70 (t_X12_litre x0 M19 h0) (fun v20 => ?_)
        refine r_callVI 73 hC [(1, q18), (1, v20)] [] rfl vl_X12_353 rfl h0 (by decide) (Nat.le_of_ble_eq_true rfl) (by decide) (by decide) dX12_waterOf_73 (t_X12_tellsBy x0 q18 v20 M19 h0) (fun v21 M22 => ?_)
        exact r_zreturn 76 hC hq (by decide) (by decide) dX12_waterOf_76
    · exact r_sub [0] rfl (hj15)

/-! WaterTurnsModel.upTo(JJ)J -/
theorem dX12_upTo_0 : decode cX12_upTo 0 = .ok (.lload_n 0, 1) := by decide +kernel
theorem dX12_upTo_1 : decode cX12_upTo 1 = .ok (.lload_n 2, 1) := by decide +kernel
theorem dX12_upTo_2 : decode cX12_upTo 2 = .ok (.ladd, 1) := by decide +kernel
theorem dX12_upTo_3 : decode cX12_upTo 3 = .ok (.lconst 1, 1) := by decide +kernel
theorem dX12_upTo_4 : decode cX12_upTo 4 = .ok (.lsub, 1) := by decide +kernel
theorem dX12_upTo_5 : decode cX12_upTo 5 = .ok (.lload_n 2, 1) := by decide +kernel
theorem dX12_upTo_6 : decode cX12_upTo 6 = .ok (.ldiv, 1) := by decide +kernel
theorem dX12_upTo_7 : decode cX12_upTo 7 = .ok (.lreturn, 1) := by decide +kernel
set_option maxRecDepth 100000 in
theorem t_X12_upTo (x0 x2 : Int) (M : Mem) : MtP yX12_upTo cX12_upTo 4 (some .long) 1 0 0 [(1, x0), (1, x2)] M 1 (f_X12_upTo x0 x2 M) := by
  refine mk_P (by decide +kernel) (Nat.le_of_ble_eq_true rfl) (fun E C r0 hC hq hin => ?_)
  refine r_eqls (ls' := [(0, 1, x0), (2, 1, x2)]) rfl ?_
  unfold f_X12_upTo
  refine r_lload_n 0 hC 0 rfl rfl dX12_upTo_0 ?_
  refine r_lload_n 1 hC 1 rfl rfl dX12_upTo_1 ?_
  refine r_ladd 2 hC dX12_upTo_2 ?_
  refine r_lconst 3 hC (x := 1) ⟨by decide +kernel, r64c rfl⟩ dX12_upTo_3 ?_
  refine r_lsub 4 hC dX12_upTo_4 ?_
  refine r_lload_n 5 hC 1 rfl rfl dX12_upTo_5 ?_
  refine r_ldiv 6 hC dX12_upTo_6 (fun v1 => ?_)
  exact r_lreturnP 7 hC hq (by decide) (by decide) dX12_upTo_7

/-! WaterTurnsModel.isDry(I)Z -/
theorem dX12_isDry_0 : decode cX12_isDry 0 = .ok (.aload_n 0, 1) := by decide +kernel
theorem dX12_isDry_1 : decode cX12_isDry 1 = .ok (.iload_n 1, 1) := by decide +kernel
theorem dX12_isDry_2 : decode cX12_isDry 2 = .ok (.invokevirtual 349, 3) := by decide +kernel
theorem dX12_isDry_5 : decode cX12_isDry 5 = .ok (.lconst 0, 1) := by decide +kernel
theorem dX12_isDry_6 : decode cX12_isDry 6 = .ok (.lcmp, 1) := by decide +kernel
theorem dX12_isDry_7 : decode cX12_isDry 7 = .ok (.ifCond .ne 16, 3) := by decide +kernel
theorem dX12_isDry_10 : decode cX12_isDry 10 = .ok (.aload_n 0, 1) := by decide +kernel
theorem dX12_isDry_11 : decode cX12_isDry 11 = .ok (.iload_n 1, 1) := by decide +kernel
theorem dX12_isDry_12 : decode cX12_isDry 12 = .ok (.iconst 2, 1) := by decide +kernel
theorem dX12_isDry_13 : decode cX12_isDry 13 = .ok (.invokevirtual 269, 3) := by decide +kernel
theorem dX12_isDry_16 : decode cX12_isDry 16 = .ok (.ifCond .le 7, 3) := by decide +kernel
theorem dX12_isDry_19 : decode cX12_isDry 19 = .ok (.iconst 1, 1) := by decide +kernel
theorem dX12_isDry_20 : decode cX12_isDry 20 = .ok (.goto 4, 3) := by decide +kernel
theorem dX12_isDry_23 : decode cX12_isDry 23 = .ok (.iconst 0, 1) := by decide +kernel
theorem dX12_isDry_24 : decode cX12_isDry 24 = .ok (.ireturn, 1) := by decide +kernel
set_option maxRecDepth 100000 in
theorem t_X12_isDry (x0 x1 : Int) (M : Mem) (h0 : x0 ≠ 0) : MtI yX12_isDry cX12_isDry 2 (some .boolean) 5 0 0 [(30, x0), (0, x1)] M 0 (f_X12_isDry x0 x1 M) := by
  refine mk_I (by decide +kernel) (Nat.le_of_ble_eq_true rfl) (fun E C r0 M0 hC hq hin => ?_)
  refine r_eqls (ls' := [(0, 30, x0), (1, 0, x1)]) rfl ?_
  unfold f_X12_isDry
  refine r_aload_n 0 hC 0 rfl (Or.inl (by decide)) rfl dX12_isDry_0 ?_
  refine r_iload_n 1 hC 1 rfl rfl dX12_isDry_1 ?_
  refine r_callVI 2 hC [(0, x1)] [] rfl vl_X12_349 rfl h0 (by decide) (Nat.le_of_ble_eq_true rfl) (by decide) (by decide) dX12_isDry_2 (t_X12_rateOf x0 x1 M h0) (fun v1 M2 => ?_)
  refine r_lconst 5 hC (x := 0) ⟨by decide +kernel, r64c rfl⟩ dX12_isDry_5 ?_
  refine r_jn (P := fun j24 => ∀ (q3 : Int), Bk E C 2 M (r0, M0) 24 [] [(0, q3)] M2 0 0 (j24 q3)) ?_ (fun j24 hj24 => ?_)
  · intro q3
    exact r_zreturn 24 hC hq (by decide) (by decide) dX12_isDry_24
  refine r_jn (P := fun j23 => Bk E C 2 M (r0, M0) 23 [] [] M2 0 0 (j23)) ?_ (fun j23 hj23 => ?_)
  · refine r_iconst 23 hC (r32c rfl) dX12_isDry_23 ?_
    exact hj24 0
  refine r_lcmp_ne 6 hC (tgt := 23) (by decide) dX12_isDry_6 dX12_isDry_7 ?_ ?_
  · exact r_sub [] rfl (hj23)
  · refine r_aload_n 10 hC 0 rfl (Or.inl (by decide)) rfl dX12_isDry_10 ?_
    refine r_iload_n 11 hC 1 rfl rfl dX12_isDry_11 ?_
    refine r_iconst 12 hC (r32c rfl) dX12_isDry_12 ?_
    refine r_callVP 13 hC [(0, x1), (0, 2)] [] rfl vl_X12_269 rfl h0 (by decide) (Nat.le_of_ble_eq_true rfl) (by decide) (by decide) dX12_isDry_13 (t_X12_ofField x0 x1 2 M2 h0) (fun v4 => ?_)
    refine r_if_le 16 hC (tgt := 23) (by decide) dX12_isDry_16 ?_ ?_
    · exact r_sub [] rfl (hj23)
    · refine r_iconst 19 hC (r32c rfl) dX12_isDry_19 ?_
      refine r_goto 20 hC (tgt := 24) (by decide) dX12_isDry_20 ?_
      exact r_sub [] rfl (hj24 1)

/-! WaterTurnsModel.lackingOf(I)I -/
theorem dX12_lackingOf_0 : decode cX12_lackingOf 0 = .ok (.aload_n 0, 1) := by decide +kernel
theorem dX12_lackingOf_1 : decode cX12_lackingOf 1 = .ok (.iload_n 1, 1) := by decide +kernel
theorem dX12_lackingOf_2 : decode cX12_lackingOf 2 = .ok (.iconst 2, 1) := by decide +kernel
theorem dX12_lackingOf_3 : decode cX12_lackingOf 3 = .ok (.invokevirtual 269, 3) := by decide +kernel
theorem dX12_lackingOf_6 : decode cX12_lackingOf 6 = .ok (.i2l, 1) := by decide +kernel
theorem dX12_lackingOf_7 : decode cX12_lackingOf 7 = .ok (.aload_n 0, 1) := by decide +kernel
theorem dX12_lackingOf_8 : decode cX12_lackingOf 8 = .ok (.invokevirtual 331, 3) := by decide +kernel
theorem dX12_lackingOf_11 : decode cX12_lackingOf 11 = .ok (.lmul, 1) := by decide +kernel
theorem dX12_lackingOf_12 : decode cX12_lackingOf 12 = .ok (.aload_n 0, 1) := by decide +kernel
theorem dX12_lackingOf_13 : decode cX12_lackingOf 13 = .ok (.iload_n 1, 1) := by decide +kernel
theorem dX12_lackingOf_14 : decode cX12_lackingOf 14 = .ok (.invokevirtual 357, 3) := by decide +kernel
theorem dX12_lackingOf_17 : decode cX12_lackingOf 17 = .ok (.lsub, 1) := by decide +kernel
theorem dX12_lackingOf_18 : decode cX12_lackingOf 18 = .ok (.lstore_n 2, 1) := by decide +kernel
theorem dX12_lackingOf_19 : decode cX12_lackingOf 19 = .ok (.lload_n 2, 1) := by decide +kernel
theorem dX12_lackingOf_20 : decode cX12_lackingOf 20 = .ok (.lconst 0, 1) := by decide +kernel
theorem dX12_lackingOf_21 : decode cX12_lackingOf 21 = .ok (.lcmp, 1) := by decide +kernel
theorem dX12_lackingOf_22 : decode cX12_lackingOf 22 = .ok (.ifCond .gt 7, 3) := by decide +kernel
theorem dX12_lackingOf_25 : decode cX12_lackingOf 25 = .ok (.iconst 0, 1) := by decide +kernel
theorem dX12_lackingOf_26 : decode cX12_lackingOf 26 = .ok (.goto 19, 3) := by decide +kernel
theorem dX12_lackingOf_29 : decode cX12_lackingOf 29 = .ok (.ldc2_w 363, 3) := by decide +kernel
theorem dX12_lackingOf_32 : decode cX12_lackingOf 32 = .ok (.lload_n 2, 1) := by decide +kernel
theorem dX12_lackingOf_33 : decode cX12_lackingOf 33 = .ok (.aload_n 0, 1) := by decide +kernel
theorem dX12_lackingOf_34 : decode cX12_lackingOf 34 = .ok (.iload_n 1, 1) := by decide +kernel
theorem dX12_lackingOf_35 : decode cX12_lackingOf 35 = .ok (.invokevirtual 349, 3) := by decide +kernel
theorem dX12_lackingOf_38 : decode cX12_lackingOf 38 = .ok (.invokestatic 365, 3) := by decide +kernel
theorem dX12_lackingOf_41 : decode cX12_lackingOf 41 = .ok (.invokestatic 340, 3) := by decide +kernel
theorem dX12_lackingOf_44 : decode cX12_lackingOf 44 = .ok (.l2i, 1) := by decide +kernel
theorem dX12_lackingOf_45 : decode cX12_lackingOf 45 = .ok (.ireturn, 1) := by decide +kernel
set_option maxRecDepth 100000 in
theorem t_X12_lackingOf (x0 x1 : Int) (M : Mem) (h0 : x0 ≠ 0) : MtI yX12_lackingOf cX12_lackingOf 4 (some .int) 9 0 0 [(30, x0), (0, x1)] M 0 (f_X12_lackingOf x0 x1 M) := by
  refine mk_I (by decide +kernel) (Nat.le_of_ble_eq_true rfl) (fun E C r0 M0 hC hq hin => ?_)
  refine r_eqls (ls' := [(0, 30, x0), (1, 0, x1)]) rfl ?_
  unfold f_X12_lackingOf
  refine r_aload_n 0 hC 0 rfl (Or.inl (by decide)) rfl dX12_lackingOf_0 ?_
  refine r_iload_n 1 hC 1 rfl rfl dX12_lackingOf_1 ?_
  refine r_iconst 2 hC (r32c rfl) dX12_lackingOf_2 ?_
  refine r_callVP 3 hC [(0, x1), (0, 2)] [] rfl vl_X12_269 rfl h0 (by decide) (Nat.le_of_ble_eq_true rfl) (by decide) (by decide) dX12_lackingOf_3 (t_X12_ofField x0 x1 2 M h0) (fun v1 => ?_)
  refine r_i2l 6 hC dX12_lackingOf_6 ?_
  refine r_aload_n 7 hC 0 rfl (Or.inl (by decide)) rfl dX12_lackingOf_7 ?_
  refine r_callVP 8 hC [] [(1, v1)] rfl vl_X12_331 rfl h0 (by decide) (Nat.le_of_ble_eq_true rfl) (by decide) (by decide) dX12_lackingOf_8 (t_X12_litre x0 M h0) (fun v2 => ?_)
  refine r_lmul 11 hC dX12_lackingOf_11 ?_
  refine r_aload_n 12 hC 0 rfl (Or.inl (by decide)) rfl dX12_lackingOf_12 ?_
  refine r_iload_n 13 hC 1 rfl rfl dX12_lackingOf_13 ?_
  refine r_callVI 14 hC [(0, x1)] [(1, w64 (v1 * v2))] rfl vl_X12_357 rfl h0 (by decide) (Nat.le_of_ble_eq_true rfl) (by decide) (by decide) dX12_lackingOf_14 (t_X12_waterIn x0 x1 M h0) (fun v3 M4 => ?_)
  refine r_lsub 17 hC dX12_lackingOf_17 ?_
  refine r_lstore_nL 18 hC rfl (by decide) dX12_lackingOf_18 (fun v5 => r_eqls (ls' := [(2, 1, v5), (0, 30, x0), (1, 0, x1)]) rfl ?_)
  refine r_lload_n 19 hC 0 rfl rfl dX12_lackingOf_19 ?_
  refine r_lconst 20 hC (x := 0) ⟨by decide +kernel, r64c rfl⟩ dX12_lackingOf_20 ?_
  refine r_jn (P := fun j45 => ∀ (q6 : Int) (M7 : Mem), Bk E C 4 M (r0, M0) 45 [] [(0, q6)] M7 0 0 (j45 q6 M7)) ?_ (fun j45 hj45 => ?_)
  · intro q6 M7
    exact r_ireturn 45 hC hq (by decide) (by decide) dX12_lackingOf_45
  refine r_lcmp_gt 21 hC (tgt := 29) (by decide) dX12_lackingOf_21 dX12_lackingOf_22 ?_ ?_
  · refine r_ldc2 29 hC (x := 999999) kl_X12_363 ⟨by decide +kernel, r64c rfl⟩ dX12_lackingOf_29 ?_
    refine r_lload_n 32 hC 0 rfl rfl dX12_lackingOf_32 ?_
    refine r_aload_n 33 hC 1 rfl (Or.inl (by decide)) rfl dX12_lackingOf_33 ?_
    refine r_iload_n 34 hC 2 rfl rfl dX12_lackingOf_34 ?_
    refine r_callVI 35 hC [(0, x1)] [(1, v5), (1, 999999)] rfl vl_X12_349 rfl h0 (by decide) (Nat.le_of_ble_eq_true rfl) (by decide) (by decide) dX12_lackingOf_35 (t_X12_rateOf x0 x1 M4 h0) (fun v8 M9 => ?_)
    refine r_callSP 38 hC [(1, v5), (1, v8)] [(1, 999999)] rfl sl_X12_365 rfl (by decide) (Nat.le_of_ble_eq_true rfl) (by decide) (by decide) dX12_lackingOf_38 (t_X12_upTo v5 v8 M9) (fun v10 => ?_)
    refine r_callSP 41 hC [(1, 999999), (1, v10)] [] rfl sl_X12_340 rfl (by decide) (Nat.le_of_ble_eq_true rfl) (by decide) (by decide) dX12_lackingOf_41 (t_J9_min_f86c9 999999 v10 M9) (fun v11 => ?_)
    refine r_l2i 44 hC dX12_lackingOf_44 ?_
    exact r_sub [] rfl (hj45 (w32 v11) M9)
  · refine r_iconst 25 hC (r32c rfl) dX12_lackingOf_25 ?_
    refine r_goto 26 hC (tgt := 45) (by decide) dX12_lackingOf_26 ?_
    exact r_sub [] rfl (hj45 0 M4)

/-! WaterTurnsModel.lacking(I)I -/
theorem dX12_lacking_0 : decode cX12_lacking 0 = .ok (.aload_n 0, 1) := by decide +kernel
theorem dX12_lacking_1 : decode cX12_lacking 1 = .ok (.iload_n 1, 1) := by decide +kernel
theorem dX12_lacking_2 : decode cX12_lacking 2 = .ok (.invokevirtual 266, 3) := by decide +kernel
theorem dX12_lacking_5 : decode cX12_lacking 5 = .ok (.ifCond .ne 11, 3) := by decide +kernel
theorem dX12_lacking_8 : decode cX12_lacking 8 = .ok (.aload_n 0, 1) := by decide +kernel
theorem dX12_lacking_9 : decode cX12_lacking 9 = .ok (.iconst 1, 1) := by decide +kernel
theorem dX12_lacking_10 : decode cX12_lacking 10 = .ok (.invokevirtual 87, 3) := by decide +kernel
theorem dX12_lacking_13 : decode cX12_lacking 13 = .ok (.goto 29, 3) := by decide +kernel
theorem dX12_lacking_16 : decode cX12_lacking 16 = .ok (.aload_n 0, 1) := by decide +kernel
theorem dX12_lacking_17 : decode cX12_lacking 17 = .ok (.iload_n 1, 1) := by decide +kernel
theorem dX12_lacking_18 : decode cX12_lacking 18 = .ok (.invokevirtual 368, 3) := by decide +kernel
theorem dX12_lacking_21 : decode cX12_lacking 21 = .ok (.ifCond .eq 12, 3) := by decide +kernel
theorem dX12_lacking_24 : decode cX12_lacking 24 = .ok (.aload_n 0, 1) := by decide +kernel
theorem dX12_lacking_25 : decode cX12_lacking 25 = .ok (.bipush 7, 2) := by decide +kernel
theorem dX12_lacking_27 : decode cX12_lacking 27 = .ok (.invokevirtual 87, 3) := by decide +kernel
theorem dX12_lacking_30 : decode cX12_lacking 30 = .ok (.goto 12, 3) := by decide +kernel
theorem dX12_lacking_33 : decode cX12_lacking 33 = .ok (.aload_n 0, 1) := by decide +kernel
theorem dX12_lacking_34 : decode cX12_lacking 34 = .ok (.aload_n 0, 1) := by decide +kernel
theorem dX12_lacking_35 : decode cX12_lacking 35 = .ok (.iload_n 1, 1) := by decide +kernel
theorem dX12_lacking_36 : decode cX12_lacking 36 = .ok (.invokevirtual 371, 3) := by decide +kernel
theorem dX12_lacking_39 : decode cX12_lacking 39 = .ok (.invokevirtual 91, 3) := by decide +kernel
theorem dX12_lacking_42 : decode cX12_lacking 42 = .ok (.ireturn, 1) := by decide +kernel
set_option maxRecDepth 100000 in
theorem t_X12_lacking (x0 x1 : Int) (M : Mem) (h0 : x0 ≠ 0) : MtI yX12_lacking cX12_lacking 2 (some .int) 10 0 0 [(30, x0), (0, x1)] M 0 (f_X12_lacking x0 x1 M) := by
  refine mk_I (by decide +kernel) (Nat.le_of_ble_eq_true rfl) (fun E C r0 M0 hC hq hin => ?_)
  refine r_eqls (ls' := [(0, 30, x0), (1, 0, x1)]) rfl ?_
  unfold f_X12_lacking
  refine r_aload_n 0 hC 0 rfl (Or.inl (by decide)) rfl dX12_lacking_0 ?_
  refine r_iload_n 1 hC 1 rfl rfl dX12_lacking_1 ?_
  refine r_callVP 2 hC [(0, x1)] [] rfl vl_X12_266 rfl h0 (by decide) (Nat.le_of_ble_eq_true rfl) (by decide) (by decide) dX12_lacking_2 (t_X12_isField x0 x1 M h0) (fun v1 => ?_)
  refine r_jn (P := fun j42 => ∀ (q2 : Int) (M3 : Mem), Bk E C 2 M (r0, M0) 42 [] [(0, q2)] M3 0 0 (j42 q2 M3)) ?_ (fun j42 hj42 => ?_)
  · intro q2 M3
    exact r_ireturn 42 hC hq (by decide) (by decide) dX12_lacking_42
  refine r_if_ne 5 hC (tgt := 16) (by decide) dX12_lacking_5 ?_ ?_
  · refine r_aload_n 16 hC 0 rfl (Or.inl (by decide)) rfl dX12_lacking_16 ?_
    refine r_iload_n 17 hC 1 rfl rfl dX12_lacking_17 ?_
    refine r_callVI 18 hC [(0, x1)] [] rfl vl_X12_368 rfl h0 (by decide) (Nat.le_of_ble_eq_true rfl) (by decide) (by decide) dX12_lacking_18 (t_X12_isDry x0 x1 M h0) (fun v4 M5 => ?_)
    refine r_if_eq 21 hC (tgt := 33) (by decide) dX12_lacking_21 ?_ ?_
    · refine r_aload_n 33 hC 0 rfl (Or.inl (by decide)) rfl dX12_lacking_33 ?_
      refine r_aload_n 34 hC 0 rfl (Or.inl (by decide)) rfl dX12_lacking_34 ?_
      refine r_iload_n 35 hC 1 rfl rfl dX12_lacking_35 ?_
      refine r_callVI 36 hC [(0, x1)] [(30, x0)] rfl vl_X12_371 rfl h0 (by decide) (Nat.le_of_ble_eq_true rfl) (by decide) (by decide) dX12_lacking_36 (t_X12_lackingOf x0 x1 M5 h0) (fun v6 M7 => ?_)
      refine r_callVI 39 hC [(0, v6)] [] rfl vl_X12_91 rfl h0 (by decide) (Nat.le_of_ble_eq_true rfl) (by decide) (by decide) dX12_lacking_39 (t_X12_gives x0 v6 M7 h0) (fun v8 M9 => ?_)
      exact r_sub [] rfl (hj42 v8 M9)
    · refine r_aload_n 24 hC 0 rfl (Or.inl (by decide)) rfl dX12_lacking_24 ?_
      refine r_bipush 25 hC kb_7 dX12_lacking_25 ?_
      refine r_callVI 27 hC [(0, 7)] [] rfl vl_X12_87 rfl h0 (by decide) (Nat.le_of_ble_eq_true rfl) (by decide) (by decide) dX12_lacking_27 (t_X12_refuse x0 7 M5 h0) (fun v10 M11 => ?_)
      refine r_goto 30 hC (tgt := 42) (by decide) dX12_lacking_30 ?_
      exact r_sub [] rfl (hj42 v10 M11)
  · refine r_aload_n 8 hC 0 rfl (Or.inl (by decide)) rfl dX12_lacking_8 ?_
    refine r_iconst 9 hC (r32c rfl) dX12_lacking_9 ?_
    refine r_callVI 10 hC [(0, 1)] [] rfl vl_X12_87 rfl h0 (by decide) (Nat.le_of_ble_eq_true rfl) (by decide) (by decide) dX12_lacking_10 (t_X12_refuse x0 1 M h0) (fun v12 M13 => ?_)
    refine r_goto 13 hC (tgt := 42) (by decide) dX12_lacking_13 ?_
    exact r_sub [] rfl (hj42 v12 M13)

/-! WaterTurnsModel.spareOf(I)I -/
theorem dX12_spareOf_0 : decode cX12_spareOf 0 = .ok (.aload_n 0, 1) := by decide +kernel
theorem dX12_spareOf_1 : decode cX12_spareOf 1 = .ok (.iload_n 1, 1) := by decide +kernel
theorem dX12_spareOf_2 : decode cX12_spareOf 2 = .ok (.invokevirtual 368, 3) := by decide +kernel
theorem dX12_spareOf_5 : decode cX12_spareOf 5 = .ok (.ifCond .ne 11, 3) := by decide +kernel
theorem dX12_spareOf_8 : decode cX12_spareOf 8 = .ok (.aload_n 0, 1) := by decide +kernel
theorem dX12_spareOf_9 : decode cX12_spareOf 9 = .ok (.iload_n 1, 1) := by decide +kernel
theorem dX12_spareOf_10 : decode cX12_spareOf 10 = .ok (.invokevirtual 371, 3) := by decide +kernel
theorem dX12_spareOf_13 : decode cX12_spareOf 13 = .ok (.ifCond .le 5, 3) := by decide +kernel
theorem dX12_spareOf_16 : decode cX12_spareOf 16 = .ok (.iconst 0, 1) := by decide +kernel
theorem dX12_spareOf_17 : decode cX12_spareOf 17 = .ok (.ireturn, 1) := by decide +kernel
theorem dX12_spareOf_18 : decode cX12_spareOf 18 = .ok (.aload_n 0, 1) := by decide +kernel
theorem dX12_spareOf_19 : decode cX12_spareOf 19 = .ok (.iload_n 1, 1) := by decide +kernel
theorem dX12_spareOf_20 : decode cX12_spareOf 20 = .ok (.invokevirtual 349, 3) := by decide +kernel
theorem dX12_spareOf_23 : decode cX12_spareOf 23 = .ok (.lstore_n 2, 1) := by decide +kernel
theorem dX12_spareOf_24 : decode cX12_spareOf 24 = .ok (.aload_n 0, 1) := by decide +kernel
theorem dX12_spareOf_25 : decode cX12_spareOf 25 = .ok (.iload_n 1, 1) := by decide +kernel
theorem dX12_spareOf_26 : decode cX12_spareOf 26 = .ok (.iconst 0, 1) := by decide +kernel
theorem dX12_spareOf_27 : decode cX12_spareOf 27 = .ok (.invokevirtual 325, 3) := by decide +kernel
theorem dX12_spareOf_30 : decode cX12_spareOf 30 = .ok (.lload_n 2, 1) := by decide +kernel
theorem dX12_spareOf_31 : decode cX12_spareOf 31 = .ok (.lconst 0, 1) := by decide +kernel
theorem dX12_spareOf_32 : decode cX12_spareOf 32 = .ok (.lcmp, 1) := by decide +kernel
theorem dX12_spareOf_33 : decode cX12_spareOf 33 = .ok (.ifCond .ne 7, 3) := by decide +kernel
theorem dX12_spareOf_36 : decode cX12_spareOf 36 = .ok (.iconst 0, 1) := by decide +kernel
theorem dX12_spareOf_37 : decode cX12_spareOf 37 = .ok (.goto 20, 3) := by decide +kernel
theorem dX12_spareOf_40 : decode cX12_spareOf 40 = .ok (.aload_n 0, 1) := by decide +kernel
theorem dX12_spareOf_41 : decode cX12_spareOf 41 = .ok (.iload_n 1, 1) := by decide +kernel
theorem dX12_spareOf_42 : decode cX12_spareOf 42 = .ok (.iconst 2, 1) := by decide +kernel
theorem dX12_spareOf_43 : decode cX12_spareOf 43 = .ok (.invokevirtual 269, 3) := by decide +kernel
theorem dX12_spareOf_46 : decode cX12_spareOf 46 = .ok (.i2l, 1) := by decide +kernel
theorem dX12_spareOf_47 : decode cX12_spareOf 47 = .ok (.aload_n 0, 1) := by decide +kernel
theorem dX12_spareOf_48 : decode cX12_spareOf 48 = .ok (.invokevirtual 331, 3) := by decide +kernel
theorem dX12_spareOf_51 : decode cX12_spareOf 51 = .ok (.lmul, 1) := by decide +kernel
theorem dX12_spareOf_52 : decode cX12_spareOf 52 = .ok (.lload_n 2, 1) := by decide +kernel
theorem dX12_spareOf_53 : decode cX12_spareOf 53 = .ok (.invokestatic 365, 3) := by decide +kernel
theorem dX12_spareOf_56 : decode cX12_spareOf 56 = .ok (.l2i, 1) := by decide +kernel
theorem dX12_spareOf_57 : decode cX12_spareOf 57 = .ok (.isub, 1) := by decide +kernel
theorem dX12_spareOf_58 : decode cX12_spareOf 58 = .ok (.ireturn, 1) := by decide +kernel
set_option maxRecDepth 100000 in
theorem t_X12_spareOf (x0 x1 : Int) (M : Mem) (h0 : x0 ≠ 0) : MtI yX12_spareOf cX12_spareOf 4 (some .int) 10 0 0 [(30, x0), (0, x1)] M 0 (f_X12_spareOf x0 x1 M) := by
  refine mk_I (by decide +kernel) (Nat.le_of_ble_eq_true rfl) (fun E C r0 M0 hC hq hin => ?_)
  refine r_eqls (ls' := [(0, 30, x0), (1, 0, x1)]) rfl ?_
  unfold f_X12_spareOf
  refine r_aload_n 0 hC 0 rfl (Or.inl (by decide)) rfl dX12_spareOf_0 ?_
  refine r_iload_n 1 hC 1 rfl rfl dX12_spareOf_1 ?_
  refine r_callVI 2 hC [(0, x1)] [] rfl vl_X12_368 rfl h0 (by decide) (Nat.le_of_ble_eq_true rfl) (by decide) (by decide) dX12_spareOf_2 (t_X12_isDry x0 x1 M h0) (fun v1 M2 => ?_)
  refine r_jn (P := fun j16 => ∀ (M3 : Mem), Bk E C 4 M (r0, M0) 16 [] [] M3 0 0 (j16 M3)) ?_ (fun j16 hj16 => ?_)
  · intro M3
    refine r_iconst 16 hC (r32c rfl) dX12_spareOf_16 ?_
    exact r_ireturn 17 hC hq (by decide) (by decide) dX12_spareOf_17
  refine r_if_ne 5 hC (tgt := 16) (by decide) dX12_spareOf_5 ?_ ?_
  · exact r_sub [] rfl (hj16 M2)
  · refine r_aload_n 8 hC 0 rfl (Or.inl (by decide)) rfl dX12_spareOf_8 ?_
    refine r_iload_n 9 hC 1 rfl rfl dX12_spareOf_9 ?_
    refine r_callVI 10 hC [(0, x1)] [] rfl vl_X12_371 rfl h0 (by decide) (Nat.le_of_ble_eq_true rfl) (by decide) (by decide) dX12_spareOf_10 (t_X12_lackingOf x0 x1 M2 h0) (fun v4 M5 => ?_)
    refine r_if_le 13 hC (tgt := 18) (by decide) dX12_spareOf_13 ?_ ?_
    · refine r_aload_n 18 hC 0 rfl (Or.inl (by decide)) rfl dX12_spareOf_18 ?_
      refine r_iload_n 19 hC 1 rfl rfl dX12_spareOf_19 ?_
      refine r_callVI 20 hC [(0, x1)] [] rfl vl_X12_349 rfl h0 (by decide) (Nat.le_of_ble_eq_true rfl) (by decide) (by decide) dX12_spareOf_20 (t_X12_rateOf x0 x1 M5 h0) (fun v6 M7 => ?_)
      refine r_lstore_n 23 hC rfl (by decide) dX12_spareOf_23 (r_eqls (ls' := [(2, 1, v6), (0, 30, x0), (1, 0, x1)]) rfl ?_)
      refine r_aload_n 24 hC 1 rfl (Or.inl (by decide)) rfl dX12_spareOf_24 ?_
      refine r_iload_n 25 hC 2 rfl rfl dX12_spareOf_25 ?_
      refine r_iconst 26 hC (r32c rfl) dX12_spareOf_26 ?_
      refine r_callVI 27 hC [(0, x1), (0, 0)] [] rfl vl_X12_325 rfl h0 (by decide) (Nat.le_of_ble_eq_true rfl) (by decide) (by decide) dX12_spareOf_27 (t_X12_minutesOf x0 x1 0 M7 h0) (fun v8 M9 => ?_)
      refine r_lload_n 30 hC 0 rfl rfl dX12_spareOf_30 ?_
      refine r_lconst 31 hC (x := 0) ⟨by decide +kernel, r64c rfl⟩ dX12_spareOf_31 ?_
      refine r_jn (P := fun j57 => ∀ (q10 : Int), Bk E C 4 M (r0, M0) 57 [] [(0, q10), (0, v8)] M9 0 0 (j57 q10)) ?_ (fun j57 hj57 => ?_)
      · intro q10
        refine r_isub 57 hC dX12_spareOf_57 ?_
        exact r_ireturn 58 hC hq (by decide) (by decide) dX12_spareOf_58
      refine r_lcmp_ne 32 hC (tgt := 40) (by decide) dX12_spareOf_32 dX12_spareOf_33 ?_ ?_
      · refine r_aload_n 40 hC 1 rfl (Or.inl (by decide)) rfl dX12_spareOf_40 ?_
        refine r_iload_n 41 hC 2 rfl rfl dX12_spareOf_41 ?_
        refine r_iconst 42 hC (r32c rfl) dX12_spareOf_42 ?_
        refine r_callVP 43 hC [(0, x1), (0, 2)] [(0, v8)] rfl vl_X12_269 rfl h0 (by decide) (Nat.le_of_ble_eq_true rfl) (by decide) (by decide) dX12_spareOf_43 (t_X12_ofField x0 x1 2 M9 h0) (fun v11 => ?_)
        refine r_i2l 46 hC dX12_spareOf_46 ?_
        refine r_aload_n 47 hC 1 rfl (Or.inl (by decide)) rfl dX12_spareOf_47 ?_
        refine r_callVP 48 hC [] [(1, v11), (0, v8)] rfl vl_X12_331 rfl h0 (by decide) (Nat.le_of_ble_eq_true rfl) (by decide) (by decide) dX12_spareOf_48 (t_X12_litre x0 M9 h0) (fun v12 => ?_)
        refine r_lmul 51 hC dX12_spareOf_51 ?_
        refine r_lload_n 52 hC 0 rfl rfl dX12_spareOf_52 ?_
        refine r_callSP 53 hC [(1, w64 (v11 * v12)), (1, v6)] [(0, v8)] rfl sl_X12_365 rfl (by decide) (Nat.le_of_ble_eq_true rfl) (by decide) (by decide) dX12_spareOf_53 (t_X12_upTo (w64 (v11 * v12)) v6 M9) (fun v13 => ?_)
        refine r_l2i 56 hC dX12_spareOf_56 ?_
        exact r_sub [] rfl (hj57 (w32 v13))
      · refine r_iconst 36 hC (r32c rfl) dX12_spareOf_36 ?_
        refine r_goto 37 hC (tgt := 57) (by decide) dX12_spareOf_37 ?_
        exact r_sub [] rfl (hj57 0)
    · exact r_sub [] rfl (hj16 M5)

/-! WaterTurnsModel.spare(I)I -/
theorem dX12_spare_0 : decode cX12_spare 0 = .ok (.aload_n 0, 1) := by decide +kernel
theorem dX12_spare_1 : decode cX12_spare 1 = .ok (.iload_n 1, 1) := by decide +kernel
theorem dX12_spare_2 : decode cX12_spare 2 = .ok (.invokevirtual 266, 3) := by decide +kernel
theorem dX12_spare_5 : decode cX12_spare 5 = .ok (.ifCond .eq 15, 3) := by decide +kernel
theorem dX12_spare_8 : decode cX12_spare 8 = .ok (.aload_n 0, 1) := by decide +kernel
theorem dX12_spare_9 : decode cX12_spare 9 = .ok (.aload_n 0, 1) := by decide +kernel
theorem dX12_spare_10 : decode cX12_spare 10 = .ok (.iload_n 1, 1) := by decide +kernel
theorem dX12_spare_11 : decode cX12_spare 11 = .ok (.invokevirtual 374, 3) := by decide +kernel
theorem dX12_spare_14 : decode cX12_spare 14 = .ok (.invokevirtual 91, 3) := by decide +kernel
theorem dX12_spare_17 : decode cX12_spare 17 = .ok (.goto 8, 3) := by decide +kernel
theorem dX12_spare_20 : decode cX12_spare 20 = .ok (.aload_n 0, 1) := by decide +kernel
theorem dX12_spare_21 : decode cX12_spare 21 = .ok (.iconst 1, 1) := by decide +kernel
theorem dX12_spare_22 : decode cX12_spare 22 = .ok (.invokevirtual 87, 3) := by decide +kernel
theorem dX12_spare_25 : decode cX12_spare 25 = .ok (.ireturn, 1) := by decide +kernel
set_option maxRecDepth 100000 in
theorem t_X12_spare (x0 x1 : Int) (M : Mem) (h0 : x0 ≠ 0) : MtI yX12_spare cX12_spare 2 (some .int) 11 0 0 [(30, x0), (0, x1)] M 0 (f_X12_spare x0 x1 M) := by
  refine mk_I (by decide +kernel) (Nat.le_of_ble_eq_true rfl) (fun E C r0 M0 hC hq hin => ?_)
  refine r_eqls (ls' := [(0, 30, x0), (1, 0, x1)]) rfl ?_
  unfold f_X12_spare
  refine r_aload_n 0 hC 0 rfl (Or.inl (by decide)) rfl dX12_spare_0 ?_
  refine r_iload_n 1 hC 1 rfl rfl dX12_spare_1 ?_
  refine r_callVP 2 hC [(0, x1)] [] rfl vl_X12_266 rfl h0 (by decide) (Nat.le_of_ble_eq_true rfl) (by decide) (by decide) dX12_spare_2 (t_X12_isField x0 x1 M h0) (fun v1 => ?_)
  refine r_jn (P := fun j25 => ∀ (q2 : Int) (M3 : Mem), Bk E C 2 M (r0, M0) 25 [] [(0, q2)] M3 0 0 (j25 q2 M3)) ?_ (fun j25 hj25 => ?_)
  · intro q2 M3
    exact r_ireturn 25 hC hq (by decide) (by decide) dX12_spare_25
  refine r_if_eq 5 hC (tgt := 20) (by decide) dX12_spare_5 ?_ ?_
  · refine r_aload_n 20 hC 0 rfl (Or.inl (by decide)) rfl dX12_spare_20 ?_
    refine r_iconst 21 hC (r32c rfl) dX12_spare_21 ?_
    refine r_callVI 22 hC [(0, 1)] [] rfl vl_X12_87 rfl h0 (by decide) (Nat.le_of_ble_eq_true rfl) (by decide) (by decide) dX12_spare_22 (t_X12_refuse x0 1 M h0) (fun v4 M5 => ?_)
    exact r_sub [] rfl (hj25 v4 M5)
  · refine r_aload_n 8 hC 0 rfl (Or.inl (by decide)) rfl dX12_spare_8 ?_
    refine r_aload_n 9 hC 0 rfl (Or.inl (by decide)) rfl dX12_spare_9 ?_
    refine r_iload_n 10 hC 1 rfl rfl dX12_spare_10 ?_
    refine r_callVI 11 hC [(0, x1)] [(30, x0)] rfl vl_X12_374 rfl h0 (by decide) (Nat.le_of_ble_eq_true rfl) (by decide) (by decide) dX12_spare_11 (t_X12_spareOf x0 x1 M h0) (fun v6 M7 => ?_)
    refine r_callVI 14 hC [(0, v6)] [] rfl vl_X12_91 rfl h0 (by decide) (Nat.le_of_ble_eq_true rfl) (by decide) (by decide) dX12_spare_14 (t_X12_gives x0 v6 M7 h0) (fun v8 M9 => ?_)
    refine r_goto 17 hC (tgt := 25) (by decide) dX12_spare_17 ?_
    exact r_sub [] rfl (hj25 v8 M9)

/-! WaterTurnsModel.anyDry()Z -/
theorem dX12_anyDry_0 : decode cX12_anyDry 0 = .ok (.iconst 0, 1) := by decide +kernel
theorem dX12_anyDry_1 : decode cX12_anyDry 1 = .ok (.istore_n 1, 1) := by decide +kernel
theorem dX12_anyDry_2 : decode cX12_anyDry 2 = .ok (.iload_n 1, 1) := by decide +kernel
theorem dX12_anyDry_3 : decode cX12_anyDry 3 = .ok (.aload_n 0, 1) := by decide +kernel
theorem dX12_anyDry_4 : decode cX12_anyDry 4 = .ok (.getfield 7, 3) := by decide +kernel
theorem dX12_anyDry_7 : decode cX12_anyDry 7 = .ok (.iconst 5, 1) := by decide +kernel
theorem dX12_anyDry_8 : decode cX12_anyDry 8 = .ok (.iaload, 1) := by decide +kernel
theorem dX12_anyDry_9 : decode cX12_anyDry 9 = .ok (.if_icmp .ge 19, 3) := by decide +kernel
theorem dX12_anyDry_12 : decode cX12_anyDry 12 = .ok (.aload_n 0, 1) := by decide +kernel
theorem dX12_anyDry_13 : decode cX12_anyDry 13 = .ok (.iload_n 1, 1) := by decide +kernel
theorem dX12_anyDry_14 : decode cX12_anyDry 14 = .ok (.invokevirtual 368, 3) := by decide +kernel
theorem dX12_anyDry_17 : decode cX12_anyDry 17 = .ok (.ifCond .eq 5, 3) := by decide +kernel
theorem dX12_anyDry_20 : decode cX12_anyDry 20 = .ok (.iconst 1, 1) := by decide +kernel
theorem dX12_anyDry_21 : decode cX12_anyDry 21 = .ok (.ireturn, 1) := by decide +kernel
theorem dX12_anyDry_22 : decode cX12_anyDry 22 = .ok (.iinc 1 1, 3) := by decide +kernel
theorem dX12_anyDry_25 : decode cX12_anyDry 25 = .ok (.goto (-23), 3) := by decide +kernel
theorem dX12_anyDry_28 : decode cX12_anyDry 28 = .ok (.iconst 0, 1) := by decide +kernel
theorem dX12_anyDry_29 : decode cX12_anyDry 29 = .ok (.ireturn, 1) := by decide +kernel
set_option maxRecDepth 100000 in
theorem f_X12_anyDry_L2_ok {E : EnvT} {C : Cx} {Mi : Mem} {x0 : Int} (h0 : x0 ≠ 0) (hC : CxOK E C cX12_anyDry 2 yX12_anyDry.cls 6 0 0) {r0 : Int} {M0 : Mem} (hq : RQ E C 0 0 Mi (some .boolean) (some (0, r0)) M0) {k : Mem → Option (Int × Mem)} (hk : ∀ M7, Bk E C 2 Mi (r0, M0) 28 [] [] M7 0 0 (k M7)) : ∀ (n : Nat) (p1 : Int) (M2 : Mem), Bk E C 2 Mi (r0, M0) 2 [(0, 30, x0), (1, 0, p1)] [] M2 0 0 (f_X12_anyDry_L2 x0 k n p1 M2) := by
  intro n
  induction n with
  | zero =>
    intro p1 M2
    exact r_none
  | succ n ih =>
    intro p1 M2
    rw [f_X12_anyDry_L2]
    refine r_iload_n 2 hC 1 rfl rfl dX12_anyDry_2 ?_
    refine r_aload_n 3 hC 0 rfl (Or.inl (by decide)) rfl dX12_anyDry_3 ?_
    refine r_get 4 hC fd_10_0 fl_X12_7 dX12_anyDry_4 (fun v3 => ?_)
    refine r_iconst 7 hC (r32c rfl) dX12_anyDry_7 ?_
    refine r_iaload 8 hC dX12_anyDry_8 (fun v4 => ?_)
    refine r_icmp_ge 9 hC (tgt := 28) (by decide) dX12_anyDry_9 ?_ ?_
    · exact r_sub [] rfl (hk M2)
    · refine r_aload_n 12 hC 0 rfl (Or.inl (by decide)) rfl dX12_anyDry_12 ?_
      refine r_iload_n 13 hC 1 rfl rfl dX12_anyDry_13 ?_
      refine r_callVI 14 hC [(0, p1)] [] rfl vl_X12_368 rfl h0 (by decide) (Nat.le_of_ble_eq_true rfl) (by decide) (by decide) dX12_anyDry_14 (t_X12_isDry x0 p1 M2 h0) (fun v5 M6 => ?_)
      refine r_if_eq 17 hC (tgt := 22) (by decide) dX12_anyDry_17 ?_ ?_
      · refine r_iinc 22 hC 1 rfl (by decide) dX12_anyDry_22 (r_eqls (ls' := [(1, 0, w32 (p1 + 1)), (0, 30, x0)]) rfl ?_)
        refine r_goto 25 hC (tgt := 2) (by decide) dX12_anyDry_25 ?_
        exact r_sub [1, 0] rfl (ih (w32 (p1 + 1)) M6)
      · refine r_iconst 20 hC (r32c rfl) dX12_anyDry_20 ?_
        exact r_zreturn 21 hC hq (by decide) (by decide) dX12_anyDry_21
set_option maxRecDepth 100000 in
theorem t_X12_anyDry (x0 : Int) (M : Mem) (h0 : x0 ≠ 0) : MtI yX12_anyDry cX12_anyDry 2 (some .boolean) 6 0 0 [(30, x0)] M 0 (f_X12_anyDry x0 M) := by
  refine mk_I (by decide +kernel) (Nat.le_of_ble_eq_true rfl) (fun E C r0 M0 hC hq hin => ?_)
  refine r_eqls (ls' := [(0, 30, x0)]) rfl ?_
  unfold f_X12_anyDry
  refine r_iconst 0 hC (r32c rfl) dX12_anyDry_0 ?_
  refine r_istore_n 1 hC rfl (by decide) dX12_anyDry_1 (r_eqls (ls' := [(1, 0, 0), (0, 30, x0)]) rfl ?_)
  refine r_sub [1, 0] rfl (f_X12_anyDry_L2_ok h0 hC hq (fun M8 => ?_) KF 0 M)
  · refine r_iconst 28 hC (r32c rfl) dX12_anyDry_28 ?_
    exact r_zreturn 29 hC hq (by decide) (by decide) dX12_anyDry_29

/-! WaterTurnsModel.fewest()I -/
theorem dX12_fewest_0 : decode cX12_fewest 0 = .ok (.aload_n 0, 1) := by decide +kernel
theorem dX12_fewest_1 : decode cX12_fewest 1 = .ok (.invokevirtual 377, 3) := by decide +kernel
theorem dX12_fewest_4 : decode cX12_fewest 4 = .ok (.ifCond .eq 10, 3) := by decide +kernel
theorem dX12_fewest_7 : decode cX12_fewest 7 = .ok (.aload_n 0, 1) := by decide +kernel
theorem dX12_fewest_8 : decode cX12_fewest 8 = .ok (.bipush 7, 2) := by decide +kernel
theorem dX12_fewest_10 : decode cX12_fewest 10 = .ok (.invokevirtual 87, 3) := by decide +kernel
theorem dX12_fewest_13 : decode cX12_fewest 13 = .ok (.ireturn, 1) := by decide +kernel
theorem dX12_fewest_14 : decode cX12_fewest 14 = .ok (.iconst 0, 1) := by decide +kernel
theorem dX12_fewest_15 : decode cX12_fewest 15 = .ok (.istore_n 1, 1) := by decide +kernel
theorem dX12_fewest_16 : decode cX12_fewest 16 = .ok (.iconst 0, 1) := by decide +kernel
theorem dX12_fewest_17 : decode cX12_fewest 17 = .ok (.istore_n 2, 1) := by decide +kernel
theorem dX12_fewest_18 : decode cX12_fewest 18 = .ok (.iconst 0, 1) := by decide +kernel
theorem dX12_fewest_19 : decode cX12_fewest 19 = .ok (.istore_n 3, 1) := by decide +kernel
theorem dX12_fewest_20 : decode cX12_fewest 20 = .ok (.iload_n 3, 1) := by decide +kernel
theorem dX12_fewest_21 : decode cX12_fewest 21 = .ok (.aload_n 0, 1) := by decide +kernel
theorem dX12_fewest_22 : decode cX12_fewest 22 = .ok (.getfield 7, 3) := by decide +kernel
theorem dX12_fewest_25 : decode cX12_fewest 25 = .ok (.iconst 5, 1) := by decide +kernel
theorem dX12_fewest_26 : decode cX12_fewest 26 = .ok (.iaload, 1) := by decide +kernel
theorem dX12_fewest_27 : decode cX12_fewest 27 = .ok (.if_icmp .ge 25, 3) := by decide +kernel
theorem dX12_fewest_30 : decode cX12_fewest 30 = .ok (.iload_n 1, 1) := by decide +kernel
theorem dX12_fewest_31 : decode cX12_fewest 31 = .ok (.aload_n 0, 1) := by decide +kernel
theorem dX12_fewest_32 : decode cX12_fewest 32 = .ok (.iload_n 3, 1) := by decide +kernel
theorem dX12_fewest_33 : decode cX12_fewest 33 = .ok (.invokevirtual 371, 3) := by decide +kernel
theorem dX12_fewest_36 : decode cX12_fewest 36 = .ok (.iadd, 1) := by decide +kernel
theorem dX12_fewest_37 : decode cX12_fewest 37 = .ok (.istore_n 1, 1) := by decide +kernel
theorem dX12_fewest_38 : decode cX12_fewest 38 = .ok (.iload_n 2, 1) := by decide +kernel
theorem dX12_fewest_39 : decode cX12_fewest 39 = .ok (.aload_n 0, 1) := by decide +kernel
theorem dX12_fewest_40 : decode cX12_fewest 40 = .ok (.iload_n 3, 1) := by decide +kernel
theorem dX12_fewest_41 : decode cX12_fewest 41 = .ok (.invokevirtual 374, 3) := by decide +kernel
theorem dX12_fewest_44 : decode cX12_fewest 44 = .ok (.iadd, 1) := by decide +kernel
theorem dX12_fewest_45 : decode cX12_fewest 45 = .ok (.istore_n 2, 1) := by decide +kernel
theorem dX12_fewest_46 : decode cX12_fewest 46 = .ok (.iinc 3 1, 3) := by decide +kernel
theorem dX12_fewest_49 : decode cX12_fewest 49 = .ok (.goto (-29), 3) := by decide +kernel
theorem dX12_fewest_52 : decode cX12_fewest 52 = .ok (.iload_n 2, 1) := by decide +kernel
theorem dX12_fewest_53 : decode cX12_fewest 53 = .ok (.iload_n 1, 1) := by decide +kernel
theorem dX12_fewest_54 : decode cX12_fewest 54 = .ok (.if_icmp .ge 12, 3) := by decide +kernel
theorem dX12_fewest_57 : decode cX12_fewest 57 = .ok (.aload_n 0, 1) := by decide +kernel
theorem dX12_fewest_58 : decode cX12_fewest 58 = .ok (.bipush 6, 2) := by decide +kernel
theorem dX12_fewest_60 : decode cX12_fewest 60 = .ok (.invokevirtual 87, 3) := by decide +kernel
theorem dX12_fewest_63 : decode cX12_fewest 63 = .ok (.goto 8, 3) := by decide +kernel
theorem dX12_fewest_66 : decode cX12_fewest 66 = .ok (.aload_n 0, 1) := by decide +kernel
theorem dX12_fewest_67 : decode cX12_fewest 67 = .ok (.iload_n 1, 1) := by decide +kernel
theorem dX12_fewest_68 : decode cX12_fewest 68 = .ok (.invokevirtual 91, 3) := by decide +kernel
theorem dX12_fewest_71 : decode cX12_fewest 71 = .ok (.ireturn, 1) := by decide +kernel
set_option maxRecDepth 100000 in
theorem f_X12_fewest_L20_ok {E : EnvT} {C : Cx} {Mi : Mem} {x0 : Int} (h0 : x0 ≠ 0) (hC : CxOK E C cX12_fewest 4 yX12_fewest.cls 11 0 0) {r0 : Int} {M0 : Mem} (hq : RQ E C 0 0 Mi (some .int) (some (0, r0)) M0) {k : Int → Int → Mem → Option (Int × Mem)} (hk : ∀ q15 q16 M17, Bk E C 4 Mi (r0, M0) 52 [(0, 30, x0), (1, 0, q15), (2, 0, q16)] [] M17 0 0 (k q15 q16 M17)) : ∀ (n : Nat) (p3 : Int) (p4 : Int) (p5 : Int) (M6 : Mem), Bk E C 4 Mi (r0, M0) 20 [(0, 30, x0), (1, 0, p3), (2, 0, p4), (3, 0, p5)] [] M6 0 0 (f_X12_fewest_L20 x0 k n p3 p4 p5 M6) := by
  intro n
  induction n with
  | zero =>
    intro p3 p4 p5 M6
    exact r_none
  | succ n ih =>
    intro p3 p4 p5 M6
    rw [f_X12_fewest_L20]
    refine r_iload_n 20 hC 3 rfl rfl dX12_fewest_20 ?_
    refine r_aload_n 21 hC 0 rfl (Or.inl (by decide)) rfl dX12_fewest_21 ?_
    refine r_get 22 hC fd_10_0 fl_X12_7 dX12_fewest_22 (fun v7 => ?_)
    refine r_iconst 25 hC (r32c rfl) dX12_fewest_25 ?_
    refine r_iaload 26 hC dX12_fewest_26 (fun v8 => ?_)
    refine r_icmp_ge 27 hC (tgt := 52) (by decide) dX12_fewest_27 ?_ ?_
    · exact r_sub [0, 1, 2] rfl (hk p3 p4 M6)
    · refine r_iload_n 30 hC 1 rfl rfl dX12_fewest_30 ?_
      refine r_aload_n 31 hC 0 rfl (Or.inl (by decide)) rfl dX12_fewest_31 ?_
      refine r_iload_n 32 hC 3 rfl rfl dX12_fewest_32 ?_
      refine r_callVI 33 hC [(0, p5)] [(0, p3)] rfl vl_X12_371 rfl h0 (by decide) (Nat.le_of_ble_eq_true rfl) (by decide) (by decide) dX12_fewest_33 (t_X12_lackingOf x0 p5 M6 h0) (fun v9 M10 => ?_)
      refine r_iadd 36 hC dX12_fewest_36 ?_
      refine r_istore_nL 37 hC rfl (by decide) dX12_fewest_37 (fun v11 => r_eqls (ls' := [(1, 0, v11), (0, 30, x0), (2, 0, p4), (3, 0, p5)]) rfl ?_)
      refine r_iload_n 38 hC 2 rfl rfl dX12_fewest_38 ?_
      refine r_aload_n 39 hC 1 rfl (Or.inl (by decide)) rfl dX12_fewest_39 ?_
      refine r_iload_n 40 hC 3 rfl rfl dX12_fewest_40 ?_
      refine r_callVI 41 hC [(0, p5)] [(0, p4)] rfl vl_X12_374 rfl h0 (by decide) (Nat.le_of_ble_eq_true rfl) (by decide) (by decide) dX12_fewest_41 (t_X12_spareOf x0 p5 M10 h0) (fun v12 M13 => ?_)
      refine r_iadd 44 hC dX12_fewest_44 ?_
      refine r_istore_nL 45 hC rfl (by decide) dX12_fewest_45 (fun v14 => r_eqls (ls' := [(2, 0, v14), (1, 0, v11), (0, 30, x0), (3, 0, p5)]) rfl ?_)
      refine r_iinc 46 hC 3 rfl (by decide) dX12_fewest_46 (r_eqls (ls' := [(3, 0, w32 (p5 + 1)), (2, 0, v14), (1, 0, v11), (0, 30, x0)]) rfl ?_)
      refine r_goto 49 hC (tgt := 20) (by decide) dX12_fewest_49 ?_
      exact r_sub [3, 2, 1, 0] rfl (ih v11 v14 (w32 (p5 + 1)) M13)
set_option maxRecDepth 100000 in
theorem t_X12_fewest (x0 : Int) (M : Mem) (h0 : x0 ≠ 0) : MtI yX12_fewest cX12_fewest 4 (some .int) 11 0 0 [(30, x0)] M 0 (f_X12_fewest x0 M) := by
  refine mk_I (by decide +kernel) (Nat.le_of_ble_eq_true rfl) (fun E C r0 M0 hC hq hin => ?_)
  refine r_eqls (ls' := [(0, 30, x0)]) rfl ?_
  unfold f_X12_fewest
  refine r_aload_n 0 hC 0 rfl (Or.inl (by decide)) rfl dX12_fewest_0 ?_
  refine r_callVI 1 hC [] [] rfl vl_X12_377 rfl h0 (by decide) (Nat.le_of_ble_eq_true rfl) (by decide) (by decide) dX12_fewest_1 (t_X12_anyDry x0 M h0) (fun v1 M2 => ?_)
  refine r_if_eq 4 hC (tgt := 14) (by decide) dX12_fewest_4 ?_ ?_
  · refine r_iconst 14 hC (r32c rfl) dX12_fewest_14 ?_
    refine r_istore_n 15 hC rfl (by decide) dX12_fewest_15 (r_eqls (ls' := [(1, 0, 0), (0, 30, x0)]) rfl ?_)
    refine r_iconst 16 hC (r32c rfl) dX12_fewest_16 ?_
    refine r_istore_n 17 hC rfl (by decide) dX12_fewest_17 (r_eqls (ls' := [(2, 0, 0), (1, 0, 0), (0, 30, x0)]) rfl ?_)
    refine r_iconst 18 hC (r32c rfl) dX12_fewest_18 ?_
    refine r_istore_n 19 hC rfl (by decide) dX12_fewest_19 (r_eqls (ls' := [(3, 0, 0), (2, 0, 0), (1, 0, 0), (0, 30, x0)]) rfl ?_)
    refine r_sub [3, 2, 1, 0] rfl (f_X12_fewest_L20_ok h0 hC hq (fun q18 q19 M20 => ?_) KF 0 0 0 M2)
    · refine r_iload_n 52 hC 2 rfl rfl dX12_fewest_52 ?_
      refine r_iload_n 53 hC 1 rfl rfl dX12_fewest_53 ?_
      refine r_jn (P := fun j71 => ∀ (q21 : Int) (M22 : Mem), Bk E C 4 M (r0, M0) 71 [] [(0, q21)] M22 0 0 (j71 q21 M22)) ?_ (fun j71 hj71 => ?_)
      · intro q21 M22
        exact r_ireturn 71 hC hq (by decide) (by decide) dX12_fewest_71
      refine r_icmp_ge 54 hC (tgt := 66) (by decide) dX12_fewest_54 ?_ ?_
      · refine r_aload_n 66 hC 0 rfl (Or.inl (by decide)) rfl dX12_fewest_66 ?_
        refine r_iload_n 67 hC 1 rfl rfl dX12_fewest_67 ?_
        refine r_callVI 68 hC [(0, q18)] [] rfl vl_X12_91 rfl h0 (by decide) (Nat.le_of_ble_eq_true rfl) (by decide) (by decide) dX12_fewest_68 (t_X12_gives x0 q18 M20 h0) (fun v23 M24 => ?_)
        exact r_sub [] rfl (hj71 v23 M24)
      · refine r_aload_n 57 hC 0 rfl (Or.inl (by decide)) rfl dX12_fewest_57 ?_
        refine r_bipush 58 hC kb_6 dX12_fewest_58 ?_
        refine r_callVI 60 hC [(0, 6)] [] rfl vl_X12_87 rfl h0 (by decide) (Nat.le_of_ble_eq_true rfl) (by decide) (by decide) dX12_fewest_60 (t_X12_refuse x0 6 M20 h0) (fun v25 M26 => ?_)
        refine r_goto 63 hC (tgt := 71) (by decide) dX12_fewest_63 ?_
        exact r_sub [] rfl (hj71 v25 M26)
  · refine r_aload_n 7 hC 0 rfl (Or.inl (by decide)) rfl dX12_fewest_7 ?_
    refine r_bipush 8 hC kb_7 dX12_fewest_8 ?_
    refine r_callVI 10 hC [(0, 7)] [] rfl vl_X12_87 rfl h0 (by decide) (Nat.le_of_ble_eq_true rfl) (by decide) (by decide) dX12_fewest_10 (t_X12_refuse x0 7 M2 h0) (fun v27 M28 => ?_)
    exact r_ireturn 13 hC hq (by decide) (by decide) dX12_fewest_13

/-! WaterTurnsModel.neediest()I -/
theorem dX12_neediest_0 : decode cX12_neediest 0 = .ok (.aload_n 0, 1) := by decide +kernel
theorem dX12_neediest_1 : decode cX12_neediest 1 = .ok (.invokevirtual 377, 3) := by decide +kernel
theorem dX12_neediest_4 : decode cX12_neediest 4 = .ok (.ifCond .eq 10, 3) := by decide +kernel
theorem dX12_neediest_7 : decode cX12_neediest 7 = .ok (.aload_n 0, 1) := by decide +kernel
theorem dX12_neediest_8 : decode cX12_neediest 8 = .ok (.bipush 7, 2) := by decide +kernel
theorem dX12_neediest_10 : decode cX12_neediest 10 = .ok (.invokevirtual 87, 3) := by decide +kernel
theorem dX12_neediest_13 : decode cX12_neediest 13 = .ok (.ireturn, 1) := by decide +kernel
theorem dX12_neediest_14 : decode cX12_neediest 14 = .ok (.iconst (-1), 1) := by decide +kernel
theorem dX12_neediest_15 : decode cX12_neediest 15 = .ok (.istore_n 1, 1) := by decide +kernel
theorem dX12_neediest_16 : decode cX12_neediest 16 = .ok (.iconst 0, 1) := by decide +kernel
theorem dX12_neediest_17 : decode cX12_neediest 17 = .ok (.istore_n 2, 1) := by decide +kernel
theorem dX12_neediest_18 : decode cX12_neediest 18 = .ok (.iload_n 2, 1) := by decide +kernel
theorem dX12_neediest_19 : decode cX12_neediest 19 = .ok (.aload_n 0, 1) := by decide +kernel
theorem dX12_neediest_20 : decode cX12_neediest 20 = .ok (.getfield 7, 3) := by decide +kernel
theorem dX12_neediest_23 : decode cX12_neediest 23 = .ok (.iconst 5, 1) := by decide +kernel
theorem dX12_neediest_24 : decode cX12_neediest 24 = .ok (.iaload, 1) := by decide +kernel
theorem dX12_neediest_25 : decode cX12_neediest 25 = .ok (.if_icmp .ge 33, 3) := by decide +kernel
theorem dX12_neediest_28 : decode cX12_neediest 28 = .ok (.aload_n 0, 1) := by decide +kernel
theorem dX12_neediest_29 : decode cX12_neediest 29 = .ok (.iload_n 2, 1) := by decide +kernel
theorem dX12_neediest_30 : decode cX12_neediest 30 = .ok (.invokevirtual 371, 3) := by decide +kernel
theorem dX12_neediest_33 : decode cX12_neediest 33 = .ok (.iload_n 1, 1) := by decide +kernel
theorem dX12_neediest_34 : decode cX12_neediest 34 = .ok (.iconst (-1), 1) := by decide +kernel
theorem dX12_neediest_35 : decode cX12_neediest 35 = .ok (.if_icmp .ne 7, 3) := by decide +kernel
theorem dX12_neediest_38 : decode cX12_neediest 38 = .ok (.iconst 0, 1) := by decide +kernel
theorem dX12_neediest_39 : decode cX12_neediest 39 = .ok (.goto 8, 3) := by decide +kernel
theorem dX12_neediest_42 : decode cX12_neediest 42 = .ok (.aload_n 0, 1) := by decide +kernel
theorem dX12_neediest_43 : decode cX12_neediest 43 = .ok (.iload_n 1, 1) := by decide +kernel
theorem dX12_neediest_44 : decode cX12_neediest 44 = .ok (.invokevirtual 371, 3) := by decide +kernel
theorem dX12_neediest_47 : decode cX12_neediest 47 = .ok (.if_icmp .le 5, 3) := by decide +kernel
theorem dX12_neediest_50 : decode cX12_neediest 50 = .ok (.iload_n 2, 1) := by decide +kernel
theorem dX12_neediest_51 : decode cX12_neediest 51 = .ok (.istore_n 1, 1) := by decide +kernel
theorem dX12_neediest_52 : decode cX12_neediest 52 = .ok (.iinc 2 1, 3) := by decide +kernel
theorem dX12_neediest_55 : decode cX12_neediest 55 = .ok (.goto (-37), 3) := by decide +kernel
theorem dX12_neediest_58 : decode cX12_neediest 58 = .ok (.aload_n 0, 1) := by decide +kernel
theorem dX12_neediest_59 : decode cX12_neediest 59 = .ok (.iload_n 1, 1) := by decide +kernel
theorem dX12_neediest_60 : decode cX12_neediest 60 = .ok (.invokevirtual 263, 3) := by decide +kernel
theorem dX12_neediest_63 : decode cX12_neediest 63 = .ok (.ireturn, 1) := by decide +kernel
set_option maxRecDepth 100000 in
theorem f_X12_neediest_L18_ok {E : EnvT} {C : Cx} {Mi : Mem} {x0 : Int} (h0 : x0 ≠ 0) (hC : CxOK E C cX12_neediest 3 yX12_neediest.cls 10 0 0) {r0 : Int} {M0 : Mem} (hq : RQ E C 0 0 Mi (some .int) (some (0, r0)) M0) {k : Int → Mem → Option (Int × Mem)} (hk : ∀ q15 M16, Bk E C 3 Mi (r0, M0) 58 [(0, 30, x0), (1, 0, q15)] [] M16 0 0 (k q15 M16)) : ∀ (n : Nat) (p3 : Int) (p4 : Int) (M5 : Mem), Bk E C 3 Mi (r0, M0) 18 [(0, 30, x0), (1, 0, p3), (2, 0, p4)] [] M5 0 0 (f_X12_neediest_L18 x0 k n p3 p4 M5) := by
  intro n
  induction n with
  | zero =>
    intro p3 p4 M5
    exact r_none
  | succ n ih =>
    intro p3 p4 M5
    rw [f_X12_neediest_L18]
    refine r_iload_n 18 hC 2 rfl rfl dX12_neediest_18 ?_
    refine r_aload_n 19 hC 0 rfl (Or.inl (by decide)) rfl dX12_neediest_19 ?_
    refine r_get 20 hC fd_10_0 fl_X12_7 dX12_neediest_20 (fun v6 => ?_)
    refine r_iconst 23 hC (r32c rfl) dX12_neediest_23 ?_
    refine r_iaload 24 hC dX12_neediest_24 (fun v7 => ?_)
    refine r_icmp_ge 25 hC (tgt := 58) (by decide) dX12_neediest_25 ?_ ?_
    · exact r_sub [0, 1] rfl (hk p3 M5)
    · refine r_aload_n 28 hC 0 rfl (Or.inl (by decide)) rfl dX12_neediest_28 ?_
      refine r_iload_n 29 hC 2 rfl rfl dX12_neediest_29 ?_
      refine r_callVI 30 hC [(0, p4)] [] rfl vl_X12_371 rfl h0 (by decide) (Nat.le_of_ble_eq_true rfl) (by decide) (by decide) dX12_neediest_30 (t_X12_lackingOf x0 p4 M5 h0) (fun v8 M9 => ?_)
      refine r_iload_n 33 hC 1 rfl rfl dX12_neediest_33 ?_
      refine r_iconst 34 hC (r32c rfl) dX12_neediest_34 ?_
      refine r_jn (P := fun j47 => ∀ (q10 : Int) (M11 : Mem), Bk E C 3 Mi (r0, M0) 47 [(0, 30, x0), (1, 0, p3), (2, 0, p4)] [(0, q10), (0, v8)] M11 0 0 (j47 q10 M11)) ?_ (fun j47 hj47 => ?_)
      · intro q10 M11
        refine r_jn (P := fun j52 => ∀ (q12 : Int), Bk E C 3 Mi (r0, M0) 52 [(0, 30, x0), (1, 0, q12), (2, 0, p4)] [] M11 0 0 (j52 q12)) ?_ (fun j52 hj52 => ?_)
        · intro q12
          refine r_iinc 52 hC 2 rfl (by decide) dX12_neediest_52 (r_eqls (ls' := [(2, 0, w32 (p4 + 1)), (0, 30, x0), (1, 0, q12)]) rfl ?_)
          refine r_goto 55 hC (tgt := 18) (by decide) dX12_neediest_55 ?_
          exact r_sub [1, 2, 0] rfl (ih q12 (w32 (p4 + 1)) M11)
        refine r_icmp_le 47 hC (tgt := 52) (by decide) dX12_neediest_47 ?_ ?_
        · exact hj52 p3
        · refine r_iload_n 50 hC 2 rfl rfl dX12_neediest_50 ?_
          refine r_istore_n 51 hC rfl (by decide) dX12_neediest_51 (r_eqls (ls' := [(1, 0, p4), (0, 30, x0), (2, 0, p4)]) rfl ?_)
          exact r_sub [1, 0, 2] rfl (hj52 p4)
      refine r_icmp_ne 35 hC (tgt := 42) (by decide) dX12_neediest_35 ?_ ?_
      · refine r_aload_n 42 hC 0 rfl (Or.inl (by decide)) rfl dX12_neediest_42 ?_
        refine r_iload_n 43 hC 1 rfl rfl dX12_neediest_43 ?_
        refine r_callVI 44 hC [(0, p3)] [(0, v8)] rfl vl_X12_371 rfl h0 (by decide) (Nat.le_of_ble_eq_true rfl) (by decide) (by decide) dX12_neediest_44 (t_X12_lackingOf x0 p3 M9 h0) (fun v13 M14 => ?_)
        exact hj47 v13 M14
      · refine r_iconst 38 hC (r32c rfl) dX12_neediest_38 ?_
        refine r_goto 39 hC (tgt := 47) (by decide) dX12_neediest_39 ?_
        exact hj47 0 M9
set_option maxRecDepth 100000 in
theorem t_X12_neediest (x0 : Int) (M : Mem) (h0 : x0 ≠ 0) : MtI yX12_neediest cX12_neediest 3 (some .int) 10 0 0 [(30, x0)] M 0 (f_X12_neediest x0 M) := by
  refine mk_I (by decide +kernel) (Nat.le_of_ble_eq_true rfl) (fun E C r0 M0 hC hq hin => ?_)
  refine r_eqls (ls' := [(0, 30, x0)]) rfl ?_
  unfold f_X12_neediest
  refine r_aload_n 0 hC 0 rfl (Or.inl (by decide)) rfl dX12_neediest_0 ?_
  refine r_callVI 1 hC [] [] rfl vl_X12_377 rfl h0 (by decide) (Nat.le_of_ble_eq_true rfl) (by decide) (by decide) dX12_neediest_1 (t_X12_anyDry x0 M h0) (fun v1 M2 => ?_)
  refine r_if_eq 4 hC (tgt := 14) (by decide) dX12_neediest_4 ?_ ?_
  · refine r_iconst 14 hC (r32c rfl) dX12_neediest_14 ?_
    refine r_istore_n 15 hC rfl (by decide) dX12_neediest_15 (r_eqls (ls' := [(1, 0, (-1)), (0, 30, x0)]) rfl ?_)
    refine r_iconst 16 hC (r32c rfl) dX12_neediest_16 ?_
    refine r_istore_n 17 hC rfl (by decide) dX12_neediest_17 (r_eqls (ls' := [(2, 0, 0), (1, 0, (-1)), (0, 30, x0)]) rfl ?_)
    refine r_sub [2, 1, 0] rfl (f_X12_neediest_L18_ok h0 hC hq (fun q17 M18 => ?_) KF (-1) 0 M2)
    · refine r_aload_n 58 hC 0 rfl (Or.inl (by decide)) rfl dX12_neediest_58 ?_
      refine r_iload_n 59 hC 1 rfl rfl dX12_neediest_59 ?_
      refine r_callVI 60 hC [(0, q17)] [] rfl vl_X12_263 rfl h0 (by decide) (Nat.le_of_ble_eq_true rfl) (by decide) (by decide) dX12_neediest_60 (t_X12_orNone x0 q17 M18 h0) (fun v19 M20 => ?_)
      exact r_ireturn 63 hC hq (by decide) (by decide) dX12_neediest_63
  · refine r_aload_n 7 hC 0 rfl (Or.inl (by decide)) rfl dX12_neediest_7 ?_
    refine r_bipush 8 hC kb_7 dX12_neediest_8 ?_
    refine r_callVI 10 hC [(0, 7)] [] rfl vl_X12_87 rfl h0 (by decide) (Nat.le_of_ble_eq_true rfl) (by decide) (by decide) dX12_neediest_10 (t_X12_refuse x0 7 M2 h0) (fun v21 M22 => ?_)
    exact r_ireturn 13 hC hq (by decide) (by decide) dX12_neediest_13
