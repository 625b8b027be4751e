/-! WaterTurns.mending()I -/
theorem dX11_mending_0 : decode cX11_mending 0 = .ok (.aload_n 0, 1) := by decide +kernel
theorem dX11_mending_1 : decode cX11_mending 1 = .ok (.invokevirtual 284, 3) := by decide +kernel
theorem dX11_mending_4 : decode cX11_mending 4 = .ok (.astore_n 1, 1) := by decide +kernel
theorem dX11_mending_5 : decode cX11_mending 5 = .ok (.aload_n 1, 1) := by decide +kernel
theorem dX11_mending_6 : decode cX11_mending 6 = .ok (.aload_n 0, 1) := by decide +kernel
theorem dX11_mending_7 : decode cX11_mending 7 = .ok (.getfield 26, 3) := by decide +kernel
theorem dX11_mending_10 : decode cX11_mending 10 = .ok (.getfield 111, 3) := by decide +kernel
theorem dX11_mending_13 : decode cX11_mending 13 = .ok (.invokevirtual 345, 3) := by decide +kernel
theorem dX11_mending_16 : decode cX11_mending 16 = .ok (.lstore_n 2, 1) := by decide +kernel
theorem dX11_mending_17 : decode cX11_mending 17 = .ok (.lconst 0, 1) := by decide +kernel
theorem dX11_mending_18 : decode cX11_mending 18 = .ok (.lstore 4, 2) := by decide +kernel
theorem dX11_mending_20 : decode cX11_mending 20 = .ok (.iconst (-1), 1) := by decide +kernel
theorem dX11_mending_21 : decode cX11_mending 21 = .ok (.istore 6, 2) := by decide +kernel
theorem dX11_mending_23 : decode cX11_mending 23 = .ok (.iconst 0, 1) := by decide +kernel
theorem dX11_mending_24 : decode cX11_mending 24 = .ok (.istore 7, 2) := by decide +kernel
theorem dX11_mending_26 : decode cX11_mending 26 = .ok (.iload 7, 2) := by decide +kernel
theorem dX11_mending_28 : decode cX11_mending 28 = .ok (.aload_n 0, 1) := by decide +kernel
theorem dX11_mending_29 : decode cX11_mending 29 = .ok (.getfield 26, 3) := by decide +kernel
theorem dX11_mending_32 : decode cX11_mending 32 = .ok (.getfield 111, 3) := by decide +kernel
theorem dX11_mending_35 : decode cX11_mending 35 = .ok (.getfield 114, 3) := by decide +kernel
theorem dX11_mending_38 : decode cX11_mending 38 = .ok (.if_icmp .ge 63, 3) := by decide +kernel
theorem dX11_mending_41 : decode cX11_mending 41 = .ok (.aload_n 1, 1) := by decide +kernel
theorem dX11_mending_42 : decode cX11_mending 42 = .ok (.aload_n 0, 1) := by decide +kernel
theorem dX11_mending_43 : decode cX11_mending 43 = .ok (.getfield 26, 3) := by decide +kernel
theorem dX11_mending_46 : decode cX11_mending 46 = .ok (.getfield 111, 3) := by decide +kernel
theorem dX11_mending_49 : decode cX11_mending 49 = .ok (.aload_n 0, 1) := by decide +kernel
theorem dX11_mending_50 : decode cX11_mending 50 = .ok (.getfield 26, 3) := by decide +kernel
theorem dX11_mending_53 : decode cX11_mending 53 = .ok (.getfield 206, 3) := by decide +kernel
theorem dX11_mending_56 : decode cX11_mending 56 = .ok (.getfield 209, 3) := by decide +kernel
theorem dX11_mending_59 : decode cX11_mending 59 = .ok (.iload 7, 2) := by decide +kernel
theorem dX11_mending_61 : decode cX11_mending 61 = .ok (.invokevirtual 349, 3) := by decide +kernel
theorem dX11_mending_64 : decode cX11_mending 64 = .ok (.aload_n 1, 1) := by decide +kernel
theorem dX11_mending_65 : decode cX11_mending 65 = .ok (.aload_n 0, 1) := by decide +kernel
theorem dX11_mending_66 : decode cX11_mending 66 = .ok (.getfield 26, 3) := by decide +kernel
theorem dX11_mending_69 : decode cX11_mending 69 = .ok (.getfield 111, 3) := by decide +kernel
theorem dX11_mending_72 : decode cX11_mending 72 = .ok (.invokevirtual 345, 3) := by decide +kernel
theorem dX11_mending_75 : decode cX11_mending 75 = .ok (.lload_n 2, 1) := by decide +kernel
theorem dX11_mending_76 : decode cX11_mending 76 = .ok (.lsub, 1) := by decide +kernel
theorem dX11_mending_77 : decode cX11_mending 77 = .ok (.lstore 8, 2) := by decide +kernel
theorem dX11_mending_79 : decode cX11_mending 79 = .ok (.lload 8, 2) := by decide +kernel
theorem dX11_mending_81 : decode cX11_mending 81 = .ok (.lload 4, 2) := by decide +kernel
theorem dX11_mending_83 : decode cX11_mending 83 = .ok (.lcmp, 1) := by decide +kernel
theorem dX11_mending_84 : decode cX11_mending 84 = .ok (.ifCond .le 11, 3) := by decide +kernel
theorem dX11_mending_87 : decode cX11_mending 87 = .ok (.lload 8, 2) := by decide +kernel
theorem dX11_mending_89 : decode cX11_mending 89 = .ok (.lstore 4, 2) := by decide +kernel
theorem dX11_mending_91 : decode cX11_mending 91 = .ok (.iload 7, 2) := by decide +kernel
theorem dX11_mending_93 : decode cX11_mending 93 = .ok (.istore 6, 2) := by decide +kernel
theorem dX11_mending_95 : decode cX11_mending 95 = .ok (.iinc 7 1, 3) := by decide +kernel
theorem dX11_mending_98 : decode cX11_mending 98 = .ok (.goto (-72), 3) := by decide +kernel
theorem dX11_mending_101 : decode cX11_mending 101 = .ok (.aload_n 0, 1) := by decide +kernel
theorem dX11_mending_102 : decode cX11_mending 102 = .ok (.iload 6, 2) := by decide +kernel
theorem dX11_mending_104 : decode cX11_mending 104 = .ok (.lload 4, 2) := by decide +kernel
theorem dX11_mending_106 : decode cX11_mending 106 = .ok (.invokevirtual 353, 3) := by decide +kernel
theorem dX11_mending_109 : decode cX11_mending 109 = .ok (.ireturn, 1) := by decide +kernel
set_option maxRecDepth 100000 in
theorem f_X11_mending_L26_ok {E : EnvT} {C : Cx} {Mi : Mem} {x0 : Int} (h0 : x0 ≠ 0) (hC : CxOK E C cX11_mending 10 yX11_mending.cls 6 0 0) {r0 : Int} {M0 : Mem} (hq : RQ E C 0 0 Mi (some .int) (some (0, r0)) M0) {v1 v6 : Int} {k : Int → Int → Mem → Option (Int × Mem)} (hk : ∀ q27 q28 M29, Bk E C 10 Mi (r0, M0) 101 [(0, 29, x0), (4, 1, q27), (6, 0, q28)] [] M29 0 0 (k q27 q28 M29)) : ∀ (n : Nat) (p7 : Int) (p8 : Int) (p9 : Int) (M10 : Mem), Bk E C 10 Mi (r0, M0) 26 [(0, 29, x0), (1, 24, v1), (2, 1, v6), (4, 1, p7), (6, 0, p8), (7, 0, p9)] [] M10 0 0 (f_X11_mending_L26 v1 v6 x0 k n p7 p8 p9 M10) := by
  intro n
  induction n with
  | zero =>
    intro p7 p8 p9 M10
    exact r_none
  | succ n ih =>
    intro p7 p8 p9 M10
    rw [f_X11_mending_L26]
    refine r_iload 26 hC 5 rfl dX11_mending_26 ?_
    refine r_aload_n 28 hC 0 rfl (Or.inl (by decide)) rfl dX11_mending_28 ?_
    refine r_get 29 hC fd_9_2 fl_X11_26 dX11_mending_29 (fun v11 => ?_)
    refine r_get 32 hC fd_8_0 fl_X11_111 dX11_mending_32 (fun v12 => ?_)
    refine r_get 35 hC fd_7_3 fl_X11_114 dX11_mending_35 (fun v13 => ?_)
    refine r_icmp_ge 38 hC (tgt := 101) (by decide) dX11_mending_38 ?_ ?_
    · exact r_sub [0, 3, 4] rfl (hk p7 p8 M10)
    · refine r_aload_n 41 hC 1 rfl (Or.inl (by decide)) rfl dX11_mending_41 ?_
      refine r_aload_n 42 hC 0 rfl (Or.inl (by decide)) rfl dX11_mending_42 ?_
      refine r_get 43 hC fd_9_2 fl_X11_26 dX11_mending_43 (fun v14 => ?_)
      refine r_get 46 hC fd_8_0 fl_X11_111 dX11_mending_46 (fun v15 => ?_)
      refine r_aload_n 49 hC 0 rfl (Or.inl (by decide)) rfl dX11_mending_49 ?_
      refine r_get 50 hC fd_9_2 fl_X11_26 dX11_mending_50 (fun v16 => ?_)
      refine r_get 53 hC fd_8_2 fl_X11_206 dX11_mending_53 (fun v17 => ?_)
      refine r_get 56 hC fd_3_0 fl_X11_209 dX11_mending_56 (fun v18 => ?_)
      refine r_iload 59 hC 5 rfl dX11_mending_59 ?_
      refine r_nn (fun hn19 => ?_)
      refine r_callVV 61 hC [(27, v15), (0, v18), (0, p9)] [] rfl vl_X11_349 rfl hn19 (by decide) (Nat.le_of_ble_eq_true rfl) (by decide) (by decide) dX11_mending_61 (t_X5_flow v1 v15 v18 p9 M10 hn19) (fun M20 => ?_)
      refine r_aload_n 64 hC 1 rfl (Or.inl (by decide)) rfl dX11_mending_64 ?_
      refine r_aload_n 65 hC 0 rfl (Or.inl (by decide)) rfl dX11_mending_65 ?_
      refine r_get 66 hC fd_9_2 fl_X11_26 dX11_mending_66 (fun v21 => ?_)
      refine r_get 69 hC fd_8_0 fl_X11_111 dX11_mending_69 (fun v22 => ?_)
      refine r_callVP 72 hC [(27, v22)] [] rfl vl_X11_345 rfl hn19 (by decide) (Nat.le_of_ble_eq_true rfl) (by decide) (by decide) dX11_mending_72 (t_X5_allWater v1 v22 M20 hn19) (fun v23 => ?_)
      refine r_lload_n 75 hC 2 rfl rfl dX11_mending_75 ?_
      refine r_lsub 76 hC dX11_mending_76 ?_
      refine r_lstoreL 77 hC (by decide) dX11_mending_77 (fun v24 => r_eqls (ls' := [(8, 1, v24), (0, 29, x0), (1, 24, v1), (2, 1, v6), (4, 1, p7), (6, 0, p8), (7, 0, p9)]) rfl ?_)
      refine r_lload 79 hC 0 rfl dX11_mending_79 ?_
      refine r_lload 81 hC 4 rfl dX11_mending_81 ?_
      refine r_jn (P := fun j95 => ∀ (q25 : Int) (q26 : Int), Bk E C 10 Mi (r0, M0) 95 [(0, 29, x0), (1, 24, v1), (2, 1, v6), (4, 1, q25), (6, 0, q26), (7, 0, p9)] [] M20 0 0 (j95 q25 q26)) ?_ (fun j95 hj95 => ?_)
      · intro q25 q26
        refine r_iinc 95 hC 5 rfl (by decide) dX11_mending_95 (r_eqls (ls' := [(7, 0, w32 (p9 + 1)), (0, 29, x0), (1, 24, v1), (2, 1, v6), (4, 1, q25), (6, 0, q26)]) rfl ?_)
        refine r_goto 98 hC (tgt := 26) (by decide) dX11_mending_98 ?_
        exact r_sub [1, 2, 3, 4, 5, 0] rfl (ih q25 q26 (w32 (p9 + 1)) M20)
      refine r_lcmp_le 83 hC (tgt := 95) (by decide) dX11_mending_83 dX11_mending_84 ?_ ?_
      · exact r_sub [1, 2, 3, 4, 5, 6] rfl (hj95 p7 p8)
      · refine r_lload 87 hC 0 rfl dX11_mending_87 ?_
        refine r_lstore 89 hC (by decide) dX11_mending_89 (r_eqls (ls' := [(4, 1, v24), (8, 1, v24), (0, 29, x0), (1, 24, v1), (2, 1, v6), (6, 0, p8), (7, 0, p9)]) rfl ?_)
        refine r_iload 91 hC 6 rfl dX11_mending_91 ?_
        refine r_istore 93 hC (by decide) dX11_mending_93 (r_eqls (ls' := [(6, 0, p9), (4, 1, v24), (8, 1, v24), (0, 29, x0), (1, 24, v1), (2, 1, v6), (7, 0, p9)]) rfl ?_)
        exact r_sub [3, 4, 5, 1, 0, 6] rfl (hj95 v24 p9)
set_option maxRecDepth 100000 in
theorem t_X11_mending (x0 : Int) (M : Mem) (h0 : x0 ≠ 0) : MtI yX11_mending cX11_mending 10 (some .int) 6 0 0 [(29, x0)] M 0 (f_X11_mending x0 M) := by
  refine mk_I (by decide +kernel) (Nat.le_of_ble_eq_true rfl) (fun E C r0 M0 hC hq hin => ?_)
  refine r_eqls (ls' := [(0, 29, x0)]) rfl ?_
  unfold f_X11_mending
  refine r_aload_n 0 hC 0 rfl (Or.inl (by decide)) rfl dX11_mending_0 ?_
  refine r_callVI 1 hC [] [] rfl vl_X11_284 rfl h0 (by decide) (Nat.le_of_ble_eq_true rfl) (by decide) (by decide) dX11_mending_1 (t_X11_sweptWorld x0 M h0) (fun v1 M2 => ?_)
  refine r_astore_n 4 hC rfl (Or.inl (by decide)) (by decide) dX11_mending_4 (r_eqls (ls' := [(1, 24, v1), (0, 29, x0)]) rfl ?_)
  refine r_aload_n 5 hC 0 rfl (Or.inl (by decide)) rfl dX11_mending_5 ?_
  refine r_aload_n 6 hC 1 rfl (Or.inl (by decide)) rfl dX11_mending_6 ?_
  refine r_get 7 hC fd_9_2 fl_X11_26 dX11_mending_7 (fun v3 => ?_)
  refine r_get 10 hC fd_8_0 fl_X11_111 dX11_mending_10 (fun v4 => ?_)
  refine r_nn (fun hn5 => ?_)
  refine r_callVP 13 hC [(27, v4)] [] rfl vl_X11_345 rfl hn5 (by decide) (Nat.le_of_ble_eq_true rfl) (by decide) (by decide) dX11_mending_13 (t_X5_allWater v1 v4 M2 hn5) (fun v6 => ?_)
  refine r_lstore_n 16 hC rfl (by decide) dX11_mending_16 (r_eqls (ls' := [(2, 1, v6), (1, 24, v1), (0, 29, x0)]) rfl ?_)
  refine r_lconst 17 hC (x := 0) ⟨by decide +kernel, r64c rfl⟩ dX11_mending_17 ?_
  refine r_lstore 18 hC (by decide) dX11_mending_18 (r_eqls (ls' := [(4, 1, 0), (2, 1, v6), (1, 24, v1), (0, 29, x0)]) rfl ?_)
  refine r_iconst 20 hC (r32c rfl) dX11_mending_20 ?_
  refine r_istore 21 hC (by decide) dX11_mending_21 (r_eqls (ls' := [(6, 0, (-1)), (4, 1, 0), (2, 1, v6), (1, 24, v1), (0, 29, x0)]) rfl ?_)
  refine r_iconst 23 hC (r32c rfl) dX11_mending_23 ?_
  refine r_istore 24 hC (by decide) dX11_mending_24 (r_eqls (ls' := [(7, 0, 0), (6, 0, (-1)), (4, 1, 0), (2, 1, v6), (1, 24, v1), (0, 29, x0)]) rfl ?_)
  refine r_sub [5, 4, 3, 2, 1, 0] rfl (f_X11_mending_L26_ok h0 hC hq (fun q30 q31 M32 => ?_) KF 0 (-1) 0 M2)
  · refine r_aload_n 101 hC 0 rfl (Or.inl (by decide)) rfl dX11_mending_101 ?_
    refine r_iload 102 hC 2 rfl dX11_mending_102 ?_
    refine r_lload 104 hC 1 rfl dX11_mending_104 ?_
    refine r_callVI 106 hC [(0, q31), (1, q30)] [] rfl vl_X11_353 rfl h0 (by decide) (Nat.le_of_ble_eq_true rfl) (by decide) (by decide) dX11_mending_106 (t_X11_tellBest x0 q31 q30 M32 h0) (fun v33 M34 => ?_)
    exact r_ireturn 109 hC hq (by decide) (by decide) dX11_mending_109

/-! java/lang/Math.abs(I)I -/
theorem dJ9_abs_0f7a4_0 : decode cJ9_abs_0f7a4 0 = .ok (.iload_n 0, 1) := by decide +kernel
theorem dJ9_abs_0f7a4_1 : decode cJ9_abs_0f7a4 1 = .ok (.ifCond .ge 8, 3) := by decide +kernel
theorem dJ9_abs_0f7a4_4 : decode cJ9_abs_0f7a4 4 = .ok (.iload_n 0, 1) := by decide +kernel
theorem dJ9_abs_0f7a4_5 : decode cJ9_abs_0f7a4 5 = .ok (.ineg, 1) := by decide +kernel
theorem dJ9_abs_0f7a4_6 : decode cJ9_abs_0f7a4 6 = .ok (.goto 4, 3) := by decide +kernel
theorem dJ9_abs_0f7a4_9 : decode cJ9_abs_0f7a4 9 = .ok (.iload_n 0, 1) := by decide +kernel
theorem dJ9_abs_0f7a4_10 : decode cJ9_abs_0f7a4 10 = .ok (.ireturn, 1) := by decide +kernel
set_option maxRecDepth 100000 in
theorem t_J9_abs_0f7a4 (x0 : Int) (M : Mem) : MtP yJ9_abs_0f7a4 cJ9_abs_0f7a4 1 (some .int) 1 0 0 [(0, x0)] M 0 (f_J9_abs_0f7a4 x0 M) := by
  refine mk_P (by decide +kernel) (Nat.le_of_ble_eq_true rfl) (fun E C r0 hC hq hin => ?_)
  refine r_eqls (ls' := [(0, 0, x0)]) rfl ?_
  unfold f_J9_abs_0f7a4
  refine r_iload_n 0 hC 0 rfl rfl dJ9_abs_0f7a4_0 ?_
  refine r_jn (P := fun j10 => ∀ (q1 : Int), Bk E C 1 M r0 10 [] [(0, q1)] M 0 0 (j10 q1)) ?_ (fun j10 hj10 => ?_)
  · intro q1
    exact r_ireturnP 10 hC hq (by decide) (by decide) dJ9_abs_0f7a4_10
  refine r_if_ge 1 hC (tgt := 9) (by decide) dJ9_abs_0f7a4_1 ?_ ?_
  · refine r_iload_n 9 hC 0 rfl rfl dJ9_abs_0f7a4_9 ?_
    exact r_sub [] rfl (hj10 x0)
  · refine r_iload_n 4 hC 0 rfl rfl dJ9_abs_0f7a4_4 ?_
    refine r_ineg 5 hC dJ9_abs_0f7a4_5 ?_
    refine r_goto 6 hC (tgt := 10) (by decide) dJ9_abs_0f7a4_6 ?_
    exact r_sub [] rfl (hj10 (w32 (-x0)))

/-! WaterTurns.off()Z -/
theorem dX11_off_0 : decode cX11_off 0 = .ok (.aload_n 0, 1) := by decide +kernel
theorem dX11_off_1 : decode cX11_off 1 = .ok (.getfield 26, 3) := by decide +kernel
theorem dX11_off_4 : decode cX11_off 4 = .ok (.getfield 111, 3) := by decide +kernel
theorem dX11_off_7 : decode cX11_off 7 = .ok (.astore_n 1, 1) := by decide +kernel
theorem dX11_off_8 : decode cX11_off 8 = .ok (.aload_n 1, 1) := by decide +kernel
theorem dX11_off_9 : decode cX11_off 9 = .ok (.getfield 120, 3) := by decide +kernel
theorem dX11_off_12 : decode cX11_off 12 = .ok (.ifCond .ne 10, 3) := by decide +kernel
theorem dX11_off_15 : decode cX11_off 15 = .ok (.aload_n 0, 1) := by decide +kernel
theorem dX11_off_16 : decode cX11_off 16 = .ok (.bipush 6, 2) := by decide +kernel
theorem dX11_off_18 : decode cX11_off 18 = .ok (.invokevirtual 102, 3) := by decide +kernel
theorem dX11_off_21 : decode cX11_off 21 = .ok (.ireturn, 1) := by decide +kernel
theorem dX11_off_22 : decode cX11_off 22 = .ok (.aload_n 0, 1) := by decide +kernel
theorem dX11_off_23 : decode cX11_off 23 = .ok (.invokevirtual 241, 3) := by decide +kernel
theorem dX11_off_26 : decode cX11_off 26 = .ok (.astore_n 2, 1) := by decide +kernel
theorem dX11_off_27 : decode cX11_off 27 = .ok (.iconst 0, 1) := by decide +kernel
theorem dX11_off_28 : decode cX11_off 28 = .ok (.istore_n 3, 1) := by decide +kernel
theorem dX11_off_29 : decode cX11_off 29 = .ok (.iconst 0, 1) := by decide +kernel
theorem dX11_off_30 : decode cX11_off 30 = .ok (.istore 4, 2) := by decide +kernel
theorem dX11_off_32 : decode cX11_off 32 = .ok (.iload 4, 2) := by decide +kernel
theorem dX11_off_34 : decode cX11_off 34 = .ok (.aload_n 1, 1) := by decide +kernel
theorem dX11_off_35 : decode cX11_off 35 = .ok (.getfield 120, 3) := by decide +kernel
theorem dX11_off_38 : decode cX11_off 38 = .ok (.if_icmp .ge 48, 3) := by decide +kernel
theorem dX11_off_41 : decode cX11_off 41 = .ok (.aload_n 2, 1) := by decide +kernel
theorem dX11_off_42 : decode cX11_off 42 = .ok (.getfield 250, 3) := by decide +kernel
theorem dX11_off_45 : decode cX11_off 45 = .ok (.iload 4, 2) := by decide +kernel
theorem dX11_off_47 : decode cX11_off 47 = .ok (.iaload, 1) := by decide +kernel
theorem dX11_off_48 : decode cX11_off 48 = .ok (.aload_n 1, 1) := by decide +kernel
theorem dX11_off_49 : decode cX11_off 49 = .ok (.getfield 357, 3) := by decide +kernel
theorem dX11_off_52 : decode cX11_off 52 = .ok (.imul, 1) := by decide +kernel
theorem dX11_off_53 : decode cX11_off 53 = .ok (.istore 5, 2) := by decide +kernel
theorem dX11_off_55 : decode cX11_off 55 = .ok (.iload_n 3, 1) := by decide +kernel
theorem dX11_off_56 : decode cX11_off 56 = .ok (.iload 5, 2) := by decide +kernel
theorem dX11_off_58 : decode cX11_off 58 = .ok (.aload_n 1, 1) := by decide +kernel
theorem dX11_off_59 : decode cX11_off 59 = .ok (.getfield 126, 3) := by decide +kernel
theorem dX11_off_62 : decode cX11_off 62 = .ok (.aload_n 1, 1) := by decide +kernel
theorem dX11_off_63 : decode cX11_off 63 = .ok (.getfield 232, 3) := by decide +kernel
theorem dX11_off_66 : decode cX11_off 66 = .ok (.iload 4, 2) := by decide +kernel
theorem dX11_off_68 : decode cX11_off 68 = .ok (.aaload, 1) := by decide +kernel
theorem dX11_off_69 : decode cX11_off 69 = .ok (.iconst 1, 1) := by decide +kernel
theorem dX11_off_70 : decode cX11_off 70 = .ok (.iaload, 1) := by decide +kernel
theorem dX11_off_71 : decode cX11_off 71 = .ok (.imul, 1) := by decide +kernel
theorem dX11_off_72 : decode cX11_off 72 = .ok (.isub, 1) := by decide +kernel
theorem dX11_off_73 : decode cX11_off 73 = .ok (.invokestatic 360, 3) := by decide +kernel
theorem dX11_off_76 : decode cX11_off 76 = .ok (.invokestatic 363, 3) := by decide +kernel
theorem dX11_off_79 : decode cX11_off 79 = .ok (.istore_n 3, 1) := by decide +kernel
theorem dX11_off_80 : decode cX11_off 80 = .ok (.iinc 4 1, 3) := by decide +kernel
theorem dX11_off_83 : decode cX11_off 83 = .ok (.goto (-51), 3) := by decide +kernel
theorem dX11_off_86 : decode cX11_off 86 = .ok (.aload_n 0, 1) := by decide +kernel
theorem dX11_off_87 : decode cX11_off 87 = .ok (.iload_n 3, 1) := by decide +kernel
theorem dX11_off_88 : decode cX11_off 88 = .ok (.i2l, 1) := by decide +kernel
theorem dX11_off_89 : decode cX11_off 89 = .ok (.aload_n 1, 1) := by decide +kernel
theorem dX11_off_90 : decode cX11_off 90 = .ok (.getfield 357, 3) := by decide +kernel
theorem dX11_off_93 : decode cX11_off 93 = .ok (.i2l, 1) := by decide +kernel
theorem dX11_off_94 : decode cX11_off 94 = .ok (.invokevirtual 317, 3) := by decide +kernel
theorem dX11_off_97 : decode cX11_off 97 = .ok (.ireturn, 1) := by decide +kernel
set_option maxRecDepth 100000 in
theorem f_X11_off_L32_ok {E : EnvT} {C : Cx} {Mi : Mem} {x0 : Int} (h0 : x0 ≠ 0) (hC : CxOK E C cX11_off 6 yX11_off.cls 5 0 0) {r0 : Int} {M0 : Mem} (hq : RQ E C 0 0 Mi (some .boolean) (some (0, r0)) M0) {M5 : Mem} {v2 v4 : Int} {k : Int → Option (Int × Mem)} (hk : ∀ q19, Bk E C 6 Mi (r0, M0) 86 [(0, 29, x0), (1, 27, v2), (3, 0, q19)] [] M5 0 0 (k q19)) : ∀ (n : Nat) (p6 : Int) (p7 : Int), Bk E C 6 Mi (r0, M0) 32 [(0, 29, x0), (1, 27, v2), (2, 22, v4), (3, 0, p6), (4, 0, p7)] [] M5 0 0 (f_X11_off_L32 M5 v2 v4 x0 k n p6 p7) := by
  intro n
  induction n with
  | zero =>
    intro p6 p7
    exact r_none
  | succ n ih =>
    intro p6 p7
    rw [f_X11_off_L32]
    refine r_iload 32 hC 4 rfl dX11_off_32 ?_
    refine r_aload_n 34 hC 1 rfl (Or.inl (by decide)) rfl dX11_off_34 ?_
    refine r_get 35 hC fd_7_5 fl_X11_120 dX11_off_35 (fun v8 => ?_)
    refine r_icmp_ge 38 hC (tgt := 86) (by decide) dX11_off_38 ?_ ?_
    · exact r_sub [0, 1, 3] rfl (hk p6)
    · refine r_aload_n 41 hC 2 rfl (Or.inl (by decide)) rfl dX11_off_41 ?_
      refine r_get 42 hC fd_2_1 fl_X11_250 dX11_off_42 (fun v9 => ?_)
      refine r_iload 45 hC 4 rfl dX11_off_45 ?_
      refine r_iaload 47 hC dX11_off_47 (fun v10 => ?_)
      refine r_aload_n 48 hC 1 rfl (Or.inl (by decide)) rfl dX11_off_48 ?_
      refine r_get 49 hC fd_7_6 fl_X11_357 dX11_off_49 (fun v11 => ?_)
      refine r_imul 52 hC dX11_off_52 ?_
      refine r_istoreL 53 hC (by decide) dX11_off_53 (fun v12 => r_eqls (ls' := [(5, 0, v12), (0, 29, x0), (1, 27, v2), (2, 22, v4), (3, 0, p6), (4, 0, p7)]) rfl ?_)
      refine r_iload_n 55 hC 4 rfl rfl dX11_off_55 ?_
      refine r_iload 56 hC 0 rfl dX11_off_56 ?_
      refine r_aload_n 58 hC 2 rfl (Or.inl (by decide)) rfl dX11_off_58 ?_
      refine r_get 59 hC fd_7_1 fl_X11_126 dX11_off_59 (fun v13 => ?_)
      refine r_aload_n 62 hC 2 rfl (Or.inl (by decide)) rfl dX11_off_62 ?_
      refine r_get 63 hC fd_7_9 fl_X11_232 dX11_off_63 (fun v14 => ?_)
      refine r_iload 66 hC 5 rfl dX11_off_66 ?_
      refine r_aaloadI 68 hC dX11_off_68 (fun v15 => ?_)
      refine r_iconst 69 hC (r32c rfl) dX11_off_69 ?_
      refine r_iaload 70 hC dX11_off_70 (fun v16 => ?_)
      refine r_imul 71 hC dX11_off_71 ?_
      refine r_isub 72 hC dX11_off_72 ?_
      refine r_callSP 73 hC [(0, w32 (v12 - (w32 (v13 * v16))))] [(0, p6)] rfl sl_X11_360 rfl (by decide) (Nat.le_of_ble_eq_true rfl) (by decide) (by decide) dX11_off_73 (t_J9_abs_0f7a4 (w32 (v12 - (w32 (v13 * v16)))) M5) (fun v17 => ?_)
      refine r_callSP 76 hC [(0, p6), (0, v17)] [] rfl sl_X11_363 rfl (by decide) (Nat.le_of_ble_eq_true rfl) (by decide) (by decide) dX11_off_76 (t_J9_max_7cf53 p6 v17 M5) (fun v18 => ?_)
      refine r_istore_n 79 hC rfl (by decide) dX11_off_79 (r_eqls (ls' := [(3, 0, v18), (5, 0, v12), (0, 29, x0), (1, 27, v2), (2, 22, v4), (4, 0, p7)]) rfl ?_)
      refine r_iinc 80 hC 5 rfl (by decide) dX11_off_80 (r_eqls (ls' := [(4, 0, w32 (p7 + 1)), (3, 0, v18), (5, 0, v12), (0, 29, x0), (1, 27, v2), (2, 22, v4)]) rfl ?_)
      refine r_goto 83 hC (tgt := 32) (by decide) dX11_off_83 ?_
      exact r_sub [3, 4, 5, 1, 0] rfl (ih v18 (w32 (p7 + 1)))
set_option maxRecDepth 100000 in
theorem t_X11_off (x0 : Int) (M : Mem) (h0 : x0 ≠ 0) : MtI yX11_off cX11_off 6 (some .boolean) 5 0 0 [(29, x0)] M 0 (f_X11_off x0 M) := by
  refine mk_I (by decide +kernel) (Nat.le_of_ble_eq_true rfl) (fun E C r0 M0 hC hq hin => ?_)
  refine r_eqls (ls' := [(0, 29, x0)]) rfl ?_
  unfold f_X11_off
  refine r_aload_n 0 hC 0 rfl (Or.inl (by decide)) rfl dX11_off_0 ?_
  refine r_get 1 hC fd_9_2 fl_X11_26 dX11_off_1 (fun v1 => ?_)
  refine r_get 4 hC fd_8_0 fl_X11_111 dX11_off_4 (fun v2 => ?_)
  refine r_astore_n 7 hC rfl (Or.inl (by decide)) (by decide) dX11_off_7 (r_eqls (ls' := [(1, 27, v2), (0, 29, x0)]) rfl ?_)
  refine r_aload_n 8 hC 0 rfl (Or.inl (by decide)) rfl dX11_off_8 ?_
  refine r_get 9 hC fd_7_5 fl_X11_120 dX11_off_9 (fun v3 => ?_)
  refine r_if_ne 12 hC (tgt := 22) (by decide) dX11_off_12 ?_ ?_
  · refine r_aload_n 22 hC 1 rfl (Or.inl (by decide)) rfl dX11_off_22 ?_
    refine r_callVI 23 hC [] [] rfl vl_X11_241 rfl h0 (by decide) (Nat.le_of_ble_eq_true rfl) (by decide) (by decide) dX11_off_23 (t_X11_laidSlots x0 M h0) (fun v4 M5 => ?_)
    refine r_astore_n 26 hC rfl (Or.inl (by decide)) (by decide) dX11_off_26 (r_eqls (ls' := [(2, 22, v4), (1, 27, v2), (0, 29, x0)]) rfl ?_)
    refine r_iconst 27 hC (r32c rfl) dX11_off_27 ?_
    refine r_istore_n 28 hC rfl (by decide) dX11_off_28 (r_eqls (ls' := [(3, 0, 0), (2, 22, v4), (1, 27, v2), (0, 29, x0)]) rfl ?_)
    refine r_iconst 29 hC (r32c rfl) dX11_off_29 ?_
    refine r_istore 30 hC (by decide) dX11_off_30 (r_eqls (ls' := [(4, 0, 0), (3, 0, 0), (2, 22, v4), (1, 27, v2), (0, 29, x0)]) rfl ?_)
    refine r_sub [4, 3, 2, 1, 0] rfl (f_X11_off_L32_ok h0 hC hq (fun q20 => ?_) KF 0 0)
    · refine r_aload_n 86 hC 0 rfl (Or.inl (by decide)) rfl dX11_off_86 ?_
      refine r_iload_n 87 hC 2 rfl rfl dX11_off_87 ?_
      refine r_i2l 88 hC dX11_off_88 ?_
      refine r_aload_n 89 hC 1 rfl (Or.inl (by decide)) rfl dX11_off_89 ?_
      refine r_get 90 hC fd_7_6 fl_X11_357 dX11_off_90 (fun v21 => ?_)
      refine r_i2l 93 hC dX11_off_93 ?_
      refine r_callVI 94 hC [(1, q20), (1, v21)] [] rfl vl_X11_317 rfl h0 (by decide) (Nat.le_of_ble_eq_true rfl) (by decide) (by decide) dX11_off_94 (t_X11_tellFraction x0 q20 v21 M5 h0) (fun v22 M23 => ?_)
      exact r_zreturn 97 hC hq (by decide) (by decide) dX11_off_97
  · refine r_aload_n 15 hC 1 rfl (Or.inl (by decide)) rfl dX11_off_15 ?_
    refine r_bipush 16 hC kb_6 dX11_off_16 ?_
    refine r_callVI 18 hC [(0, 6)] [] rfl vl_X11_102 rfl h0 (by decide) (Nat.le_of_ble_eq_true rfl) (by decide) (by decide) dX11_off_18 (t_X11_settle x0 6 M h0) (fun v24 M25 => ?_)
    exact r_zreturn 21 hC hq (by decide) (by decide) dX11_off_21

/-! WaterTurns.driest()I -/
theorem dX11_driest_0 : decode cX11_driest 0 = .ok (.aload_n 0, 1) := by decide +kernel
theorem dX11_driest_1 : decode cX11_driest 1 = .ok (.getfield 26, 3) := by decide +kernel
theorem dX11_driest_4 : decode cX11_driest 4 = .ok (.getfield 111, 3) := by decide +kernel
theorem dX11_driest_7 : decode cX11_driest 7 = .ok (.getfield 120, 3) := by decide +kernel
theorem dX11_driest_10 : decode cX11_driest 10 = .ok (.ifCond .ne 18, 3) := by decide +kernel
theorem dX11_driest_13 : decode cX11_driest 13 = .ok (.aload_n 0, 1) := by decide +kernel
theorem dX11_driest_14 : decode cX11_driest 14 = .ok (.aload_n 0, 1) := by decide +kernel
theorem dX11_driest_15 : decode cX11_driest 15 = .ok (.getfield 26, 3) := by decide +kernel
theorem dX11_driest_18 : decode cX11_driest 18 = .ok (.getfield 111, 3) := by decide +kernel
theorem dX11_driest_21 : decode cX11_driest 21 = .ok (.getfield 126, 3) := by decide +kernel
theorem dX11_driest_24 : decode cX11_driest 24 = .ok (.invokevirtual 95, 3) := by decide +kernel
theorem dX11_driest_27 : decode cX11_driest 27 = .ok (.ireturn, 1) := by decide +kernel
theorem dX11_driest_28 : decode cX11_driest 28 = .ok (.aload_n 0, 1) := by decide +kernel
theorem dX11_driest_29 : decode cX11_driest 29 = .ok (.invokevirtual 284, 3) := by decide +kernel
theorem dX11_driest_32 : decode cX11_driest 32 = .ok (.astore_n 1, 1) := by decide +kernel
theorem dX11_driest_33 : decode cX11_driest 33 = .ok (.iconst 0, 1) := by decide +kernel
theorem dX11_driest_34 : decode cX11_driest 34 = .ok (.istore_n 2, 1) := by decide +kernel
theorem dX11_driest_35 : decode cX11_driest 35 = .ok (.iconst 0, 1) := by decide +kernel
theorem dX11_driest_36 : decode cX11_driest 36 = .ok (.istore_n 3, 1) := by decide +kernel
theorem dX11_driest_37 : decode cX11_driest 37 = .ok (.iconst 0, 1) := by decide +kernel
theorem dX11_driest_38 : decode cX11_driest 38 = .ok (.istore 4, 2) := by decide +kernel
theorem dX11_driest_40 : decode cX11_driest 40 = .ok (.iload 4, 2) := by decide +kernel
theorem dX11_driest_42 : decode cX11_driest 42 = .ok (.aload_n 1, 1) := by decide +kernel
theorem dX11_driest_43 : decode cX11_driest 43 = .ok (.getfield 365, 3) := by decide +kernel
theorem dX11_driest_46 : decode cX11_driest 46 = .ok (.if_icmp .ge 53, 3) := by decide +kernel
theorem dX11_driest_49 : decode cX11_driest 49 = .ok (.aload_n 1, 1) := by decide +kernel
theorem dX11_driest_50 : decode cX11_driest 50 = .ok (.aload_n 0, 1) := by decide +kernel
theorem dX11_driest_51 : decode cX11_driest 51 = .ok (.getfield 26, 3) := by decide +kernel
theorem dX11_driest_54 : decode cX11_driest 54 = .ok (.getfield 111, 3) := by decide +kernel
theorem dX11_driest_57 : decode cX11_driest 57 = .ok (.iload 4, 2) := by decide +kernel
theorem dX11_driest_59 : decode cX11_driest 59 = .ok (.invokevirtual 368, 3) := by decide +kernel
theorem dX11_driest_62 : decode cX11_driest 62 = .ok (.ifCond .eq 7, 3) := by decide +kernel
theorem dX11_driest_65 : decode cX11_driest 65 = .ok (.iconst 0, 1) := by decide +kernel
theorem dX11_driest_66 : decode cX11_driest 66 = .ok (.goto 20, 3) := by decide +kernel
theorem dX11_driest_69 : decode cX11_driest 69 = .ok (.iload_n 3, 1) := by decide +kernel
theorem dX11_driest_70 : decode cX11_driest 70 = .ok (.aload_n 1, 1) := by decide +kernel
theorem dX11_driest_71 : decode cX11_driest 71 = .ok (.getfield 372, 3) := by decide +kernel
theorem dX11_driest_74 : decode cX11_driest 74 = .ok (.iload 4, 2) := by decide +kernel
theorem dX11_driest_76 : decode cX11_driest 76 = .ok (.iaload, 1) := by decide +kernel
theorem dX11_driest_77 : decode cX11_driest 77 = .ok (.iadd, 1) := by decide +kernel
theorem dX11_driest_78 : decode cX11_driest 78 = .ok (.aload_n 1, 1) := by decide +kernel
theorem dX11_driest_79 : decode cX11_driest 79 = .ok (.getfield 375, 3) := by decide +kernel
theorem dX11_driest_82 : decode cX11_driest 82 = .ok (.iload 4, 2) := by decide +kernel
theorem dX11_driest_84 : decode cX11_driest 84 = .ok (.iaload, 1) := by decide +kernel
theorem dX11_driest_85 : decode cX11_driest 85 = .ok (.isub, 1) := by decide +kernel
theorem dX11_driest_86 : decode cX11_driest 86 = .ok (.istore_n 3, 1) := by decide +kernel
theorem dX11_driest_87 : decode cX11_driest 87 = .ok (.iload_n 2, 1) := by decide +kernel
theorem dX11_driest_88 : decode cX11_driest 88 = .ok (.iload_n 3, 1) := by decide +kernel
theorem dX11_driest_89 : decode cX11_driest 89 = .ok (.invokestatic 363, 3) := by decide +kernel
theorem dX11_driest_92 : decode cX11_driest 92 = .ok (.istore_n 2, 1) := by decide +kernel
theorem dX11_driest_93 : decode cX11_driest 93 = .ok (.iinc 4 1, 3) := by decide +kernel
theorem dX11_driest_96 : decode cX11_driest 96 = .ok (.goto (-56), 3) := by decide +kernel
theorem dX11_driest_99 : decode cX11_driest 99 = .ok (.aload_n 0, 1) := by decide +kernel
theorem dX11_driest_100 : decode cX11_driest 100 = .ok (.iload_n 2, 1) := by decide +kernel
theorem dX11_driest_101 : decode cX11_driest 101 = .ok (.invokevirtual 95, 3) := by decide +kernel
theorem dX11_driest_104 : decode cX11_driest 104 = .ok (.ireturn, 1) := by decide +kernel
set_option maxRecDepth 100000 in
theorem f_X11_driest_L40_ok {E : EnvT} {C : Cx} {Mi : Mem} {x0 : Int} (h0 : x0 ≠ 0) (hC : CxOK E C cX11_driest 5 yX11_driest.cls 6 0 0) {r0 : Int} {M0 : Mem} (hq : RQ E C 0 0 Mi (some .int) (some (0, r0)) M0) {M5 : Mem} {v4 : Int} {k : Int → Option (Int × Mem)} (hk : ∀ q20, Bk E C 5 Mi (r0, M0) 99 [(0, 29, x0), (2, 0, q20)] [] M5 0 0 (k q20)) : ∀ (n : Nat) (p6 : Int) (p7 : Int) (p8 : Int), Bk E C 5 Mi (r0, M0) 40 [(0, 29, x0), (1, 24, v4), (2, 0, p6), (3, 0, p7), (4, 0, p8)] [] M5 0 0 (f_X11_driest_L40 M5 v4 x0 k n p6 p7 p8) := by
  intro n
  induction n with
  | zero =>
    intro p6 p7 p8
    exact r_none
  | succ n ih =>
    intro p6 p7 p8
    rw [f_X11_driest_L40]
    refine r_iload 40 hC 4 rfl dX11_driest_40 ?_
    refine r_aload_n 42 hC 1 rfl (Or.inl (by decide)) rfl dX11_driest_42 ?_
    refine r_get 43 hC fd_4_8 fl_X11_365 dX11_driest_43 (fun v9 => ?_)
    refine r_icmp_ge 46 hC (tgt := 99) (by decide) dX11_driest_46 ?_ ?_
    · exact r_sub [0, 2] rfl (hk p6)
    · refine r_aload_n 49 hC 1 rfl (Or.inl (by decide)) rfl dX11_driest_49 ?_
      refine r_aload_n 50 hC 0 rfl (Or.inl (by decide)) rfl dX11_driest_50 ?_
      refine r_get 51 hC fd_9_2 fl_X11_26 dX11_driest_51 (fun v10 => ?_)
      refine r_get 54 hC fd_8_0 fl_X11_111 dX11_driest_54 (fun v11 => ?_)
      refine r_iload 57 hC 4 rfl dX11_driest_57 ?_
      refine r_nn (fun hn12 => ?_)
      refine r_callVP 59 hC [(27, v11), (0, p8)] [] rfl vl_X11_368 rfl hn12 (by decide) (Nat.le_of_ble_eq_true rfl) (by decide) (by decide) dX11_driest_59 (t_X5_isWet v4 v11 p8 M5 hn12) (fun v13 => ?_)
      refine r_jn (P := fun j86 => ∀ (q14 : Int), Bk E C 5 Mi (r0, M0) 86 [(0, 29, x0), (1, 24, v4), (2, 0, p6), (4, 0, p8)] [(0, q14)] M5 0 0 (j86 q14)) ?_ (fun j86 hj86 => ?_)
      · intro q14
        refine r_istore_n 86 hC rfl (by decide) dX11_driest_86 (r_eqls (ls' := [(3, 0, q14), (0, 29, x0), (1, 24, v4), (2, 0, p6), (4, 0, p8)]) rfl ?_)
        refine r_iload_n 87 hC 3 rfl rfl dX11_driest_87 ?_
        refine r_iload_n 88 hC 0 rfl rfl dX11_driest_88 ?_
        refine r_callSP 89 hC [(0, p6), (0, q14)] [] rfl sl_X11_363 rfl (by decide) (Nat.le_of_ble_eq_true rfl) (by decide) (by decide) dX11_driest_89 (t_J9_max_7cf53 p6 q14 M5) (fun v15 => ?_)
        refine r_istore_n 92 hC rfl (by decide) dX11_driest_92 (r_eqls (ls' := [(2, 0, v15), (3, 0, q14), (0, 29, x0), (1, 24, v4), (4, 0, p8)]) rfl ?_)
        refine r_iinc 93 hC 4 rfl (by decide) dX11_driest_93 (r_eqls (ls' := [(4, 0, w32 (p8 + 1)), (2, 0, v15), (3, 0, q14), (0, 29, x0), (1, 24, v4)]) rfl ?_)
        refine r_goto 96 hC (tgt := 40) (by decide) dX11_driest_96 ?_
        exact r_sub [3, 4, 1, 2, 0] rfl (ih v15 q14 (w32 (p8 + 1)))
      refine r_if_eq 62 hC (tgt := 69) (by decide) dX11_driest_62 ?_ ?_
      · refine r_iload_n 69 hC 3 rfl rfl dX11_driest_69 ?_
        refine r_aload_n 70 hC 1 rfl (Or.inl (by decide)) rfl dX11_driest_70 ?_
        refine r_get 71 hC fd_4_10 fl_X11_372 dX11_driest_71 (fun v16 => ?_)
        refine r_iload 74 hC 4 rfl dX11_driest_74 ?_
        refine r_iaload 76 hC dX11_driest_76 (fun v17 => ?_)
        refine r_iadd 77 hC dX11_driest_77 ?_
        refine r_aload_n 78 hC 1 rfl (Or.inl (by decide)) rfl dX11_driest_78 ?_
        refine r_get 79 hC fd_4_9 fl_X11_375 dX11_driest_79 (fun v18 => ?_)
        refine r_iload 82 hC 4 rfl dX11_driest_82 ?_
        refine r_iaload 84 hC dX11_driest_84 (fun v19 => ?_)
        refine r_isub 85 hC dX11_driest_85 ?_
        exact r_sub [0, 1, 2, 4] rfl (hj86 (w32 ((w32 (p7 + v17)) - v19)))
      · refine r_iconst 65 hC (r32c rfl) dX11_driest_65 ?_
        refine r_goto 66 hC (tgt := 86) (by decide) dX11_driest_66 ?_
        exact r_sub [0, 1, 2, 4] rfl (hj86 0)
set_option maxRecDepth 100000 in
theorem t_X11_driest (x0 : Int) (M : Mem) (h0 : x0 ≠ 0) : MtI yX11_driest cX11_driest 5 (some .int) 6 0 0 [(29, x0)] M 0 (f_X11_driest x0 M) := by
  refine mk_I (by decide +kernel) (Nat.le_of_ble_eq_true rfl) (fun E C r0 M0 hC hq hin => ?_)
  refine r_eqls (ls' := [(0, 29, x0)]) rfl ?_
  unfold f_X11_driest
  refine r_aload_n 0 hC 0 rfl (Or.inl (by decide)) rfl dX11_driest_0 ?_
  refine r_get 1 hC fd_9_2 fl_X11_26 dX11_driest_1 (fun v1 => ?_)
  refine r_get 4 hC fd_8_0 fl_X11_111 dX11_driest_4 (fun v2 => ?_)
  refine r_get 7 hC fd_7_5 fl_X11_120 dX11_driest_7 (fun v3 => ?_)
  refine r_if_ne 10 hC (tgt := 28) (by decide) dX11_driest_10 ?_ ?_
  · refine r_aload_n 28 hC 0 rfl (Or.inl (by decide)) rfl dX11_driest_28 ?_
    refine r_callVI 29 hC [] [] rfl vl_X11_284 rfl h0 (by decide) (Nat.le_of_ble_eq_true rfl) (by decide) (by decide) dX11_driest_29 (t_X11_sweptWorld x0 M h0) (fun v4 M5 => ?_)
    refine r_astore_n 32 hC rfl (Or.inl (by decide)) (by decide) dX11_driest_32 (r_eqls (ls' := [(1, 24, v4), (0, 29, x0)]) rfl ?_)
    refine r_iconst 33 hC (r32c rfl) dX11_driest_33 ?_
    refine r_istore_n 34 hC rfl (by decide) dX11_driest_34 (r_eqls (ls' := [(2, 0, 0), (1, 24, v4), (0, 29, x0)]) rfl ?_)
    refine r_iconst 35 hC (r32c rfl) dX11_driest_35 ?_
    refine r_istore_n 36 hC rfl (by decide) dX11_driest_36 (r_eqls (ls' := [(3, 0, 0), (2, 0, 0), (1, 24, v4), (0, 29, x0)]) rfl ?_)
    refine r_iconst 37 hC (r32c rfl) dX11_driest_37 ?_
    refine r_istore 38 hC (by decide) dX11_driest_38 (r_eqls (ls' := [(4, 0, 0), (3, 0, 0), (2, 0, 0), (1, 24, v4), (0, 29, x0)]) rfl ?_)
    refine r_sub [4, 3, 2, 1, 0] rfl (f_X11_driest_L40_ok h0 hC hq (fun q21 => ?_) KF 0 0 0)
    · refine r_aload_n 99 hC 0 rfl (Or.inl (by decide)) rfl dX11_driest_99 ?_
      refine r_iload_n 100 hC 1 rfl rfl dX11_driest_100 ?_
      refine r_callVI 101 hC [(0, q21)] [] rfl vl_X11_95 rfl h0 (by decide) (Nat.le_of_ble_eq_true rfl) (by decide) (by decide) dX11_driest_101 (t_X11_answer x0 q21 M5 h0) (fun v22 M23 => ?_)
      exact r_ireturn 104 hC hq (by decide) (by decide) dX11_driest_104
  · refine r_aload_n 13 hC 0 rfl (Or.inl (by decide)) rfl dX11_driest_13 ?_
    refine r_aload_n 14 hC 0 rfl (Or.inl (by decide)) rfl dX11_driest_14 ?_
    refine r_get 15 hC fd_9_2 fl_X11_26 dX11_driest_15 (fun v24 => ?_)
    refine r_get 18 hC fd_8_0 fl_X11_111 dX11_driest_18 (fun v25 => ?_)
    refine r_get 21 hC fd_7_1 fl_X11_126 dX11_driest_21 (fun v26 => ?_)
    refine r_callVI 24 hC [(0, v26)] [] rfl vl_X11_95 rfl h0 (by decide) (Nat.le_of_ble_eq_true rfl) (by decide) (by decide) dX11_driest_24 (t_X11_answer x0 v26 M h0) (fun v27 M28 => ?_)
    exact r_ireturn 27 hC hq (by decide) (by decide) dX11_driest_27

/-! WaterTurns.waits(II)I -/
theorem dX11_waits_0 : decode cX11_waits 0 = .ok (.aload_n 0, 1) := by decide +kernel
theorem dX11_waits_1 : decode cX11_waits 1 = .ok (.iload_n 1, 1) := by decide +kernel
theorem dX11_waits_2 : decode cX11_waits 2 = .ok (.invokevirtual 123, 3) := by decide +kernel
theorem dX11_waits_5 : decode cX11_waits 5 = .ok (.ifCond .eq 11, 3) := by decide +kernel
theorem dX11_waits_8 : decode cX11_waits 8 = .ok (.aload_n 0, 1) := by decide +kernel
theorem dX11_waits_9 : decode cX11_waits 9 = .ok (.iload_n 2, 1) := by decide +kernel
theorem dX11_waits_10 : decode cX11_waits 10 = .ok (.invokevirtual 281, 3) := by decide +kernel
theorem dX11_waits_13 : decode cX11_waits 13 = .ok (.ifCond .ne 9, 3) := by decide +kernel
theorem dX11_waits_16 : decode cX11_waits 16 = .ok (.aload_n 0, 1) := by decide +kernel
theorem dX11_waits_17 : decode cX11_waits 17 = .ok (.iconst 1, 1) := by decide +kernel
theorem dX11_waits_18 : decode cX11_waits 18 = .ok (.invokevirtual 91, 3) := by decide +kernel
theorem dX11_waits_21 : decode cX11_waits 21 = .ok (.ireturn, 1) := by decide +kernel
theorem dX11_waits_22 : decode cX11_waits 22 = .ok (.aload_n 0, 1) := by decide +kernel
theorem dX11_waits_23 : decode cX11_waits 23 = .ok (.invokevirtual 284, 3) := by decide +kernel
theorem dX11_waits_26 : decode cX11_waits 26 = .ok (.astore_n 3, 1) := by decide +kernel
theorem dX11_waits_27 : decode cX11_waits 27 = .ok (.iconst 0, 1) := by decide +kernel
theorem dX11_waits_28 : decode cX11_waits 28 = .ok (.istore 4, 2) := by decide +kernel
theorem dX11_waits_30 : decode cX11_waits 30 = .ok (.iload 4, 2) := by decide +kernel
theorem dX11_waits_32 : decode cX11_waits 32 = .ok (.aload_n 3, 1) := by decide +kernel
theorem dX11_waits_33 : decode cX11_waits 33 = .ok (.getfield 365, 3) := by decide +kernel
theorem dX11_waits_36 : decode cX11_waits 36 = .ok (.if_icmp .ge 65, 3) := by decide +kernel
theorem dX11_waits_39 : decode cX11_waits 39 = .ok (.aload_n 3, 1) := by decide +kernel
theorem dX11_waits_40 : decode cX11_waits 40 = .ok (.getfield 378, 3) := by decide +kernel
theorem dX11_waits_43 : decode cX11_waits 43 = .ok (.iload 4, 2) := by decide +kernel
theorem dX11_waits_45 : decode cX11_waits 45 = .ok (.iaload, 1) := by decide +kernel
theorem dX11_waits_46 : decode cX11_waits 46 = .ok (.iload_n 1, 1) := by decide +kernel
theorem dX11_waits_47 : decode cX11_waits 47 = .ok (.if_icmp .ne 48, 3) := by decide +kernel
theorem dX11_waits_50 : decode cX11_waits 50 = .ok (.aload_n 3, 1) := by decide +kernel
theorem dX11_waits_51 : decode cX11_waits 51 = .ok (.getfield 372, 3) := by decide +kernel
theorem dX11_waits_54 : decode cX11_waits 54 = .ok (.iload 4, 2) := by decide +kernel
theorem dX11_waits_56 : decode cX11_waits 56 = .ok (.iaload, 1) := by decide +kernel
theorem dX11_waits_57 : decode cX11_waits 57 = .ok (.iload_n 2, 1) := by decide +kernel
theorem dX11_waits_58 : decode cX11_waits 58 = .ok (.if_icmp .le 37, 3) := by decide +kernel
theorem dX11_waits_61 : decode cX11_waits 61 = .ok (.aload_n 3, 1) := by decide +kernel
theorem dX11_waits_62 : decode cX11_waits 62 = .ok (.aload_n 0, 1) := by decide +kernel
theorem dX11_waits_63 : decode cX11_waits 63 = .ok (.getfield 26, 3) := by decide +kernel
theorem dX11_waits_66 : decode cX11_waits 66 = .ok (.getfield 111, 3) := by decide +kernel
theorem dX11_waits_69 : decode cX11_waits 69 = .ok (.iload 4, 2) := by decide +kernel
theorem dX11_waits_71 : decode cX11_waits 71 = .ok (.invokevirtual 368, 3) := by decide +kernel
theorem dX11_waits_74 : decode cX11_waits 74 = .ok (.ifCond .eq 21, 3) := by decide +kernel
theorem dX11_waits_77 : decode cX11_waits 77 = .ok (.aload_n 0, 1) := by decide +kernel
theorem dX11_waits_78 : decode cX11_waits 78 = .ok (.iconst 0, 1) := by decide +kernel
theorem dX11_waits_79 : decode cX11_waits 79 = .ok (.aload_n 3, 1) := by decide +kernel
theorem dX11_waits_80 : decode cX11_waits 80 = .ok (.getfield 375, 3) := by decide +kernel
theorem dX11_waits_83 : decode cX11_waits 83 = .ok (.iload 4, 2) := by decide +kernel
theorem dX11_waits_85 : decode cX11_waits 85 = .ok (.iaload, 1) := by decide +kernel
theorem dX11_waits_86 : decode cX11_waits 86 = .ok (.iload_n 2, 1) := by decide +kernel
theorem dX11_waits_87 : decode cX11_waits 87 = .ok (.isub, 1) := by decide +kernel
theorem dX11_waits_88 : decode cX11_waits 88 = .ok (.invokestatic 363, 3) := by decide +kernel
theorem dX11_waits_91 : decode cX11_waits 91 = .ok (.invokevirtual 95, 3) := by decide +kernel
theorem dX11_waits_94 : decode cX11_waits 94 = .ok (.ireturn, 1) := by decide +kernel
theorem dX11_waits_95 : decode cX11_waits 95 = .ok (.iinc 4 1, 3) := by decide +kernel
theorem dX11_waits_98 : decode cX11_waits 98 = .ok (.goto (-68), 3) := by decide +kernel
theorem dX11_waits_101 : decode cX11_waits 101 = .ok (.aload_n 0, 1) := by decide +kernel
theorem dX11_waits_102 : decode cX11_waits 102 = .ok (.bipush 6, 2) := by decide +kernel
theorem dX11_waits_104 : decode cX11_waits 104 = .ok (.invokevirtual 91, 3) := by decide +kernel
theorem dX11_waits_107 : decode cX11_waits 107 = .ok (.ireturn, 1) := by decide +kernel
set_option maxRecDepth 100000 in
theorem f_X11_waits_L30_ok {E : EnvT} {C : Cx} {Mi : Mem} {x0 : Int} (h0 : x0 ≠ 0) (hC : CxOK E C cX11_waits 5 yX11_waits.cls 6 0 0) {r0 : Int} {M0 : Mem} (hq : RQ E C 0 0 Mi (some .int) (some (0, r0)) M0) {M6 : Mem} {v5 x1 x2 : Int} {k : Option (Int × Mem)} (hk : Bk E C 5 Mi (r0, M0) 101 [(0, 29, x0)] [] M6 0 0 (k)) : ∀ (n : Nat) (p7 : Int), Bk E C 5 Mi (r0, M0) 30 [(0, 29, x0), (1, 0, x1), (2, 0, x2), (3, 24, v5), (4, 0, p7)] [] M6 0 0 (f_X11_waits_L30 M6 v5 x0 x1 x2 k n p7) := by
  intro n
  induction n with
  | zero =>
    intro p7
    exact r_none
  | succ n ih =>
    intro p7
    rw [f_X11_waits_L30]
    refine r_iload 30 hC 4 rfl dX11_waits_30 ?_
    refine r_aload_n 32 hC 3 rfl (Or.inl (by decide)) rfl dX11_waits_32 ?_
    refine r_get 33 hC fd_4_8 fl_X11_365 dX11_waits_33 (fun v8 => ?_)
    refine r_icmp_ge 36 hC (tgt := 101) (by decide) dX11_waits_36 ?_ ?_
    · exact r_sub [0] rfl (hk)
    · refine r_aload_n 39 hC 3 rfl (Or.inl (by decide)) rfl dX11_waits_39 ?_
      refine r_get 40 hC fd_4_11 fl_X11_378 dX11_waits_40 (fun v9 => ?_)
      refine r_iload 43 hC 4 rfl dX11_waits_43 ?_
      refine r_iaload 45 hC dX11_waits_45 (fun v10 => ?_)
      refine r_iload_n 46 hC 1 rfl rfl dX11_waits_46 ?_
      refine r_jn (P := fun j95 => Bk E C 5 Mi (r0, M0) 95 [(0, 29, x0), (1, 0, x1), (2, 0, x2), (3, 24, v5), (4, 0, p7)] [] M6 0 0 (j95)) ?_ (fun j95 hj95 => ?_)
      · refine r_iinc 95 hC 4 rfl (by decide) dX11_waits_95 (r_eqls (ls' := [(4, 0, w32 (p7 + 1)), (0, 29, x0), (1, 0, x1), (2, 0, x2), (3, 24, v5)]) rfl ?_)
        refine r_goto 98 hC (tgt := 30) (by decide) dX11_waits_98 ?_
        exact r_sub [1, 2, 3, 4, 0] rfl (ih (w32 (p7 + 1)))
      refine r_icmp_ne 47 hC (tgt := 95) (by decide) dX11_waits_47 ?_ ?_
      · exact hj95
      · refine r_aload_n 50 hC 3 rfl (Or.inl (by decide)) rfl dX11_waits_50 ?_
        refine r_get 51 hC fd_4_10 fl_X11_372 dX11_waits_51 (fun v11 => ?_)
        refine r_iload 54 hC 4 rfl dX11_waits_54 ?_
        refine r_iaload 56 hC dX11_waits_56 (fun v12 => ?_)
        refine r_iload_n 57 hC 2 rfl rfl dX11_waits_57 ?_
        refine r_icmp_le 58 hC (tgt := 95) (by decide) dX11_waits_58 ?_ ?_
        · exact hj95
        · refine r_aload_n 61 hC 3 rfl (Or.inl (by decide)) rfl dX11_waits_61 ?_
          refine r_aload_n 62 hC 0 rfl (Or.inl (by decide)) rfl dX11_waits_62 ?_
          refine r_get 63 hC fd_9_2 fl_X11_26 dX11_waits_63 (fun v13 => ?_)
          refine r_get 66 hC fd_8_0 fl_X11_111 dX11_waits_66 (fun v14 => ?_)
          refine r_iload 69 hC 4 rfl dX11_waits_69 ?_
          refine r_nn (fun hn15 => ?_)
          refine r_callVP 71 hC [(27, v14), (0, p7)] [] rfl vl_X11_368 rfl hn15 (by decide) (Nat.le_of_ble_eq_true rfl) (by decide) (by decide) dX11_waits_71 (t_X5_isWet v5 v14 p7 M6 hn15) (fun v16 => ?_)
          refine r_if_eq 74 hC (tgt := 95) (by decide) dX11_waits_74 ?_ ?_
          · exact hj95
          · refine r_aload_n 77 hC 0 rfl (Or.inl (by decide)) rfl dX11_waits_77 ?_
            refine r_iconst 78 hC (r32c rfl) dX11_waits_78 ?_
            refine r_aload_n 79 hC 3 rfl (Or.inl (by decide)) rfl dX11_waits_79 ?_
            refine r_get 80 hC fd_4_9 fl_X11_375 dX11_waits_80 (fun v17 => ?_)
            refine r_iload 83 hC 4 rfl dX11_waits_83 ?_
            refine r_iaload 85 hC dX11_waits_85 (fun v18 => ?_)
            refine r_iload_n 86 hC 2 rfl rfl dX11_waits_86 ?_
            refine r_isub 87 hC dX11_waits_87 ?_
            refine r_callSP 88 hC [(0, 0), (0, w32 (v18 - x2))] [(29, x0)] rfl sl_X11_363 rfl (by decide) (Nat.le_of_ble_eq_true rfl) (by decide) (by decide) dX11_waits_88 (t_J9_max_7cf53 0 (w32 (v18 - x2)) M6) (fun v19 => ?_)
            refine r_callVI 91 hC [(0, v19)] [] rfl vl_X11_95 rfl h0 (by decide) (Nat.le_of_ble_eq_true rfl) (by decide) (by decide) dX11_waits_91 (t_X11_answer x0 v19 M6 h0) (fun v20 M21 => ?_)
            exact r_ireturn 94 hC hq (by decide) (by decide) dX11_waits_94
set_option maxRecDepth 100000 in
theorem t_X11_waits (x0 x1 x2 : Int) (M : Mem) (h0 : x0 ≠ 0) : MtI yX11_waits cX11_waits 5 (some .int) 6 0 0 [(29, x0), (0, x1), (0, x2)] M 0 (f_X11_waits x0 x1 x2 M) := by
  refine mk_I (by decide +kernel) (Nat.le_of_ble_eq_true rfl) (fun E C r0 M0 hC hq hin => ?_)
  refine r_eqls (ls' := [(0, 29, x0), (1, 0, x1), (2, 0, x2)]) rfl ?_
  unfold f_X11_waits
  refine r_aload_n 0 hC 0 rfl (Or.inl (by decide)) rfl dX11_waits_0 ?_
  refine r_iload_n 1 hC 1 rfl rfl dX11_waits_1 ?_
  refine r_callVP 2 hC [(0, x1)] [] rfl vl_X11_123 rfl h0 (by decide) (Nat.le_of_ble_eq_true rfl) (by decide) (by decide) dX11_waits_2 (t_X11_isField x0 x1 M h0) (fun v1 => ?_)
  refine r_jn (P := fun j16 => Bk E C 5 M (r0, M0) 16 [(0, 29, x0)] [] M 0 0 (j16)) ?_ (fun j16 hj16 => ?_)
  · refine r_aload_n 16 hC 0 rfl (Or.inl (by decide)) rfl dX11_waits_16 ?_
    refine r_iconst 17 hC (r32c rfl) dX11_waits_17 ?_
    refine r_callVI 18 hC [(0, 1)] [] rfl vl_X11_91 rfl h0 (by decide) (Nat.le_of_ble_eq_true rfl) (by decide) (by decide) dX11_waits_18 (t_X11_refuse x0 1 M h0) (fun v2 M3 => ?_)
    exact r_ireturn 21 hC hq (by decide) (by decide) dX11_waits_21
  refine r_if_eq 5 hC (tgt := 16) (by decide) dX11_waits_5 ?_ ?_
  · exact r_sub [0] rfl (hj16)
  · refine r_aload_n 8 hC 0 rfl (Or.inl (by decide)) rfl dX11_waits_8 ?_
    refine r_iload_n 9 hC 2 rfl rfl dX11_waits_9 ?_
    refine r_callVP 10 hC [(0, x2)] [] rfl vl_X11_281 rfl h0 (by decide) (Nat.le_of_ble_eq_true rfl) (by decide) (by decide) dX11_waits_10 (t_X11_isMinute x0 x2 M h0) (fun v4 => ?_)
    refine r_if_ne 13 hC (tgt := 22) (by decide) dX11_waits_13 ?_ ?_
    · refine r_aload_n 22 hC 0 rfl (Or.inl (by decide)) rfl dX11_waits_22 ?_
      refine r_callVI 23 hC [] [] rfl vl_X11_284 rfl h0 (by decide) (Nat.le_of_ble_eq_true rfl) (by decide) (by decide) dX11_waits_23 (t_X11_sweptWorld x0 M h0) (fun v5 M6 => ?_)
      refine r_astore_n 26 hC rfl (Or.inl (by decide)) (by decide) dX11_waits_26 (r_eqls (ls' := [(3, 24, v5), (0, 29, x0), (1, 0, x1), (2, 0, x2)]) rfl ?_)
      refine r_iconst 27 hC (r32c rfl) dX11_waits_27 ?_
      refine r_istore 28 hC (by decide) dX11_waits_28 (r_eqls (ls' := [(4, 0, 0), (3, 24, v5), (0, 29, x0), (1, 0, x1), (2, 0, x2)]) rfl ?_)
      refine r_sub [2, 3, 4, 1, 0] rfl (f_X11_waits_L30_ok h0 hC hq ?_ KF 0)
      · refine r_aload_n 101 hC 0 rfl (Or.inl (by decide)) rfl dX11_waits_101 ?_
        refine r_bipush 102 hC kb_6 dX11_waits_102 ?_
        refine r_callVI 104 hC [(0, 6)] [] rfl vl_X11_91 rfl h0 (by decide) (Nat.le_of_ble_eq_true rfl) (by decide) (by decide) dX11_waits_104 (t_X11_refuse x0 6 M6 h0) (fun v22 M23 => ?_)
        exact r_ireturn 107 hC hq (by decide) (by decide) dX11_waits_107
    · exact r_sub [0] rfl (hj16)

/-! WaterTurns.headFor(I)I -/
theorem dX11_headFor_0 : decode cX11_headFor 0 = .ok (.aload_n 0, 1) := by decide +kernel
theorem dX11_headFor_1 : decode cX11_headFor 1 = .ok (.iload_n 1, 1) := by decide +kernel
theorem dX11_headFor_2 : decode cX11_headFor 2 = .ok (.invokevirtual 123, 3) := by decide +kernel
theorem dX11_headFor_5 : decode cX11_headFor 5 = .ok (.ifCond .ne 9, 3) := by decide +kernel
theorem dX11_headFor_8 : decode cX11_headFor 8 = .ok (.aload_n 0, 1) := by decide +kernel
theorem dX11_headFor_9 : decode cX11_headFor 9 = .ok (.iconst 1, 1) := by decide +kernel
theorem dX11_headFor_10 : decode cX11_headFor 10 = .ok (.invokevirtual 91, 3) := by decide +kernel
theorem dX11_headFor_13 : decode cX11_headFor 13 = .ok (.ireturn, 1) := by decide +kernel
theorem dX11_headFor_14 : decode cX11_headFor 14 = .ok (.aload_n 0, 1) := by decide +kernel
theorem dX11_headFor_15 : decode cX11_headFor 15 = .ok (.invokevirtual 284, 3) := by decide +kernel
theorem dX11_headFor_18 : decode cX11_headFor 18 = .ok (.astore_n 2, 1) := by decide +kernel
theorem dX11_headFor_19 : decode cX11_headFor 19 = .ok (.iconst 0, 1) := by decide +kernel
theorem dX11_headFor_20 : decode cX11_headFor 20 = .ok (.istore_n 3, 1) := by decide +kernel
theorem dX11_headFor_21 : decode cX11_headFor 21 = .ok (.sipush 1000, 3) := by decide +kernel
theorem dX11_headFor_24 : decode cX11_headFor 24 = .ok (.istore 4, 2) := by decide +kernel
theorem dX11_headFor_26 : decode cX11_headFor 26 = .ok (.iconst 0, 1) := by decide +kernel
theorem dX11_headFor_27 : decode cX11_headFor 27 = .ok (.istore 5, 2) := by decide +kernel
theorem dX11_headFor_29 : decode cX11_headFor 29 = .ok (.iload 5, 2) := by decide +kernel
theorem dX11_headFor_31 : decode cX11_headFor 31 = .ok (.bipush 20, 2) := by decide +kernel
theorem dX11_headFor_33 : decode cX11_headFor 33 = .ok (.if_icmp .ge 64, 3) := by decide +kernel
theorem dX11_headFor_36 : decode cX11_headFor 36 = .ok (.iload_n 3, 1) := by decide +kernel
theorem dX11_headFor_37 : decode cX11_headFor 37 = .ok (.iload 4, 2) := by decide +kernel
theorem dX11_headFor_39 : decode cX11_headFor 39 = .ok (.if_icmp .ge 58, 3) := by decide +kernel
theorem dX11_headFor_42 : decode cX11_headFor 42 = .ok (.iload_n 3, 1) := by decide +kernel
theorem dX11_headFor_43 : decode cX11_headFor 43 = .ok (.iload 4, 2) := by decide +kernel
theorem dX11_headFor_45 : decode cX11_headFor 45 = .ok (.iadd, 1) := by decide +kernel
theorem dX11_headFor_46 : decode cX11_headFor 46 = .ok (.iconst 2, 1) := by decide +kernel
theorem dX11_headFor_47 : decode cX11_headFor 47 = .ok (.idiv, 1) := by decide +kernel
theorem dX11_headFor_48 : decode cX11_headFor 48 = .ok (.istore 6, 2) := by decide +kernel
theorem dX11_headFor_50 : decode cX11_headFor 50 = .ok (.aload_n 2, 1) := by decide +kernel
theorem dX11_headFor_51 : decode cX11_headFor 51 = .ok (.aload_n 0, 1) := by decide +kernel
theorem dX11_headFor_52 : decode cX11_headFor 52 = .ok (.getfield 26, 3) := by decide +kernel
theorem dX11_headFor_55 : decode cX11_headFor 55 = .ok (.getfield 111, 3) := by decide +kernel
theorem dX11_headFor_58 : decode cX11_headFor 58 = .ok (.iload 6, 2) := by decide +kernel
theorem dX11_headFor_60 : decode cX11_headFor 60 = .ok (.iconst (-1), 1) := by decide +kernel
theorem dX11_headFor_61 : decode cX11_headFor 61 = .ok (.invokevirtual 349, 3) := by decide +kernel
theorem dX11_headFor_64 : decode cX11_headFor 64 = .ok (.aload_n 2, 1) := by decide +kernel
theorem dX11_headFor_65 : decode cX11_headFor 65 = .ok (.aload_n 0, 1) := by decide +kernel
theorem dX11_headFor_66 : decode cX11_headFor 66 = .ok (.getfield 26, 3) := by decide +kernel
theorem dX11_headFor_69 : decode cX11_headFor 69 = .ok (.getfield 111, 3) := by decide +kernel
theorem dX11_headFor_72 : decode cX11_headFor 72 = .ok (.iload_n 1, 1) := by decide +kernel
theorem dX11_headFor_73 : decode cX11_headFor 73 = .ok (.invokevirtual 334, 3) := by decide +kernel
theorem dX11_headFor_76 : decode cX11_headFor 76 = .ok (.ifCond .ne 10, 3) := by decide +kernel
theorem dX11_headFor_79 : decode cX11_headFor 79 = .ok (.iload 6, 2) := by decide +kernel
theorem dX11_headFor_81 : decode cX11_headFor 81 = .ok (.istore 4, 2) := by decide +kernel
theorem dX11_headFor_83 : decode cX11_headFor 83 = .ok (.goto 8, 3) := by decide +kernel
theorem dX11_headFor_86 : decode cX11_headFor 86 = .ok (.iload 6, 2) := by decide +kernel
theorem dX11_headFor_88 : decode cX11_headFor 88 = .ok (.iconst 1, 1) := by decide +kernel
theorem dX11_headFor_89 : decode cX11_headFor 89 = .ok (.iadd, 1) := by decide +kernel
theorem dX11_headFor_90 : decode cX11_headFor 90 = .ok (.istore_n 3, 1) := by decide +kernel
theorem dX11_headFor_91 : decode cX11_headFor 91 = .ok (.iinc 5 1, 3) := by decide +kernel
theorem dX11_headFor_94 : decode cX11_headFor 94 = .ok (.goto (-65), 3) := by decide +kernel
theorem dX11_headFor_97 : decode cX11_headFor 97 = .ok (.iload_n 3, 1) := by decide +kernel
theorem dX11_headFor_98 : decode cX11_headFor 98 = .ok (.sipush 999, 3) := by decide +kernel
theorem dX11_headFor_101 : decode cX11_headFor 101 = .ok (.if_icmp .gt 11, 3) := by decide +kernel
theorem dX11_headFor_104 : decode cX11_headFor 104 = .ok (.aload_n 0, 1) := by decide +kernel
theorem dX11_headFor_105 : decode cX11_headFor 105 = .ok (.iload_n 3, 1) := by decide +kernel
theorem dX11_headFor_106 : decode cX11_headFor 106 = .ok (.invokevirtual 95, 3) := by decide +kernel
theorem dX11_headFor_109 : decode cX11_headFor 109 = .ok (.goto 9, 3) := by decide +kernel
theorem dX11_headFor_112 : decode cX11_headFor 112 = .ok (.aload_n 0, 1) := by decide +kernel
theorem dX11_headFor_113 : decode cX11_headFor 113 = .ok (.bipush 6, 2) := by decide +kernel
theorem dX11_headFor_115 : decode cX11_headFor 115 = .ok (.invokevirtual 91, 3) := by decide +kernel
theorem dX11_headFor_118 : decode cX11_headFor 118 = .ok (.ireturn, 1) := by decide +kernel
set_option maxRecDepth 100000 in
theorem f_X11_headFor_L29_ok {E : EnvT} {C : Cx} {Mi : Mem} {x0 : Int} (h0 : x0 ≠ 0) (hC : CxOK E C cX11_headFor 7 yX11_headFor.cls 6 0 0) {r0 : Int} {M0 : Mem} (hq : RQ E C 0 0 Mi (some .int) (some (0, r0)) M0) {v2 x1 : Int} {k : Int → Mem → Option (Int × Mem)} (hk : ∀ q19 M20, Bk E C 7 Mi (r0, M0) 97 [(0, 29, x0), (3, 0, q19)] [] M20 0 0 (k q19 M20)) : ∀ (n : Nat) (p4 : Int) (p5 : Int) (p6 : Int) (M7 : Mem), Bk E C 7 Mi (r0, M0) 29 [(0, 29, x0), (1, 0, x1), (2, 24, v2), (3, 0, p4), (4, 0, p5), (5, 0, p6)] [] M7 0 0 (f_X11_headFor_L29 v2 x0 x1 k n p4 p5 p6 M7) := by
  intro n
  induction n with
  | zero =>
    intro p4 p5 p6 M7
    exact r_none
  | succ n ih =>
    intro p4 p5 p6 M7
    rw [f_X11_headFor_L29]
    refine r_iload 29 hC 5 rfl dX11_headFor_29 ?_
    refine r_bipush 31 hC kb_20 dX11_headFor_31 ?_
    refine r_icmp_ge 33 hC (tgt := 97) (by decide) dX11_headFor_33 ?_ ?_
    · exact r_sub [0, 3] rfl (hk p4 M7)
    · refine r_iload_n 36 hC 3 rfl rfl dX11_headFor_36 ?_
      refine r_iload 37 hC 4 rfl dX11_headFor_37 ?_
      refine r_icmp_ge 39 hC (tgt := 97) (by decide) dX11_headFor_39 ?_ ?_
      · exact r_sub [0, 3] rfl (hk p4 M7)
      · refine r_iload_n 42 hC 3 rfl rfl dX11_headFor_42 ?_
        refine r_iload 43 hC 4 rfl dX11_headFor_43 ?_
        refine r_iadd 45 hC dX11_headFor_45 ?_
        refine r_iconst 46 hC (r32c rfl) dX11_headFor_46 ?_
        refine r_idiv 47 hC dX11_headFor_47 (fun v8 => ?_)
        refine r_istore 48 hC (by decide) dX11_headFor_48 (r_eqls (ls' := [(6, 0, v8), (0, 29, x0), (1, 0, x1), (2, 24, v2), (3, 0, p4), (4, 0, p5), (5, 0, p6)]) rfl ?_)
        refine r_aload_n 50 hC 3 rfl (Or.inl (by decide)) rfl dX11_headFor_50 ?_
        refine r_aload_n 51 hC 1 rfl (Or.inl (by decide)) rfl dX11_headFor_51 ?_
        refine r_get 52 hC fd_9_2 fl_X11_26 dX11_headFor_52 (fun v9 => ?_)
        refine r_get 55 hC fd_8_0 fl_X11_111 dX11_headFor_55 (fun v10 => ?_)
        refine r_iload 58 hC 0 rfl dX11_headFor_58 ?_
        refine r_iconst 60 hC (r32c rfl) dX11_headFor_60 ?_
        refine r_nn (fun hn11 => ?_)
        refine r_callVV 61 hC [(27, v10), (0, v8), (0, (-1))] [] rfl vl_X11_349 rfl hn11 (by decide) (Nat.le_of_ble_eq_true rfl) (by decide) (by decide) dX11_headFor_61 (t_X5_flow v2 v10 v8 (-1) M7 hn11) (fun M12 => ?_)
        refine r_aload_n 64 hC 3 rfl (Or.inl (by decide)) rfl dX11_headFor_64 ?_
        refine r_aload_n 65 hC 1 rfl (Or.inl (by decide)) rfl dX11_headFor_65 ?_
        refine r_get 66 hC fd_9_2 fl_X11_26 dX11_headFor_66 (fun v13 => ?_)
        refine r_get 69 hC fd_8_0 fl_X11_111 dX11_headFor_69 (fun v14 => ?_)
        refine r_iload_n 72 hC 2 rfl rfl dX11_headFor_72 ?_
        refine r_callVP 73 hC [(27, v14), (0, x1)] [] rfl vl_X11_334 rfl hn11 (by decide) (Nat.le_of_ble_eq_true rfl) (by decide) (by decide) dX11_headFor_73 (t_X5_shortOf v2 v14 x1 M12 hn11) (fun v15 => ?_)
        refine r_jn (P := fun j91 => ∀ (q16 : Int) (q17 : Int), Bk E C 7 Mi (r0, M0) 91 [(0, 29, x0), (1, 0, x1), (2, 24, v2), (3, 0, q16), (4, 0, q17), (5, 0, p6)] [] M12 0 0 (j91 q16 q17)) ?_ (fun j91 hj91 => ?_)
        · intro q16 q17
          refine r_iinc 91 hC 5 rfl (by decide) dX11_headFor_91 (r_eqls (ls' := [(5, 0, w32 (p6 + 1)), (0, 29, x0), (1, 0, x1), (2, 24, v2), (3, 0, q16), (4, 0, q17)]) rfl ?_)
          refine r_goto 94 hC (tgt := 29) (by decide) dX11_headFor_94 ?_
          exact r_sub [1, 2, 3, 4, 5, 0] rfl (ih q16 q17 (w32 (p6 + 1)) M12)
        refine r_if_ne 76 hC (tgt := 86) (by decide) dX11_headFor_76 ?_ ?_
        · refine r_iload 86 hC 0 rfl dX11_headFor_86 ?_
          refine r_iconst 88 hC (r32c rfl) dX11_headFor_88 ?_
          refine r_iadd 89 hC dX11_headFor_89 ?_
          refine r_istore_nL 90 hC rfl (by decide) dX11_headFor_90 (fun v18 => r_eqls (ls' := [(3, 0, v18), (6, 0, v8), (0, 29, x0), (1, 0, x1), (2, 24, v2), (4, 0, p5), (5, 0, p6)]) rfl ?_)
          exact r_sub [2, 3, 4, 0, 5, 6] rfl (hj91 v18 p5)
        · refine r_iload 79 hC 0 rfl dX11_headFor_79 ?_
          refine r_istore 81 hC (by decide) dX11_headFor_81 (r_eqls (ls' := [(4, 0, v8), (6, 0, v8), (0, 29, x0), (1, 0, x1), (2, 24, v2), (3, 0, p4), (5, 0, p6)]) rfl ?_)
          refine r_goto 83 hC (tgt := 91) (by decide) dX11_headFor_83 ?_
          exact r_sub [2, 3, 4, 5, 0, 6] rfl (hj91 p4 v8)
set_option maxRecDepth 100000 in
theorem t_X11_headFor (x0 x1 : Int) (M : Mem) (h0 : x0 ≠ 0) : MtI yX11_headFor cX11_headFor 7 (some .int) 6 0 0 [(29, x0), (0, x1)] M 0 (f_X11_headFor x0 x1 M) := by
  refine mk_I (by decide +kernel) (Nat.le_of_ble_eq_true rfl) (fun E C r0 M0 hC hq hin => ?_)
  refine r_eqls (ls' := [(0, 29, x0), (1, 0, x1)]) rfl ?_
  unfold f_X11_headFor
  refine r_aload_n 0 hC 0 rfl (Or.inl (by decide)) rfl dX11_headFor_0 ?_
  refine r_iload_n 1 hC 1 rfl rfl dX11_headFor_1 ?_
  refine r_callVP 2 hC [(0, x1)] [] rfl vl_X11_123 rfl h0 (by decide) (Nat.le_of_ble_eq_true rfl) (by decide) (by decide) dX11_headFor_2 (t_X11_isField x0 x1 M h0) (fun v1 => ?_)
  refine r_if_ne 5 hC (tgt := 14) (by decide) dX11_headFor_5 ?_ ?_
  · refine r_aload_n 14 hC 0 rfl (Or.inl (by decide)) rfl dX11_headFor_14 ?_
    refine r_callVI 15 hC [] [] rfl vl_X11_284 rfl h0 (by decide) (Nat.le_of_ble_eq_true rfl) (by decide) (by decide) dX11_headFor_15 (t_X11_sweptWorld x0 M h0) (fun v2 M3 => ?_)
    refine r_astore_n 18 hC rfl (Or.inl (by decide)) (by decide) dX11_headFor_18 (r_eqls (ls' := [(2, 24, v2), (0, 29, x0), (1, 0, x1)]) rfl ?_)
    refine r_iconst 19 hC (r32c rfl) dX11_headFor_19 ?_
    refine r_istore_n 20 hC rfl (by decide) dX11_headFor_20 (r_eqls (ls' := [(3, 0, 0), (2, 24, v2), (0, 29, x0), (1, 0, x1)]) rfl ?_)
    refine r_sipush 21 hC ks_1000 dX11_headFor_21 ?_
    refine r_istore 24 hC (by decide) dX11_headFor_24 (r_eqls (ls' := [(4, 0, 1000), (3, 0, 0), (2, 24, v2), (0, 29, x0), (1, 0, x1)]) rfl ?_)
    refine r_iconst 26 hC (r32c rfl) dX11_headFor_26 ?_
    refine r_istore 27 hC (by decide) dX11_headFor_27 (r_eqls (ls' := [(5, 0, 0), (4, 0, 1000), (3, 0, 0), (2, 24, v2), (0, 29, x0), (1, 0, x1)]) rfl ?_)
    refine r_sub [4, 5, 3, 2, 1, 0] rfl (f_X11_headFor_L29_ok h0 hC hq (fun q21 M22 => ?_) KF 0 1000 0 M3)
    · refine r_iload_n 97 hC 1 rfl rfl dX11_headFor_97 ?_
      refine r_sipush 98 hC ks_999 dX11_headFor_98 ?_
      refine r_jn (P := fun j118 => ∀ (q23 : Int) (M24 : Mem), Bk E C 7 M (r0, M0) 118 [] [(0, q23)] M24 0 0 (j118 q23 M24)) ?_ (fun j118 hj118 => ?_)
      · intro q23 M24
        exact r_ireturn 118 hC hq (by decide) (by decide) dX11_headFor_118
      refine r_icmp_gt 101 hC (tgt := 112) (by decide) dX11_headFor_101 ?_ ?_
      · refine r_aload_n 112 hC 0 rfl (Or.inl (by decide)) rfl dX11_headFor_112 ?_
        refine r_bipush 113 hC kb_6 dX11_headFor_113 ?_
        refine r_callVI 115 hC [(0, 6)] [] rfl vl_X11_91 rfl h0 (by decide) (Nat.le_of_ble_eq_true rfl) (by decide) (by decide) dX11_headFor_115 (t_X11_refuse x0 6 M22 h0) (fun v25 M26 => ?_)
        exact r_sub [] rfl (hj118 v25 M26)
      · refine r_aload_n 104 hC 0 rfl (Or.inl (by decide)) rfl dX11_headFor_104 ?_
        refine r_iload_n 105 hC 1 rfl rfl dX11_headFor_105 ?_
        refine r_callVI 106 hC [(0, q21)] [] rfl vl_X11_95 rfl h0 (by decide) (Nat.le_of_ble_eq_true rfl) (by decide) (by decide) dX11_headFor_106 (t_X11_answer x0 q21 M22 h0) (fun v27 M28 => ?_)
        refine r_goto 109 hC (tgt := 118) (by decide) dX11_headFor_109 ?_
        exact r_sub [] rfl (hj118 v27 M28)
  · refine r_aload_n 8 hC 0 rfl (Or.inl (by decide)) rfl dX11_headFor_8 ?_
    refine r_iconst 9 hC (r32c rfl) dX11_headFor_9 ?_
    refine r_callVI 10 hC [(0, 1)] [] rfl vl_X11_91 rfl h0 (by decide) (Nat.le_of_ble_eq_true rfl) (by decide) (by decide) dX11_headFor_10 (t_X11_refuse x0 1 M h0) (fun v29 M30 => ?_)
    exact r_ireturn 13 hC hq (by decide) (by decide) dX11_headFor_13

/-! WaterTurns.shadow()I -/
theorem dX11_shadow_0 : decode cX11_shadow 0 = .ok (.aload_n 0, 1) := by decide +kernel
theorem dX11_shadow_1 : decode cX11_shadow 1 = .ok (.invokevirtual 284, 3) := by decide +kernel
theorem dX11_shadow_4 : decode cX11_shadow 4 = .ok (.astore_n 1, 1) := by decide +kernel
theorem dX11_shadow_5 : decode cX11_shadow 5 = .ok (.lconst 0, 1) := by decide +kernel
theorem dX11_shadow_6 : decode cX11_shadow 6 = .ok (.lstore_n 2, 1) := by decide +kernel
theorem dX11_shadow_7 : decode cX11_shadow 7 = .ok (.iconst (-1), 1) := by decide +kernel
theorem dX11_shadow_8 : decode cX11_shadow 8 = .ok (.istore 4, 2) := by decide +kernel
theorem dX11_shadow_10 : decode cX11_shadow 10 = .ok (.iconst 0, 1) := by decide +kernel
theorem dX11_shadow_11 : decode cX11_shadow 11 = .ok (.istore 5, 2) := by decide +kernel
theorem dX11_shadow_13 : decode cX11_shadow 13 = .ok (.iload 5, 2) := by decide +kernel
theorem dX11_shadow_15 : decode cX11_shadow 15 = .ok (.aload_n 0, 1) := by decide +kernel
theorem dX11_shadow_16 : decode cX11_shadow 16 = .ok (.getfield 26, 3) := by decide +kernel
theorem dX11_shadow_19 : decode cX11_shadow 19 = .ok (.getfield 111, 3) := by decide +kernel
theorem dX11_shadow_22 : decode cX11_shadow 22 = .ok (.getfield 114, 3) := by decide +kernel
theorem dX11_shadow_25 : decode cX11_shadow 25 = .ok (.if_icmp .ge 48, 3) := by decide +kernel
theorem dX11_shadow_28 : decode cX11_shadow 28 = .ok (.aload_n 1, 1) := by decide +kernel
theorem dX11_shadow_29 : decode cX11_shadow 29 = .ok (.aload_n 0, 1) := by decide +kernel
theorem dX11_shadow_30 : decode cX11_shadow 30 = .ok (.getfield 26, 3) := by decide +kernel
theorem dX11_shadow_33 : decode cX11_shadow 33 = .ok (.getfield 111, 3) := by decide +kernel
theorem dX11_shadow_36 : decode cX11_shadow 36 = .ok (.aload_n 0, 1) := by decide +kernel
theorem dX11_shadow_37 : decode cX11_shadow 37 = .ok (.getfield 26, 3) := by decide +kernel
theorem dX11_shadow_40 : decode cX11_shadow 40 = .ok (.getfield 111, 3) := by decide +kernel
theorem dX11_shadow_43 : decode cX11_shadow 43 = .ok (.iload 5, 2) := by decide +kernel
theorem dX11_shadow_45 : decode cX11_shadow 45 = .ok (.invokevirtual 235, 3) := by decide +kernel
theorem dX11_shadow_48 : decode cX11_shadow 48 = .ok (.invokevirtual 381, 3) := by decide +kernel
theorem dX11_shadow_51 : decode cX11_shadow 51 = .ok (.lstore 6, 2) := by decide +kernel
theorem dX11_shadow_53 : decode cX11_shadow 53 = .ok (.lload 6, 2) := by decide +kernel
theorem dX11_shadow_55 : decode cX11_shadow 55 = .ok (.lload_n 2, 1) := by decide +kernel
theorem dX11_shadow_56 : decode cX11_shadow 56 = .ok (.lcmp, 1) := by decide +kernel
theorem dX11_shadow_57 : decode cX11_shadow 57 = .ok (.ifCond .le 10, 3) := by decide +kernel
theorem dX11_shadow_60 : decode cX11_shadow 60 = .ok (.lload 6, 2) := by decide +kernel
theorem dX11_shadow_62 : decode cX11_shadow 62 = .ok (.lstore_n 2, 1) := by decide +kernel
theorem dX11_shadow_63 : decode cX11_shadow 63 = .ok (.iload 5, 2) := by decide +kernel
theorem dX11_shadow_65 : decode cX11_shadow 65 = .ok (.istore 4, 2) := by decide +kernel
theorem dX11_shadow_67 : decode cX11_shadow 67 = .ok (.iinc 5 1, 3) := by decide +kernel
theorem dX11_shadow_70 : decode cX11_shadow 70 = .ok (.goto (-57), 3) := by decide +kernel
theorem dX11_shadow_73 : decode cX11_shadow 73 = .ok (.aload_n 0, 1) := by decide +kernel
theorem dX11_shadow_74 : decode cX11_shadow 74 = .ok (.iload 4, 2) := by decide +kernel
theorem dX11_shadow_76 : decode cX11_shadow 76 = .ok (.lload_n 2, 1) := by decide +kernel
theorem dX11_shadow_77 : decode cX11_shadow 77 = .ok (.invokevirtual 353, 3) := by decide +kernel
theorem dX11_shadow_80 : decode cX11_shadow 80 = .ok (.ireturn, 1) := by decide +kernel
set_option maxRecDepth 100000 in
theorem f_X11_shadow_L13_ok {E : EnvT} {C : Cx} {Mi : Mem} {x0 : Int} (h0 : x0 ≠ 0) (hC : CxOK E C cX11_shadow 8 yX11_shadow.cls 6 0 0) {r0 : Int} {M0 : Mem} (hq : RQ E C 0 0 Mi (some .int) (some (0, r0)) M0) {M2 : Mem} {v1 : Int} {k : Int → Int → Option (Int × Mem)} (hk : ∀ q19 q20, Bk E C 8 Mi (r0, M0) 73 [(0, 29, x0), (2, 1, q19), (4, 0, q20)] [] M2 0 0 (k q19 q20)) : ∀ (n : Nat) (p3 : Int) (p4 : Int) (p5 : Int), Bk E C 8 Mi (r0, M0) 13 [(0, 29, x0), (1, 24, v1), (2, 1, p3), (4, 0, p4), (5, 0, p5)] [] M2 0 0 (f_X11_shadow_L13 M2 v1 x0 k n p3 p4 p5) := by
  intro n
  induction n with
  | zero =>
    intro p3 p4 p5
    exact r_none
  | succ n ih =>
    intro p3 p4 p5
    rw [f_X11_shadow_L13]
    refine r_iload 13 hC 4 rfl dX11_shadow_13 ?_
    refine r_aload_n 15 hC 0 rfl (Or.inl (by decide)) rfl dX11_shadow_15 ?_
    refine r_get 16 hC fd_9_2 fl_X11_26 dX11_shadow_16 (fun v6 => ?_)
    refine r_get 19 hC fd_8_0 fl_X11_111 dX11_shadow_19 (fun v7 => ?_)
    refine r_get 22 hC fd_7_3 fl_X11_114 dX11_shadow_22 (fun v8 => ?_)
    refine r_icmp_ge 25 hC (tgt := 73) (by decide) dX11_shadow_25 ?_ ?_
    · exact r_sub [0, 2, 3] rfl (hk p3 p4)
    · refine r_aload_n 28 hC 1 rfl (Or.inl (by decide)) rfl dX11_shadow_28 ?_
      refine r_aload_n 29 hC 0 rfl (Or.inl (by decide)) rfl dX11_shadow_29 ?_
      refine r_get 30 hC fd_9_2 fl_X11_26 dX11_shadow_30 (fun v9 => ?_)
      refine r_get 33 hC fd_8_0 fl_X11_111 dX11_shadow_33 (fun v10 => ?_)
      refine r_aload_n 36 hC 0 rfl (Or.inl (by decide)) rfl dX11_shadow_36 ?_
      refine r_get 37 hC fd_9_2 fl_X11_26 dX11_shadow_37 (fun v11 => ?_)
      refine r_get 40 hC fd_8_0 fl_X11_111 dX11_shadow_40 (fun v12 => ?_)
      refine r_iload 43 hC 4 rfl dX11_shadow_43 ?_
      refine r_nn (fun hn13 => ?_)
      refine r_callVP 45 hC [(0, p5)] [(27, v10), (24, v1)] rfl vl_X11_235 rfl hn13 (by decide) (Nat.le_of_ble_eq_true rfl) (by decide) (by decide) dX11_shadow_45 (t_X8_fieldsBelow v12 p5 M2 hn13) (fun v14 => ?_)
      refine r_nn (fun hn15 => ?_)
      refine r_callVP 48 hC [(27, v10), (0, v14)] [] rfl vl_X11_381 rfl hn15 (by decide) (Nat.le_of_ble_eq_true rfl) (by decide) (by decide) dX11_shadow_48 (t_X5_waterIn v1 v10 v14 M2 hn15) (fun v16 => ?_)
      refine r_lstore 51 hC (by decide) dX11_shadow_51 (r_eqls (ls' := [(6, 1, v16), (0, 29, x0), (1, 24, v1), (2, 1, p3), (4, 0, p4), (5, 0, p5)]) rfl ?_)
      refine r_lload 53 hC 0 rfl dX11_shadow_53 ?_
      refine r_lload_n 55 hC 3 rfl rfl dX11_shadow_55 ?_
      refine r_jn (P := fun j67 => ∀ (q17 : Int) (q18 : Int), Bk E C 8 Mi (r0, M0) 67 [(0, 29, x0), (1, 24, v1), (2, 1, q17), (4, 0, q18), (5, 0, p5)] [] M2 0 0 (j67 q17 q18)) ?_ (fun j67 hj67 => ?_)
      · intro q17 q18
        refine r_iinc 67 hC 4 rfl (by decide) dX11_shadow_67 (r_eqls (ls' := [(5, 0, w32 (p5 + 1)), (0, 29, x0), (1, 24, v1), (2, 1, q17), (4, 0, q18)]) rfl ?_)
        refine r_goto 70 hC (tgt := 13) (by decide) dX11_shadow_70 ?_
        exact r_sub [1, 2, 3, 4, 0] rfl (ih q17 q18 (w32 (p5 + 1)))
      refine r_lcmp_le 56 hC (tgt := 67) (by decide) dX11_shadow_56 dX11_shadow_57 ?_ ?_
      · exact r_sub [1, 2, 3, 4, 5] rfl (hj67 p3 p4)
      · refine r_lload 60 hC 0 rfl dX11_shadow_60 ?_
        refine r_lstore_n 62 hC rfl (by decide) dX11_shadow_62 (r_eqls (ls' := [(2, 1, v16), (6, 1, v16), (0, 29, x0), (1, 24, v1), (4, 0, p4), (5, 0, p5)]) rfl ?_)
        refine r_iload 63 hC 5 rfl dX11_shadow_63 ?_
        refine r_istore 65 hC (by decide) dX11_shadow_65 (r_eqls (ls' := [(4, 0, p5), (2, 1, v16), (6, 1, v16), (0, 29, x0), (1, 24, v1), (5, 0, p5)]) rfl ?_)
        exact r_sub [3, 4, 1, 0, 5] rfl (hj67 v16 p5)
set_option maxRecDepth 100000 in
theorem t_X11_shadow (x0 : Int) (M : Mem) (h0 : x0 ≠ 0) : MtI yX11_shadow cX11_shadow 8 (some .int) 6 0 0 [(29, x0)] M 0 (f_X11_shadow x0 M) := by
  refine mk_I (by decide +kernel) (Nat.le_of_ble_eq_true rfl) (fun E C r0 M0 hC hq hin => ?_)
  refine r_eqls (ls' := [(0, 29, x0)]) rfl ?_
  unfold f_X11_shadow
  refine r_aload_n 0 hC 0 rfl (Or.inl (by decide)) rfl dX11_shadow_0 ?_
  refine r_callVI 1 hC [] [] rfl vl_X11_284 rfl h0 (by decide) (Nat.le_of_ble_eq_true rfl) (by decide) (by decide) dX11_shadow_1 (t_X11_sweptWorld x0 M h0) (fun v1 M2 => ?_)
  refine r_astore_n 4 hC rfl (Or.inl (by decide)) (by decide) dX11_shadow_4 (r_eqls (ls' := [(1, 24, v1), (0, 29, x0)]) rfl ?_)
  refine r_lconst 5 hC (x := 0) ⟨by decide +kernel, r64c rfl⟩ dX11_shadow_5 ?_
  refine r_lstore_n 6 hC rfl (by decide) dX11_shadow_6 (r_eqls (ls' := [(2, 1, 0), (1, 24, v1), (0, 29, x0)]) rfl ?_)
  refine r_iconst 7 hC (r32c rfl) dX11_shadow_7 ?_
  refine r_istore 8 hC (by decide) dX11_shadow_8 (r_eqls (ls' := [(4, 0, (-1)), (2, 1, 0), (1, 24, v1), (0, 29, x0)]) rfl ?_)
  refine r_iconst 10 hC (r32c rfl) dX11_shadow_10 ?_
  refine r_istore 11 hC (by decide) dX11_shadow_11 (r_eqls (ls' := [(5, 0, 0), (4, 0, (-1)), (2, 1, 0), (1, 24, v1), (0, 29, x0)]) rfl ?_)
  refine r_sub [4, 3, 2, 1, 0] rfl (f_X11_shadow_L13_ok h0 hC hq (fun q21 q22 => ?_) KF 0 (-1) 0)
  · refine r_aload_n 73 hC 0 rfl (Or.inl (by decide)) rfl dX11_shadow_73 ?_
    refine r_iload 74 hC 2 rfl dX11_shadow_74 ?_
    refine r_lload_n 76 hC 1 rfl rfl dX11_shadow_76 ?_
    refine r_callVI 77 hC [(0, q22), (1, q21)] [] rfl vl_X11_353 rfl h0 (by decide) (Nat.le_of_ble_eq_true rfl) (by decide) (by decide) dX11_shadow_77 (t_X11_tellBest x0 q22 q21 M2 h0) (fun v23 M24 => ?_)
    exact r_ireturn 80 hC hq (by decide) (by decide) dX11_shadow_80

/-! WaterTurns.waterIfSwapped(II)J -/
theorem dX11_waterIfSwapped_0 : decode cX11_waterIfSwapped 0 = .ok (.aload_n 0, 1) := by decide +kernel
theorem dX11_waterIfSwapped_1 : decode cX11_waterIfSwapped 1 = .ok (.getfield 26, 3) := by decide +kernel
theorem dX11_waterIfSwapped_4 : decode cX11_waterIfSwapped 4 = .ok (.iload_n 1, 1) := by decide +kernel
theorem dX11_waterIfSwapped_5 : decode cX11_waterIfSwapped 5 = .ok (.iload_n 2, 1) := by decide +kernel
theorem dX11_waterIfSwapped_6 : decode cX11_waterIfSwapped 6 = .ok (.invokevirtual 257, 3) := by decide +kernel
theorem dX11_waterIfSwapped_9 : decode cX11_waterIfSwapped 9 = .ok (.pop, 1) := by decide +kernel
theorem dX11_waterIfSwapped_10 : decode cX11_waterIfSwapped 10 = .ok (.aload_n 0, 1) := by decide +kernel
theorem dX11_waterIfSwapped_11 : decode cX11_waterIfSwapped 11 = .ok (.invokevirtual 284, 3) := by decide +kernel
theorem dX11_waterIfSwapped_14 : decode cX11_waterIfSwapped 14 = .ok (.aload_n 0, 1) := by decide +kernel
theorem dX11_waterIfSwapped_15 : decode cX11_waterIfSwapped 15 = .ok (.getfield 26, 3) := by decide +kernel
theorem dX11_waterIfSwapped_18 : decode cX11_waterIfSwapped 18 = .ok (.getfield 111, 3) := by decide +kernel
theorem dX11_waterIfSwapped_21 : decode cX11_waterIfSwapped 21 = .ok (.invokevirtual 345, 3) := by decide +kernel
theorem dX11_waterIfSwapped_24 : decode cX11_waterIfSwapped 24 = .ok (.lstore_n 3, 1) := by decide +kernel
theorem dX11_waterIfSwapped_25 : decode cX11_waterIfSwapped 25 = .ok (.aload_n 0, 1) := by decide +kernel
theorem dX11_waterIfSwapped_26 : decode cX11_waterIfSwapped 26 = .ok (.getfield 26, 3) := by decide +kernel
theorem dX11_waterIfSwapped_29 : decode cX11_waterIfSwapped 29 = .ok (.iload_n 1, 1) := by decide +kernel
theorem dX11_waterIfSwapped_30 : decode cX11_waterIfSwapped 30 = .ok (.iload_n 2, 1) := by decide +kernel
theorem dX11_waterIfSwapped_31 : decode cX11_waterIfSwapped 31 = .ok (.invokevirtual 257, 3) := by decide +kernel
theorem dX11_waterIfSwapped_34 : decode cX11_waterIfSwapped 34 = .ok (.pop, 1) := by decide +kernel
theorem dX11_waterIfSwapped_35 : decode cX11_waterIfSwapped 35 = .ok (.lload_n 3, 1) := by decide +kernel
theorem dX11_waterIfSwapped_36 : decode cX11_waterIfSwapped 36 = .ok (.lreturn, 1) := by decide +kernel
set_option maxRecDepth 100000 in
theorem t_X11_waterIfSwapped (x0 x1 x2 : Int) (M : Mem) (h0 : x0 ≠ 0) : MtI yX11_waterIfSwapped cX11_waterIfSwapped 5 (some .long) 6 0 0 [(29, x0), (0, x1), (0, x2)] M 1 (f_X11_waterIfSwapped x0 x1 x2 M) := by
  refine mk_I (by decide +kernel) (Nat.le_of_ble_eq_true rfl) (fun E C r0 M0 hC hq hin => ?_)
  refine r_eqls (ls' := [(0, 29, x0), (1, 0, x1), (2, 0, x2)]) rfl ?_
  unfold f_X11_waterIfSwapped
  refine r_aload_n 0 hC 0 rfl (Or.inl (by decide)) rfl dX11_waterIfSwapped_0 ?_
  refine r_get 1 hC fd_9_2 fl_X11_26 dX11_waterIfSwapped_1 (fun v1 => ?_)
  refine r_iload_n 4 hC 1 rfl rfl dX11_waterIfSwapped_4 ?_
  refine r_iload_n 5 hC 2 rfl rfl dX11_waterIfSwapped_5 ?_
  refine r_nn (fun hn2 => ?_)
  refine r_callVI 6 hC [(0, x1), (0, x2)] [] rfl vl_X11_257 rfl hn2 (by decide) (Nat.le_of_ble_eq_true rfl) (by decide) (by decide) dX11_waterIfSwapped_6 (t_X10_changePlaces v1 x1 x2 M hn2) (fun v3 M4 => ?_)
  refine r_pop 9 hC (by decide) dX11_waterIfSwapped_9 ?_
  refine r_aload_n 10 hC 0 rfl (Or.inl (by decide)) rfl dX11_waterIfSwapped_10 ?_
  refine r_callVI 11 hC [] [] rfl vl_X11_284 rfl h0 (by decide) (Nat.le_of_ble_eq_true rfl) (by decide) (by decide) dX11_waterIfSwapped_11 (t_X11_sweptWorld x0 M4 h0) (fun v5 M6 => ?_)
  refine r_aload_n 14 hC 0 rfl (Or.inl (by decide)) rfl dX11_waterIfSwapped_14 ?_
  refine r_get 15 hC fd_9_2 fl_X11_26 dX11_waterIfSwapped_15 (fun v7 => ?_)
  refine r_get 18 hC fd_8_0 fl_X11_111 dX11_waterIfSwapped_18 (fun v8 => ?_)
  refine r_nn (fun hn9 => ?_)
  refine r_callVP 21 hC [(27, v8)] [] rfl vl_X11_345 rfl hn9 (by decide) (Nat.le_of_ble_eq_true rfl) (by decide) (by decide) dX11_waterIfSwapped_21 (t_X5_allWater v5 v8 M6 hn9) (fun v10 => ?_)
  refine r_lstore_n 24 hC rfl (by decide) dX11_waterIfSwapped_24 (r_eqls (ls' := [(3, 1, v10), (0, 29, x0), (1, 0, x1), (2, 0, x2)]) rfl ?_)
  refine r_aload_n 25 hC 1 rfl (Or.inl (by decide)) rfl dX11_waterIfSwapped_25 ?_
  refine r_get 26 hC fd_9_2 fl_X11_26 dX11_waterIfSwapped_26 (fun v11 => ?_)
  refine r_iload_n 29 hC 2 rfl rfl dX11_waterIfSwapped_29 ?_
  refine r_iload_n 30 hC 3 rfl rfl dX11_waterIfSwapped_30 ?_
  refine r_nn (fun hn12 => ?_)
  refine r_callVI 31 hC [(0, x1), (0, x2)] [] rfl vl_X11_257 rfl hn12 (by decide) (Nat.le_of_ble_eq_true rfl) (by decide) (by decide) dX11_waterIfSwapped_31 (t_X10_changePlaces v11 x1 x2 M6 hn12) (fun v13 M14 => ?_)
  refine r_pop 34 hC (by decide) dX11_waterIfSwapped_34 ?_
  refine r_lload_n 35 hC 0 rfl rfl dX11_waterIfSwapped_35 ?_
  exact r_lreturn 36 hC hq (by decide) (by decide) dX11_waterIfSwapped_36

/-! WaterTurns.bestSwap(I)I -/
theorem dX11_bestSwap_0 : decode cX11_bestSwap 0 = .ok (.iload_n 1, 1) := by decide +kernel
theorem dX11_bestSwap_1 : decode cX11_bestSwap 1 = .ok (.iconst 0, 1) := by decide +kernel
theorem dX11_bestSwap_2 : decode cX11_bestSwap 2 = .ok (.iconst 1, 1) := by decide +kernel
theorem dX11_bestSwap_3 : decode cX11_bestSwap 3 = .ok (.invokestatic 132, 3) := by decide +kernel
theorem dX11_bestSwap_6 : decode cX11_bestSwap 6 = .ok (.ifCond .ne 9, 3) := by decide +kernel
theorem dX11_bestSwap_9 : decode cX11_bestSwap 9 = .ok (.aload_n 0, 1) := by decide +kernel
theorem dX11_bestSwap_10 : decode cX11_bestSwap 10 = .ok (.iconst 1, 1) := by decide +kernel
theorem dX11_bestSwap_11 : decode cX11_bestSwap 11 = .ok (.invokevirtual 91, 3) := by decide +kernel
theorem dX11_bestSwap_14 : decode cX11_bestSwap 14 = .ok (.ireturn, 1) := by decide +kernel
theorem dX11_bestSwap_15 : decode cX11_bestSwap 15 = .ok (.aload_n 0, 1) := by decide +kernel
theorem dX11_bestSwap_16 : decode cX11_bestSwap 16 = .ok (.getfield 26, 3) := by decide +kernel
theorem dX11_bestSwap_19 : decode cX11_bestSwap 19 = .ok (.getfield 206, 3) := by decide +kernel
theorem dX11_bestSwap_22 : decode cX11_bestSwap 22 = .ok (.getfield 219, 3) := by decide +kernel
theorem dX11_bestSwap_25 : decode cX11_bestSwap 25 = .ok (.ifCond .le 10, 3) := by decide +kernel
theorem dX11_bestSwap_28 : decode cX11_bestSwap 28 = .ok (.aload_n 0, 1) := by decide +kernel
theorem dX11_bestSwap_29 : decode cX11_bestSwap 29 = .ok (.bipush 7, 2) := by decide +kernel
theorem dX11_bestSwap_31 : decode cX11_bestSwap 31 = .ok (.invokevirtual 91, 3) := by decide +kernel
theorem dX11_bestSwap_34 : decode cX11_bestSwap 34 = .ok (.ireturn, 1) := by decide +kernel
theorem dX11_bestSwap_35 : decode cX11_bestSwap 35 = .ok (.aload_n 0, 1) := by decide +kernel
theorem dX11_bestSwap_36 : decode cX11_bestSwap 36 = .ok (.getfield 26, 3) := by decide +kernel
theorem dX11_bestSwap_39 : decode cX11_bestSwap 39 = .ok (.getfield 206, 3) := by decide +kernel
theorem dX11_bestSwap_42 : decode cX11_bestSwap 42 = .ok (.getfield 238, 3) := by decide +kernel
theorem dX11_bestSwap_45 : decode cX11_bestSwap 45 = .ok (.astore_n 2, 1) := by decide +kernel
theorem dX11_bestSwap_46 : decode cX11_bestSwap 46 = .ok (.aload_n 0, 1) := by decide +kernel
theorem dX11_bestSwap_47 : decode cX11_bestSwap 47 = .ok (.invokevirtual 284, 3) := by decide +kernel
theorem dX11_bestSwap_50 : decode cX11_bestSwap 50 = .ok (.aload_n 0, 1) := by decide +kernel
theorem dX11_bestSwap_51 : decode cX11_bestSwap 51 = .ok (.getfield 26, 3) := by decide +kernel
theorem dX11_bestSwap_54 : decode cX11_bestSwap 54 = .ok (.getfield 111, 3) := by decide +kernel
theorem dX11_bestSwap_57 : decode cX11_bestSwap 57 = .ok (.invokevirtual 345, 3) := by decide +kernel
theorem dX11_bestSwap_60 : decode cX11_bestSwap 60 = .ok (.lstore_n 3, 1) := by decide +kernel
theorem dX11_bestSwap_61 : decode cX11_bestSwap 61 = .ok (.lconst 0, 1) := by decide +kernel
theorem dX11_bestSwap_62 : decode cX11_bestSwap 62 = .ok (.lstore 5, 2) := by decide +kernel
theorem dX11_bestSwap_64 : decode cX11_bestSwap 64 = .ok (.iconst (-1), 1) := by decide +kernel
theorem dX11_bestSwap_65 : decode cX11_bestSwap 65 = .ok (.istore 7, 2) := by decide +kernel
theorem dX11_bestSwap_67 : decode cX11_bestSwap 67 = .ok (.iconst 0, 1) := by decide +kernel
theorem dX11_bestSwap_68 : decode cX11_bestSwap 68 = .ok (.istore 8, 2) := by decide +kernel
theorem dX11_bestSwap_70 : decode cX11_bestSwap 70 = .ok (.iload 8, 2) := by decide +kernel
theorem dX11_bestSwap_72 : decode cX11_bestSwap 72 = .ok (.aload_n 0, 1) := by decide +kernel
theorem dX11_bestSwap_73 : decode cX11_bestSwap 73 = .ok (.getfield 26, 3) := by decide +kernel
theorem dX11_bestSwap_76 : decode cX11_bestSwap 76 = .ok (.getfield 111, 3) := by decide +kernel
theorem dX11_bestSwap_79 : decode cX11_bestSwap 79 = .ok (.getfield 120, 3) := by decide +kernel
theorem dX11_bestSwap_82 : decode cX11_bestSwap 82 = .ok (.if_icmp .ge 81, 3) := by decide +kernel
theorem dX11_bestSwap_85 : decode cX11_bestSwap 85 = .ok (.iload 8, 2) := by decide +kernel
theorem dX11_bestSwap_87 : decode cX11_bestSwap 87 = .ok (.iconst 1, 1) := by decide +kernel
theorem dX11_bestSwap_88 : decode cX11_bestSwap 88 = .ok (.iadd, 1) := by decide +kernel
theorem dX11_bestSwap_89 : decode cX11_bestSwap 89 = .ok (.istore 9, 2) := by decide +kernel
theorem dX11_bestSwap_91 : decode cX11_bestSwap 91 = .ok (.iload 9, 2) := by decide +kernel
theorem dX11_bestSwap_93 : decode cX11_bestSwap 93 = .ok (.aload_n 0, 1) := by decide +kernel
theorem dX11_bestSwap_94 : decode cX11_bestSwap 94 = .ok (.getfield 26, 3) := by decide +kernel
theorem dX11_bestSwap_97 : decode cX11_bestSwap 97 = .ok (.getfield 111, 3) := by decide +kernel
theorem dX11_bestSwap_100 : decode cX11_bestSwap 100 = .ok (.getfield 120, 3) := by decide +kernel
theorem dX11_bestSwap_103 : decode cX11_bestSwap 103 = .ok (.if_icmp .ge 54, 3) := by decide +kernel
theorem dX11_bestSwap_106 : decode cX11_bestSwap 106 = .ok (.aload_n 0, 1) := by decide +kernel
theorem dX11_bestSwap_107 : decode cX11_bestSwap 107 = .ok (.aload_n 2, 1) := by decide +kernel
theorem dX11_bestSwap_108 : decode cX11_bestSwap 108 = .ok (.iload 8, 2) := by decide +kernel
theorem dX11_bestSwap_110 : decode cX11_bestSwap 110 = .ok (.iaload, 1) := by decide +kernel
theorem dX11_bestSwap_111 : decode cX11_bestSwap 111 = .ok (.aload_n 2, 1) := by decide +kernel
theorem dX11_bestSwap_112 : decode cX11_bestSwap 112 = .ok (.iload 9, 2) := by decide +kernel
theorem dX11_bestSwap_114 : decode cX11_bestSwap 114 = .ok (.iaload, 1) := by decide +kernel
theorem dX11_bestSwap_115 : decode cX11_bestSwap 115 = .ok (.invokevirtual 384, 3) := by decide +kernel
theorem dX11_bestSwap_118 : decode cX11_bestSwap 118 = .ok (.lload_n 3, 1) := by decide +kernel
theorem dX11_bestSwap_119 : decode cX11_bestSwap 119 = .ok (.lsub, 1) := by decide +kernel
theorem dX11_bestSwap_120 : decode cX11_bestSwap 120 = .ok (.lstore 10, 2) := by decide +kernel
theorem dX11_bestSwap_122 : decode cX11_bestSwap 122 = .ok (.lload 10, 2) := by decide +kernel
theorem dX11_bestSwap_124 : decode cX11_bestSwap 124 = .ok (.lload 5, 2) := by decide +kernel
theorem dX11_bestSwap_126 : decode cX11_bestSwap 126 = .ok (.lcmp, 1) := by decide +kernel
theorem dX11_bestSwap_127 : decode cX11_bestSwap 127 = .ok (.ifCond .le 24, 3) := by decide +kernel
theorem dX11_bestSwap_130 : decode cX11_bestSwap 130 = .ok (.lload 10, 2) := by decide +kernel
theorem dX11_bestSwap_132 : decode cX11_bestSwap 132 = .ok (.lstore 5, 2) := by decide +kernel
theorem dX11_bestSwap_134 : decode cX11_bestSwap 134 = .ok (.iload_n 1, 1) := by decide +kernel
theorem dX11_bestSwap_135 : decode cX11_bestSwap 135 = .ok (.ifCond .ne 10, 3) := by decide +kernel
theorem dX11_bestSwap_138 : decode cX11_bestSwap 138 = .ok (.aload_n 2, 1) := by decide +kernel
theorem dX11_bestSwap_139 : decode cX11_bestSwap 139 = .ok (.iload 8, 2) := by decide +kernel
theorem dX11_bestSwap_141 : decode cX11_bestSwap 141 = .ok (.iaload, 1) := by decide +kernel
theorem dX11_bestSwap_142 : decode cX11_bestSwap 142 = .ok (.goto 7, 3) := by decide +kernel
theorem dX11_bestSwap_145 : decode cX11_bestSwap 145 = .ok (.aload_n 2, 1) := by decide +kernel
theorem dX11_bestSwap_146 : decode cX11_bestSwap 146 = .ok (.iload 9, 2) := by decide +kernel
theorem dX11_bestSwap_148 : decode cX11_bestSwap 148 = .ok (.iaload, 1) := by decide +kernel
theorem dX11_bestSwap_149 : decode cX11_bestSwap 149 = .ok (.istore 7, 2) := by decide +kernel
theorem dX11_bestSwap_151 : decode cX11_bestSwap 151 = .ok (.iinc 9 1, 3) := by decide +kernel
theorem dX11_bestSwap_154 : decode cX11_bestSwap 154 = .ok (.goto (-63), 3) := by decide +kernel
theorem dX11_bestSwap_157 : decode cX11_bestSwap 157 = .ok (.iinc 8 1, 3) := by decide +kernel
theorem dX11_bestSwap_160 : decode cX11_bestSwap 160 = .ok (.goto (-90), 3) := by decide +kernel
theorem dX11_bestSwap_163 : decode cX11_bestSwap 163 = .ok (.aload_n 0, 1) := by decide +kernel
theorem dX11_bestSwap_164 : decode cX11_bestSwap 164 = .ok (.iload 7, 2) := by decide +kernel
theorem dX11_bestSwap_166 : decode cX11_bestSwap 166 = .ok (.lload 5, 2) := by decide +kernel
theorem dX11_bestSwap_168 : decode cX11_bestSwap 168 = .ok (.invokevirtual 353, 3) := by decide +kernel
theorem dX11_bestSwap_171 : decode cX11_bestSwap 171 = .ok (.ireturn, 1) := by decide +kernel
set_option maxRecDepth 100000 in
theorem f_X11_bestSwap_L91_ok {E : EnvT} {C : Cx} {Mi : Mem} {x0 : Int} (h0 : x0 ≠ 0) (hC : CxOK E C cX11_bestSwap 12 yX11_bestSwap.cls 7 0 0) {r0 : Int} {M0 : Mem} (hq : RQ E C 0 0 Mi (some .int) (some (0, r0)) M0) {p16 v13 v7 x1 : Int} {k : Int → Int → Mem → Option (Int × Mem)} (hk : ∀ q39 q40 M41, Bk E C 12 Mi (r0, M0) 157 [(0, 29, x0), (1, 0, x1), (2, 10, v7), (3, 1, v13), (5, 1, q39), (7, 0, q40), (8, 0, p16)] [] M41 0 0 (k q39 q40 M41)) : ∀ (n : Nat) (p22 : Int) (p23 : Int) (p24 : Int) (M25 : Mem), Bk E C 12 Mi (r0, M0) 91 [(0, 29, x0), (1, 0, x1), (2, 10, v7), (3, 1, v13), (5, 1, p22), (7, 0, p23), (8, 0, p16), (9, 0, p24)] [] M25 0 0 (f_X11_bestSwap_L91 p16 v13 v7 x0 x1 k n p22 p23 p24 M25) := by
  intro n
  induction n with
  | zero =>
    intro p22 p23 p24 M25
    exact r_none
  | succ n ih =>
    intro p22 p23 p24 M25
    rw [f_X11_bestSwap_L91]
    refine r_iload 91 hC 7 rfl dX11_bestSwap_91 ?_
    refine r_aload_n 93 hC 0 rfl (Or.inl (by decide)) rfl dX11_bestSwap_93 ?_
    refine r_get 94 hC fd_9_2 fl_X11_26 dX11_bestSwap_94 (fun v26 => ?_)
    refine r_get 97 hC fd_8_0 fl_X11_111 dX11_bestSwap_97 (fun v27 => ?_)
    refine r_get 100 hC fd_7_5 fl_X11_120 dX11_bestSwap_100 (fun v28 => ?_)
    refine r_icmp_ge 103 hC (tgt := 157) (by decide) dX11_bestSwap_103 ?_ ?_
    · exact r_sub [0, 1, 2, 3, 4, 5, 6] rfl (hk p22 p23 M25)
    · refine r_aload_n 106 hC 0 rfl (Or.inl (by decide)) rfl dX11_bestSwap_106 ?_
      refine r_aload_n 107 hC 2 rfl (Or.inl (by decide)) rfl dX11_bestSwap_107 ?_
      refine r_iload 108 hC 6 rfl dX11_bestSwap_108 ?_
      refine r_iaload 110 hC dX11_bestSwap_110 (fun v29 => ?_)
      refine r_aload_n 111 hC 2 rfl (Or.inl (by decide)) rfl dX11_bestSwap_111 ?_
      refine r_iload 112 hC 7 rfl dX11_bestSwap_112 ?_
      refine r_iaload 114 hC dX11_bestSwap_114 (fun v30 => ?_)
      refine r_callVI 115 hC [(0, v29), (0, v30)] [] rfl vl_X11_384 rfl h0 (by decide) (Nat.le_of_ble_eq_true rfl) (by decide) (by decide) dX11_bestSwap_115 (t_X11_waterIfSwapped x0 v29 v30 M25 h0) (fun v31 M32 => ?_)
      refine r_lload_n 118 hC 3 rfl rfl dX11_bestSwap_118 ?_
      refine r_lsub 119 hC dX11_bestSwap_119 ?_
      refine r_lstoreL 120 hC (by decide) dX11_bestSwap_120 (fun v33 => r_eqls (ls' := [(10, 1, v33), (0, 29, x0), (1, 0, x1), (2, 10, v7), (3, 1, v13), (5, 1, p22), (7, 0, p23), (8, 0, p16), (9, 0, p24)]) rfl ?_)
      refine r_lload 122 hC 0 rfl dX11_bestSwap_122 ?_
      refine r_lload 124 hC 5 rfl dX11_bestSwap_124 ?_
      refine r_jn (P := fun j151 => ∀ (q34 : Int) (q35 : Int), Bk E C 12 Mi (r0, M0) 151 [(0, 29, x0), (1, 0, x1), (2, 10, v7), (3, 1, v13), (5, 1, q34), (7, 0, q35), (8, 0, p16), (9, 0, p24)] [] M32 0 0 (j151 q34 q35)) ?_ (fun j151 hj151 => ?_)
      · intro q34 q35
        refine r_iinc 151 hC 7 rfl (by decide) dX11_bestSwap_151 (r_eqls (ls' := [(9, 0, w32 (p24 + 1)), (0, 29, x0), (1, 0, x1), (2, 10, v7), (3, 1, v13), (5, 1, q34), (7, 0, q35), (8, 0, p16)]) rfl ?_)
        refine r_goto 154 hC (tgt := 91) (by decide) dX11_bestSwap_154 ?_
        exact r_sub [1, 2, 3, 4, 5, 6, 7, 0] rfl (ih q34 q35 (w32 (p24 + 1)) M32)
      refine r_lcmp_le 126 hC (tgt := 151) (by decide) dX11_bestSwap_126 dX11_bestSwap_127 ?_ ?_
      · exact r_sub [1, 2, 3, 4, 5, 6, 7, 8] rfl (hj151 p22 p23)
      · refine r_lload 130 hC 0 rfl dX11_bestSwap_130 ?_
        refine r_lstore 132 hC (by decide) dX11_bestSwap_132 (r_eqls (ls' := [(5, 1, v33), (10, 1, v33), (0, 29, x0), (1, 0, x1), (2, 10, v7), (3, 1, v13), (7, 0, p23), (8, 0, p16), (9, 0, p24)]) rfl ?_)
        refine r_iload_n 134 hC 3 rfl rfl dX11_bestSwap_134 ?_
        refine r_jn (P := fun j149 => ∀ (q36 : Int), Bk E C 12 Mi (r0, M0) 149 [(0, 29, x0), (1, 0, x1), (2, 10, v7), (3, 1, v13), (5, 1, v33), (8, 0, p16), (9, 0, p24)] [(0, q36)] M32 0 0 (j149 q36)) ?_ (fun j149 hj149 => ?_)
        · intro q36
          refine r_istore 149 hC (by decide) dX11_bestSwap_149 (r_eqls (ls' := [(7, 0, q36), (0, 29, x0), (1, 0, x1), (2, 10, v7), (3, 1, v13), (5, 1, v33), (8, 0, p16), (9, 0, p24)]) rfl ?_)
          exact r_sub [1, 2, 3, 4, 5, 0, 6, 7] rfl (hj151 v33 q36)
        refine r_if_ne 135 hC (tgt := 145) (by decide) dX11_bestSwap_135 ?_ ?_
        · refine r_aload_n 145 hC 4 rfl (Or.inl (by decide)) rfl dX11_bestSwap_145 ?_
          refine r_iload 146 hC 8 rfl dX11_bestSwap_146 ?_
          refine r_iaload 148 hC dX11_bestSwap_148 (fun v37 => ?_)
          exact r_sub [2, 3, 4, 5, 0, 7, 8] rfl (hj149 v37)
        · refine r_aload_n 138 hC 4 rfl (Or.inl (by decide)) rfl dX11_bestSwap_138 ?_
          refine r_iload 139 hC 7 rfl dX11_bestSwap_139 ?_
          refine r_iaload 141 hC dX11_bestSwap_141 (fun v38 => ?_)
          refine r_goto 142 hC (tgt := 149) (by decide) dX11_bestSwap_142 ?_
          exact r_sub [2, 3, 4, 5, 0, 7, 8] rfl (hj149 v38)
set_option maxRecDepth 100000 in
theorem f_X11_bestSwap_L70_ok {E : EnvT} {C : Cx} {Mi : Mem} {x0 : Int} (h0 : x0 ≠ 0) (hC : CxOK E C cX11_bestSwap 12 yX11_bestSwap.cls 7 0 0) {r0 : Int} {M0 : Mem} (hq : RQ E C 0 0 Mi (some .int) (some (0, r0)) M0) {v13 v7 x1 : Int} {k : Int → Int → Mem → Option (Int × Mem)} (hk : ∀ q45 q46 M47, Bk E C 12 Mi (r0, M0) 163 [(0, 29, x0), (5, 1, q45), (7, 0, q46)] [] M47 0 0 (k q45 q46 M47)) : ∀ (n : Nat) (p14 : Int) (p15 : Int) (p16 : Int) (M17 : Mem), Bk E C 12 Mi (r0, M0) 70 [(0, 29, x0), (1, 0, x1), (2, 10, v7), (3, 1, v13), (5, 1, p14), (7, 0, p15), (8, 0, p16)] [] M17 0 0 (f_X11_bestSwap_L70 v13 v7 x0 x1 k n p14 p15 p16 M17) := by
  intro n
  induction n with
  | zero =>
    intro p14 p15 p16 M17
    exact r_none
  | succ n ih =>
    intro p14 p15 p16 M17
    rw [f_X11_bestSwap_L70]
    refine r_iload 70 hC 6 rfl dX11_bestSwap_70 ?_
    refine r_aload_n 72 hC 0 rfl (Or.inl (by decide)) rfl dX11_bestSwap_72 ?_
    refine r_get 73 hC fd_9_2 fl_X11_26 dX11_bestSwap_73 (fun v18 => ?_)
    refine r_get 76 hC fd_8_0 fl_X11_111 dX11_bestSwap_76 (fun v19 => ?_)
    refine r_get 79 hC fd_7_5 fl_X11_120 dX11_bestSwap_79 (fun v20 => ?_)
    refine r_icmp_ge 82 hC (tgt := 163) (by decide) dX11_bestSwap_82 ?_ ?_
    · exact r_sub [0, 4, 5] rfl (hk p14 p15 M17)
    · refine r_iload 85 hC 6 rfl dX11_bestSwap_85 ?_
      refine r_iconst 87 hC (r32c rfl) dX11_bestSwap_87 ?_
      refine r_iadd 88 hC dX11_bestSwap_88 ?_
      refine r_istoreL 89 hC (by decide) dX11_bestSwap_89 (fun v21 => r_eqls (ls' := [(9, 0, v21), (0, 29, x0), (1, 0, x1), (2, 10, v7), (3, 1, v13), (5, 1, p14), (7, 0, p15), (8, 0, p16)]) rfl ?_)
      refine r_sub [1, 2, 3, 4, 5, 6, 7, 0] rfl (f_X11_bestSwap_L91_ok h0 hC hq (fun q42 q43 M44 => ?_) KF p14 p15 v21 M17)
      · refine r_iinc 157 hC 6 rfl (by decide) dX11_bestSwap_157 (r_eqls (ls' := [(8, 0, w32 (p16 + 1)), (0, 29, x0), (1, 0, x1), (2, 10, v7), (3, 1, v13), (5, 1, q42), (7, 0, q43)]) rfl ?_)
        refine r_goto 160 hC (tgt := 70) (by decide) dX11_bestSwap_160 ?_
        exact r_sub [1, 2, 3, 4, 5, 6, 0] rfl (ih q42 q43 (w32 (p16 + 1)) M44)
set_option maxRecDepth 100000 in
theorem t_X11_bestSwap (x0 x1 : Int) (M : Mem) (h0 : x0 ≠ 0) : MtI yX11_bestSwap cX11_bestSwap 12 (some .int) 7 0 0 [(29, x0), (0, x1)] M 0 (f_X11_bestSwap x0 x1 M) := by
  refine mk_I (by decide +kernel) (Nat.le_of_ble_eq_true rfl) (fun E C r0 M0 hC hq hin => ?_)
  refine r_eqls (ls' := [(0, 29, x0), (1, 0, x1)]) rfl ?_
  unfold f_X11_bestSwap
  refine r_iload_n 0 hC 1 rfl rfl dX11_bestSwap_0 ?_
  refine r_iconst 1 hC (r32c rfl) dX11_bestSwap_1 ?_
  refine r_iconst 2 hC (r32c rfl) dX11_bestSwap_2 ?_
  refine r_callSP 3 hC [(0, x1), (0, 0), (0, 1)] [] rfl sl_X11_132 rfl (by decide) (Nat.le_of_ble_eq_true rfl) (by decide) (by decide) dX11_bestSwap_3 (t_X11_isWithin x1 0 1 M) (fun v1 => ?_)
  refine r_if_ne 6 hC (tgt := 15) (by decide) dX11_bestSwap_6 ?_ ?_
  · refine r_aload_n 15 hC 0 rfl (Or.inl (by decide)) rfl dX11_bestSwap_15 ?_
    refine r_get 16 hC fd_9_2 fl_X11_26 dX11_bestSwap_16 (fun v2 => ?_)
    refine r_get 19 hC fd_8_2 fl_X11_206 dX11_bestSwap_19 (fun v3 => ?_)
    refine r_get 22 hC fd_3_3 fl_X11_219 dX11_bestSwap_22 (fun v4 => ?_)
    refine r_if_le 25 hC (tgt := 35) (by decide) dX11_bestSwap_25 ?_ ?_
    · refine r_aload_n 35 hC 0 rfl (Or.inl (by decide)) rfl dX11_bestSwap_35 ?_
      refine r_get 36 hC fd_9_2 fl_X11_26 dX11_bestSwap_36 (fun v5 => ?_)
      refine r_get 39 hC fd_8_2 fl_X11_206 dX11_bestSwap_39 (fun v6 => ?_)
      refine r_get 42 hC fd_3_4 fl_X11_238 dX11_bestSwap_42 (fun v7 => ?_)
      refine r_astore_n 45 hC rfl (Or.inl (by decide)) (by decide) dX11_bestSwap_45 (r_eqls (ls' := [(2, 10, v7), (0, 29, x0), (1, 0, x1)]) rfl ?_)
      refine r_aload_n 46 hC 1 rfl (Or.inl (by decide)) rfl dX11_bestSwap_46 ?_
      refine r_callVI 47 hC [] [] rfl vl_X11_284 rfl h0 (by decide) (Nat.le_of_ble_eq_true rfl) (by decide) (by decide) dX11_bestSwap_47 (t_X11_sweptWorld x0 M h0) (fun v8 M9 => ?_)
      refine r_aload_n 50 hC 1 rfl (Or.inl (by decide)) rfl dX11_bestSwap_50 ?_
      refine r_get 51 hC fd_9_2 fl_X11_26 dX11_bestSwap_51 (fun v10 => ?_)
      refine r_get 54 hC fd_8_0 fl_X11_111 dX11_bestSwap_54 (fun v11 => ?_)
      refine r_nn (fun hn12 => ?_)
      refine r_callVP 57 hC [(27, v11)] [] rfl vl_X11_345 rfl hn12 (by decide) (Nat.le_of_ble_eq_true rfl) (by decide) (by decide) dX11_bestSwap_57 (t_X5_allWater v8 v11 M9 hn12) (fun v13 => ?_)
      refine r_lstore_n 60 hC rfl (by decide) dX11_bestSwap_60 (r_eqls (ls' := [(3, 1, v13), (2, 10, v7), (0, 29, x0), (1, 0, x1)]) rfl ?_)
      refine r_lconst 61 hC (x := 0) ⟨by decide +kernel, r64c rfl⟩ dX11_bestSwap_61 ?_
      refine r_lstore 62 hC (by decide) dX11_bestSwap_62 (r_eqls (ls' := [(5, 1, 0), (3, 1, v13), (2, 10, v7), (0, 29, x0), (1, 0, x1)]) rfl ?_)
      refine r_iconst 64 hC (r32c rfl) dX11_bestSwap_64 ?_
      refine r_istore 65 hC (by decide) dX11_bestSwap_65 (r_eqls (ls' := [(7, 0, (-1)), (5, 1, 0), (3, 1, v13), (2, 10, v7), (0, 29, x0), (1, 0, x1)]) rfl ?_)
      refine r_iconst 67 hC (r32c rfl) dX11_bestSwap_67 ?_
      refine r_istore 68 hC (by decide) dX11_bestSwap_68 (r_eqls (ls' := [(8, 0, 0), (7, 0, (-1)), (5, 1, 0), (3, 1, v13), (2, 10, v7), (0, 29, x0), (1, 0, x1)]) rfl ?_)
      refine r_sub [5, 6, 4, 3, 2, 1, 0] rfl (f_X11_bestSwap_L70_ok h0 hC hq (fun q48 q49 M50 => ?_) KF 0 (-1) 0 M9)
      · refine r_aload_n 163 hC 0 rfl (Or.inl (by decide)) rfl dX11_bestSwap_163 ?_
        refine r_iload 164 hC 2 rfl dX11_bestSwap_164 ?_
        refine r_lload 166 hC 1 rfl dX11_bestSwap_166 ?_
        refine r_callVI 168 hC [(0, q49), (1, q48)] [] rfl vl_X11_353 rfl h0 (by decide) (Nat.le_of_ble_eq_true rfl) (by decide) (by decide) dX11_bestSwap_168 (t_X11_tellBest x0 q49 q48 M50 h0) (fun v51 M52 => ?_)
        exact r_ireturn 171 hC hq (by decide) (by decide) dX11_bestSwap_171
    · refine r_aload_n 28 hC 0 rfl (Or.inl (by decide)) rfl dX11_bestSwap_28 ?_
      refine r_bipush 29 hC kb_7 dX11_bestSwap_29 ?_
      refine r_callVI 31 hC [(0, 7)] [] rfl vl_X11_91 rfl h0 (by decide) (Nat.le_of_ble_eq_true rfl) (by decide) (by decide) dX11_bestSwap_31 (t_X11_refuse x0 7 M h0) (fun v53 M54 => ?_)
      exact r_ireturn 34 hC hq (by decide) (by decide) dX11_bestSwap_34
  · refine r_aload_n 9 hC 0 rfl (Or.inl (by decide)) rfl dX11_bestSwap_9 ?_
    refine r_iconst 10 hC (r32c rfl) dX11_bestSwap_10 ?_
    refine r_callVI 11 hC [(0, 1)] [] rfl vl_X11_91 rfl h0 (by decide) (Nat.le_of_ble_eq_true rfl) (by decide) (by decide) dX11_bestSwap_11 (t_X11_refuse x0 1 M h0) (fun v55 M56 => ?_)
    exact r_ireturn 14 hC hq (by decide) (by decide) dX11_bestSwap_14

/-! WaterTurns.debts()I -/
theorem dX11_debts_0 : decode cX11_debts 0 = .ok (.iconst 0, 1) := by decide +kernel
theorem dX11_debts_1 : decode cX11_debts 1 = .ok (.istore_n 1, 1) := by decide +kernel
theorem dX11_debts_2 : decode cX11_debts 2 = .ok (.iconst 0, 1) := by decide +kernel
theorem dX11_debts_3 : decode cX11_debts 3 = .ok (.istore_n 2, 1) := by decide +kernel
theorem dX11_debts_4 : decode cX11_debts 4 = .ok (.iload_n 2, 1) := by decide +kernel
theorem dX11_debts_5 : decode cX11_debts 5 = .ok (.aload_n 0, 1) := by decide +kernel
theorem dX11_debts_6 : decode cX11_debts 6 = .ok (.getfield 26, 3) := by decide +kernel
theorem dX11_debts_9 : decode cX11_debts 9 = .ok (.getfield 111, 3) := by decide +kernel
theorem dX11_debts_12 : decode cX11_debts 12 = .ok (.getfield 120, 3) := by decide +kernel
theorem dX11_debts_15 : decode cX11_debts 15 = .ok (.if_icmp .ge 72, 3) := by decide +kernel
theorem dX11_debts_18 : decode cX11_debts 18 = .ok (.iconst 0, 1) := by decide +kernel
theorem dX11_debts_19 : decode cX11_debts 19 = .ok (.istore_n 3, 1) := by decide +kernel
theorem dX11_debts_20 : decode cX11_debts 20 = .ok (.iload_n 3, 1) := by decide +kernel
theorem dX11_debts_21 : decode cX11_debts 21 = .ok (.iload_n 2, 1) := by decide +kernel
theorem dX11_debts_22 : decode cX11_debts 22 = .ok (.if_icmp .ge 59, 3) := by decide +kernel
theorem dX11_debts_25 : decode cX11_debts 25 = .ok (.aload_n 0, 1) := by decide +kernel
theorem dX11_debts_26 : decode cX11_debts 26 = .ok (.getfield 26, 3) := by decide +kernel
theorem dX11_debts_29 : decode cX11_debts 29 = .ok (.getfield 206, 3) := by decide +kernel
theorem dX11_debts_32 : decode cX11_debts 32 = .ok (.iload_n 2, 1) := by decide +kernel
theorem dX11_debts_33 : decode cX11_debts 33 = .ok (.iload_n 3, 1) := by decide +kernel
theorem dX11_debts_34 : decode cX11_debts 34 = .ok (.invokevirtual 268, 3) := by decide +kernel
theorem dX11_debts_37 : decode cX11_debts 37 = .ok (.ifCond .gt 18, 3) := by decide +kernel
theorem dX11_debts_40 : decode cX11_debts 40 = .ok (.aload_n 0, 1) := by decide +kernel
theorem dX11_debts_41 : decode cX11_debts 41 = .ok (.getfield 26, 3) := by decide +kernel
theorem dX11_debts_44 : decode cX11_debts 44 = .ok (.getfield 206, 3) := by decide +kernel
theorem dX11_debts_47 : decode cX11_debts 47 = .ok (.iload_n 3, 1) := by decide +kernel
theorem dX11_debts_48 : decode cX11_debts 48 = .ok (.iload_n 2, 1) := by decide +kernel
theorem dX11_debts_49 : decode cX11_debts 49 = .ok (.invokevirtual 268, 3) := by decide +kernel
theorem dX11_debts_52 : decode cX11_debts 52 = .ok (.ifCond .le 7, 3) := by decide +kernel
theorem dX11_debts_55 : decode cX11_debts 55 = .ok (.iconst 1, 1) := by decide +kernel
theorem dX11_debts_56 : decode cX11_debts 56 = .ok (.goto 4, 3) := by decide +kernel
theorem dX11_debts_59 : decode cX11_debts 59 = .ok (.iconst 0, 1) := by decide +kernel
theorem dX11_debts_60 : decode cX11_debts 60 = .ok (.istore 4, 2) := by decide +kernel
theorem dX11_debts_62 : decode cX11_debts 62 = .ok (.iload_n 1, 1) := by decide +kernel
theorem dX11_debts_63 : decode cX11_debts 63 = .ok (.iload 4, 2) := by decide +kernel
theorem dX11_debts_65 : decode cX11_debts 65 = .ok (.ifCond .eq 7, 3) := by decide +kernel
theorem dX11_debts_68 : decode cX11_debts 68 = .ok (.iconst 1, 1) := by decide +kernel
theorem dX11_debts_69 : decode cX11_debts 69 = .ok (.goto 4, 3) := by decide +kernel
theorem dX11_debts_72 : decode cX11_debts 72 = .ok (.iconst 0, 1) := by decide +kernel
theorem dX11_debts_73 : decode cX11_debts 73 = .ok (.iadd, 1) := by decide +kernel
theorem dX11_debts_74 : decode cX11_debts 74 = .ok (.istore_n 1, 1) := by decide +kernel
theorem dX11_debts_75 : decode cX11_debts 75 = .ok (.iinc 3 1, 3) := by decide +kernel
theorem dX11_debts_78 : decode cX11_debts 78 = .ok (.goto (-58), 3) := by decide +kernel
theorem dX11_debts_81 : decode cX11_debts 81 = .ok (.iinc 2 1, 3) := by decide +kernel
theorem dX11_debts_84 : decode cX11_debts 84 = .ok (.goto (-80), 3) := by decide +kernel
theorem dX11_debts_87 : decode cX11_debts 87 = .ok (.aload_n 0, 1) := by decide +kernel
theorem dX11_debts_88 : decode cX11_debts 88 = .ok (.iload_n 1, 1) := by decide +kernel
theorem dX11_debts_89 : decode cX11_debts 89 = .ok (.invokevirtual 95, 3) := by decide +kernel
theorem dX11_debts_92 : decode cX11_debts 92 = .ok (.ireturn, 1) := by decide +kernel
set_option maxRecDepth 100000 in
theorem f_X11_debts_L20_ok {E : EnvT} {C : Cx} {Mi M : Mem} {x0 : Int} (h0 : x0 ≠ 0) (hC : CxOK E C cX11_debts 5 yX11_debts.cls 2 0 0) {r0 : Int} {M0 : Mem} (hq : RQ E C 0 0 Mi (some .int) (some (0, r0)) M0) {p2 : Int} {k : Int → Option (Int × Mem)} (hk : ∀ q19, Bk E C 5 Mi (r0, M0) 81 [(0, 29, x0), (1, 0, q19), (2, 0, p2)] [] M 0 0 (k q19)) : ∀ (n : Nat) (p6 : Int) (p7 : Int), Bk E C 5 Mi (r0, M0) 20 [(0, 29, x0), (1, 0, p6), (2, 0, p2), (3, 0, p7)] [] M 0 0 (f_X11_debts_L20 M p2 x0 k n p6 p7) := by
  intro n
  induction n with
  | zero =>
    intro p6 p7
    exact r_none
  | succ n ih =>
    intro p6 p7
    rw [f_X11_debts_L20]
    refine r_iload_n 20 hC 3 rfl rfl dX11_debts_20 ?_
    refine r_iload_n 21 hC 2 rfl rfl dX11_debts_21 ?_
    refine r_icmp_ge 22 hC (tgt := 81) (by decide) dX11_debts_22 ?_ ?_
    · exact r_sub [0, 1, 2] rfl (hk p6)
    · refine r_aload_n 25 hC 0 rfl (Or.inl (by decide)) rfl dX11_debts_25 ?_
      refine r_get 26 hC fd_9_2 fl_X11_26 dX11_debts_26 (fun v8 => ?_)
      refine r_get 29 hC fd_8_2 fl_X11_206 dX11_debts_29 (fun v9 => ?_)
      refine r_iload_n 32 hC 2 rfl rfl dX11_debts_32 ?_
      refine r_iload_n 33 hC 3 rfl rfl dX11_debts_33 ?_
      refine r_nn (fun hn10 => ?_)
      refine r_callVP 34 hC [(0, p2), (0, p7)] [] rfl vl_X11_268 rfl hn10 (by decide) (Nat.le_of_ble_eq_true rfl) (by decide) (by decide) dX11_debts_34 (t_X4_debt v9 p2 p7 M hn10) (fun v11 => ?_)
      refine r_jn (P := fun j60 => ∀ (q12 : Int), Bk E C 5 Mi (r0, M0) 60 [(0, 29, x0), (1, 0, p6), (2, 0, p2), (3, 0, p7)] [(0, q12)] M 0 0 (j60 q12)) ?_ (fun j60 hj60 => ?_)
      · intro q12
        refine r_istore 60 hC (by decide) dX11_debts_60 (r_eqls (ls' := [(4, 0, q12), (0, 29, x0), (1, 0, p6), (2, 0, p2), (3, 0, p7)]) rfl ?_)
        refine r_iload_n 62 hC 2 rfl rfl dX11_debts_62 ?_
        refine r_iload 63 hC 0 rfl dX11_debts_63 ?_
        refine r_jn (P := fun j73 => ∀ (q13 : Int), Bk E C 5 Mi (r0, M0) 73 [(0, 29, x0), (2, 0, p2), (3, 0, p7)] [(0, q13), (0, p6)] M 0 0 (j73 q13)) ?_ (fun j73 hj73 => ?_)
        · intro q13
          refine r_iadd 73 hC dX11_debts_73 ?_
          refine r_istore_nL 74 hC rfl (by decide) dX11_debts_74 (fun v14 => r_eqls (ls' := [(1, 0, v14), (0, 29, x0), (2, 0, p2), (3, 0, p7)]) rfl ?_)
          refine r_iinc 75 hC 3 rfl (by decide) dX11_debts_75 (r_eqls (ls' := [(3, 0, w32 (p7 + 1)), (1, 0, v14), (0, 29, x0), (2, 0, p2)]) rfl ?_)
          refine r_goto 78 hC (tgt := 20) (by decide) dX11_debts_78 ?_
          exact r_sub [2, 1, 3, 0] rfl (ih v14 (w32 (p7 + 1)))
        refine r_if_eq 65 hC (tgt := 72) (by decide) dX11_debts_65 ?_ ?_
        · refine r_iconst 72 hC (r32c rfl) dX11_debts_72 ?_
          exact r_sub [1, 3, 4] rfl (hj73 0)
        · refine r_iconst 68 hC (r32c rfl) dX11_debts_68 ?_
          refine r_goto 69 hC (tgt := 73) (by decide) dX11_debts_69 ?_
          exact r_sub [1, 3, 4] rfl (hj73 1)
      refine r_jn (P := fun j55 => Bk E C 5 Mi (r0, M0) 55 [(0, 29, x0), (1, 0, p6), (2, 0, p2), (3, 0, p7)] [] M 0 0 (j55)) ?_ (fun j55 hj55 => ?_)
      · refine r_iconst 55 hC (r32c rfl) dX11_debts_55 ?_
        refine r_goto 56 hC (tgt := 60) (by decide) dX11_debts_56 ?_
        exact hj60 1
      refine r_if_gt 37 hC (tgt := 55) (by decide) dX11_debts_37 ?_ ?_
      · exact hj55
      · refine r_aload_n 40 hC 0 rfl (Or.inl (by decide)) rfl dX11_debts_40 ?_
        refine r_get 41 hC fd_9_2 fl_X11_26 dX11_debts_41 (fun v15 => ?_)
        refine r_get 44 hC fd_8_2 fl_X11_206 dX11_debts_44 (fun v16 => ?_)
        refine r_iload_n 47 hC 3 rfl rfl dX11_debts_47 ?_
        refine r_iload_n 48 hC 2 rfl rfl dX11_debts_48 ?_
        refine r_nn (fun hn17 => ?_)
        refine r_callVP 49 hC [(0, p7), (0, p2)] [] rfl vl_X11_268 rfl hn17 (by decide) (Nat.le_of_ble_eq_true rfl) (by decide) (by decide) dX11_debts_49 (t_X4_debt v16 p7 p2 M hn17) (fun v18 => ?_)
        refine r_if_le 52 hC (tgt := 59) (by decide) dX11_debts_52 ?_ ?_
        · refine r_iconst 59 hC (r32c rfl) dX11_debts_59 ?_
          exact hj60 0
        · exact hj55
set_option maxRecDepth 100000 in
theorem f_X11_debts_L4_ok {E : EnvT} {C : Cx} {Mi M : Mem} {x0 : Int} (h0 : x0 ≠ 0) (hC : CxOK E C cX11_debts 5 yX11_debts.cls 2 0 0) {r0 : Int} {M0 : Mem} (hq : RQ E C 0 0 Mi (some .int) (some (0, r0)) M0) {k : Int → Option (Int × Mem)} (hk : ∀ q21, Bk E C 5 Mi (r0, M0) 87 [(0, 29, x0), (1, 0, q21)] [] M 0 0 (k q21)) : ∀ (n : Nat) (p1 : Int) (p2 : Int), Bk E C 5 Mi (r0, M0) 4 [(0, 29, x0), (1, 0, p1), (2, 0, p2)] [] M 0 0 (f_X11_debts_L4 M x0 k n p1 p2) := by
  intro n
  induction n with
  | zero =>
    intro p1 p2
    exact r_none
  | succ n ih =>
    intro p1 p2
    rw [f_X11_debts_L4]
    refine r_iload_n 4 hC 2 rfl rfl dX11_debts_4 ?_
    refine r_aload_n 5 hC 0 rfl (Or.inl (by decide)) rfl dX11_debts_5 ?_
    refine r_get 6 hC fd_9_2 fl_X11_26 dX11_debts_6 (fun v3 => ?_)
    refine r_get 9 hC fd_8_0 fl_X11_111 dX11_debts_9 (fun v4 => ?_)
    refine r_get 12 hC fd_7_5 fl_X11_120 dX11_debts_12 (fun v5 => ?_)
    refine r_icmp_ge 15 hC (tgt := 87) (by decide) dX11_debts_15 ?_ ?_
    · exact r_sub [0, 1] rfl (hk p1)
    · refine r_iconst 18 hC (r32c rfl) dX11_debts_18 ?_
      refine r_istore_n 19 hC rfl (by decide) dX11_debts_19 (r_eqls (ls' := [(3, 0, 0), (0, 29, x0), (1, 0, p1), (2, 0, p2)]) rfl ?_)
      refine r_sub [1, 2, 3, 0] rfl (f_X11_debts_L20_ok h0 hC hq (fun q20 => ?_) KF p1 0)
      · refine r_iinc 81 hC 2 rfl (by decide) dX11_debts_81 (r_eqls (ls' := [(2, 0, w32 (p2 + 1)), (0, 29, x0), (1, 0, q20)]) rfl ?_)
        refine r_goto 84 hC (tgt := 4) (by decide) dX11_debts_84 ?_
        exact r_sub [1, 2, 0] rfl (ih q20 (w32 (p2 + 1)))
set_option maxRecDepth 100000 in
theorem t_X11_debts (x0 : Int) (M : Mem) (h0 : x0 ≠ 0) : MtI yX11_debts cX11_debts 5 (some .int) 2 0 0 [(29, x0)] M 0 (f_X11_debts x0 M) := by
  refine mk_I (by decide +kernel) (Nat.le_of_ble_eq_true rfl) (fun E C r0 M0 hC hq hin => ?_)
  refine r_eqls (ls' := [(0, 29, x0)]) rfl ?_
  unfold f_X11_debts
  refine r_iconst 0 hC (r32c rfl) dX11_debts_0 ?_
  refine r_istore_n 1 hC rfl (by decide) dX11_debts_1 (r_eqls (ls' := [(1, 0, 0), (0, 29, x0)]) rfl ?_)
  refine r_iconst 2 hC (r32c rfl) dX11_debts_2 ?_
  refine r_istore_n 3 hC rfl (by decide) dX11_debts_3 (r_eqls (ls' := [(2, 0, 0), (1, 0, 0), (0, 29, x0)]) rfl ?_)
  refine r_sub [2, 1, 0] rfl (f_X11_debts_L4_ok h0 hC hq (fun q22 => ?_) KF 0 0)
  · refine r_aload_n 87 hC 0 rfl (Or.inl (by decide)) rfl dX11_debts_87 ?_
    refine r_iload_n 88 hC 1 rfl rfl dX11_debts_88 ?_
    refine r_callVI 89 hC [(0, q22)] [] rfl vl_X11_95 rfl h0 (by decide) (Nat.le_of_ble_eq_true rfl) (by decide) (by decide) dX11_debts_89 (t_X11_answer x0 q22 M h0) (fun v23 M24 => ?_)
    exact r_ireturn 92 hC hq (by decide) (by decide) dX11_debts_92

/-! WaterTurns.balance(I)I -/
theorem dX11_balance_0 : decode cX11_balance 0 = .ok (.aload_n 0, 1) := by decide +kernel
theorem dX11_balance_1 : decode cX11_balance 1 = .ok (.iload_n 1, 1) := by decide +kernel
theorem dX11_balance_2 : decode cX11_balance 2 = .ok (.invokevirtual 331, 3) := by decide +kernel
theorem dX11_balance_5 : decode cX11_balance 5 = .ok (.ifCond .ne 9, 3) := by decide +kernel
theorem dX11_balance_8 : decode cX11_balance 8 = .ok (.aload_n 0, 1) := by decide +kernel
theorem dX11_balance_9 : decode cX11_balance 9 = .ok (.iconst 1, 1) := by decide +kernel
theorem dX11_balance_10 : decode cX11_balance 10 = .ok (.invokevirtual 91, 3) := by decide +kernel
theorem dX11_balance_13 : decode cX11_balance 13 = .ok (.ireturn, 1) := by decide +kernel
theorem dX11_balance_14 : decode cX11_balance 14 = .ok (.iconst 0, 1) := by decide +kernel
theorem dX11_balance_15 : decode cX11_balance 15 = .ok (.istore_n 2, 1) := by decide +kernel
theorem dX11_balance_16 : decode cX11_balance 16 = .ok (.iconst 0, 1) := by decide +kernel
theorem dX11_balance_17 : decode cX11_balance 17 = .ok (.istore_n 3, 1) := by decide +kernel
theorem dX11_balance_18 : decode cX11_balance 18 = .ok (.iload_n 3, 1) := by decide +kernel
theorem dX11_balance_19 : decode cX11_balance 19 = .ok (.aload_n 0, 1) := by decide +kernel
theorem dX11_balance_20 : decode cX11_balance 20 = .ok (.getfield 26, 3) := by decide +kernel
theorem dX11_balance_23 : decode cX11_balance 23 = .ok (.getfield 111, 3) := by decide +kernel
theorem dX11_balance_26 : decode cX11_balance 26 = .ok (.getfield 120, 3) := by decide +kernel
theorem dX11_balance_29 : decode cX11_balance 29 = .ok (.if_icmp .ge 53, 3) := by decide +kernel
theorem dX11_balance_32 : decode cX11_balance 32 = .ok (.aload_n 0, 1) := by decide +kernel
theorem dX11_balance_33 : decode cX11_balance 33 = .ok (.getfield 26, 3) := by decide +kernel
theorem dX11_balance_36 : decode cX11_balance 36 = .ok (.getfield 111, 3) := by decide +kernel
theorem dX11_balance_39 : decode cX11_balance 39 = .ok (.getfield 232, 3) := by decide +kernel
theorem dX11_balance_42 : decode cX11_balance 42 = .ok (.iload_n 3, 1) := by decide +kernel
theorem dX11_balance_43 : decode cX11_balance 43 = .ok (.aaload, 1) := by decide +kernel
theorem dX11_balance_44 : decode cX11_balance 44 = .ok (.iconst 3, 1) := by decide +kernel
theorem dX11_balance_45 : decode cX11_balance 45 = .ok (.iaload, 1) := by decide +kernel
theorem dX11_balance_46 : decode cX11_balance 46 = .ok (.iload_n 1, 1) := by decide +kernel
theorem dX11_balance_47 : decode cX11_balance 47 = .ok (.if_icmp .ne 29, 3) := by decide +kernel
theorem dX11_balance_50 : decode cX11_balance 50 = .ok (.iload_n 2, 1) := by decide +kernel
theorem dX11_balance_51 : decode cX11_balance 51 = .ok (.aload_n 0, 1) := by decide +kernel
theorem dX11_balance_52 : decode cX11_balance 52 = .ok (.getfield 26, 3) := by decide +kernel
theorem dX11_balance_55 : decode cX11_balance 55 = .ok (.getfield 206, 3) := by decide +kernel
theorem dX11_balance_58 : decode cX11_balance 58 = .ok (.iload_n 3, 1) := by decide +kernel
theorem dX11_balance_59 : decode cX11_balance 59 = .ok (.invokevirtual 388, 3) := by decide +kernel
theorem dX11_balance_62 : decode cX11_balance 62 = .ok (.aload_n 0, 1) := by decide +kernel
theorem dX11_balance_63 : decode cX11_balance 63 = .ok (.getfield 26, 3) := by decide +kernel
theorem dX11_balance_66 : decode cX11_balance 66 = .ok (.getfield 206, 3) := by decide +kernel
theorem dX11_balance_69 : decode cX11_balance 69 = .ok (.iload_n 3, 1) := by decide +kernel
theorem dX11_balance_70 : decode cX11_balance 70 = .ok (.invokevirtual 391, 3) := by decide +kernel
theorem dX11_balance_73 : decode cX11_balance 73 = .ok (.isub, 1) := by decide +kernel
theorem dX11_balance_74 : decode cX11_balance 74 = .ok (.iadd, 1) := by decide +kernel
theorem dX11_balance_75 : decode cX11_balance 75 = .ok (.istore_n 2, 1) := by decide +kernel
theorem dX11_balance_76 : decode cX11_balance 76 = .ok (.iinc 3 1, 3) := by decide +kernel
theorem dX11_balance_79 : decode cX11_balance 79 = .ok (.goto (-61), 3) := by decide +kernel
theorem dX11_balance_82 : decode cX11_balance 82 = .ok (.aload_n 0, 1) := by decide +kernel
theorem dX11_balance_83 : decode cX11_balance 83 = .ok (.iload_n 2, 1) := by decide +kernel
theorem dX11_balance_84 : decode cX11_balance 84 = .ok (.invokevirtual 95, 3) := by decide +kernel
theorem dX11_balance_87 : decode cX11_balance 87 = .ok (.ireturn, 1) := by decide +kernel
set_option maxRecDepth 100000 in
theorem f_X11_balance_L18_ok {E : EnvT} {C : Cx} {Mi M : Mem} {x0 : Int} (h0 : x0 ≠ 0) (hC : CxOK E C cX11_balance 4 yX11_balance.cls 3 0 0) {r0 : Int} {M0 : Mem} (hq : RQ E C 0 0 Mi (some .int) (some (0, r0)) M0) {x1 : Int} {k : Int → Option (Int × Mem)} (hk : ∀ q22, Bk E C 4 Mi (r0, M0) 82 [(0, 29, x0), (2, 0, q22)] [] M 0 0 (k q22)) : ∀ (n : Nat) (p2 : Int) (p3 : Int), Bk E C 4 Mi (r0, M0) 18 [(0, 29, x0), (1, 0, x1), (2, 0, p2), (3, 0, p3)] [] M 0 0 (f_X11_balance_L18 M x0 x1 k n p2 p3) := by
  intro n
  induction n with
  | zero =>
    intro p2 p3
    exact r_none
  | succ n ih =>
    intro p2 p3
    rw [f_X11_balance_L18]
    refine r_iload_n 18 hC 3 rfl rfl dX11_balance_18 ?_
    refine r_aload_n 19 hC 0 rfl (Or.inl (by decide)) rfl dX11_balance_19 ?_
    refine r_get 20 hC fd_9_2 fl_X11_26 dX11_balance_20 (fun v4 => ?_)
    refine r_get 23 hC fd_8_0 fl_X11_111 dX11_balance_23 (fun v5 => ?_)
    refine r_get 26 hC fd_7_5 fl_X11_120 dX11_balance_26 (fun v6 => ?_)
    refine r_icmp_ge 29 hC (tgt := 82) (by decide) dX11_balance_29 ?_ ?_
    · exact r_sub [0, 2] rfl (hk p2)
    · refine r_aload_n 32 hC 0 rfl (Or.inl (by decide)) rfl dX11_balance_32 ?_
      refine r_get 33 hC fd_9_2 fl_X11_26 dX11_balance_33 (fun v7 => ?_)
      refine r_get 36 hC fd_8_0 fl_X11_111 dX11_balance_36 (fun v8 => ?_)
      refine r_get 39 hC fd_7_9 fl_X11_232 dX11_balance_39 (fun v9 => ?_)
      refine r_iload_n 42 hC 3 rfl rfl dX11_balance_42 ?_
      refine r_aaloadI 43 hC dX11_balance_43 (fun v10 => ?_)
      refine r_iconst 44 hC (r32c rfl) dX11_balance_44 ?_
      refine r_iaload 45 hC dX11_balance_45 (fun v11 => ?_)
      refine r_iload_n 46 hC 1 rfl rfl dX11_balance_46 ?_
      refine r_jn (P := fun j76 => ∀ (q12 : Int), Bk E C 4 Mi (r0, M0) 76 [(0, 29, x0), (1, 0, x1), (2, 0, q12), (3, 0, p3)] [] M 0 0 (j76 q12)) ?_ (fun j76 hj76 => ?_)
      · intro q12
        refine r_iinc 76 hC 3 rfl (by decide) dX11_balance_76 (r_eqls (ls' := [(3, 0, w32 (p3 + 1)), (0, 29, x0), (1, 0, x1), (2, 0, q12)]) rfl ?_)
        refine r_goto 79 hC (tgt := 18) (by decide) dX11_balance_79 ?_
        exact r_sub [1, 2, 3, 0] rfl (ih q12 (w32 (p3 + 1)))
      refine r_icmp_ne 47 hC (tgt := 76) (by decide) dX11_balance_47 ?_ ?_
      · exact hj76 p2
      · refine r_iload_n 50 hC 2 rfl rfl dX11_balance_50 ?_
        refine r_aload_n 51 hC 0 rfl (Or.inl (by decide)) rfl dX11_balance_51 ?_
        refine r_get 52 hC fd_9_2 fl_X11_26 dX11_balance_52 (fun v13 => ?_)
        refine r_get 55 hC fd_8_2 fl_X11_206 dX11_balance_55 (fun v14 => ?_)
        refine r_iload_n 58 hC 3 rfl rfl dX11_balance_58 ?_
        refine r_nn (fun hn15 => ?_)
        refine r_callVP 59 hC [(0, p3)] [(0, p2)] rfl vl_X11_388 rfl hn15 (by decide) (Nat.le_of_ble_eq_true rfl) (by decide) (by decide) dX11_balance_59 (t_X4_allDebtTo v14 p3 M hn15) (fun v16 => ?_)
        refine r_aload_n 62 hC 0 rfl (Or.inl (by decide)) rfl dX11_balance_62 ?_
        refine r_get 63 hC fd_9_2 fl_X11_26 dX11_balance_63 (fun v17 => ?_)
        refine r_get 66 hC fd_8_2 fl_X11_206 dX11_balance_66 (fun v18 => ?_)
        refine r_iload_n 69 hC 3 rfl rfl dX11_balance_69 ?_
        refine r_nn (fun hn19 => ?_)
        refine r_callVP 70 hC [(0, p3)] [(0, v16), (0, p2)] rfl vl_X11_391 rfl hn19 (by decide) (Nat.le_of_ble_eq_true rfl) (by decide) (by decide) dX11_balance_70 (t_X4_allDebtBy v18 p3 M hn19) (fun v20 => ?_)
        refine r_isub 73 hC dX11_balance_73 ?_
        refine r_iadd 74 hC dX11_balance_74 ?_
        refine r_istore_nL 75 hC rfl (by decide) dX11_balance_75 (fun v21 => r_eqls (ls' := [(2, 0, v21), (0, 29, x0), (1, 0, x1), (3, 0, p3)]) rfl ?_)
        exact r_sub [1, 2, 0, 3] rfl (hj76 v21)
set_option maxRecDepth 100000 in
theorem t_X11_balance (x0 x1 : Int) (M : Mem) (h0 : x0 ≠ 0) : MtI yX11_balance cX11_balance 4 (some .int) 3 0 0 [(29, x0), (0, x1)] M 0 (f_X11_balance x0 x1 M) := by
  refine mk_I (by decide +kernel) (Nat.le_of_ble_eq_true rfl) (fun E C r0 M0 hC hq hin => ?_)
  refine r_eqls (ls' := [(0, 29, x0), (1, 0, x1)]) rfl ?_
  unfold f_X11_balance
  refine r_aload_n 0 hC 0 rfl (Or.inl (by decide)) rfl dX11_balance_0 ?_
  refine r_iload_n 1 hC 1 rfl rfl dX11_balance_1 ?_
  refine r_callVP 2 hC [(0, x1)] [] rfl vl_X11_331 rfl h0 (by decide) (Nat.le_of_ble_eq_true rfl) (by decide) (by decide) dX11_balance_2 (t_X11_isOwner x0 x1 M h0) (fun v1 => ?_)
  refine r_if_ne 5 hC (tgt := 14) (by decide) dX11_balance_5 ?_ ?_
  · refine r_iconst 14 hC (r32c rfl) dX11_balance_14 ?_
    refine r_istore_n 15 hC rfl (by decide) dX11_balance_15 (r_eqls (ls' := [(2, 0, 0), (0, 29, x0), (1, 0, x1)]) rfl ?_)
    refine r_iconst 16 hC (r32c rfl) dX11_balance_16 ?_
    refine r_istore_n 17 hC rfl (by decide) dX11_balance_17 (r_eqls (ls' := [(3, 0, 0), (2, 0, 0), (0, 29, x0), (1, 0, x1)]) rfl ?_)
    refine r_sub [2, 3, 1, 0] rfl (f_X11_balance_L18_ok h0 hC hq (fun q23 => ?_) KF 0 0)
    · refine r_aload_n 82 hC 0 rfl (Or.inl (by decide)) rfl dX11_balance_82 ?_
      refine r_iload_n 83 hC 1 rfl rfl dX11_balance_83 ?_
      refine r_callVI 84 hC [(0, q23)] [] rfl vl_X11_95 rfl h0 (by decide) (Nat.le_of_ble_eq_true rfl) (by decide) (by decide) dX11_balance_84 (t_X11_answer x0 q23 M h0) (fun v24 M25 => ?_)
      exact r_ireturn 87 hC hq (by decide) (by decide) dX11_balance_87
  · refine r_aload_n 8 hC 0 rfl (Or.inl (by decide)) rfl dX11_balance_8 ?_
    refine r_iconst 9 hC (r32c rfl) dX11_balance_9 ?_
    refine r_callVI 10 hC [(0, 1)] [] rfl vl_X11_91 rfl h0 (by decide) (Nat.le_of_ble_eq_true rfl) (by decide) (by decide) dX11_balance_10 (t_X11_refuse x0 1 M h0) (fun v26 M27 => ?_)
    exact r_ireturn 13 hC hq (by decide) (by decide) dX11_balance_13

/-! WaterTurns.mean(II)Z -/
theorem dX11_mean_0 : decode cX11_mean 0 = .ok (.iload_n 2, 1) := by decide +kernel
theorem dX11_mean_1 : decode cX11_mean 1 = .ok (.iconst 1, 1) := by decide +kernel
theorem dX11_mean_2 : decode cX11_mean 2 = .ok (.bipush 60, 2) := by decide +kernel
theorem dX11_mean_4 : decode cX11_mean 4 = .ok (.invokestatic 132, 3) := by decide +kernel
theorem dX11_mean_7 : decode cX11_mean 7 = .ok (.ifCond .eq 18, 3) := by decide +kernel
theorem dX11_mean_10 : decode cX11_mean 10 = .ok (.aload_n 0, 1) := by decide +kernel
theorem dX11_mean_11 : decode cX11_mean 11 = .ok (.getfield 12, 3) := by decide +kernel
theorem dX11_mean_14 : decode cX11_mean 14 = .ok (.iload_n 1, 1) := by decide +kernel
theorem dX11_mean_15 : decode cX11_mean 15 = .ok (.iload_n 2, 1) := by decide +kernel
theorem dX11_mean_16 : decode cX11_mean 16 = .ok (.ldc_w 394, 3) := by decide +kernel
theorem dX11_mean_19 : decode cX11_mean 19 = .ok (.invokevirtual 395, 3) := by decide +kernel
theorem dX11_mean_22 : decode cX11_mean 22 = .ok (.goto 4, 3) := by decide +kernel
theorem dX11_mean_25 : decode cX11_mean 25 = .ok (.iconst 1, 1) := by decide +kernel
theorem dX11_mean_26 : decode cX11_mean 26 = .ok (.istore_n 3, 1) := by decide +kernel
theorem dX11_mean_27 : decode cX11_mean 27 = .ok (.iload_n 3, 1) := by decide +kernel
theorem dX11_mean_28 : decode cX11_mean 28 = .ok (.ifCond .eq 9, 3) := by decide +kernel
theorem dX11_mean_31 : decode cX11_mean 31 = .ok (.aload_n 0, 1) := by decide +kernel
theorem dX11_mean_32 : decode cX11_mean 32 = .ok (.iload_n 3, 1) := by decide +kernel
theorem dX11_mean_33 : decode cX11_mean 33 = .ok (.invokevirtual 102, 3) := by decide +kernel
theorem dX11_mean_36 : decode cX11_mean 36 = .ok (.ireturn, 1) := by decide +kernel
theorem dX11_mean_37 : decode cX11_mean 37 = .ok (.lconst 0, 1) := by decide +kernel
theorem dX11_mean_38 : decode cX11_mean 38 = .ok (.lstore 4, 2) := by decide +kernel
theorem dX11_mean_40 : decode cX11_mean 40 = .ok (.iconst 0, 1) := by decide +kernel
theorem dX11_mean_41 : decode cX11_mean 41 = .ok (.istore 6, 2) := by decide +kernel
theorem dX11_mean_43 : decode cX11_mean 43 = .ok (.iconst 0, 1) := by decide +kernel
theorem dX11_mean_44 : decode cX11_mean 44 = .ok (.istore 7, 2) := by decide +kernel
theorem dX11_mean_46 : decode cX11_mean 46 = .ok (.iload 7, 2) := by decide +kernel
theorem dX11_mean_48 : decode cX11_mean 48 = .ok (.iload_n 2, 1) := by decide +kernel
theorem dX11_mean_49 : decode cX11_mean 49 = .ok (.if_icmp .ge 48, 3) := by decide +kernel
theorem dX11_mean_52 : decode cX11_mean 52 = .ok (.aload_n 0, 1) := by decide +kernel
theorem dX11_mean_53 : decode cX11_mean 53 = .ok (.getfield 12, 3) := by decide +kernel
theorem dX11_mean_56 : decode cX11_mean 56 = .ok (.getfield 148, 3) := by decide +kernel
theorem dX11_mean_59 : decode cX11_mean 59 = .ok (.iload_n 1, 1) := by decide +kernel
theorem dX11_mean_60 : decode cX11_mean 60 = .ok (.aaload, 1) := by decide +kernel
theorem dX11_mean_61 : decode cX11_mean 61 = .ok (.iload 7, 2) := by decide +kernel
theorem dX11_mean_63 : decode cX11_mean 63 = .ok (.laload, 1) := by decide +kernel
theorem dX11_mean_64 : decode cX11_mean 64 = .ok (.ldc2_w 399, 3) := by decide +kernel
theorem dX11_mean_67 : decode cX11_mean 67 = .ok (.lcmp, 1) := by decide +kernel
theorem dX11_mean_68 : decode cX11_mean 68 = .ok (.ifCond .eq 23, 3) := by decide +kernel
theorem dX11_mean_71 : decode cX11_mean 71 = .ok (.lload 4, 2) := by decide +kernel
theorem dX11_mean_73 : decode cX11_mean 73 = .ok (.aload_n 0, 1) := by decide +kernel
theorem dX11_mean_74 : decode cX11_mean 74 = .ok (.getfield 12, 3) := by decide +kernel
theorem dX11_mean_77 : decode cX11_mean 77 = .ok (.getfield 148, 3) := by decide +kernel
theorem dX11_mean_80 : decode cX11_mean 80 = .ok (.iload_n 1, 1) := by decide +kernel
theorem dX11_mean_81 : decode cX11_mean 81 = .ok (.aaload, 1) := by decide +kernel
theorem dX11_mean_82 : decode cX11_mean 82 = .ok (.iload 7, 2) := by decide +kernel
theorem dX11_mean_84 : decode cX11_mean 84 = .ok (.laload, 1) := by decide +kernel
theorem dX11_mean_85 : decode cX11_mean 85 = .ok (.ladd, 1) := by decide +kernel
theorem dX11_mean_86 : decode cX11_mean 86 = .ok (.lstore 4, 2) := by decide +kernel
theorem dX11_mean_88 : decode cX11_mean 88 = .ok (.iinc 6 1, 3) := by decide +kernel
theorem dX11_mean_91 : decode cX11_mean 91 = .ok (.iinc 7 1, 3) := by decide +kernel
theorem dX11_mean_94 : decode cX11_mean 94 = .ok (.goto (-48), 3) := by decide +kernel
theorem dX11_mean_97 : decode cX11_mean 97 = .ok (.iload 6, 2) := by decide +kernel
theorem dX11_mean_99 : decode cX11_mean 99 = .ok (.ifCond .ne 12, 3) := by decide +kernel
theorem dX11_mean_102 : decode cX11_mean 102 = .ok (.aload_n 0, 1) := by decide +kernel
theorem dX11_mean_103 : decode cX11_mean 103 = .ok (.bipush 6, 2) := by decide +kernel
theorem dX11_mean_105 : decode cX11_mean 105 = .ok (.invokevirtual 102, 3) := by decide +kernel
theorem dX11_mean_108 : decode cX11_mean 108 = .ok (.goto 12, 3) := by decide +kernel
theorem dX11_mean_111 : decode cX11_mean 111 = .ok (.aload_n 0, 1) := by decide +kernel
theorem dX11_mean_112 : decode cX11_mean 112 = .ok (.lload 4, 2) := by decide +kernel
theorem dX11_mean_114 : decode cX11_mean 114 = .ok (.iload 6, 2) := by decide +kernel
theorem dX11_mean_116 : decode cX11_mean 116 = .ok (.i2l, 1) := by decide +kernel
theorem dX11_mean_117 : decode cX11_mean 117 = .ok (.invokevirtual 317, 3) := by decide +kernel
theorem dX11_mean_120 : decode cX11_mean 120 = .ok (.ireturn, 1) := by decide +kernel
set_option maxRecDepth 100000 in
theorem f_X11_mean_L46_ok {E : EnvT} {C : Cx} {Mi M : Mem} {x0 : Int} (h0 : x0 ≠ 0) (hC : CxOK E C cX11_mean 8 yX11_mean.cls 4 0 0) {r0 : Int} {M0 : Mem} (hq : RQ E C 0 0 Mi (some .boolean) (some (0, r0)) M0) {x1 x2 : Int} {k : Int → Int → Option (Int × Mem)} (hk : ∀ q17 q18, Bk E C 8 Mi (r0, M0) 97 [(0, 29, x0), (4, 1, q17), (6, 0, q18)] [] M 0 0 (k q17 q18)) : ∀ (n : Nat) (p3 : Int) (p4 : Int) (p5 : Int), Bk E C 8 Mi (r0, M0) 46 [(0, 29, x0), (1, 0, x1), (2, 0, x2), (4, 1, p3), (6, 0, p4), (7, 0, p5)] [] M 0 0 (f_X11_mean_L46 M x0 x1 x2 k n p3 p4 p5) := by
  intro n
  induction n with
  | zero =>
    intro p3 p4 p5
    exact r_none
  | succ n ih =>
    intro p3 p4 p5
    rw [f_X11_mean_L46]
    refine r_iload 46 hC 5 rfl dX11_mean_46 ?_
    refine r_iload_n 48 hC 2 rfl rfl dX11_mean_48 ?_
    refine r_icmp_ge 49 hC (tgt := 97) (by decide) dX11_mean_49 ?_ ?_
    · exact r_sub [0, 3, 4] rfl (hk p3 p4)
    · refine r_aload_n 52 hC 0 rfl (Or.inl (by decide)) rfl dX11_mean_52 ?_
      refine r_get 53 hC fd_9_0 fl_X11_12 dX11_mean_53 (fun v6 => ?_)
      refine r_get 56 hC fd_6_0 fl_X11_148 dX11_mean_56 (fun v7 => ?_)
      refine r_iload_n 59 hC 1 rfl rfl dX11_mean_59 ?_
      refine r_aaloadL 60 hC dX11_mean_60 (fun v8 => ?_)
      refine r_iload 61 hC 5 rfl dX11_mean_61 ?_
      refine r_laload 63 hC dX11_mean_63 (fun v9 => ?_)
      refine r_ldc2 64 hC (x := (-1)) kl_X11_399 ⟨by decide +kernel, r64c rfl⟩ dX11_mean_64 ?_
      refine r_jn (P := fun j91 => ∀ (q10 : Int) (q11 : Int), Bk E C 8 Mi (r0, M0) 91 [(0, 29, x0), (1, 0, x1), (2, 0, x2), (4, 1, q10), (6, 0, q11), (7, 0, p5)] [] M 0 0 (j91 q10 q11)) ?_ (fun j91 hj91 => ?_)
      · intro q10 q11
        refine r_iinc 91 hC 5 rfl (by decide) dX11_mean_91 (r_eqls (ls' := [(7, 0, w32 (p5 + 1)), (0, 29, x0), (1, 0, x1), (2, 0, x2), (4, 1, q10), (6, 0, q11)]) rfl ?_)
        refine r_goto 94 hC (tgt := 46) (by decide) dX11_mean_94 ?_
        exact r_sub [1, 2, 3, 4, 5, 0] rfl (ih q10 q11 (w32 (p5 + 1)))
      refine r_lcmp_eq 67 hC (tgt := 91) (by decide) dX11_mean_67 dX11_mean_68 ?_ ?_
      · exact hj91 p3 p4
      · refine r_lload 71 hC 3 rfl dX11_mean_71 ?_
        refine r_aload_n 73 hC 0 rfl (Or.inl (by decide)) rfl dX11_mean_73 ?_
        refine r_get 74 hC fd_9_0 fl_X11_12 dX11_mean_74 (fun v12 => ?_)
        refine r_get 77 hC fd_6_0 fl_X11_148 dX11_mean_77 (fun v13 => ?_)
        refine r_iload_n 80 hC 1 rfl rfl dX11_mean_80 ?_
        refine r_aaloadL 81 hC dX11_mean_81 (fun v14 => ?_)
        refine r_iload 82 hC 5 rfl dX11_mean_82 ?_
        refine r_laload 84 hC dX11_mean_84 (fun v15 => ?_)
        refine r_ladd 85 hC dX11_mean_85 ?_
        refine r_lstoreL 86 hC (by decide) dX11_mean_86 (fun v16 => r_eqls (ls' := [(4, 1, v16), (0, 29, x0), (1, 0, x1), (2, 0, x2), (6, 0, p4), (7, 0, p5)]) rfl ?_)
        refine r_iinc 88 hC 4 rfl (by decide) dX11_mean_88 (r_eqls (ls' := [(6, 0, w32 (p4 + 1)), (4, 1, v16), (0, 29, x0), (1, 0, x1), (2, 0, x2), (7, 0, p5)]) rfl ?_)
        exact r_sub [2, 3, 4, 1, 0, 5] rfl (hj91 v16 (w32 (p4 + 1)))
set_option maxRecDepth 100000 in
theorem t_X11_mean (x0 x1 x2 : Int) (M : Mem) (h0 : x0 ≠ 0) : MtI yX11_mean cX11_mean 8 (some .boolean) 4 0 0 [(29, x0), (0, x1), (0, x2)] M 0 (f_X11_mean x0 x1 x2 M) := by
  refine mk_I (by decide +kernel) (Nat.le_of_ble_eq_true rfl) (fun E C r0 M0 hC hq hin => ?_)
  refine r_eqls (ls' := [(0, 29, x0), (1, 0, x1), (2, 0, x2)]) rfl ?_
  unfold f_X11_mean
  refine r_iload_n 0 hC 2 rfl rfl dX11_mean_0 ?_
  refine r_iconst 1 hC (r32c rfl) dX11_mean_1 ?_
  refine r_bipush 2 hC kb_60 dX11_mean_2 ?_
  refine r_callSP 4 hC [(0, x2), (0, 1), (0, 60)] [] rfl sl_X11_132 rfl (by decide) (Nat.le_of_ble_eq_true rfl) (by decide) (by decide) dX11_mean_4 (t_X11_isWithin x2 1 60 M) (fun v1 => ?_)
  refine r_jn (P := fun j26 => ∀ (q2 : Int), Bk E C 8 M (r0, M0) 26 [(0, 29, x0), (1, 0, x1), (2, 0, x2)] [(0, q2)] M 0 0 (j26 q2)) ?_ (fun j26 hj26 => ?_)
  · intro q2
    refine r_istore_n 26 hC rfl (by decide) dX11_mean_26 (r_eqls (ls' := [(3, 0, q2), (0, 29, x0), (1, 0, x1), (2, 0, x2)]) rfl ?_)
    refine r_iload_n 27 hC 0 rfl rfl dX11_mean_27 ?_
    refine r_if_eq 28 hC (tgt := 37) (by decide) dX11_mean_28 ?_ ?_
    · refine r_lconst 37 hC (x := 0) ⟨by decide +kernel, r64c rfl⟩ dX11_mean_37 ?_
      refine r_lstore 38 hC (by decide) dX11_mean_38 (r_eqls (ls' := [(4, 1, 0), (3, 0, q2), (0, 29, x0), (1, 0, x1), (2, 0, x2)]) rfl ?_)
      refine r_iconst 40 hC (r32c rfl) dX11_mean_40 ?_
      refine r_istore 41 hC (by decide) dX11_mean_41 (r_eqls (ls' := [(6, 0, 0), (4, 1, 0), (3, 0, q2), (0, 29, x0), (1, 0, x1), (2, 0, x2)]) rfl ?_)
      refine r_iconst 43 hC (r32c rfl) dX11_mean_43 ?_
      refine r_istore 44 hC (by decide) dX11_mean_44 (r_eqls (ls' := [(7, 0, 0), (6, 0, 0), (4, 1, 0), (3, 0, q2), (0, 29, x0), (1, 0, x1), (2, 0, x2)]) rfl ?_)
      refine r_sub [4, 5, 6, 2, 1, 0] rfl (f_X11_mean_L46_ok h0 hC hq (fun q19 q20 => ?_) KF 0 0 0)
      · refine r_iload 97 hC 2 rfl dX11_mean_97 ?_
        refine r_jn (P := fun j120 => ∀ (q21 : Int) (M22 : Mem), Bk E C 8 M (r0, M0) 120 [] [(0, q21)] M22 0 0 (j120 q21 M22)) ?_ (fun j120 hj120 => ?_)
        · intro q21 M22
          exact r_zreturn 120 hC hq (by decide) (by decide) dX11_mean_120
        refine r_if_ne 99 hC (tgt := 111) (by decide) dX11_mean_99 ?_ ?_
        · refine r_aload_n 111 hC 0 rfl (Or.inl (by decide)) rfl dX11_mean_111 ?_
          refine r_lload 112 hC 1 rfl dX11_mean_112 ?_
          refine r_iload 114 hC 2 rfl dX11_mean_114 ?_
          refine r_i2l 116 hC dX11_mean_116 ?_
          refine r_callVI 117 hC [(1, q19), (1, q20)] [] rfl vl_X11_317 rfl h0 (by decide) (Nat.le_of_ble_eq_true rfl) (by decide) (by decide) dX11_mean_117 (t_X11_tellFraction x0 q19 q20 M h0) (fun v23 M24 => ?_)
          exact r_sub [] rfl (hj120 v23 M24)
        · refine r_aload_n 102 hC 0 rfl (Or.inl (by decide)) rfl dX11_mean_102 ?_
          refine r_bipush 103 hC kb_6 dX11_mean_103 ?_
          refine r_callVI 105 hC [(0, 6)] [] rfl vl_X11_102 rfl h0 (by decide) (Nat.le_of_ble_eq_true rfl) (by decide) (by decide) dX11_mean_105 (t_X11_settle x0 6 M h0) (fun v25 M26 => ?_)
          refine r_goto 108 hC (tgt := 120) (by decide) dX11_mean_108 ?_
          exact r_sub [] rfl (hj120 v25 M26)
    · refine r_aload_n 31 hC 1 rfl (Or.inl (by decide)) rfl dX11_mean_31 ?_
      refine r_iload_n 32 hC 0 rfl rfl dX11_mean_32 ?_
      refine r_callVI 33 hC [(0, q2)] [] rfl vl_X11_102 rfl h0 (by decide) (Nat.le_of_ble_eq_true rfl) (by decide) (by decide) dX11_mean_33 (t_X11_settle x0 q2 M h0) (fun v27 M28 => ?_)
      exact r_zreturn 36 hC hq (by decide) (by decide) dX11_mean_36
  refine r_if_eq 7 hC (tgt := 25) (by decide) dX11_mean_7 ?_ ?_
  · refine r_iconst 25 hC (r32c rfl) dX11_mean_25 ?_
    exact hj26 1
  · refine r_aload_n 10 hC 0 rfl (Or.inl (by decide)) rfl dX11_mean_10 ?_
    refine r_get 11 hC fd_9_0 fl_X11_12 dX11_mean_11 (fun v29 => ?_)
    refine r_iload_n 14 hC 1 rfl rfl dX11_mean_14 ?_
    refine r_iload_n 15 hC 2 rfl rfl dX11_mean_15 ?_
    refine r_ldcw 16 hC (x := 999999) kc_X11_394 ⟨by decide +kernel, r32c rfl⟩ dX11_mean_16 ?_
    refine r_nn (fun hn30 => ?_)
    refine r_callVP 19 hC [(0, x1), (0, x2), (0, 999999)] [] rfl vl_X11_395 rfl hn30 (by decide) (Nat.le_of_ble_eq_true rfl) (by decide) (by decide) dX11_mean_19 (t_X7_whyNoGauge v29 x1 x2 999999 M hn30) (fun v31 => ?_)
    refine r_goto 22 hC (tgt := 26) (by decide) dX11_mean_22 ?_
    exact hj26 v31

/-! WaterTurns.gaps(II)I -/
theorem dX11_gaps_0 : decode cX11_gaps 0 = .ok (.iload_n 2, 1) := by decide +kernel
theorem dX11_gaps_1 : decode cX11_gaps 1 = .ok (.iconst 1, 1) := by decide +kernel
theorem dX11_gaps_2 : decode cX11_gaps 2 = .ok (.bipush 60, 2) := by decide +kernel
theorem dX11_gaps_4 : decode cX11_gaps 4 = .ok (.invokestatic 132, 3) := by decide +kernel
theorem dX11_gaps_7 : decode cX11_gaps 7 = .ok (.ifCond .eq 18, 3) := by decide +kernel
theorem dX11_gaps_10 : decode cX11_gaps 10 = .ok (.aload_n 0, 1) := by decide +kernel
theorem dX11_gaps_11 : decode cX11_gaps 11 = .ok (.getfield 12, 3) := by decide +kernel
theorem dX11_gaps_14 : decode cX11_gaps 14 = .ok (.iload_n 1, 1) := by decide +kernel
theorem dX11_gaps_15 : decode cX11_gaps 15 = .ok (.iload_n 2, 1) := by decide +kernel
theorem dX11_gaps_16 : decode cX11_gaps 16 = .ok (.ldc_w 394, 3) := by decide +kernel
theorem dX11_gaps_19 : decode cX11_gaps 19 = .ok (.invokevirtual 395, 3) := by decide +kernel
theorem dX11_gaps_22 : decode cX11_gaps 22 = .ok (.goto 4, 3) := by decide +kernel
theorem dX11_gaps_25 : decode cX11_gaps 25 = .ok (.iconst 1, 1) := by decide +kernel
theorem dX11_gaps_26 : decode cX11_gaps 26 = .ok (.istore_n 3, 1) := by decide +kernel
theorem dX11_gaps_27 : decode cX11_gaps 27 = .ok (.iload_n 3, 1) := by decide +kernel
theorem dX11_gaps_28 : decode cX11_gaps 28 = .ok (.ifCond .eq 9, 3) := by decide +kernel
theorem dX11_gaps_31 : decode cX11_gaps 31 = .ok (.aload_n 0, 1) := by decide +kernel
theorem dX11_gaps_32 : decode cX11_gaps 32 = .ok (.iload_n 3, 1) := by decide +kernel
theorem dX11_gaps_33 : decode cX11_gaps 33 = .ok (.invokevirtual 91, 3) := by decide +kernel
theorem dX11_gaps_36 : decode cX11_gaps 36 = .ok (.ireturn, 1) := by decide +kernel
theorem dX11_gaps_37 : decode cX11_gaps 37 = .ok (.iconst 0, 1) := by decide +kernel
theorem dX11_gaps_38 : decode cX11_gaps 38 = .ok (.istore 4, 2) := by decide +kernel
theorem dX11_gaps_40 : decode cX11_gaps 40 = .ok (.iconst 0, 1) := by decide +kernel
theorem dX11_gaps_41 : decode cX11_gaps 41 = .ok (.istore 5, 2) := by decide +kernel
theorem dX11_gaps_43 : decode cX11_gaps 43 = .ok (.iconst 0, 1) := by decide +kernel
theorem dX11_gaps_44 : decode cX11_gaps 44 = .ok (.istore 6, 2) := by decide +kernel
theorem dX11_gaps_46 : decode cX11_gaps 46 = .ok (.iload 6, 2) := by decide +kernel
theorem dX11_gaps_48 : decode cX11_gaps 48 = .ok (.iload_n 2, 1) := by decide +kernel
theorem dX11_gaps_49 : decode cX11_gaps 49 = .ok (.if_icmp .ge 47, 3) := by decide +kernel
theorem dX11_gaps_52 : decode cX11_gaps 52 = .ok (.aload_n 0, 1) := by decide +kernel
theorem dX11_gaps_53 : decode cX11_gaps 53 = .ok (.getfield 12, 3) := by decide +kernel
theorem dX11_gaps_56 : decode cX11_gaps 56 = .ok (.getfield 148, 3) := by decide +kernel
theorem dX11_gaps_59 : decode cX11_gaps 59 = .ok (.iload_n 1, 1) := by decide +kernel
theorem dX11_gaps_60 : decode cX11_gaps 60 = .ok (.aaload, 1) := by decide +kernel
theorem dX11_gaps_61 : decode cX11_gaps 61 = .ok (.iload 6, 2) := by decide +kernel
theorem dX11_gaps_63 : decode cX11_gaps 63 = .ok (.laload, 1) := by decide +kernel
theorem dX11_gaps_64 : decode cX11_gaps 64 = .ok (.ldc2_w 399, 3) := by decide +kernel
theorem dX11_gaps_67 : decode cX11_gaps 67 = .ok (.lcmp, 1) := by decide +kernel
theorem dX11_gaps_68 : decode cX11_gaps 68 = .ok (.ifCond .ne 10, 3) := by decide +kernel
theorem dX11_gaps_71 : decode cX11_gaps 71 = .ok (.iload 5, 2) := by decide +kernel
theorem dX11_gaps_73 : decode cX11_gaps 73 = .ok (.iconst 1, 1) := by decide +kernel
theorem dX11_gaps_74 : decode cX11_gaps 74 = .ok (.iadd, 1) := by decide +kernel
theorem dX11_gaps_75 : decode cX11_gaps 75 = .ok (.goto 4, 3) := by decide +kernel
theorem dX11_gaps_78 : decode cX11_gaps 78 = .ok (.iconst 0, 1) := by decide +kernel
theorem dX11_gaps_79 : decode cX11_gaps 79 = .ok (.istore 5, 2) := by decide +kernel
theorem dX11_gaps_81 : decode cX11_gaps 81 = .ok (.iload 4, 2) := by decide +kernel
theorem dX11_gaps_83 : decode cX11_gaps 83 = .ok (.iload 5, 2) := by decide +kernel
theorem dX11_gaps_85 : decode cX11_gaps 85 = .ok (.invokestatic 363, 3) := by decide +kernel
theorem dX11_gaps_88 : decode cX11_gaps 88 = .ok (.istore 4, 2) := by decide +kernel
theorem dX11_gaps_90 : decode cX11_gaps 90 = .ok (.iinc 6 1, 3) := by decide +kernel
theorem dX11_gaps_93 : decode cX11_gaps 93 = .ok (.goto (-47), 3) := by decide +kernel
theorem dX11_gaps_96 : decode cX11_gaps 96 = .ok (.aload_n 0, 1) := by decide +kernel
theorem dX11_gaps_97 : decode cX11_gaps 97 = .ok (.iload 4, 2) := by decide +kernel
theorem dX11_gaps_99 : decode cX11_gaps 99 = .ok (.invokevirtual 95, 3) := by decide +kernel
theorem dX11_gaps_102 : decode cX11_gaps 102 = .ok (.ireturn, 1) := by decide +kernel
set_option maxRecDepth 100000 in
theorem f_X11_gaps_L46_ok {E : EnvT} {C : Cx} {Mi M : Mem} {x0 : Int} (h0 : x0 ≠ 0) (hC : CxOK E C cX11_gaps 7 yX11_gaps.cls 3 0 0) {r0 : Int} {M0 : Mem} (hq : RQ E C 0 0 Mi (some .int) (some (0, r0)) M0) {x1 x2 : Int} {k : Int → Option (Int × Mem)} (hk : ∀ q12, Bk E C 7 Mi (r0, M0) 96 [(0, 29, x0), (4, 0, q12)] [] M 0 0 (k q12)) : ∀ (n : Nat) (p3 : Int) (p4 : Int) (p5 : Int), Bk E C 7 Mi (r0, M0) 46 [(0, 29, x0), (1, 0, x1), (2, 0, x2), (4, 0, p3), (5, 0, p4), (6, 0, p5)] [] M 0 0 (f_X11_gaps_L46 M x0 x1 x2 k n p3 p4 p5) := by
  intro n
  induction n with
  | zero =>
    intro p3 p4 p5
    exact r_none
  | succ n ih =>
    intro p3 p4 p5
    rw [f_X11_gaps_L46]
    refine r_iload 46 hC 5 rfl dX11_gaps_46 ?_
    refine r_iload_n 48 hC 2 rfl rfl dX11_gaps_48 ?_
    refine r_icmp_ge 49 hC (tgt := 96) (by decide) dX11_gaps_49 ?_ ?_
    · exact r_sub [0, 3] rfl (hk p3)
    · refine r_aload_n 52 hC 0 rfl (Or.inl (by decide)) rfl dX11_gaps_52 ?_
      refine r_get 53 hC fd_9_0 fl_X11_12 dX11_gaps_53 (fun v6 => ?_)
      refine r_get 56 hC fd_6_0 fl_X11_148 dX11_gaps_56 (fun v7 => ?_)
      refine r_iload_n 59 hC 1 rfl rfl dX11_gaps_59 ?_
      refine r_aaloadL 60 hC dX11_gaps_60 (fun v8 => ?_)
      refine r_iload 61 hC 5 rfl dX11_gaps_61 ?_
      refine r_laload 63 hC dX11_gaps_63 (fun v9 => ?_)
      refine r_ldc2 64 hC (x := (-1)) kl_X11_399 ⟨by decide +kernel, r64c rfl⟩ dX11_gaps_64 ?_
      refine r_jn (P := fun j79 => ∀ (q10 : Int), Bk E C 7 Mi (r0, M0) 79 [(0, 29, x0), (1, 0, x1), (2, 0, x2), (4, 0, p3), (6, 0, p5)] [(0, q10)] M 0 0 (j79 q10)) ?_ (fun j79 hj79 => ?_)
      · intro q10
        refine r_istore 79 hC (by decide) dX11_gaps_79 (r_eqls (ls' := [(5, 0, q10), (0, 29, x0), (1, 0, x1), (2, 0, x2), (4, 0, p3), (6, 0, p5)]) rfl ?_)
        refine r_iload 81 hC 4 rfl dX11_gaps_81 ?_
        refine r_iload 83 hC 0 rfl dX11_gaps_83 ?_
        refine r_callSP 85 hC [(0, p3), (0, q10)] [] rfl sl_X11_363 rfl (by decide) (Nat.le_of_ble_eq_true rfl) (by decide) (by decide) dX11_gaps_85 (t_J9_max_7cf53 p3 q10 M) (fun v11 => ?_)
        refine r_istore 88 hC (by decide) dX11_gaps_88 (r_eqls (ls' := [(4, 0, v11), (5, 0, q10), (0, 29, x0), (1, 0, x1), (2, 0, x2), (6, 0, p5)]) rfl ?_)
        refine r_iinc 90 hC 5 rfl (by decide) dX11_gaps_90 (r_eqls (ls' := [(6, 0, w32 (p5 + 1)), (4, 0, v11), (5, 0, q10), (0, 29, x0), (1, 0, x1), (2, 0, x2)]) rfl ?_)
        refine r_goto 93 hC (tgt := 46) (by decide) dX11_gaps_93 ?_
        exact r_sub [3, 4, 5, 1, 2, 0] rfl (ih v11 q10 (w32 (p5 + 1)))
      refine r_lcmp_ne 67 hC (tgt := 78) (by decide) dX11_gaps_67 dX11_gaps_68 ?_ ?_
      · refine r_iconst 78 hC (r32c rfl) dX11_gaps_78 ?_
        exact r_sub [0, 1, 2, 3, 5] rfl (hj79 0)
      · refine r_iload 71 hC 4 rfl dX11_gaps_71 ?_
        refine r_iconst 73 hC (r32c rfl) dX11_gaps_73 ?_
        refine r_iadd 74 hC dX11_gaps_74 ?_
        refine r_goto 75 hC (tgt := 79) (by decide) dX11_gaps_75 ?_
        exact r_sub [0, 1, 2, 3, 5] rfl (hj79 (w32 (p4 + 1)))
set_option maxRecDepth 100000 in
theorem t_X11_gaps (x0 x1 x2 : Int) (M : Mem) (h0 : x0 ≠ 0) : MtI yX11_gaps cX11_gaps 7 (some .int) 3 0 0 [(29, x0), (0, x1), (0, x2)] M 0 (f_X11_gaps x0 x1 x2 M) := by
  refine mk_I (by decide +kernel) (Nat.le_of_ble_eq_true rfl) (fun E C r0 M0 hC hq hin => ?_)
  refine r_eqls (ls' := [(0, 29, x0), (1, 0, x1), (2, 0, x2)]) rfl ?_
  unfold f_X11_gaps
  refine r_iload_n 0 hC 2 rfl rfl dX11_gaps_0 ?_
  refine r_iconst 1 hC (r32c rfl) dX11_gaps_1 ?_
  refine r_bipush 2 hC kb_60 dX11_gaps_2 ?_
  refine r_callSP 4 hC [(0, x2), (0, 1), (0, 60)] [] rfl sl_X11_132 rfl (by decide) (Nat.le_of_ble_eq_true rfl) (by decide) (by decide) dX11_gaps_4 (t_X11_isWithin x2 1 60 M) (fun v1 => ?_)
  refine r_jn (P := fun j26 => ∀ (q2 : Int), Bk E C 7 M (r0, M0) 26 [(0, 29, x0), (1, 0, x1), (2, 0, x2)] [(0, q2)] M 0 0 (j26 q2)) ?_ (fun j26 hj26 => ?_)
  · intro q2
    refine r_istore_n 26 hC rfl (by decide) dX11_gaps_26 (r_eqls (ls' := [(3, 0, q2), (0, 29, x0), (1, 0, x1), (2, 0, x2)]) rfl ?_)
    refine r_iload_n 27 hC 0 rfl rfl dX11_gaps_27 ?_
    refine r_if_eq 28 hC (tgt := 37) (by decide) dX11_gaps_28 ?_ ?_
    · refine r_iconst 37 hC (r32c rfl) dX11_gaps_37 ?_
      refine r_istore 38 hC (by decide) dX11_gaps_38 (r_eqls (ls' := [(4, 0, 0), (3, 0, q2), (0, 29, x0), (1, 0, x1), (2, 0, x2)]) rfl ?_)
      refine r_iconst 40 hC (r32c rfl) dX11_gaps_40 ?_
      refine r_istore 41 hC (by decide) dX11_gaps_41 (r_eqls (ls' := [(5, 0, 0), (4, 0, 0), (3, 0, q2), (0, 29, x0), (1, 0, x1), (2, 0, x2)]) rfl ?_)
      refine r_iconst 43 hC (r32c rfl) dX11_gaps_43 ?_
      refine r_istore 44 hC (by decide) dX11_gaps_44 (r_eqls (ls' := [(6, 0, 0), (5, 0, 0), (4, 0, 0), (3, 0, q2), (0, 29, x0), (1, 0, x1), (2, 0, x2)]) rfl ?_)
      refine r_sub [4, 5, 6, 2, 1, 0] rfl (f_X11_gaps_L46_ok h0 hC hq (fun q13 => ?_) KF 0 0 0)
      · refine r_aload_n 96 hC 0 rfl (Or.inl (by decide)) rfl dX11_gaps_96 ?_
        refine r_iload 97 hC 1 rfl dX11_gaps_97 ?_
        refine r_callVI 99 hC [(0, q13)] [] rfl vl_X11_95 rfl h0 (by decide) (Nat.le_of_ble_eq_true rfl) (by decide) (by decide) dX11_gaps_99 (t_X11_answer x0 q13 M h0) (fun v14 M15 => ?_)
        exact r_ireturn 102 hC hq (by decide) (by decide) dX11_gaps_102
    · refine r_aload_n 31 hC 1 rfl (Or.inl (by decide)) rfl dX11_gaps_31 ?_
      refine r_iload_n 32 hC 0 rfl rfl dX11_gaps_32 ?_
      refine r_callVI 33 hC [(0, q2)] [] rfl vl_X11_91 rfl h0 (by decide) (Nat.le_of_ble_eq_true rfl) (by decide) (by decide) dX11_gaps_33 (t_X11_refuse x0 q2 M h0) (fun v16 M17 => ?_)
      exact r_ireturn 36 hC hq (by decide) (by decide) dX11_gaps_36
  refine r_if_eq 7 hC (tgt := 25) (by decide) dX11_gaps_7 ?_ ?_
  · refine r_iconst 25 hC (r32c rfl) dX11_gaps_25 ?_
    exact hj26 1
  · refine r_aload_n 10 hC 0 rfl (Or.inl (by decide)) rfl dX11_gaps_10 ?_
    refine r_get 11 hC fd_9_0 fl_X11_12 dX11_gaps_11 (fun v18 => ?_)
    refine r_iload_n 14 hC 1 rfl rfl dX11_gaps_14 ?_
    refine r_iload_n 15 hC 2 rfl rfl dX11_gaps_15 ?_
    refine r_ldcw 16 hC (x := 999999) kc_X11_394 ⟨by decide +kernel, r32c rfl⟩ dX11_gaps_16 ?_
    refine r_nn (fun hn19 => ?_)
    refine r_callVP 19 hC [(0, x1), (0, x2), (0, 999999)] [] rfl vl_X11_395 rfl hn19 (by decide) (Nat.le_of_ble_eq_true rfl) (by decide) (by decide) dX11_gaps_19 (t_X7_whyNoGauge v18 x1 x2 999999 M hn19) (fun v20 => ?_)
    refine r_goto 22 hC (tgt := 26) (by decide) dX11_gaps_22 ?_
    exact hj26 v20

/-! WaterTurns.suspects(I)I -/
theorem dX11_suspects_0 : decode cX11_suspects 0 = .ok (.aload_n 0, 1) := by decide +kernel
theorem dX11_suspects_1 : decode cX11_suspects 1 = .ok (.getfield 26, 3) := by decide +kernel
theorem dX11_suspects_4 : decode cX11_suspects 4 = .ok (.getfield 111, 3) := by decide +kernel
theorem dX11_suspects_7 : decode cX11_suspects 7 = .ok (.astore_n 2, 1) := by decide +kernel
theorem dX11_suspects_8 : decode cX11_suspects 8 = .ok (.aload_n 0, 1) := by decide +kernel
theorem dX11_suspects_9 : decode cX11_suspects 9 = .ok (.getfield 12, 3) := by decide +kernel
theorem dX11_suspects_12 : decode cX11_suspects 12 = .ok (.iload_n 1, 1) := by decide +kernel
theorem dX11_suspects_13 : decode cX11_suspects 13 = .ok (.aload_n 2, 1) := by decide +kernel
theorem dX11_suspects_14 : decode cX11_suspects 14 = .ok (.getfield 120, 3) := by decide +kernel
theorem dX11_suspects_17 : decode cX11_suspects 17 = .ok (.sipush 999, 3) := by decide +kernel
theorem dX11_suspects_20 : decode cX11_suspects 20 = .ok (.invokevirtual 395, 3) := by decide +kernel
theorem dX11_suspects_23 : decode cX11_suspects 23 = .ok (.istore_n 3, 1) := by decide +kernel
theorem dX11_suspects_24 : decode cX11_suspects 24 = .ok (.iload_n 3, 1) := by decide +kernel
theorem dX11_suspects_25 : decode cX11_suspects 25 = .ok (.ifCond .eq 9, 3) := by decide +kernel
theorem dX11_suspects_28 : decode cX11_suspects 28 = .ok (.aload_n 0, 1) := by decide +kernel
theorem dX11_suspects_29 : decode cX11_suspects 29 = .ok (.iload_n 3, 1) := by decide +kernel
theorem dX11_suspects_30 : decode cX11_suspects 30 = .ok (.invokevirtual 91, 3) := by decide +kernel
theorem dX11_suspects_33 : decode cX11_suspects 33 = .ok (.ireturn, 1) := by decide +kernel
theorem dX11_suspects_34 : decode cX11_suspects 34 = .ok (.aload_n 0, 1) := by decide +kernel
theorem dX11_suspects_35 : decode cX11_suspects 35 = .ok (.invokevirtual 284, 3) := by decide +kernel
theorem dX11_suspects_38 : decode cX11_suspects 38 = .ok (.astore 4, 2) := by decide +kernel
theorem dX11_suspects_40 : decode cX11_suspects 40 = .ok (.iconst 0, 1) := by decide +kernel
theorem dX11_suspects_41 : decode cX11_suspects 41 = .ok (.istore 5, 2) := by decide +kernel
theorem dX11_suspects_43 : decode cX11_suspects 43 = .ok (.iconst 0, 1) := by decide +kernel
theorem dX11_suspects_44 : decode cX11_suspects 44 = .ok (.istore 6, 2) := by decide +kernel
theorem dX11_suspects_46 : decode cX11_suspects 46 = .ok (.iconst 0, 1) := by decide +kernel
theorem dX11_suspects_47 : decode cX11_suspects 47 = .ok (.istore 7, 2) := by decide +kernel
theorem dX11_suspects_49 : decode cX11_suspects 49 = .ok (.iload 7, 2) := by decide +kernel
theorem dX11_suspects_51 : decode cX11_suspects 51 = .ok (.aload_n 2, 1) := by decide +kernel
theorem dX11_suspects_52 : decode cX11_suspects 52 = .ok (.getfield 120, 3) := by decide +kernel
theorem dX11_suspects_55 : decode cX11_suspects 55 = .ok (.if_icmp .ge 77, 3) := by decide +kernel
theorem dX11_suspects_58 : decode cX11_suspects 58 = .ok (.aload_n 0, 1) := by decide +kernel
theorem dX11_suspects_59 : decode cX11_suspects 59 = .ok (.getfield 12, 3) := by decide +kernel
theorem dX11_suspects_62 : decode cX11_suspects 62 = .ok (.getfield 148, 3) := by decide +kernel
theorem dX11_suspects_65 : decode cX11_suspects 65 = .ok (.iload_n 1, 1) := by decide +kernel
theorem dX11_suspects_66 : decode cX11_suspects 66 = .ok (.aaload, 1) := by decide +kernel
theorem dX11_suspects_67 : decode cX11_suspects 67 = .ok (.iload 7, 2) := by decide +kernel
theorem dX11_suspects_69 : decode cX11_suspects 69 = .ok (.laload, 1) := by decide +kernel
theorem dX11_suspects_70 : decode cX11_suspects 70 = .ok (.lstore 8, 2) := by decide +kernel
theorem dX11_suspects_72 : decode cX11_suspects 72 = .ok (.lload 8, 2) := by decide +kernel
theorem dX11_suspects_74 : decode cX11_suspects 74 = .ok (.ldc2_w 399, 3) := by decide +kernel
theorem dX11_suspects_77 : decode cX11_suspects 77 = .ok (.lcmp, 1) := by decide +kernel
theorem dX11_suspects_78 : decode cX11_suspects 78 = .ok (.ifCond .eq 48, 3) := by decide +kernel
theorem dX11_suspects_81 : decode cX11_suspects 81 = .ok (.iload 5, 2) := by decide +kernel
theorem dX11_suspects_83 : decode cX11_suspects 83 = .ok (.iconst 1, 1) := by decide +kernel
theorem dX11_suspects_84 : decode cX11_suspects 84 = .ok (.iload 7, 2) := by decide +kernel
theorem dX11_suspects_86 : decode cX11_suspects 86 = .ok (.ishl, 1) := by decide +kernel
theorem dX11_suspects_87 : decode cX11_suspects 87 = .ok (.ior, 1) := by decide +kernel
theorem dX11_suspects_88 : decode cX11_suspects 88 = .ok (.istore 5, 2) := by decide +kernel
theorem dX11_suspects_90 : decode cX11_suspects 90 = .ok (.iload 6, 2) := by decide +kernel
theorem dX11_suspects_92 : decode cX11_suspects 92 = .ok (.lload 8, 2) := by decide +kernel
theorem dX11_suspects_94 : decode cX11_suspects 94 = .ok (.aload 4, 2) := by decide +kernel
theorem dX11_suspects_96 : decode cX11_suspects 96 = .ok (.aload_n 2, 1) := by decide +kernel
theorem dX11_suspects_97 : decode cX11_suspects 97 = .ok (.iload 7, 2) := by decide +kernel
theorem dX11_suspects_99 : decode cX11_suspects 99 = .ok (.invokevirtual 310, 3) := by decide +kernel
theorem dX11_suspects_102 : decode cX11_suspects 102 = .ok (.lconst 1, 1) := by decide +kernel
theorem dX11_suspects_103 : decode cX11_suspects 103 = .ok (.aload_n 2, 1) := by decide +kernel
theorem dX11_suspects_104 : decode cX11_suspects 104 = .ok (.getfield 314, 3) := by decide +kernel
theorem dX11_suspects_107 : decode cX11_suspects 107 = .ok (.invokestatic 106, 3) := by decide +kernel
theorem dX11_suspects_110 : decode cX11_suspects 110 = .ok (.ldiv, 1) := by decide +kernel
theorem dX11_suspects_111 : decode cX11_suspects 111 = .ok (.lcmp, 1) := by decide +kernel
theorem dX11_suspects_112 : decode cX11_suspects 112 = .ok (.ifCond .ge 10, 3) := by decide +kernel
theorem dX11_suspects_115 : decode cX11_suspects 115 = .ok (.iconst 1, 1) := by decide +kernel
theorem dX11_suspects_116 : decode cX11_suspects 116 = .ok (.iload 7, 2) := by decide +kernel
theorem dX11_suspects_118 : decode cX11_suspects 118 = .ok (.ishl, 1) := by decide +kernel
theorem dX11_suspects_119 : decode cX11_suspects 119 = .ok (.goto 4, 3) := by decide +kernel
theorem dX11_suspects_122 : decode cX11_suspects 122 = .ok (.iconst 0, 1) := by decide +kernel
theorem dX11_suspects_123 : decode cX11_suspects 123 = .ok (.ior, 1) := by decide +kernel
theorem dX11_suspects_124 : decode cX11_suspects 124 = .ok (.istore 6, 2) := by decide +kernel
theorem dX11_suspects_126 : decode cX11_suspects 126 = .ok (.iinc 7 1, 3) := by decide +kernel
theorem dX11_suspects_129 : decode cX11_suspects 129 = .ok (.goto (-80), 3) := by decide +kernel
theorem dX11_suspects_132 : decode cX11_suspects 132 = .ok (.iconst 0, 1) := by decide +kernel
theorem dX11_suspects_133 : decode cX11_suspects 133 = .ok (.istore 7, 2) := by decide +kernel
theorem dX11_suspects_135 : decode cX11_suspects 135 = .ok (.iconst 0, 1) := by decide +kernel
theorem dX11_suspects_136 : decode cX11_suspects 136 = .ok (.istore 8, 2) := by decide +kernel
theorem dX11_suspects_138 : decode cX11_suspects 138 = .ok (.iload 8, 2) := by decide +kernel
theorem dX11_suspects_140 : decode cX11_suspects 140 = .ok (.aload_n 2, 1) := by decide +kernel
theorem dX11_suspects_141 : decode cX11_suspects 141 = .ok (.getfield 114, 3) := by decide +kernel
theorem dX11_suspects_144 : decode cX11_suspects 144 = .ok (.if_icmp .ge 37, 3) := by decide +kernel
theorem dX11_suspects_147 : decode cX11_suspects 147 = .ok (.iload 6, 2) := by decide +kernel
theorem dX11_suspects_149 : decode cX11_suspects 149 = .ok (.ifCond .eq 26, 3) := by decide +kernel
theorem dX11_suspects_152 : decode cX11_suspects 152 = .ok (.iload 6, 2) := by decide +kernel
theorem dX11_suspects_154 : decode cX11_suspects 154 = .ok (.aload_n 2, 1) := by decide +kernel
theorem dX11_suspects_155 : decode cX11_suspects 155 = .ok (.iload 8, 2) := by decide +kernel
theorem dX11_suspects_157 : decode cX11_suspects 157 = .ok (.invokevirtual 235, 3) := by decide +kernel
theorem dX11_suspects_160 : decode cX11_suspects 160 = .ok (.iload 5, 2) := by decide +kernel
theorem dX11_suspects_162 : decode cX11_suspects 162 = .ok (.iand, 1) := by decide +kernel
theorem dX11_suspects_163 : decode cX11_suspects 163 = .ok (.if_icmp .ne 12, 3) := by decide +kernel
theorem dX11_suspects_166 : decode cX11_suspects 166 = .ok (.iload 7, 2) := by decide +kernel
theorem dX11_suspects_168 : decode cX11_suspects 168 = .ok (.iconst 1, 1) := by decide +kernel
theorem dX11_suspects_169 : decode cX11_suspects 169 = .ok (.iload 8, 2) := by decide +kernel
theorem dX11_suspects_171 : decode cX11_suspects 171 = .ok (.ishl, 1) := by decide +kernel
theorem dX11_suspects_172 : decode cX11_suspects 172 = .ok (.ior, 1) := by decide +kernel
theorem dX11_suspects_173 : decode cX11_suspects 173 = .ok (.istore 7, 2) := by decide +kernel
theorem dX11_suspects_175 : decode cX11_suspects 175 = .ok (.iinc 8 1, 3) := by decide +kernel
theorem dX11_suspects_178 : decode cX11_suspects 178 = .ok (.goto (-40), 3) := by decide +kernel
theorem dX11_suspects_181 : decode cX11_suspects 181 = .ok (.aload_n 0, 1) := by decide +kernel
theorem dX11_suspects_182 : decode cX11_suspects 182 = .ok (.iload 7, 2) := by decide +kernel
theorem dX11_suspects_184 : decode cX11_suspects 184 = .ok (.invokevirtual 95, 3) := by decide +kernel
theorem dX11_suspects_187 : decode cX11_suspects 187 = .ok (.ireturn, 1) := by decide +kernel
set_option maxRecDepth 100000 in
theorem f_X11_suspects_L49_ok {E : EnvT} {C : Cx} {Mi : Mem} {x0 : Int} (h0 : x0 ≠ 0) (hC : CxOK E C cX11_suspects 10 yX11_suspects.cls 6 0 0) {r0 : Int} {M0 : Mem} (hq : RQ E C 0 0 Mi (some .int) (some (0, r0)) M0) {M8 : Mem} {v2 v7 x1 : Int} {k : Int → Int → Option (Int × Mem)} (hk : ∀ q27 q28, Bk E C 10 Mi (r0, M0) 132 [(0, 29, x0), (2, 27, v2), (5, 0, q27), (6, 0, q28)] [] M8 0 0 (k q27 q28)) : ∀ (n : Nat) (p9 : Int) (p10 : Int) (p11 : Int), Bk E C 10 Mi (r0, M0) 49 [(0, 29, x0), (1, 0, x1), (2, 27, v2), (4, 24, v7), (5, 0, p9), (6, 0, p10), (7, 0, p11)] [] M8 0 0 (f_X11_suspects_L49 M8 v2 v7 x0 x1 k n p9 p10 p11) := by
  intro n
  induction n with
  | zero =>
    intro p9 p10 p11
    exact r_none
  | succ n ih =>
    intro p9 p10 p11
    rw [f_X11_suspects_L49]
    refine r_iload 49 hC 6 rfl dX11_suspects_49 ?_
    refine r_aload_n 51 hC 2 rfl (Or.inl (by decide)) rfl dX11_suspects_51 ?_
    refine r_get 52 hC fd_7_5 fl_X11_120 dX11_suspects_52 (fun v12 => ?_)
    refine r_icmp_ge 55 hC (tgt := 132) (by decide) dX11_suspects_55 ?_ ?_
    · exact r_sub [0, 2, 4, 5] rfl (hk p9 p10)
    · refine r_aload_n 58 hC 0 rfl (Or.inl (by decide)) rfl dX11_suspects_58 ?_
      refine r_get 59 hC fd_9_0 fl_X11_12 dX11_suspects_59 (fun v13 => ?_)
      refine r_get 62 hC fd_6_0 fl_X11_148 dX11_suspects_62 (fun v14 => ?_)
      refine r_iload_n 65 hC 1 rfl rfl dX11_suspects_65 ?_
      refine r_aaloadL 66 hC dX11_suspects_66 (fun v15 => ?_)
      refine r_iload 67 hC 6 rfl dX11_suspects_67 ?_
      refine r_laload 69 hC dX11_suspects_69 (fun v16 => ?_)
      refine r_lstore 70 hC (by decide) dX11_suspects_70 (r_eqls (ls' := [(8, 1, v16), (0, 29, x0), (1, 0, x1), (2, 27, v2), (4, 24, v7), (5, 0, p9), (6, 0, p10), (7, 0, p11)]) rfl ?_)
      refine r_lload 72 hC 0 rfl dX11_suspects_72 ?_
      refine r_ldc2 74 hC (x := (-1)) kl_X11_399 ⟨by decide +kernel, r64c rfl⟩ dX11_suspects_74 ?_
      refine r_jn (P := fun j126 => ∀ (q17 : Int) (q18 : Int), Bk E C 10 Mi (r0, M0) 126 [(0, 29, x0), (1, 0, x1), (2, 27, v2), (4, 24, v7), (5, 0, q17), (6, 0, q18), (7, 0, p11)] [] M8 0 0 (j126 q17 q18)) ?_ (fun j126 hj126 => ?_)
      · intro q17 q18
        refine r_iinc 126 hC 6 rfl (by decide) dX11_suspects_126 (r_eqls (ls' := [(7, 0, w32 (p11 + 1)), (0, 29, x0), (1, 0, x1), (2, 27, v2), (4, 24, v7), (5, 0, q17), (6, 0, q18)]) rfl ?_)
        refine r_goto 129 hC (tgt := 49) (by decide) dX11_suspects_129 ?_
        exact r_sub [1, 2, 3, 4, 5, 6, 0] rfl (ih q17 q18 (w32 (p11 + 1)))
      refine r_lcmp_eq 77 hC (tgt := 126) (by decide) dX11_suspects_77 dX11_suspects_78 ?_ ?_
      · exact r_sub [1, 2, 3, 4, 5, 6, 7] rfl (hj126 p9 p10)
      · refine r_iload 81 hC 5 rfl dX11_suspects_81 ?_
        refine r_iconst 83 hC (r32c rfl) dX11_suspects_83 ?_
        refine r_iload 84 hC 7 rfl dX11_suspects_84 ?_
        refine r_ishl 86 hC dX11_suspects_86 ?_
        refine r_ior 87 hC dX11_suspects_87 ?_
        refine r_istoreL 88 hC (by decide) dX11_suspects_88 (fun v19 => r_eqls (ls' := [(5, 0, v19), (8, 1, v16), (0, 29, x0), (1, 0, x1), (2, 27, v2), (4, 24, v7), (6, 0, p10), (7, 0, p11)]) rfl ?_)
        refine r_iload 90 hC 6 rfl dX11_suspects_90 ?_
        refine r_lload 92 hC 1 rfl dX11_suspects_92 ?_
        refine r_aload 94 hC 5 (Or.inl (by decide)) rfl dX11_suspects_94 ?_
        refine r_aload_n 96 hC 4 rfl (Or.inl (by decide)) rfl dX11_suspects_96 ?_
        refine r_iload 97 hC 7 rfl dX11_suspects_97 ?_
        refine r_nn (fun hn20 => ?_)
        refine r_callVP 99 hC [(27, v2), (0, p11)] [(1, v16), (0, p10)] rfl vl_X11_310 rfl hn20 (by decide) (Nat.le_of_ble_eq_true rfl) (by decide) (by decide) dX11_suspects_99 (t_X5_rateOf v7 v2 p11 M8 hn20) (fun v21 => ?_)
        refine r_lconst 102 hC (x := 1) ⟨by decide +kernel, r64c rfl⟩ dX11_suspects_102 ?_
        refine r_aload_n 103 hC 4 rfl (Or.inl (by decide)) rfl dX11_suspects_103 ?_
        refine r_get 104 hC fd_7_7 fl_X11_314 dX11_suspects_104 (fun v22 => ?_)
        refine r_callSP 107 hC [(1, 1), (1, v22)] [(1, v21), (1, v16), (0, p10)] rfl sl_X11_106 rfl (by decide) (Nat.le_of_ble_eq_true rfl) (by decide) (by decide) dX11_suspects_107 (t_J9_max_f86c9 1 v22 M8) (fun v23 => ?_)
        refine r_ldiv 110 hC dX11_suspects_110 (fun v24 => ?_)
        refine r_jn (P := fun j123 => ∀ (q25 : Int), Bk E C 10 Mi (r0, M0) 123 [(0, 29, x0), (1, 0, x1), (2, 27, v2), (4, 24, v7), (5, 0, v19), (7, 0, p11)] [(0, q25), (0, p10)] M8 0 0 (j123 q25)) ?_ (fun j123 hj123 => ?_)
        · intro q25
          refine r_ior 123 hC dX11_suspects_123 ?_
          refine r_istoreL 124 hC (by decide) dX11_suspects_124 (fun v26 => r_eqls (ls' := [(6, 0, v26), (0, 29, x0), (1, 0, x1), (2, 27, v2), (4, 24, v7), (5, 0, v19), (7, 0, p11)]) rfl ?_)
          exact r_sub [1, 2, 3, 4, 5, 0, 6] rfl (hj126 v19 v26)
        refine r_lcmp_ge 111 hC (tgt := 122) (by decide) dX11_suspects_111 dX11_suspects_112 ?_ ?_
        · refine r_iconst 122 hC (r32c rfl) dX11_suspects_122 ?_
          exact r_sub [2, 3, 4, 5, 0, 7] rfl (hj123 0)
        · refine r_iconst 115 hC (r32c rfl) dX11_suspects_115 ?_
          refine r_iload 116 hC 7 rfl dX11_suspects_116 ?_
          refine r_ishl 118 hC dX11_suspects_118 ?_
          refine r_goto 119 hC (tgt := 123) (by decide) dX11_suspects_119 ?_
          exact r_sub [2, 3, 4, 5, 0, 7] rfl (hj123 (ishlv 1 p11))
set_option maxRecDepth 100000 in
theorem f_X11_suspects_L138_ok {E : EnvT} {C : Cx} {Mi : Mem} {x0 : Int} (h0 : x0 ≠ 0) (hC : CxOK E C cX11_suspects 10 yX11_suspects.cls 6 0 0) {r0 : Int} {M0 : Mem} (hq : RQ E C 0 0 Mi (some .int) (some (0, r0)) M0) {M8 : Mem} {q29 q30 v2 : Int} {k : Int → Option (Int × Mem)} (hk : ∀ q38, Bk E C 10 Mi (r0, M0) 181 [(0, 29, x0), (7, 0, q38)] [] M8 0 0 (k q38)) : ∀ (n : Nat) (p31 : Int) (p32 : Int), Bk E C 10 Mi (r0, M0) 138 [(0, 29, x0), (2, 27, v2), (5, 0, q29), (6, 0, q30), (7, 0, p31), (8, 0, p32)] [] M8 0 0 (f_X11_suspects_L138 M8 q29 q30 v2 x0 k n p31 p32) := by
  intro n
  induction n with
  | zero =>
    intro p31 p32
    exact r_none
  | succ n ih =>
    intro p31 p32
    rw [f_X11_suspects_L138]
    refine r_iload 138 hC 5 rfl dX11_suspects_138 ?_
    refine r_aload_n 140 hC 1 rfl (Or.inl (by decide)) rfl dX11_suspects_140 ?_
    refine r_get 141 hC fd_7_3 fl_X11_114 dX11_suspects_141 (fun v33 => ?_)
    refine r_icmp_ge 144 hC (tgt := 181) (by decide) dX11_suspects_144 ?_ ?_
    · exact r_sub [0, 4] rfl (hk p31)
    · refine r_iload 147 hC 3 rfl dX11_suspects_147 ?_
      refine r_jn (P := fun j175 => ∀ (q34 : Int), Bk E C 10 Mi (r0, M0) 175 [(0, 29, x0), (2, 27, v2), (5, 0, q29), (6, 0, q30), (7, 0, q34), (8, 0, p32)] [] M8 0 0 (j175 q34)) ?_ (fun j175 hj175 => ?_)
      · intro q34
        refine r_iinc 175 hC 5 rfl (by decide) dX11_suspects_175 (r_eqls (ls' := [(8, 0, w32 (p32 + 1)), (0, 29, x0), (2, 27, v2), (5, 0, q29), (6, 0, q30), (7, 0, q34)]) rfl ?_)
        refine r_goto 178 hC (tgt := 138) (by decide) dX11_suspects_178 ?_
        exact r_sub [1, 2, 3, 4, 5, 0] rfl (ih q34 (w32 (p32 + 1)))
      refine r_if_eq 149 hC (tgt := 175) (by decide) dX11_suspects_149 ?_ ?_
      · exact hj175 p31
      · refine r_iload 152 hC 3 rfl dX11_suspects_152 ?_
        refine r_aload_n 154 hC 1 rfl (Or.inl (by decide)) rfl dX11_suspects_154 ?_
        refine r_iload 155 hC 5 rfl dX11_suspects_155 ?_
        refine r_nn (fun hn35 => ?_)
        refine r_callVP 157 hC [(0, p32)] [(0, q30)] rfl vl_X11_235 rfl hn35 (by decide) (Nat.le_of_ble_eq_true rfl) (by decide) (by decide) dX11_suspects_157 (t_X8_fieldsBelow v2 p32 M8 hn35) (fun v36 => ?_)
        refine r_iload 160 hC 2 rfl dX11_suspects_160 ?_
        refine r_iand 162 hC dX11_suspects_162 ?_
        refine r_icmp_ne 163 hC (tgt := 175) (by decide) dX11_suspects_163 ?_ ?_
        · exact hj175 p31
        · refine r_iload 166 hC 4 rfl dX11_suspects_166 ?_
          refine r_iconst 168 hC (r32c rfl) dX11_suspects_168 ?_
          refine r_iload 169 hC 5 rfl dX11_suspects_169 ?_
          refine r_ishl 171 hC dX11_suspects_171 ?_
          refine r_ior 172 hC dX11_suspects_172 ?_
          refine r_istoreL 173 hC (by decide) dX11_suspects_173 (fun v37 => r_eqls (ls' := [(7, 0, v37), (0, 29, x0), (2, 27, v2), (5, 0, q29), (6, 0, q30), (8, 0, p32)]) rfl ?_)
          exact r_sub [1, 2, 3, 4, 0, 5] rfl (hj175 v37)
set_option maxRecDepth 100000 in
theorem t_X11_suspects (x0 x1 : Int) (M : Mem) (h0 : x0 ≠ 0) : MtI yX11_suspects cX11_suspects 10 (some .int) 6 0 0 [(29, x0), (0, x1)] M 0 (f_X11_suspects x0 x1 M) := by
  refine mk_I (by decide +kernel) (Nat.le_of_ble_eq_true rfl) (fun E C r0 M0 hC hq hin => ?_)
  refine r_eqls (ls' := [(0, 29, x0), (1, 0, x1)]) rfl ?_
  unfold f_X11_suspects
  refine r_aload_n 0 hC 0 rfl (Or.inl (by decide)) rfl dX11_suspects_0 ?_
  refine r_get 1 hC fd_9_2 fl_X11_26 dX11_suspects_1 (fun v1 => ?_)
  refine r_get 4 hC fd_8_0 fl_X11_111 dX11_suspects_4 (fun v2 => ?_)
  refine r_astore_n 7 hC rfl (Or.inl (by decide)) (by decide) dX11_suspects_7 (r_eqls (ls' := [(2, 27, v2), (0, 29, x0), (1, 0, x1)]) rfl ?_)
  refine r_aload_n 8 hC 1 rfl (Or.inl (by decide)) rfl dX11_suspects_8 ?_
  refine r_get 9 hC fd_9_0 fl_X11_12 dX11_suspects_9 (fun v3 => ?_)
  refine r_iload_n 12 hC 2 rfl rfl dX11_suspects_12 ?_
  refine r_aload_n 13 hC 0 rfl (Or.inl (by decide)) rfl dX11_suspects_13 ?_
  refine r_get 14 hC fd_7_5 fl_X11_120 dX11_suspects_14 (fun v4 => ?_)
  refine r_sipush 17 hC ks_999 dX11_suspects_17 ?_
  refine r_nn (fun hn5 => ?_)
  refine r_callVP 20 hC [(0, x1), (0, v4), (0, 999)] [] rfl vl_X11_395 rfl hn5 (by decide) (Nat.le_of_ble_eq_true rfl) (by decide) (by decide) dX11_suspects_20 (t_X7_whyNoGauge v3 x1 v4 999 M hn5) (fun v6 => ?_)
  refine r_istore_n 23 hC rfl (by decide) dX11_suspects_23 (r_eqls (ls' := [(3, 0, v6), (2, 27, v2), (0, 29, x0), (1, 0, x1)]) rfl ?_)
  refine r_iload_n 24 hC 0 rfl rfl dX11_suspects_24 ?_
  refine r_if_eq 25 hC (tgt := 34) (by decide) dX11_suspects_25 ?_ ?_
  · refine r_aload_n 34 hC 2 rfl (Or.inl (by decide)) rfl dX11_suspects_34 ?_
    refine r_callVI 35 hC [] [] rfl vl_X11_284 rfl h0 (by decide) (Nat.le_of_ble_eq_true rfl) (by decide) (by decide) dX11_suspects_35 (t_X11_sweptWorld x0 M h0) (fun v7 M8 => ?_)
    refine r_astore 38 hC (Or.inl (by decide)) (by decide) dX11_suspects_38 (r_eqls (ls' := [(4, 24, v7), (3, 0, v6), (2, 27, v2), (0, 29, x0), (1, 0, x1)]) rfl ?_)
    refine r_iconst 40 hC (r32c rfl) dX11_suspects_40 ?_
    refine r_istore 41 hC (by decide) dX11_suspects_41 (r_eqls (ls' := [(5, 0, 0), (4, 24, v7), (3, 0, v6), (2, 27, v2), (0, 29, x0), (1, 0, x1)]) rfl ?_)
    refine r_iconst 43 hC (r32c rfl) dX11_suspects_43 ?_
    refine r_istore 44 hC (by decide) dX11_suspects_44 (r_eqls (ls' := [(6, 0, 0), (5, 0, 0), (4, 24, v7), (3, 0, v6), (2, 27, v2), (0, 29, x0), (1, 0, x1)]) rfl ?_)
    refine r_iconst 46 hC (r32c rfl) dX11_suspects_46 ?_
    refine r_istore 47 hC (by decide) dX11_suspects_47 (r_eqls (ls' := [(7, 0, 0), (6, 0, 0), (5, 0, 0), (4, 24, v7), (3, 0, v6), (2, 27, v2), (0, 29, x0), (1, 0, x1)]) rfl ?_)
    refine r_sub [6, 7, 5, 3, 2, 1, 0] rfl (f_X11_suspects_L49_ok h0 hC hq (fun q29 q30 => ?_) KF 0 0 0)
    · refine r_iconst 132 hC (r32c rfl) dX11_suspects_132 ?_
      refine r_istore 133 hC (by decide) dX11_suspects_133 (r_eqls (ls' := [(7, 0, 0), (0, 29, x0), (2, 27, v2), (5, 0, q29), (6, 0, q30)]) rfl ?_)
      refine r_iconst 135 hC (r32c rfl) dX11_suspects_135 ?_
      refine r_istore 136 hC (by decide) dX11_suspects_136 (r_eqls (ls' := [(8, 0, 0), (7, 0, 0), (0, 29, x0), (2, 27, v2), (5, 0, q29), (6, 0, q30)]) rfl ?_)
      refine r_sub [2, 3, 4, 5, 1, 0] rfl (f_X11_suspects_L138_ok h0 hC hq (fun q39 => ?_) KF 0 0)
      · refine r_aload_n 181 hC 0 rfl (Or.inl (by decide)) rfl dX11_suspects_181 ?_
        refine r_iload 182 hC 1 rfl dX11_suspects_182 ?_
        refine r_callVI 184 hC [(0, q39)] [] rfl vl_X11_95 rfl h0 (by decide) (Nat.le_of_ble_eq_true rfl) (by decide) (by decide) dX11_suspects_184 (t_X11_answer x0 q39 M8 h0) (fun v40 M41 => ?_)
        exact r_ireturn 187 hC hq (by decide) (by decide) dX11_suspects_187
  · refine r_aload_n 28 hC 2 rfl (Or.inl (by decide)) rfl dX11_suspects_28 ?_
    refine r_iload_n 29 hC 0 rfl rfl dX11_suspects_29 ?_
    refine r_callVI 30 hC [(0, v6)] [] rfl vl_X11_91 rfl h0 (by decide) (Nat.le_of_ble_eq_true rfl) (by decide) (by decide) dX11_suspects_30 (t_X11_refuse x0 v6 M h0) (fun v42 M43 => ?_)
    exact r_ireturn 33 hC hq (by decide) (by decide) dX11_suspects_33

/-! WaterTurns.pass()I -/
theorem dX11_pass_0 : decode cX11_pass 0 = .ok (.aload_n 0, 1) := by decide +kernel
theorem dX11_pass_1 : decode cX11_pass 1 = .ok (.getfield 26, 3) := by decide +kernel
theorem dX11_pass_4 : decode cX11_pass 4 = .ok (.aload_n 0, 1) := by decide +kernel
theorem dX11_pass_5 : decode cX11_pass 5 = .ok (.getfield 33, 3) := by decide +kernel
theorem dX11_pass_8 : decode cX11_pass 8 = .ok (.invokevirtual 401, 3) := by decide +kernel
theorem dX11_pass_11 : decode cX11_pass 11 = .ok (.istore_n 1, 1) := by decide +kernel
theorem dX11_pass_12 : decode cX11_pass 12 = .ok (.iload_n 1, 1) := by decide +kernel
theorem dX11_pass_13 : decode cX11_pass 13 = .ok (.ifCond .ne 20, 3) := by decide +kernel
theorem dX11_pass_16 : decode cX11_pass 16 = .ok (.aload_n 0, 1) := by decide +kernel
theorem dX11_pass_17 : decode cX11_pass 17 = .ok (.aload_n 0, 1) := by decide +kernel
theorem dX11_pass_18 : decode cX11_pass 18 = .ok (.getfield 26, 3) := by decide +kernel
theorem dX11_pass_21 : decode cX11_pass 21 = .ok (.getfield 206, 3) := by decide +kernel
theorem dX11_pass_24 : decode cX11_pass 24 = .ok (.getfield 215, 3) := by decide +kernel
theorem dX11_pass_27 : decode cX11_pass 27 = .ok (.invokevirtual 95, 3) := by decide +kernel
theorem dX11_pass_30 : decode cX11_pass 30 = .ok (.goto 8, 3) := by decide +kernel
theorem dX11_pass_33 : decode cX11_pass 33 = .ok (.aload_n 0, 1) := by decide +kernel
theorem dX11_pass_34 : decode cX11_pass 34 = .ok (.iload_n 1, 1) := by decide +kernel
theorem dX11_pass_35 : decode cX11_pass 35 = .ok (.invokevirtual 91, 3) := by decide +kernel
theorem dX11_pass_38 : decode cX11_pass 38 = .ok (.ireturn, 1) := by decide +kernel
set_option maxRecDepth 100000 in
theorem t_X11_pass (x0 : Int) (M : Mem) (h0 : x0 ≠ 0) : MtI yX11_pass cX11_pass 2 (some .int) 6 0 0 [(29, x0)] M 0 (f_X11_pass x0 M) := by
  refine mk_I (by decide +kernel) (Nat.le_of_ble_eq_true rfl) (fun E C r0 M0 hC hq hin => ?_)
  refine r_eqls (ls' := [(0, 29, x0)]) rfl ?_
  unfold f_X11_pass
  refine r_aload_n 0 hC 0 rfl (Or.inl (by decide)) rfl dX11_pass_0 ?_
  refine r_get 1 hC fd_9_2 fl_X11_26 dX11_pass_1 (fun v1 => ?_)
  refine r_aload_n 4 hC 0 rfl (Or.inl (by decide)) rfl dX11_pass_4 ?_
  refine r_get 5 hC fd_9_3 fl_X11_33 dX11_pass_5 (fun v2 => ?_)
  refine r_nn (fun hn3 => ?_)
  refine r_callVI 8 hC [(24, v2)] [] rfl vl_X11_401 rfl hn3 (by decide) (Nat.le_of_ble_eq_true rfl) (by decide) (by decide) dX11_pass_8 (t_X10_endSpan v1 v2 M hn3) (fun v4 M5 => ?_)
  refine r_istore_n 11 hC rfl (by decide) dX11_pass_11 (r_eqls (ls' := [(1, 0, v4), (0, 29, x0)]) rfl ?_)
  refine r_iload_n 12 hC 0 rfl rfl dX11_pass_12 ?_
  refine r_jn (P := fun j38 => ∀ (q6 : Int) (M7 : Mem), Bk E C 2 M (r0, M0) 38 [] [(0, q6)] M7 0 0 (j38 q6 M7)) ?_ (fun j38 hj38 => ?_)
  · intro q6 M7
    exact r_ireturn 38 hC hq (by decide) (by decide) dX11_pass_38
  refine r_if_ne 13 hC (tgt := 33) (by decide) dX11_pass_13 ?_ ?_
  · refine r_aload_n 33 hC 1 rfl (Or.inl (by decide)) rfl dX11_pass_33 ?_
    refine r_iload_n 34 hC 0 rfl rfl dX11_pass_34 ?_
    refine r_callVI 35 hC [(0, v4)] [] rfl vl_X11_91 rfl h0 (by decide) (Nat.le_of_ble_eq_true rfl) (by decide) (by decide) dX11_pass_35 (t_X11_refuse x0 v4 M5 h0) (fun v8 M9 => ?_)
    exact r_sub [] rfl (hj38 v8 M9)
  · refine r_aload_n 16 hC 1 rfl (Or.inl (by decide)) rfl dX11_pass_16 ?_
    refine r_aload_n 17 hC 1 rfl (Or.inl (by decide)) rfl dX11_pass_17 ?_
    refine r_get 18 hC fd_9_2 fl_X11_26 dX11_pass_18 (fun v10 => ?_)
    refine r_get 21 hC fd_8_2 fl_X11_206 dX11_pass_21 (fun v11 => ?_)
    refine r_get 24 hC fd_3_1 fl_X11_215 dX11_pass_24 (fun v12 => ?_)
    refine r_callVI 27 hC [(0, v12)] [] rfl vl_X11_95 rfl h0 (by decide) (Nat.le_of_ble_eq_true rfl) (by decide) (by decide) dX11_pass_27 (t_X11_answer x0 v12 M5 h0) (fun v13 M14 => ?_)
    refine r_goto 30 hC (tgt := 38) (by decide) dX11_pass_30 ?_
    exact r_sub [] rfl (hj38 v13 M14)

/-! WaterTurns.account(I)J -/
theorem dX11_account_0 : decode cX11_account 0 = .ok (.aload_n 0, 1) := by decide +kernel
theorem dX11_account_1 : decode cX11_account 1 = .ok (.iload_n 1, 1) := by decide +kernel
theorem dX11_account_2 : decode cX11_account 2 = .ok (.invokevirtual 123, 3) := by decide +kernel
theorem dX11_account_5 : decode cX11_account 5 = .ok (.ifCond .ne 10, 3) := by decide +kernel
theorem dX11_account_8 : decode cX11_account 8 = .ok (.aload_n 0, 1) := by decide +kernel
theorem dX11_account_9 : decode cX11_account 9 = .ok (.iconst 1, 1) := by decide +kernel
theorem dX11_account_10 : decode cX11_account 10 = .ok (.invokevirtual 91, 3) := by decide +kernel
theorem dX11_account_13 : decode cX11_account 13 = .ok (.i2l, 1) := by decide +kernel
theorem dX11_account_14 : decode cX11_account 14 = .ok (.lreturn, 1) := by decide +kernel
theorem dX11_account_15 : decode cX11_account 15 = .ok (.aload_n 0, 1) := by decide +kernel
theorem dX11_account_16 : decode cX11_account 16 = .ok (.iconst 0, 1) := by decide +kernel
theorem dX11_account_17 : decode cX11_account 17 = .ok (.invokevirtual 102, 3) := by decide +kernel
theorem dX11_account_20 : decode cX11_account 20 = .ok (.pop, 1) := by decide +kernel
theorem dX11_account_21 : decode cX11_account 21 = .ok (.aload_n 0, 1) := by decide +kernel
theorem dX11_account_22 : decode cX11_account 22 = .ok (.getfield 26, 3) := by decide +kernel
theorem dX11_account_25 : decode cX11_account 25 = .ok (.getfield 206, 3) := by decide +kernel
theorem dX11_account_28 : decode cX11_account 28 = .ok (.getfield 405, 3) := by decide +kernel
theorem dX11_account_31 : decode cX11_account 31 = .ok (.iload_n 1, 1) := by decide +kernel
theorem dX11_account_32 : decode cX11_account 32 = .ok (.laload, 1) := by decide +kernel
theorem dX11_account_33 : decode cX11_account 33 = .ok (.lreturn, 1) := by decide +kernel
set_option maxRecDepth 100000 in
theorem t_X11_account (x0 x1 : Int) (M : Mem) (h0 : x0 ≠ 0) : MtI yX11_account cX11_account 2 (some .long) 2 0 0 [(29, x0), (0, x1)] M 1 (f_X11_account x0 x1 M) := by
  refine mk_I (by decide +kernel) (Nat.le_of_ble_eq_true rfl) (fun E C r0 M0 hC hq hin => ?_)
  refine r_eqls (ls' := [(0, 29, x0), (1, 0, x1)]) rfl ?_
  unfold f_X11_account
  refine r_aload_n 0 hC 0 rfl (Or.inl (by decide)) rfl dX11_account_0 ?_
  refine r_iload_n 1 hC 1 rfl rfl dX11_account_1 ?_
  refine r_callVP 2 hC [(0, x1)] [] rfl vl_X11_123 rfl h0 (by decide) (Nat.le_of_ble_eq_true rfl) (by decide) (by decide) dX11_account_2 (t_X11_isField x0 x1 M h0) (fun v1 => ?_)
  refine r_if_ne 5 hC (tgt := 15) (by decide) dX11_account_5 ?_ ?_
  · refine r_aload_n 15 hC 0 rfl (Or.inl (by decide)) rfl dX11_account_15 ?_
    refine r_iconst 16 hC (r32c rfl) dX11_account_16 ?_
    refine r_callVI 17 hC [(0, 0)] [] rfl vl_X11_102 rfl h0 (by decide) (Nat.le_of_ble_eq_true rfl) (by decide) (by decide) dX11_account_17 (t_X11_settle x0 0 M h0) (fun v2 M3 => ?_)
    refine r_pop 20 hC (by decide) dX11_account_20 ?_
    refine r_aload_n 21 hC 0 rfl (Or.inl (by decide)) rfl dX11_account_21 ?_
    refine r_get 22 hC fd_9_2 fl_X11_26 dX11_account_22 (fun v4 => ?_)
    refine r_get 25 hC fd_8_2 fl_X11_206 dX11_account_25 (fun v5 => ?_)
    refine r_get 28 hC fd_3_9 fl_X11_405 dX11_account_28 (fun v6 => ?_)
    refine r_iload_n 31 hC 1 rfl rfl dX11_account_31 ?_
    refine r_laload 32 hC dX11_account_32 (fun v7 => ?_)
    exact r_lreturn 33 hC hq (by decide) (by decide) dX11_account_33
  · refine r_aload_n 8 hC 0 rfl (Or.inl (by decide)) rfl dX11_account_8 ?_
    refine r_iconst 9 hC (r32c rfl) dX11_account_9 ?_
    refine r_callVI 10 hC [(0, 1)] [] rfl vl_X11_91 rfl h0 (by decide) (Nat.le_of_ble_eq_true rfl) (by decide) (by decide) dX11_account_10 (t_X11_refuse x0 1 M h0) (fun v8 M9 => ?_)
    refine r_i2l 13 hC dX11_account_13 ?_
    exact r_lreturn 14 hC hq (by decide) (by decide) dX11_account_14

/-! WaterTurns.live(I)I -/
theorem dX11_live_0 : decode cX11_live 0 = .ok (.iload_n 1, 1) := by decide +kernel
theorem dX11_live_1 : decode cX11_live 1 = .ok (.iconst 0, 1) := by decide +kernel
theorem dX11_live_2 : decode cX11_live 2 = .ok (.sipush 9999, 3) := by decide +kernel
theorem dX11_live_5 : decode cX11_live 5 = .ok (.invokestatic 132, 3) := by decide +kernel
theorem dX11_live_8 : decode cX11_live 8 = .ok (.ifCond .ne 9, 3) := by decide +kernel
theorem dX11_live_11 : decode cX11_live 11 = .ok (.aload_n 0, 1) := by decide +kernel
theorem dX11_live_12 : decode cX11_live 12 = .ok (.iconst 1, 1) := by decide +kernel
theorem dX11_live_13 : decode cX11_live 13 = .ok (.invokevirtual 91, 3) := by decide +kernel
theorem dX11_live_16 : decode cX11_live 16 = .ok (.ireturn, 1) := by decide +kernel
theorem dX11_live_17 : decode cX11_live 17 = .ok (.aload_n 0, 1) := by decide +kernel
theorem dX11_live_18 : decode cX11_live 18 = .ok (.getfield 26, 3) := by decide +kernel
theorem dX11_live_21 : decode cX11_live 21 = .ok (.getfield 194, 3) := by decide +kernel
theorem dX11_live_24 : decode cX11_live 24 = .ok (.getfield 409, 3) := by decide +kernel
theorem dX11_live_27 : decode cX11_live 27 = .ok (.ifCond .ne 10, 3) := by decide +kernel
theorem dX11_live_30 : decode cX11_live 30 = .ok (.aload_n 0, 1) := by decide +kernel
theorem dX11_live_31 : decode cX11_live 31 = .ok (.bipush 6, 2) := by decide +kernel
theorem dX11_live_33 : decode cX11_live 33 = .ok (.invokevirtual 91, 3) := by decide +kernel
theorem dX11_live_36 : decode cX11_live 36 = .ok (.ireturn, 1) := by decide +kernel
theorem dX11_live_37 : decode cX11_live 37 = .ok (.aload_n 0, 1) := by decide +kernel
theorem dX11_live_38 : decode cX11_live 38 = .ok (.getfield 40, 3) := by decide +kernel
theorem dX11_live_41 : decode cX11_live 41 = .ok (.aload_n 0, 1) := by decide +kernel
theorem dX11_live_42 : decode cX11_live 42 = .ok (.getfield 26, 3) := by decide +kernel
theorem dX11_live_45 : decode cX11_live 45 = .ok (.aload_n 0, 1) := by decide +kernel
theorem dX11_live_46 : decode cX11_live 46 = .ok (.getfield 33, 3) := by decide +kernel
theorem dX11_live_49 : decode cX11_live 49 = .ok (.iload_n 1, 1) := by decide +kernel
theorem dX11_live_50 : decode cX11_live 50 = .ok (.invokevirtual 412, 3) := by decide +kernel
theorem dX11_live_53 : decode cX11_live 53 = .ok (.aload_n 0, 1) := by decide +kernel
theorem dX11_live_54 : decode cX11_live 54 = .ok (.getfield 55, 3) := by decide +kernel
theorem dX11_live_57 : decode cX11_live 57 = .ok (.iconst 0, 1) := by decide +kernel
theorem dX11_live_58 : decode cX11_live 58 = .ok (.aload_n 0, 1) := by decide +kernel
theorem dX11_live_59 : decode cX11_live 59 = .ok (.getfield 40, 3) := by decide +kernel
theorem dX11_live_62 : decode cX11_live 62 = .ok (.getfield 416, 3) := by decide +kernel
theorem dX11_live_65 : decode cX11_live 65 = .ok (.iastore, 1) := by decide +kernel
theorem dX11_live_66 : decode cX11_live 66 = .ok (.aload_n 0, 1) := by decide +kernel
theorem dX11_live_67 : decode cX11_live 67 = .ok (.getfield 55, 3) := by decide +kernel
theorem dX11_live_70 : decode cX11_live 70 = .ok (.iconst 1, 1) := by decide +kernel
theorem dX11_live_71 : decode cX11_live 71 = .ok (.aload_n 0, 1) := by decide +kernel
theorem dX11_live_72 : decode cX11_live 72 = .ok (.getfield 40, 3) := by decide +kernel
theorem dX11_live_75 : decode cX11_live 75 = .ok (.getfield 419, 3) := by decide +kernel
theorem dX11_live_78 : decode cX11_live 78 = .ok (.iastore, 1) := by decide +kernel
theorem dX11_live_79 : decode cX11_live 79 = .ok (.aload_n 0, 1) := by decide +kernel
theorem dX11_live_80 : decode cX11_live 80 = .ok (.getfield 55, 3) := by decide +kernel
theorem dX11_live_83 : decode cX11_live 83 = .ok (.iconst 2, 1) := by decide +kernel
theorem dX11_live_84 : decode cX11_live 84 = .ok (.aload_n 0, 1) := by decide +kernel
theorem dX11_live_85 : decode cX11_live 85 = .ok (.getfield 40, 3) := by decide +kernel
theorem dX11_live_88 : decode cX11_live 88 = .ok (.getfield 422, 3) := by decide +kernel
theorem dX11_live_91 : decode cX11_live 91 = .ok (.iastore, 1) := by decide +kernel
theorem dX11_live_92 : decode cX11_live 92 = .ok (.aload_n 0, 1) := by decide +kernel
theorem dX11_live_93 : decode cX11_live 93 = .ok (.getfield 55, 3) := by decide +kernel
theorem dX11_live_96 : decode cX11_live 96 = .ok (.iconst 3, 1) := by decide +kernel
theorem dX11_live_97 : decode cX11_live 97 = .ok (.aload_n 0, 1) := by decide +kernel
theorem dX11_live_98 : decode cX11_live 98 = .ok (.getfield 40, 3) := by decide +kernel
theorem dX11_live_101 : decode cX11_live 101 = .ok (.getfield 425, 3) := by decide +kernel
theorem dX11_live_104 : decode cX11_live 104 = .ok (.ifCond .eq 7, 3) := by decide +kernel
theorem dX11_live_107 : decode cX11_live 107 = .ok (.iconst 1, 1) := by decide +kernel
theorem dX11_live_108 : decode cX11_live 108 = .ok (.goto 4, 3) := by decide +kernel
theorem dX11_live_111 : decode cX11_live 111 = .ok (.iconst 0, 1) := by decide +kernel
theorem dX11_live_112 : decode cX11_live 112 = .ok (.iastore, 1) := by decide +kernel
theorem dX11_live_113 : decode cX11_live 113 = .ok (.aload_n 0, 1) := by decide +kernel
theorem dX11_live_114 : decode cX11_live 114 = .ok (.iconst 1, 1) := by decide +kernel
theorem dX11_live_115 : decode cX11_live 115 = .ok (.putfield 73, 3) := by decide +kernel
theorem dX11_live_118 : decode cX11_live 118 = .ok (.aload_n 0, 1) := by decide +kernel
theorem dX11_live_119 : decode cX11_live 119 = .ok (.aload_n 0, 1) := by decide +kernel
theorem dX11_live_120 : decode cX11_live 120 = .ok (.getfield 40, 3) := by decide +kernel
theorem dX11_live_123 : decode cX11_live 123 = .ok (.getfield 428, 3) := by decide +kernel
theorem dX11_live_126 : decode cX11_live 126 = .ok (.invokevirtual 95, 3) := by decide +kernel
theorem dX11_live_129 : decode cX11_live 129 = .ok (.ireturn, 1) := by decide +kernel
set_option maxRecDepth 100000 in
theorem t_X11_live (x0 x1 : Int) (M : Mem) (h0 : x0 ≠ 0) : MtI yX11_live cX11_live 2 (some .int) 8 0 0 [(29, x0), (0, x1)] M 0 (f_X11_live x0 x1 M) := by
  refine mk_I (by decide +kernel) (Nat.le_of_ble_eq_true rfl) (fun E C r0 M0 hC hq hin => ?_)
  refine r_eqls (ls' := [(0, 29, x0), (1, 0, x1)]) rfl ?_
  unfold f_X11_live
  refine r_iload_n 0 hC 1 rfl rfl dX11_live_0 ?_
  refine r_iconst 1 hC (r32c rfl) dX11_live_1 ?_
  refine r_sipush 2 hC ks_9999 dX11_live_2 ?_
  refine r_callSP 5 hC [(0, x1), (0, 0), (0, 9999)] [] rfl sl_X11_132 rfl (by decide) (Nat.le_of_ble_eq_true rfl) (by decide) (by decide) dX11_live_5 (t_X11_isWithin x1 0 9999 M) (fun v1 => ?_)
  refine r_if_ne 8 hC (tgt := 17) (by decide) dX11_live_8 ?_ ?_
  · refine r_aload_n 17 hC 0 rfl (Or.inl (by decide)) rfl dX11_live_17 ?_
    refine r_get 18 hC fd_9_2 fl_X11_26 dX11_live_18 (fun v2 => ?_)
    refine r_get 21 hC fd_8_1 fl_X11_194 dX11_live_21 (fun v3 => ?_)
    refine r_getz 24 hC fd_0_0 fl_X11_409 dX11_live_24 (fun v4 => ?_)
    refine r_if_ne 27 hC (tgt := 37) (by decide) dX11_live_27 ?_ ?_
    · refine r_aload_n 37 hC 0 rfl (Or.inl (by decide)) rfl dX11_live_37 ?_
      refine r_get 38 hC fd_9_4 fl_X11_40 dX11_live_38 (fun v5 => ?_)
      refine r_aload_n 41 hC 0 rfl (Or.inl (by decide)) rfl dX11_live_41 ?_
      refine r_get 42 hC fd_9_2 fl_X11_26 dX11_live_42 (fun v6 => ?_)
      refine r_aload_n 45 hC 0 rfl (Or.inl (by decide)) rfl dX11_live_45 ?_
      refine r_get 46 hC fd_9_3 fl_X11_33 dX11_live_46 (fun v7 => ?_)
      refine r_iload_n 49 hC 1 rfl rfl dX11_live_49 ?_
      refine r_nn (fun hn8 => ?_)
      refine r_callVV 50 hC [(28, v6), (24, v7), (0, x1)] [] rfl vl_X11_412 rfl hn8 (by decide) (Nat.le_of_ble_eq_true rfl) (by decide) (by decide) dX11_live_50 (t_X2_run v5 v6 v7 x1 M hn8) (fun M9 => ?_)
      refine r_aload_n 53 hC 0 rfl (Or.inl (by decide)) rfl dX11_live_53 ?_
      refine r_get 54 hC fd_9_7 fl_X11_55 dX11_live_54 (fun v10 => ?_)
      refine r_iconst 57 hC (r32c rfl) dX11_live_57 ?_
      refine r_aload_n 58 hC 0 rfl (Or.inl (by decide)) rfl dX11_live_58 ?_
      refine r_get 59 hC fd_9_4 fl_X11_40 dX11_live_59 (fun v11 => ?_)
      refine r_get 62 hC fd_1_1 fl_X11_416 dX11_live_62 (fun v12 => ?_)
      refine r_iastore 65 hC dX11_live_65 (fun M13 => ?_)
      refine r_aload_n 66 hC 0 rfl (Or.inl (by decide)) rfl dX11_live_66 ?_
      refine r_get 67 hC fd_9_7 fl_X11_55 dX11_live_67 (fun v14 => ?_)
      refine r_iconst 70 hC (r32c rfl) dX11_live_70 ?_
      refine r_aload_n 71 hC 0 rfl (Or.inl (by decide)) rfl dX11_live_71 ?_
      refine r_get 72 hC fd_9_4 fl_X11_40 dX11_live_72 (fun v15 => ?_)
      refine r_get 75 hC fd_1_2 fl_X11_419 dX11_live_75 (fun v16 => ?_)
      refine r_iastore 78 hC dX11_live_78 (fun M17 => ?_)
      refine r_aload_n 79 hC 0 rfl (Or.inl (by decide)) rfl dX11_live_79 ?_
      refine r_get 80 hC fd_9_7 fl_X11_55 dX11_live_80 (fun v18 => ?_)
      refine r_iconst 83 hC (r32c rfl) dX11_live_83 ?_
      refine r_aload_n 84 hC 0 rfl (Or.inl (by decide)) rfl dX11_live_84 ?_
      refine r_get 85 hC fd_9_4 fl_X11_40 dX11_live_85 (fun v19 => ?_)
      refine r_get 88 hC fd_1_3 fl_X11_422 dX11_live_88 (fun v20 => ?_)
      refine r_iastore 91 hC dX11_live_91 (fun M21 => ?_)
      refine r_aload_n 92 hC 0 rfl (Or.inl (by decide)) rfl dX11_live_92 ?_
      refine r_get 93 hC fd_9_7 fl_X11_55 dX11_live_93 (fun v22 => ?_)
      refine r_iconst 96 hC (r32c rfl) dX11_live_96 ?_
      refine r_aload_n 97 hC 0 rfl (Or.inl (by decide)) rfl dX11_live_97 ?_
      refine r_get 98 hC fd_9_4 fl_X11_40 dX11_live_98 (fun v23 => ?_)
      refine r_getz 101 hC fd_1_4 fl_X11_425 dX11_live_101 (fun v24 => ?_)
      refine r_jn (P := fun j112 => ∀ (q25 : Int), Bk E C 2 M (r0, M0) 112 [(0, 29, x0)] [(0, q25), (0, 3), (10, v22)] M21 0 0 (j112 q25)) ?_ (fun j112 hj112 => ?_)
      · intro q25
        refine r_iastore 112 hC dX11_live_112 (fun M26 => ?_)
        refine r_aload_n 113 hC 0 rfl (Or.inl (by decide)) rfl dX11_live_113 ?_
        refine r_iconst 114 hC (r32c rfl) dX11_live_114 ?_
        refine r_putz 115 hC fd_9_10 fl_X11_73 dX11_live_115 (fun M27 => ?_)
        refine r_aload_n 118 hC 0 rfl (Or.inl (by decide)) rfl dX11_live_118 ?_
        refine r_aload_n 119 hC 0 rfl (Or.inl (by decide)) rfl dX11_live_119 ?_
        refine r_get 120 hC fd_9_4 fl_X11_40 dX11_live_120 (fun v28 => ?_)
        refine r_get 123 hC fd_1_0 fl_X11_428 dX11_live_123 (fun v29 => ?_)
        refine r_callVI 126 hC [(0, v29)] [] rfl vl_X11_95 rfl h0 (by decide) (Nat.le_of_ble_eq_true rfl) (by decide) (by decide) dX11_live_126 (t_X11_answer x0 v29 M27 h0) (fun v30 M31 => ?_)
        exact r_ireturn 129 hC hq (by decide) (by decide) dX11_live_129
      refine r_if_eq 104 hC (tgt := 111) (by decide) dX11_live_104 ?_ ?_
      · refine r_iconst 111 hC (r32c rfl) dX11_live_111 ?_
        exact r_sub [0] rfl (hj112 0)
      · refine r_iconst 107 hC (r32c rfl) dX11_live_107 ?_
        refine r_goto 108 hC (tgt := 112) (by decide) dX11_live_108 ?_
        exact r_sub [0] rfl (hj112 1)
    · refine r_aload_n 30 hC 0 rfl (Or.inl (by decide)) rfl dX11_live_30 ?_
      refine r_bipush 31 hC kb_6 dX11_live_31 ?_
      refine r_callVI 33 hC [(0, 6)] [] rfl vl_X11_91 rfl h0 (by decide) (Nat.le_of_ble_eq_true rfl) (by decide) (by decide) dX11_live_33 (t_X11_refuse x0 6 M h0) (fun v32 M33 => ?_)
      exact r_ireturn 36 hC hq (by decide) (by decide) dX11_live_36
  · refine r_aload_n 11 hC 0 rfl (Or.inl (by decide)) rfl dX11_live_11 ?_
    refine r_iconst 12 hC (r32c rfl) dX11_live_12 ?_
    refine r_callVI 13 hC [(0, 1)] [] rfl vl_X11_91 rfl h0 (by decide) (Nat.le_of_ble_eq_true rfl) (by decide) (by decide) dX11_live_13 (t_X11_refuse x0 1 M h0) (fun v34 M35 => ?_)
    exact r_ireturn 16 hC hq (by decide) (by decide) dX11_live_16

/-! WaterTurns.lived(I)I -/
theorem dX11_lived_0 : decode cX11_lived 0 = .ok (.iload_n 1, 1) := by decide +kernel
theorem dX11_lived_1 : decode cX11_lived 1 = .ok (.iconst 0, 1) := by decide +kernel
theorem dX11_lived_2 : decode cX11_lived 2 = .ok (.iconst 3, 1) := by decide +kernel
theorem dX11_lived_3 : decode cX11_lived 3 = .ok (.invokestatic 132, 3) := by decide +kernel
theorem dX11_lived_6 : decode cX11_lived 6 = .ok (.ifCond .ne 9, 3) := by decide +kernel
theorem dX11_lived_9 : decode cX11_lived 9 = .ok (.aload_n 0, 1) := by decide +kernel
theorem dX11_lived_10 : decode cX11_lived 10 = .ok (.iconst 1, 1) := by decide +kernel
theorem dX11_lived_11 : decode cX11_lived 11 = .ok (.invokevirtual 91, 3) := by decide +kernel
theorem dX11_lived_14 : decode cX11_lived 14 = .ok (.ireturn, 1) := by decide +kernel
theorem dX11_lived_15 : decode cX11_lived 15 = .ok (.aload_n 0, 1) := by decide +kernel
theorem dX11_lived_16 : decode cX11_lived 16 = .ok (.getfield 73, 3) := by decide +kernel
theorem dX11_lived_19 : decode cX11_lived 19 = .ok (.ifCond .eq 16, 3) := by decide +kernel
theorem dX11_lived_22 : decode cX11_lived 22 = .ok (.aload_n 0, 1) := by decide +kernel
theorem dX11_lived_23 : decode cX11_lived 23 = .ok (.aload_n 0, 1) := by decide +kernel
theorem dX11_lived_24 : decode cX11_lived 24 = .ok (.getfield 55, 3) := by decide +kernel
theorem dX11_lived_27 : decode cX11_lived 27 = .ok (.iload_n 1, 1) := by decide +kernel
theorem dX11_lived_28 : decode cX11_lived 28 = .ok (.iaload, 1) := by decide +kernel
theorem dX11_lived_29 : decode cX11_lived 29 = .ok (.invokevirtual 95, 3) := by decide +kernel
theorem dX11_lived_32 : decode cX11_lived 32 = .ok (.goto 9, 3) := by decide +kernel
theorem dX11_lived_35 : decode cX11_lived 35 = .ok (.aload_n 0, 1) := by decide +kernel
theorem dX11_lived_36 : decode cX11_lived 36 = .ok (.bipush 6, 2) := by decide +kernel
theorem dX11_lived_38 : decode cX11_lived 38 = .ok (.invokevirtual 91, 3) := by decide +kernel
theorem dX11_lived_41 : decode cX11_lived 41 = .ok (.ireturn, 1) := by decide +kernel
set_option maxRecDepth 100000 in
theorem t_X11_lived (x0 x1 : Int) (M : Mem) (h0 : x0 ≠ 0) : MtI yX11_lived cX11_lived 2 (some .int) 2 0 0 [(29, x0), (0, x1)] M 0 (f_X11_lived x0 x1 M) := by
  refine mk_I (by decide +kernel) (Nat.le_of_ble_eq_true rfl) (fun E C r0 M0 hC hq hin => ?_)
  refine r_eqls (ls' := [(0, 29, x0), (1, 0, x1)]) rfl ?_
  unfold f_X11_lived
  refine r_iload_n 0 hC 1 rfl rfl dX11_lived_0 ?_
  refine r_iconst 1 hC (r32c rfl) dX11_lived_1 ?_
  refine r_iconst 2 hC (r32c rfl) dX11_lived_2 ?_
  refine r_callSP 3 hC [(0, x1), (0, 0), (0, 3)] [] rfl sl_X11_132 rfl (by decide) (Nat.le_of_ble_eq_true rfl) (by decide) (by decide) dX11_lived_3 (t_X11_isWithin x1 0 3 M) (fun v1 => ?_)
  refine r_if_ne 6 hC (tgt := 15) (by decide) dX11_lived_6 ?_ ?_
  · refine r_aload_n 15 hC 0 rfl (Or.inl (by decide)) rfl dX11_lived_15 ?_
    refine r_getz 16 hC fd_9_10 fl_X11_73 dX11_lived_16 (fun v2 => ?_)
    refine r_jn (P := fun j41 => ∀ (q3 : Int) (M4 : Mem), Bk E C 2 M (r0, M0) 41 [] [(0, q3)] M4 0 0 (j41 q3 M4)) ?_ (fun j41 hj41 => ?_)
    · intro q3 M4
      exact r_ireturn 41 hC hq (by decide) (by decide) dX11_lived_41
    refine r_if_eq 19 hC (tgt := 35) (by decide) dX11_lived_19 ?_ ?_
    · refine r_aload_n 35 hC 0 rfl (Or.inl (by decide)) rfl dX11_lived_35 ?_
      refine r_bipush 36 hC kb_6 dX11_lived_36 ?_
      refine r_callVI 38 hC [(0, 6)] [] rfl vl_X11_91 rfl h0 (by decide) (Nat.le_of_ble_eq_true rfl) (by decide) (by decide) dX11_lived_38 (t_X11_refuse x0 6 M h0) (fun v5 M6 => ?_)
      exact r_sub [] rfl (hj41 v5 M6)
    · refine r_aload_n 22 hC 0 rfl (Or.inl (by decide)) rfl dX11_lived_22 ?_
      refine r_aload_n 23 hC 0 rfl (Or.inl (by decide)) rfl dX11_lived_23 ?_
      refine r_get 24 hC fd_9_7 fl_X11_55 dX11_lived_24 (fun v7 => ?_)
      refine r_iload_n 27 hC 1 rfl rfl dX11_lived_27 ?_
      refine r_iaload 28 hC dX11_lived_28 (fun v8 => ?_)
      refine r_callVI 29 hC [(0, v8)] [] rfl vl_X11_95 rfl h0 (by decide) (Nat.le_of_ble_eq_true rfl) (by decide) (by decide) dX11_lived_29 (t_X11_answer x0 v8 M h0) (fun v9 M10 => ?_)
      refine r_goto 32 hC (tgt := 41) (by decide) dX11_lived_32 ?_
      exact r_sub [] rfl (hj41 v9 M10)
  · refine r_aload_n 9 hC 0 rfl (Or.inl (by decide)) rfl dX11_lived_9 ?_
    refine r_iconst 10 hC (r32c rfl) dX11_lived_10 ?_
    refine r_callVI 11 hC [(0, 1)] [] rfl vl_X11_91 rfl h0 (by decide) (Nat.le_of_ble_eq_true rfl) (by decide) (by decide) dX11_lived_11 (t_X11_refuse x0 1 M h0) (fun v11 M12 => ?_)
    exact r_ireturn 14 hC hq (by decide) (by decide) dX11_lived_14

/-! WaterTurns.odds(IIII)Z -/
theorem dX11_odds_0 : decode cX11_odds 0 = .ok (.aload_n 0, 1) := by decide +kernel
theorem dX11_odds_1 : decode cX11_odds 1 = .ok (.iload_n 1, 1) := by decide +kernel
theorem dX11_odds_2 : decode cX11_odds 2 = .ok (.invokevirtual 123, 3) := by decide +kernel
theorem dX11_odds_5 : decode cX11_odds 5 = .ok (.ifCond .eq 41, 3) := by decide +kernel
theorem dX11_odds_8 : decode cX11_odds 8 = .ok (.iload_n 2, 1) := by decide +kernel
theorem dX11_odds_9 : decode cX11_odds 9 = .ok (.iconst 0, 1) := by decide +kernel
theorem dX11_odds_10 : decode cX11_odds 10 = .ok (.sipush 9999, 3) := by decide +kernel
theorem dX11_odds_13 : decode cX11_odds 13 = .ok (.invokestatic 132, 3) := by decide +kernel
theorem dX11_odds_16 : decode cX11_odds 16 = .ok (.ifCond .eq 30, 3) := by decide +kernel
theorem dX11_odds_19 : decode cX11_odds 19 = .ok (.iload 4, 2) := by decide +kernel
theorem dX11_odds_21 : decode cX11_odds 21 = .ok (.iconst 1, 1) := by decide +kernel
theorem dX11_odds_22 : decode cX11_odds 22 = .ok (.bipush 10, 2) := by decide +kernel
theorem dX11_odds_24 : decode cX11_odds 24 = .ok (.invokestatic 132, 3) := by decide +kernel
theorem dX11_odds_27 : decode cX11_odds 27 = .ok (.ifCond .eq 19, 3) := by decide +kernel
theorem dX11_odds_30 : decode cX11_odds 30 = .ok (.iload_n 3, 1) := by decide +kernel
theorem dX11_odds_31 : decode cX11_odds 31 = .ok (.iconst 0, 1) := by decide +kernel
theorem dX11_odds_32 : decode cX11_odds 32 = .ok (.sipush 9999, 3) := by decide +kernel
theorem dX11_odds_35 : decode cX11_odds 35 = .ok (.iload 4, 2) := by decide +kernel
theorem dX11_odds_37 : decode cX11_odds 37 = .ok (.isub, 1) := by decide +kernel
theorem dX11_odds_38 : decode cX11_odds 38 = .ok (.iconst 1, 1) := by decide +kernel
theorem dX11_odds_39 : decode cX11_odds 39 = .ok (.iadd, 1) := by decide +kernel
theorem dX11_odds_40 : decode cX11_odds 40 = .ok (.invokestatic 132, 3) := by decide +kernel
theorem dX11_odds_43 : decode cX11_odds 43 = .ok (.ifCond .ne 9, 3) := by decide +kernel
theorem dX11_odds_46 : decode cX11_odds 46 = .ok (.aload_n 0, 1) := by decide +kernel
theorem dX11_odds_47 : decode cX11_odds 47 = .ok (.iconst 1, 1) := by decide +kernel
theorem dX11_odds_48 : decode cX11_odds 48 = .ok (.invokevirtual 102, 3) := by decide +kernel
theorem dX11_odds_51 : decode cX11_odds 51 = .ok (.ireturn, 1) := by decide +kernel
theorem dX11_odds_52 : decode cX11_odds 52 = .ok (.aload_n 0, 1) := by decide +kernel
theorem dX11_odds_53 : decode cX11_odds 53 = .ok (.getfield 26, 3) := by decide +kernel
theorem dX11_odds_56 : decode cX11_odds 56 = .ok (.getfield 194, 3) := by decide +kernel
theorem dX11_odds_59 : decode cX11_odds 59 = .ok (.getfield 409, 3) := by decide +kernel
theorem dX11_odds_62 : decode cX11_odds 62 = .ok (.ifCond .ne 10, 3) := by decide +kernel
theorem dX11_odds_65 : decode cX11_odds 65 = .ok (.aload_n 0, 1) := by decide +kernel
theorem dX11_odds_66 : decode cX11_odds 66 = .ok (.bipush 6, 2) := by decide +kernel
theorem dX11_odds_68 : decode cX11_odds 68 = .ok (.invokevirtual 102, 3) := by decide +kernel
theorem dX11_odds_71 : decode cX11_odds 71 = .ok (.ireturn, 1) := by decide +kernel
theorem dX11_odds_72 : decode cX11_odds 72 = .ok (.aload_n 0, 1) := by decide +kernel
theorem dX11_odds_73 : decode cX11_odds 73 = .ok (.getfield 47, 3) := by decide +kernel
theorem dX11_odds_76 : decode cX11_odds 76 = .ok (.aload_n 0, 1) := by decide +kernel
theorem dX11_odds_77 : decode cX11_odds 77 = .ok (.getfield 26, 3) := by decide +kernel
theorem dX11_odds_80 : decode cX11_odds 80 = .ok (.getfield 206, 3) := by decide +kernel
theorem dX11_odds_83 : decode cX11_odds 83 = .ok (.invokevirtual 431, 3) := by decide +kernel
theorem dX11_odds_86 : decode cX11_odds 86 = .ok (.iconst 0, 1) := by decide +kernel
theorem dX11_odds_87 : decode cX11_odds 87 = .ok (.istore 5, 2) := by decide +kernel
theorem dX11_odds_89 : decode cX11_odds 89 = .ok (.iconst 0, 1) := by decide +kernel
theorem dX11_odds_90 : decode cX11_odds 90 = .ok (.istore 6, 2) := by decide +kernel
theorem dX11_odds_92 : decode cX11_odds 92 = .ok (.iload 6, 2) := by decide +kernel
theorem dX11_odds_94 : decode cX11_odds 94 = .ok (.iload 4, 2) := by decide +kernel
theorem dX11_odds_96 : decode cX11_odds 96 = .ok (.if_icmp .ge 70, 3) := by decide +kernel
theorem dX11_odds_99 : decode cX11_odds 99 = .ok (.aload_n 0, 1) := by decide +kernel
theorem dX11_odds_100 : decode cX11_odds 100 = .ok (.getfield 40, 3) := by decide +kernel
theorem dX11_odds_103 : decode cX11_odds 103 = .ok (.aload_n 0, 1) := by decide +kernel
theorem dX11_odds_104 : decode cX11_odds 104 = .ok (.getfield 26, 3) := by decide +kernel
theorem dX11_odds_107 : decode cX11_odds 107 = .ok (.aload_n 0, 1) := by decide +kernel
theorem dX11_odds_108 : decode cX11_odds 108 = .ok (.getfield 33, 3) := by decide +kernel
theorem dX11_odds_111 : decode cX11_odds 111 = .ok (.iload_n 3, 1) := by decide +kernel
theorem dX11_odds_112 : decode cX11_odds 112 = .ok (.iload 6, 2) := by decide +kernel
theorem dX11_odds_114 : decode cX11_odds 114 = .ok (.iadd, 1) := by decide +kernel
theorem dX11_odds_115 : decode cX11_odds 115 = .ok (.invokevirtual 412, 3) := by decide +kernel
theorem dX11_odds_118 : decode cX11_odds 118 = .ok (.iload 5, 2) := by decide +kernel
theorem dX11_odds_120 : decode cX11_odds 120 = .ok (.aload_n 0, 1) := by decide +kernel
theorem dX11_odds_121 : decode cX11_odds 121 = .ok (.getfield 26, 3) := by decide +kernel
theorem dX11_odds_124 : decode cX11_odds 124 = .ok (.getfield 206, 3) := by decide +kernel
theorem dX11_odds_127 : decode cX11_odds 127 = .ok (.getfield 405, 3) := by decide +kernel
theorem dX11_odds_130 : decode cX11_odds 130 = .ok (.iload_n 1, 1) := by decide +kernel
theorem dX11_odds_131 : decode cX11_odds 131 = .ok (.laload, 1) := by decide +kernel
theorem dX11_odds_132 : decode cX11_odds 132 = .ok (.iload_n 2, 1) := by decide +kernel
theorem dX11_odds_133 : decode cX11_odds 133 = .ok (.i2l, 1) := by decide +kernel
theorem dX11_odds_134 : decode cX11_odds 134 = .ok (.lcmp, 1) := by decide +kernel
theorem dX11_odds_135 : decode cX11_odds 135 = .ok (.ifCond .lt 7, 3) := by decide +kernel
theorem dX11_odds_138 : decode cX11_odds 138 = .ok (.iconst 1, 1) := by decide +kernel
theorem dX11_odds_139 : decode cX11_odds 139 = .ok (.goto 4, 3) := by decide +kernel
theorem dX11_odds_142 : decode cX11_odds 142 = .ok (.iconst 0, 1) := by decide +kernel
theorem dX11_odds_143 : decode cX11_odds 143 = .ok (.iadd, 1) := by decide +kernel
theorem dX11_odds_144 : decode cX11_odds 144 = .ok (.istore 5, 2) := by decide +kernel
theorem dX11_odds_146 : decode cX11_odds 146 = .ok (.aload_n 0, 1) := by decide +kernel
theorem dX11_odds_147 : decode cX11_odds 147 = .ok (.getfield 26, 3) := by decide +kernel
theorem dX11_odds_150 : decode cX11_odds 150 = .ok (.getfield 206, 3) := by decide +kernel
theorem dX11_odds_153 : decode cX11_odds 153 = .ok (.aload_n 0, 1) := by decide +kernel
theorem dX11_odds_154 : decode cX11_odds 154 = .ok (.getfield 47, 3) := by decide +kernel
theorem dX11_odds_157 : decode cX11_odds 157 = .ok (.invokevirtual 431, 3) := by decide +kernel
theorem dX11_odds_160 : decode cX11_odds 160 = .ok (.iinc 6 1, 3) := by decide +kernel
theorem dX11_odds_163 : decode cX11_odds 163 = .ok (.goto (-71), 3) := by decide +kernel
theorem dX11_odds_166 : decode cX11_odds 166 = .ok (.aload_n 0, 1) := by decide +kernel
theorem dX11_odds_167 : decode cX11_odds 167 = .ok (.iload 5, 2) := by decide +kernel
theorem dX11_odds_169 : decode cX11_odds 169 = .ok (.i2l, 1) := by decide +kernel
theorem dX11_odds_170 : decode cX11_odds 170 = .ok (.iload 4, 2) := by decide +kernel
theorem dX11_odds_172 : decode cX11_odds 172 = .ok (.i2l, 1) := by decide +kernel
theorem dX11_odds_173 : decode cX11_odds 173 = .ok (.invokevirtual 317, 3) := by decide +kernel
theorem dX11_odds_176 : decode cX11_odds 176 = .ok (.ireturn, 1) := by decide +kernel
set_option maxRecDepth 100000 in
theorem f_X11_odds_L92_ok {E : EnvT} {C : Cx} {Mi : Mem} {x0 : Int} (h0 : x0 ≠ 0) (hC : CxOK E C cX11_odds 7 yX11_odds.cls 8 0 0) {r0 : Int} {M0 : Mem} (hq : RQ E C 0 0 Mi (some .boolean) (some (0, r0)) M0) {x1 x2 x3 x4 : Int} {k : Int → Mem → Option (Int × Mem)} (hk : ∀ q34 M35, Bk E C 7 Mi (r0, M0) 166 [(0, 29, x0), (4, 0, x4), (5, 0, q34)] [] M35 0 0 (k q34 M35)) : ∀ (n : Nat) (p15 : Int) (p16 : Int) (M17 : Mem), Bk E C 7 Mi (r0, M0) 92 [(0, 29, x0), (1, 0, x1), (2, 0, x2), (3, 0, x3), (4, 0, x4), (5, 0, p15), (6, 0, p16)] [] M17 0 0 (f_X11_odds_L92 x0 x1 x2 x3 x4 k n p15 p16 M17) := by
  intro n
  induction n with
  | zero =>
    intro p15 p16 M17
    exact r_none
  | succ n ih =>
    intro p15 p16 M17
    rw [f_X11_odds_L92]
    refine r_iload 92 hC 6 rfl dX11_odds_92 ?_
    refine r_iload 94 hC 4 rfl dX11_odds_94 ?_
    refine r_icmp_ge 96 hC (tgt := 166) (by decide) dX11_odds_96 ?_ ?_
    · exact r_sub [0, 4, 5] rfl (hk p15 M17)
    · refine r_aload_n 99 hC 0 rfl (Or.inl (by decide)) rfl dX11_odds_99 ?_
      refine r_get 100 hC fd_9_4 fl_X11_40 dX11_odds_100 (fun v18 => ?_)
      refine r_aload_n 103 hC 0 rfl (Or.inl (by decide)) rfl dX11_odds_103 ?_
      refine r_get 104 hC fd_9_2 fl_X11_26 dX11_odds_104 (fun v19 => ?_)
      refine r_aload_n 107 hC 0 rfl (Or.inl (by decide)) rfl dX11_odds_107 ?_
      refine r_get 108 hC fd_9_3 fl_X11_33 dX11_odds_108 (fun v20 => ?_)
      refine r_iload_n 111 hC 3 rfl rfl dX11_odds_111 ?_
      refine r_iload 112 hC 6 rfl dX11_odds_112 ?_
      refine r_iadd 114 hC dX11_odds_114 ?_
      refine r_nn (fun hn21 => ?_)
      refine r_callVV 115 hC [(28, v19), (24, v20), (0, w32 (x3 + p16))] [] rfl vl_X11_412 rfl hn21 (by decide) (Nat.le_of_ble_eq_true rfl) (by decide) (by decide) dX11_odds_115 (t_X2_run v18 v19 v20 (w32 (x3 + p16)) M17 hn21) (fun M22 => ?_)
      refine r_iload 118 hC 5 rfl dX11_odds_118 ?_
      refine r_aload_n 120 hC 0 rfl (Or.inl (by decide)) rfl dX11_odds_120 ?_
      refine r_get 121 hC fd_9_2 fl_X11_26 dX11_odds_121 (fun v23 => ?_)
      refine r_get 124 hC fd_8_2 fl_X11_206 dX11_odds_124 (fun v24 => ?_)
      refine r_get 127 hC fd_3_9 fl_X11_405 dX11_odds_127 (fun v25 => ?_)
      refine r_iload_n 130 hC 1 rfl rfl dX11_odds_130 ?_
      refine r_laload 131 hC dX11_odds_131 (fun v26 => ?_)
      refine r_iload_n 132 hC 2 rfl rfl dX11_odds_132 ?_
      refine r_i2l 133 hC dX11_odds_133 ?_
      refine r_jn (P := fun j143 => ∀ (q27 : Int), Bk E C 7 Mi (r0, M0) 143 [(0, 29, x0), (1, 0, x1), (2, 0, x2), (3, 0, x3), (4, 0, x4), (6, 0, p16)] [(0, q27), (0, p15)] M22 0 0 (j143 q27)) ?_ (fun j143 hj143 => ?_)
      · intro q27
        refine r_iadd 143 hC dX11_odds_143 ?_
        refine r_istoreL 144 hC (by decide) dX11_odds_144 (fun v28 => r_eqls (ls' := [(5, 0, v28), (0, 29, x0), (1, 0, x1), (2, 0, x2), (3, 0, x3), (4, 0, x4), (6, 0, p16)]) rfl ?_)
        refine r_aload_n 146 hC 1 rfl (Or.inl (by decide)) rfl dX11_odds_146 ?_
        refine r_get 147 hC fd_9_2 fl_X11_26 dX11_odds_147 (fun v29 => ?_)
        refine r_get 150 hC fd_8_2 fl_X11_206 dX11_odds_150 (fun v30 => ?_)
        refine r_aload_n 153 hC 1 rfl (Or.inl (by decide)) rfl dX11_odds_153 ?_
        refine r_get 154 hC fd_9_5 fl_X11_47 dX11_odds_154 (fun v31 => ?_)
        refine r_nn (fun hn32 => ?_)
        refine r_callVV 157 hC [(23, v31)] [] rfl vl_X11_431 rfl hn32 (by decide) (Nat.le_of_ble_eq_true rfl) (by decide) (by decide) dX11_odds_157 (t_X4_take v30 v31 M22 hn32) (fun M33 => ?_)
        refine r_iinc 160 hC 6 rfl (by decide) dX11_odds_160 (r_eqls (ls' := [(6, 0, w32 (p16 + 1)), (5, 0, v28), (0, 29, x0), (1, 0, x1), (2, 0, x2), (3, 0, x3), (4, 0, x4)]) rfl ?_)
        refine r_goto 163 hC (tgt := 92) (by decide) dX11_odds_163 ?_
        exact r_sub [2, 3, 4, 5, 6, 1, 0] rfl (ih v28 (w32 (p16 + 1)) M33)
      refine r_lcmp_lt 134 hC (tgt := 142) (by decide) dX11_odds_134 dX11_odds_135 ?_ ?_
      · refine r_iconst 142 hC (r32c rfl) dX11_odds_142 ?_
        exact r_sub [0, 1, 2, 3, 4, 6] rfl (hj143 0)
      · refine r_iconst 138 hC (r32c rfl) dX11_odds_138 ?_
        refine r_goto 139 hC (tgt := 143) (by decide) dX11_odds_139 ?_
        exact r_sub [0, 1, 2, 3, 4, 6] rfl (hj143 1)
set_option maxRecDepth 100000 in
theorem t_X11_odds (x0 x1 x2 x3 x4 : Int) (M : Mem) (h0 : x0 ≠ 0) : MtI yX11_odds cX11_odds 7 (some .boolean) 8 0 0 [(29, x0), (0, x1), (0, x2), (0, x3), (0, x4)] M 0 (f_X11_odds x0 x1 x2 x3 x4 M) := by
  refine mk_I (by decide +kernel) (Nat.le_of_ble_eq_true rfl) (fun E C r0 M0 hC hq hin => ?_)
  refine r_eqls (ls' := [(0, 29, x0), (1, 0, x1), (2, 0, x2), (3, 0, x3), (4, 0, x4)]) rfl ?_
  unfold f_X11_odds
  refine r_aload_n 0 hC 0 rfl (Or.inl (by decide)) rfl dX11_odds_0 ?_
  refine r_iload_n 1 hC 1 rfl rfl dX11_odds_1 ?_
  refine r_callVP 2 hC [(0, x1)] [] rfl vl_X11_123 rfl h0 (by decide) (Nat.le_of_ble_eq_true rfl) (by decide) (by decide) dX11_odds_2 (t_X11_isField x0 x1 M h0) (fun v1 => ?_)
  refine r_jn (P := fun j46 => Bk E C 7 M (r0, M0) 46 [(0, 29, x0)] [] M 0 0 (j46)) ?_ (fun j46 hj46 => ?_)
  · refine r_aload_n 46 hC 0 rfl (Or.inl (by decide)) rfl dX11_odds_46 ?_
    refine r_iconst 47 hC (r32c rfl) dX11_odds_47 ?_
    refine r_callVI 48 hC [(0, 1)] [] rfl vl_X11_102 rfl h0 (by decide) (Nat.le_of_ble_eq_true rfl) (by decide) (by decide) dX11_odds_48 (t_X11_settle x0 1 M h0) (fun v2 M3 => ?_)
    exact r_zreturn 51 hC hq (by decide) (by decide) dX11_odds_51
  refine r_if_eq 5 hC (tgt := 46) (by decide) dX11_odds_5 ?_ ?_
  · exact r_sub [0] rfl (hj46)
  · refine r_iload_n 8 hC 2 rfl rfl dX11_odds_8 ?_
    refine r_iconst 9 hC (r32c rfl) dX11_odds_9 ?_
    refine r_sipush 10 hC ks_9999 dX11_odds_10 ?_
    refine r_callSP 13 hC [(0, x2), (0, 0), (0, 9999)] [] rfl sl_X11_132 rfl (by decide) (Nat.le_of_ble_eq_true rfl) (by decide) (by decide) dX11_odds_13 (t_X11_isWithin x2 0 9999 M) (fun v4 => ?_)
    refine r_if_eq 16 hC (tgt := 46) (by decide) dX11_odds_16 ?_ ?_
    · exact r_sub [0] rfl (hj46)
    · refine r_iload 19 hC 4 rfl dX11_odds_19 ?_
      refine r_iconst 21 hC (r32c rfl) dX11_odds_21 ?_
      refine r_bipush 22 hC kb_10 dX11_odds_22 ?_
      refine r_callSP 24 hC [(0, x4), (0, 1), (0, 10)] [] rfl sl_X11_132 rfl (by decide) (Nat.le_of_ble_eq_true rfl) (by decide) (by decide) dX11_odds_24 (t_X11_isWithin x4 1 10 M) (fun v5 => ?_)
      refine r_if_eq 27 hC (tgt := 46) (by decide) dX11_odds_27 ?_ ?_
      · exact r_sub [0] rfl (hj46)
      · refine r_iload_n 30 hC 3 rfl rfl dX11_odds_30 ?_
        refine r_iconst 31 hC (r32c rfl) dX11_odds_31 ?_
        refine r_sipush 32 hC ks_9999 dX11_odds_32 ?_
        refine r_iload 35 hC 4 rfl dX11_odds_35 ?_
        refine r_isub 37 hC dX11_odds_37 ?_
        refine r_iconst 38 hC (r32c rfl) dX11_odds_38 ?_
        refine r_iadd 39 hC dX11_odds_39 ?_
        refine r_callSP 40 hC [(0, x3), (0, 0), (0, w32 ((w32 (9999 - x4)) + 1))] [] rfl sl_X11_132 rfl (by decide) (Nat.le_of_ble_eq_true rfl) (by decide) (by decide) dX11_odds_40 (t_X11_isWithin x3 0 (w32 ((w32 (9999 - x4)) + 1)) M) (fun v6 => ?_)
        refine r_if_ne 43 hC (tgt := 52) (by decide) dX11_odds_43 ?_ ?_
        · refine r_aload_n 52 hC 0 rfl (Or.inl (by decide)) rfl dX11_odds_52 ?_
          refine r_get 53 hC fd_9_2 fl_X11_26 dX11_odds_53 (fun v7 => ?_)
          refine r_get 56 hC fd_8_1 fl_X11_194 dX11_odds_56 (fun v8 => ?_)
          refine r_getz 59 hC fd_0_0 fl_X11_409 dX11_odds_59 (fun v9 => ?_)
          refine r_if_ne 62 hC (tgt := 72) (by decide) dX11_odds_62 ?_ ?_
          · refine r_aload_n 72 hC 0 rfl (Or.inl (by decide)) rfl dX11_odds_72 ?_
            refine r_get 73 hC fd_9_5 fl_X11_47 dX11_odds_73 (fun v10 => ?_)
            refine r_aload_n 76 hC 0 rfl (Or.inl (by decide)) rfl dX11_odds_76 ?_
            refine r_get 77 hC fd_9_2 fl_X11_26 dX11_odds_77 (fun v11 => ?_)
            refine r_get 80 hC fd_8_2 fl_X11_206 dX11_odds_80 (fun v12 => ?_)
            refine r_nn (fun hn13 => ?_)
            refine r_callVV 83 hC [(23, v12)] [] rfl vl_X11_431 rfl hn13 (by decide) (Nat.le_of_ble_eq_true rfl) (by decide) (by decide) dX11_odds_83 (t_X4_take v10 v12 M hn13) (fun M14 => ?_)
            refine r_iconst 86 hC (r32c rfl) dX11_odds_86 ?_
            refine r_istore 87 hC (by decide) dX11_odds_87 (r_eqls (ls' := [(5, 0, 0), (0, 29, x0), (1, 0, x1), (2, 0, x2), (3, 0, x3), (4, 0, x4)]) rfl ?_)
            refine r_iconst 89 hC (r32c rfl) dX11_odds_89 ?_
            refine r_istore 90 hC (by decide) dX11_odds_90 (r_eqls (ls' := [(6, 0, 0), (5, 0, 0), (0, 29, x0), (1, 0, x1), (2, 0, x2), (3, 0, x3), (4, 0, x4)]) rfl ?_)
            refine r_sub [2, 3, 4, 5, 6, 1, 0] rfl (f_X11_odds_L92_ok h0 hC hq (fun q36 M37 => ?_) KF 0 0 M14)
            · refine r_aload_n 166 hC 0 rfl (Or.inl (by decide)) rfl dX11_odds_166 ?_
              refine r_iload 167 hC 2 rfl dX11_odds_167 ?_
              refine r_i2l 169 hC dX11_odds_169 ?_
              refine r_iload 170 hC 1 rfl dX11_odds_170 ?_
              refine r_i2l 172 hC dX11_odds_172 ?_
              refine r_callVI 173 hC [(1, q36), (1, x4)] [] rfl vl_X11_317 rfl h0 (by decide) (Nat.le_of_ble_eq_true rfl) (by decide) (by decide) dX11_odds_173 (t_X11_tellFraction x0 q36 x4 M37 h0) (fun v38 M39 => ?_)
              exact r_zreturn 176 hC hq (by decide) (by decide) dX11_odds_176
          · refine r_aload_n 65 hC 0 rfl (Or.inl (by decide)) rfl dX11_odds_65 ?_
            refine r_bipush 66 hC kb_6 dX11_odds_66 ?_
            refine r_callVI 68 hC [(0, 6)] [] rfl vl_X11_102 rfl h0 (by decide) (Nat.le_of_ble_eq_true rfl) (by decide) (by decide) dX11_odds_68 (t_X11_settle x0 6 M h0) (fun v40 M41 => ?_)
            exact r_zreturn 71 hC hq (by decide) (by decide) dX11_odds_71
        · exact r_sub [0] rfl (hj46)
