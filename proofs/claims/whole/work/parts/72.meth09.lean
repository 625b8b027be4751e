/-! WaterTurnsModel.step()Z -/
theorem dX12_step_0 : decode cX12_step 0 = .ok (.aload_n 0, 1) := by decide +kernel
theorem dX12_step_1 : decode cX12_step 1 = .ok (.ldc 187, 2) := by decide +kernel
theorem dX12_step_3 : decode cX12_step 3 = .ok (.invokevirtual 172, 3) := by decide +kernel
theorem dX12_step_6 : decode cX12_step 6 = .ok (.istore_n 1, 1) := by decide +kernel
theorem dX12_step_7 : decode cX12_step 7 = .ok (.aload_n 0, 1) := by decide +kernel
theorem dX12_step_8 : decode cX12_step 8 = .ok (.getfield 7, 3) := by decide +kernel
theorem dX12_step_11 : decode cX12_step 11 = .ok (.sipush 2569, 3) := by decide +kernel
theorem dX12_step_14 : decode cX12_step 14 = .ok (.iaload, 1) := by decide +kernel
theorem dX12_step_15 : decode cX12_step 15 = .ok (.istore_n 2, 1) := by decide +kernel
theorem dX12_step_16 : decode cX12_step 16 = .ok (.sipush 2830, 3) := by decide +kernel
theorem dX12_step_19 : decode cX12_step 19 = .ok (.bipush 6, 2) := by decide +kernel
theorem dX12_step_21 : decode cX12_step 21 = .ok (.iload_n 2, 1) := by decide +kernel
theorem dX12_step_22 : decode cX12_step 22 = .ok (.imul, 1) := by decide +kernel
theorem dX12_step_23 : decode cX12_step 23 = .ok (.iadd, 1) := by decide +kernel
theorem dX12_step_24 : decode cX12_step 24 = .ok (.istore_n 3, 1) := by decide +kernel
theorem dX12_step_25 : decode cX12_step 25 = .ok (.iload_n 1, 1) := by decide +kernel
theorem dX12_step_26 : decode cX12_step 26 = .ok (.bipush 23, 2) := by decide +kernel
theorem dX12_step_28 : decode cX12_step 28 = .ok (.if_icmp .eq 9, 3) := by decide +kernel
theorem dX12_step_31 : decode cX12_step 31 = .ok (.iload_n 1, 1) := by decide +kernel
theorem dX12_step_32 : decode cX12_step 32 = .ok (.bipush 24, 2) := by decide +kernel
theorem dX12_step_34 : decode cX12_step 34 = .ok (.if_icmp .ne 7, 3) := by decide +kernel
theorem dX12_step_37 : decode cX12_step 37 = .ok (.iconst 1, 1) := by decide +kernel
theorem dX12_step_38 : decode cX12_step 38 = .ok (.goto 4, 3) := by decide +kernel
theorem dX12_step_41 : decode cX12_step 41 = .ok (.iconst 0, 1) := by decide +kernel
theorem dX12_step_42 : decode cX12_step 42 = .ok (.istore 4, 2) := by decide +kernel
theorem dX12_step_44 : decode cX12_step 44 = .ok (.iload_n 1, 1) := by decide +kernel
theorem dX12_step_45 : decode cX12_step 45 = .ok (.bipush 10, 2) := by decide +kernel
theorem dX12_step_47 : decode cX12_step 47 = .ok (.if_icmp .eq 15, 3) := by decide +kernel
theorem dX12_step_50 : decode cX12_step 50 = .ok (.iload_n 1, 1) := by decide +kernel
theorem dX12_step_51 : decode cX12_step 51 = .ok (.bipush 16, 2) := by decide +kernel
theorem dX12_step_53 : decode cX12_step 53 = .ok (.if_icmp .lt 22, 3) := by decide +kernel
theorem dX12_step_56 : decode cX12_step 56 = .ok (.iload_n 1, 1) := by decide +kernel
theorem dX12_step_57 : decode cX12_step 57 = .ok (.bipush 26, 2) := by decide +kernel
theorem dX12_step_59 : decode cX12_step 59 = .ok (.if_icmp .gt 16, 3) := by decide +kernel
theorem dX12_step_62 : decode cX12_step 62 = .ok (.iload_n 1, 1) := by decide +kernel
theorem dX12_step_63 : decode cX12_step 63 = .ok (.bipush 25, 2) := by decide +kernel
theorem dX12_step_65 : decode cX12_step 65 = .ok (.if_icmp .ne 16, 3) := by decide +kernel
theorem dX12_step_68 : decode cX12_step 68 = .ok (.aload_n 0, 1) := by decide +kernel
theorem dX12_step_69 : decode cX12_step 69 = .ok (.getfield 245, 3) := by decide +kernel
theorem dX12_step_72 : decode cX12_step 72 = .ok (.ifCond .ne 9, 3) := by decide +kernel
theorem dX12_step_75 : decode cX12_step 75 = .ok (.aload_n 0, 1) := by decide +kernel
theorem dX12_step_76 : decode cX12_step 76 = .ok (.iconst 2, 1) := by decide +kernel
theorem dX12_step_77 : decode cX12_step 77 = .ok (.invokevirtual 169, 3) := by decide +kernel
theorem dX12_step_80 : decode cX12_step 80 = .ok (.ireturn, 1) := by decide +kernel
theorem dX12_step_81 : decode cX12_step 81 = .ok (.iload_n 1, 1) := by decide +kernel
theorem dX12_step_82 : decode cX12_step 82 = .ok (.bipush 25, 2) := by decide +kernel
theorem dX12_step_84 : decode cX12_step 84 = .ok (.if_icmp .eq 19, 3) := by decide +kernel
theorem dX12_step_87 : decode cX12_step 87 = .ok (.aload_n 0, 1) := by decide +kernel
theorem dX12_step_88 : decode cX12_step 88 = .ok (.getfield 248, 3) := by decide +kernel
theorem dX12_step_91 : decode cX12_step 91 = .ok (.bipush 30, 2) := by decide +kernel
theorem dX12_step_93 : decode cX12_step 93 = .ok (.if_icmp .ne 10, 3) := by decide +kernel
theorem dX12_step_96 : decode cX12_step 96 = .ok (.aload_n 0, 1) := by decide +kernel
theorem dX12_step_97 : decode cX12_step 97 = .ok (.bipush 6, 2) := by decide +kernel
theorem dX12_step_99 : decode cX12_step 99 = .ok (.invokevirtual 169, 3) := by decide +kernel
theorem dX12_step_102 : decode cX12_step 102 = .ok (.ireturn, 1) := by decide +kernel
theorem dX12_step_103 : decode cX12_step 103 = .ok (.iload 4, 2) := by decide +kernel
theorem dX12_step_105 : decode cX12_step 105 = .ok (.ifCond .eq 18, 3) := by decide +kernel
theorem dX12_step_108 : decode cX12_step 108 = .ok (.aload_n 0, 1) := by decide +kernel
theorem dX12_step_109 : decode cX12_step 109 = .ok (.getfield 245, 3) := by decide +kernel
theorem dX12_step_112 : decode cX12_step 112 = .ok (.iconst 3, 1) := by decide +kernel
theorem dX12_step_113 : decode cX12_step 113 = .ok (.if_icmp .ne 10, 3) := by decide +kernel
theorem dX12_step_116 : decode cX12_step 116 = .ok (.aload_n 0, 1) := by decide +kernel
theorem dX12_step_117 : decode cX12_step 117 = .ok (.bipush 7, 2) := by decide +kernel
theorem dX12_step_119 : decode cX12_step 119 = .ok (.invokevirtual 169, 3) := by decide +kernel
theorem dX12_step_122 : decode cX12_step 122 = .ok (.ireturn, 1) := by decide +kernel
theorem dX12_step_123 : decode cX12_step 123 = .ok (.aload_n 0, 1) := by decide +kernel
theorem dX12_step_124 : decode cX12_step 124 = .ok (.dup, 1) := by decide +kernel
theorem dX12_step_125 : decode cX12_step 125 = .ok (.getfield 248, 3) := by decide +kernel
theorem dX12_step_128 : decode cX12_step 128 = .ok (.iload_n 1, 1) := by decide +kernel
theorem dX12_step_129 : decode cX12_step 129 = .ok (.bipush 25, 2) := by decide +kernel
theorem dX12_step_131 : decode cX12_step 131 = .ok (.if_icmp .ne 7, 3) := by decide +kernel
theorem dX12_step_134 : decode cX12_step 134 = .ok (.iconst 0, 1) := by decide +kernel
theorem dX12_step_135 : decode cX12_step 135 = .ok (.goto 4, 3) := by decide +kernel
theorem dX12_step_138 : decode cX12_step 138 = .ok (.iconst 1, 1) := by decide +kernel
theorem dX12_step_139 : decode cX12_step 139 = .ok (.iadd, 1) := by decide +kernel
theorem dX12_step_140 : decode cX12_step 140 = .ok (.putfield 248, 3) := by decide +kernel
theorem dX12_step_143 : decode cX12_step 143 = .ok (.aload_n 0, 1) := by decide +kernel
theorem dX12_step_144 : decode cX12_step 144 = .ok (.getfield 7, 3) := by decide +kernel
theorem dX12_step_147 : decode cX12_step 147 = .ok (.iload_n 3, 1) := by decide +kernel
theorem dX12_step_148 : decode cX12_step 148 = .ok (.iload_n 1, 1) := by decide +kernel
theorem dX12_step_149 : decode cX12_step 149 = .ok (.iastore, 1) := by decide +kernel
theorem dX12_step_150 : decode cX12_step 150 = .ok (.iconst 1, 1) := by decide +kernel
theorem dX12_step_151 : decode cX12_step 151 = .ok (.istore 5, 2) := by decide +kernel
theorem dX12_step_153 : decode cX12_step 153 = .ok (.iload 5, 2) := by decide +kernel
theorem dX12_step_155 : decode cX12_step 155 = .ok (.bipush 6, 2) := by decide +kernel
theorem dX12_step_157 : decode cX12_step 157 = .ok (.if_icmp .ge 19, 3) := by decide +kernel
theorem dX12_step_160 : decode cX12_step 160 = .ok (.aload_n 0, 1) := by decide +kernel
theorem dX12_step_161 : decode cX12_step 161 = .ok (.getfield 7, 3) := by decide +kernel
theorem dX12_step_164 : decode cX12_step 164 = .ok (.iload_n 3, 1) := by decide +kernel
theorem dX12_step_165 : decode cX12_step 165 = .ok (.iload 5, 2) := by decide +kernel
theorem dX12_step_167 : decode cX12_step 167 = .ok (.iadd, 1) := by decide +kernel
theorem dX12_step_168 : decode cX12_step 168 = .ok (.iconst 0, 1) := by decide +kernel
theorem dX12_step_169 : decode cX12_step 169 = .ok (.iastore, 1) := by decide +kernel
theorem dX12_step_170 : decode cX12_step 170 = .ok (.iinc 5 1, 3) := by decide +kernel
theorem dX12_step_173 : decode cX12_step 173 = .ok (.goto (-20), 3) := by decide +kernel
theorem dX12_step_176 : decode cX12_step 176 = .ok (.aload_n 0, 1) := by decide +kernel
theorem dX12_step_177 : decode cX12_step 177 = .ok (.getfield 7, 3) := by decide +kernel
theorem dX12_step_180 : decode cX12_step 180 = .ok (.sipush 2569, 3) := by decide +kernel
theorem dX12_step_183 : decode cX12_step 183 = .ok (.dup2, 1) := by decide +kernel
theorem dX12_step_184 : decode cX12_step 184 = .ok (.iaload, 1) := by decide +kernel
theorem dX12_step_185 : decode cX12_step 185 = .ok (.iconst 1, 1) := by decide +kernel
theorem dX12_step_186 : decode cX12_step 186 = .ok (.iadd, 1) := by decide +kernel
theorem dX12_step_187 : decode cX12_step 187 = .ok (.iastore, 1) := by decide +kernel
theorem dX12_step_188 : decode cX12_step 188 = .ok (.aload_n 0, 1) := by decide +kernel
theorem dX12_step_189 : decode cX12_step 189 = .ok (.invokevirtual 163, 3) := by decide +kernel
theorem dX12_step_192 : decode cX12_step 192 = .ok (.aload_n 0, 1) := by decide +kernel
theorem dX12_step_193 : decode cX12_step 193 = .ok (.iload_n 1, 1) := by decide +kernel
theorem dX12_step_194 : decode cX12_step 194 = .ok (.iload_n 3, 1) := by decide +kernel
theorem dX12_step_195 : decode cX12_step 195 = .ok (.invokevirtual 251, 3) := by decide +kernel
theorem dX12_step_198 : decode cX12_step 198 = .ok (.ifCond .ne 5, 3) := by decide +kernel
theorem dX12_step_201 : decode cX12_step 201 = .ok (.iconst 0, 1) := by decide +kernel
theorem dX12_step_202 : decode cX12_step 202 = .ok (.ireturn, 1) := by decide +kernel
theorem dX12_step_203 : decode cX12_step 203 = .ok (.iload 4, 2) := by decide +kernel
theorem dX12_step_205 : decode cX12_step 205 = .ok (.ifCond .eq 23, 3) := by decide +kernel
theorem dX12_step_208 : decode cX12_step 208 = .ok (.aload_n 0, 1) := by decide +kernel
theorem dX12_step_209 : decode cX12_step 209 = .ok (.getfield 47, 3) := by decide +kernel
theorem dX12_step_212 : decode cX12_step 212 = .ok (.aload_n 0, 1) := by decide +kernel
theorem dX12_step_213 : decode cX12_step 213 = .ok (.getfield 245, 3) := by decide +kernel
theorem dX12_step_216 : decode cX12_step 216 = .ok (.iload_n 2, 1) := by decide +kernel
theorem dX12_step_217 : decode cX12_step 217 = .ok (.iastore, 1) := by decide +kernel
theorem dX12_step_218 : decode cX12_step 218 = .ok (.aload_n 0, 1) := by decide +kernel
theorem dX12_step_219 : decode cX12_step 219 = .ok (.dup, 1) := by decide +kernel
theorem dX12_step_220 : decode cX12_step 220 = .ok (.getfield 245, 3) := by decide +kernel
theorem dX12_step_223 : decode cX12_step 223 = .ok (.iconst 1, 1) := by decide +kernel
theorem dX12_step_224 : decode cX12_step 224 = .ok (.iadd, 1) := by decide +kernel
theorem dX12_step_225 : decode cX12_step 225 = .ok (.putfield 245, 3) := by decide +kernel
theorem dX12_step_228 : decode cX12_step 228 = .ok (.iload_n 1, 1) := by decide +kernel
theorem dX12_step_229 : decode cX12_step 229 = .ok (.bipush 25, 2) := by decide +kernel
theorem dX12_step_231 : decode cX12_step 231 = .ok (.if_icmp .ne 54, 3) := by decide +kernel
theorem dX12_step_234 : decode cX12_step 234 = .ok (.aload_n 0, 1) := by decide +kernel
theorem dX12_step_235 : decode cX12_step 235 = .ok (.dup, 1) := by decide +kernel
theorem dX12_step_236 : decode cX12_step 236 = .ok (.getfield 245, 3) := by decide +kernel
theorem dX12_step_239 : decode cX12_step 239 = .ok (.iconst 1, 1) := by decide +kernel
theorem dX12_step_240 : decode cX12_step 240 = .ok (.isub, 1) := by decide +kernel
theorem dX12_step_241 : decode cX12_step 241 = .ok (.putfield 245, 3) := by decide +kernel
theorem dX12_step_244 : decode cX12_step 244 = .ok (.aload_n 0, 1) := by decide +kernel
theorem dX12_step_245 : decode cX12_step 245 = .ok (.getfield 7, 3) := by decide +kernel
theorem dX12_step_248 : decode cX12_step 248 = .ok (.iload_n 3, 1) := by decide +kernel
theorem dX12_step_249 : decode cX12_step 249 = .ok (.iconst 4, 1) := by decide +kernel
theorem dX12_step_250 : decode cX12_step 250 = .ok (.iadd, 1) := by decide +kernel
theorem dX12_step_251 : decode cX12_step 251 = .ok (.aload_n 0, 1) := by decide +kernel
theorem dX12_step_252 : decode cX12_step 252 = .ok (.getfield 47, 3) := by decide +kernel
theorem dX12_step_255 : decode cX12_step 255 = .ok (.aload_n 0, 1) := by decide +kernel
theorem dX12_step_256 : decode cX12_step 256 = .ok (.getfield 245, 3) := by decide +kernel
theorem dX12_step_259 : decode cX12_step 259 = .ok (.iaload, 1) := by decide +kernel
theorem dX12_step_260 : decode cX12_step 260 = .ok (.iastore, 1) := by decide +kernel
theorem dX12_step_261 : decode cX12_step 261 = .ok (.aload_n 0, 1) := by decide +kernel
theorem dX12_step_262 : decode cX12_step 262 = .ok (.getfield 7, 3) := by decide +kernel
theorem dX12_step_265 : decode cX12_step 265 = .ok (.sipush 2830, 3) := by decide +kernel
theorem dX12_step_268 : decode cX12_step 268 = .ok (.bipush 6, 2) := by decide +kernel
theorem dX12_step_270 : decode cX12_step 270 = .ok (.aload_n 0, 1) := by decide +kernel
theorem dX12_step_271 : decode cX12_step 271 = .ok (.getfield 47, 3) := by decide +kernel
theorem dX12_step_274 : decode cX12_step 274 = .ok (.aload_n 0, 1) := by decide +kernel
theorem dX12_step_275 : decode cX12_step 275 = .ok (.getfield 245, 3) := by decide +kernel
theorem dX12_step_278 : decode cX12_step 278 = .ok (.iaload, 1) := by decide +kernel
theorem dX12_step_279 : decode cX12_step 279 = .ok (.imul, 1) := by decide +kernel
theorem dX12_step_280 : decode cX12_step 280 = .ok (.iadd, 1) := by decide +kernel
theorem dX12_step_281 : decode cX12_step 281 = .ok (.iconst 4, 1) := by decide +kernel
theorem dX12_step_282 : decode cX12_step 282 = .ok (.iadd, 1) := by decide +kernel
theorem dX12_step_283 : decode cX12_step 283 = .ok (.iload_n 2, 1) := by decide +kernel
theorem dX12_step_284 : decode cX12_step 284 = .ok (.iastore, 1) := by decide +kernel
theorem dX12_step_285 : decode cX12_step 285 = .ok (.aload_n 0, 1) := by decide +kernel
theorem dX12_step_286 : decode cX12_step 286 = .ok (.bipush 59, 2) := by decide +kernel
theorem dX12_step_288 : decode cX12_step 288 = .ok (.invokevirtual 220, 3) := by decide +kernel
theorem dX12_step_291 : decode cX12_step 291 = .ok (.ireturn, 1) := by decide +kernel
set_option maxRecDepth 100000 in
theorem f_X12_step_L153_ok {E : EnvT} {C : Cx} {Mi : Mem} {x0 : Int} (h0 : x0 ≠ 0) (hC : CxOK E C cX12_step 6 yX12_step.cls 12 0 0) {r0 : Int} {M0 : Mem} (hq : RQ E C 0 0 Mi (some .boolean) (some (0, r0)) M0) {q5 v1 v3 v4 : Int} {k : Mem → Option (Int × Mem)} (hk : ∀ M17, Bk E C 6 Mi (r0, M0) 176 [(0, 30, x0), (1, 0, v1), (2, 0, v3), (3, 0, v4), (4, 0, q5)] [] M17 0 0 (k M17)) : ∀ (n : Nat) (p13 : Int) (M14 : Mem), Bk E C 6 Mi (r0, M0) 153 [(0, 30, x0), (1, 0, v1), (2, 0, v3), (3, 0, v4), (4, 0, q5), (5, 0, p13)] [] M14 0 0 (f_X12_step_L153 q5 v1 v3 v4 x0 k n p13 M14) := by
  intro n
  induction n with
  | zero =>
    intro p13 M14
    exact r_none
  | succ n ih =>
    intro p13 M14
    rw [f_X12_step_L153]
    refine r_iload 153 hC 5 rfl dX12_step_153 ?_
    refine r_bipush 155 hC kb_6 dX12_step_155 ?_
    refine r_icmp_ge 157 hC (tgt := 176) (by decide) dX12_step_157 ?_ ?_
    · exact r_sub [0, 1, 2, 3, 4] rfl (hk M14)
    · refine r_aload_n 160 hC 0 rfl (Or.inl (by decide)) rfl dX12_step_160 ?_
      refine r_get 161 hC fd_10_0 fl_X12_7 dX12_step_161 (fun v15 => ?_)
      refine r_iload_n 164 hC 3 rfl rfl dX12_step_164 ?_
      refine r_iload 165 hC 5 rfl dX12_step_165 ?_
      refine r_iadd 167 hC dX12_step_167 ?_
      refine r_iconst 168 hC (r32c rfl) dX12_step_168 ?_
      refine r_iastore 169 hC dX12_step_169 (fun M16 => ?_)
      refine r_iinc 170 hC 5 rfl (by decide) dX12_step_170 (r_eqls (ls' := [(5, 0, w32 (p13 + 1)), (0, 30, x0), (1, 0, v1), (2, 0, v3), (3, 0, v4), (4, 0, q5)]) rfl ?_)
      refine r_goto 173 hC (tgt := 153) (by decide) dX12_step_173 ?_
      exact r_sub [1, 2, 3, 4, 5, 0] rfl (ih (w32 (p13 + 1)) M16)
set_option maxRecDepth 100000 in
theorem t_X12_step (x0 : Int) (M : Mem) (h0 : x0 ≠ 0) : MtI yX12_step cX12_step 6 (some .boolean) 12 0 0 [(30, x0)] M 0 (f_X12_step x0 M) := by
  refine mk_I (by decide +kernel) (Nat.le_of_ble_eq_true rfl) (fun E C r0 M0 hC hq hin => ?_)
  refine r_eqls (ls' := [(0, 30, x0)]) rfl ?_
  unfold f_X12_step
  refine r_aload_n 0 hC 0 rfl (Or.inl (by decide)) rfl dX12_step_0 ?_
  refine r_ldcS2 1 hC dX12_step_1 ?_
  refine r_callVP 3 hC [(2, (-2))] [] rfl vl_X12_172 rfl h0 (by decide) (Nat.le_of_ble_eq_true rfl) (by decide) (by decide) dX12_step_3 (t_X12_inWords x0 (-2) M h0) (fun v1 => ?_)
  refine r_istore_n 6 hC rfl (by decide) dX12_step_6 (r_eqls (ls' := [(1, 0, v1), (0, 30, x0)]) rfl ?_)
  refine r_aload_n 7 hC 1 rfl (Or.inl (by decide)) rfl dX12_step_7 ?_
  refine r_get 8 hC fd_10_0 fl_X12_7 dX12_step_8 (fun v2 => ?_)
  refine r_sipush 11 hC ks_2569 dX12_step_11 ?_
  refine r_iaload 14 hC dX12_step_14 (fun v3 => ?_)
  refine r_istore_n 15 hC rfl (by decide) dX12_step_15 (r_eqls (ls' := [(2, 0, v3), (1, 0, v1), (0, 30, x0)]) rfl ?_)
  refine r_sipush 16 hC ks_2830 dX12_step_16 ?_
  refine r_bipush 19 hC kb_6 dX12_step_19 ?_
  refine r_iload_n 21 hC 0 rfl rfl dX12_step_21 ?_
  refine r_imul 22 hC dX12_step_22 ?_
  refine r_iadd 23 hC dX12_step_23 ?_
  refine r_istore_nL 24 hC rfl (by decide) dX12_step_24 (fun v4 => r_eqls (ls' := [(3, 0, v4), (2, 0, v3), (1, 0, v1), (0, 30, x0)]) rfl ?_)
  refine r_iload_n 25 hC 2 rfl rfl dX12_step_25 ?_
  refine r_bipush 26 hC kb_23 dX12_step_26 ?_
  refine r_jn (P := fun j42 => ∀ (q5 : Int), Bk E C 6 M (r0, M0) 42 [(0, 30, x0), (1, 0, v1), (2, 0, v3), (3, 0, v4)] [(0, q5)] M 0 0 (j42 q5)) ?_ (fun j42 hj42 => ?_)
  · intro q5
    refine r_istore 42 hC (by decide) dX12_step_42 (r_eqls (ls' := [(4, 0, q5), (0, 30, x0), (1, 0, v1), (2, 0, v3), (3, 0, v4)]) rfl ?_)
    refine r_iload_n 44 hC 2 rfl rfl dX12_step_44 ?_
    refine r_bipush 45 hC kb_10 dX12_step_45 ?_
    refine r_jn (P := fun j75 => Bk E C 6 M (r0, M0) 75 [(0, 30, x0)] [] M 0 0 (j75)) ?_ (fun j75 hj75 => ?_)
    · refine r_aload_n 75 hC 0 rfl (Or.inl (by decide)) rfl dX12_step_75 ?_
      refine r_iconst 76 hC (r32c rfl) dX12_step_76 ?_
      refine r_callVI 77 hC [(0, 2)] [] rfl vl_X12_169 rfl h0 (by decide) (Nat.le_of_ble_eq_true rfl) (by decide) (by decide) dX12_step_77 (t_X12_fails x0 2 M h0) (fun v6 M7 => ?_)
      exact r_zreturn 80 hC hq (by decide) (by decide) dX12_step_80
    refine r_jn (P := fun j62 => Bk E C 6 M (r0, M0) 62 [(0, 30, x0), (1, 0, v1), (2, 0, v3), (3, 0, v4), (4, 0, q5)] [] M 0 0 (j62)) ?_ (fun j62 hj62 => ?_)
    · refine r_iload_n 62 hC 1 rfl rfl dX12_step_62 ?_
      refine r_bipush 63 hC kb_25 dX12_step_63 ?_
      refine r_jn (P := fun j81 => Bk E C 6 M (r0, M0) 81 [(0, 30, x0), (1, 0, v1), (2, 0, v3), (3, 0, v4), (4, 0, q5)] [] M 0 0 (j81)) ?_ (fun j81 hj81 => ?_)
      · refine r_iload_n 81 hC 1 rfl rfl dX12_step_81 ?_
        refine r_bipush 82 hC kb_25 dX12_step_82 ?_
        refine r_jn (P := fun j103 => Bk E C 6 M (r0, M0) 103 [(0, 30, x0), (1, 0, v1), (2, 0, v3), (3, 0, v4), (4, 0, q5)] [] M 0 0 (j103)) ?_ (fun j103 hj103 => ?_)
        · refine r_iload 103 hC 4 rfl dX12_step_103 ?_
          refine r_jn (P := fun j123 => Bk E C 6 M (r0, M0) 123 [(0, 30, x0), (1, 0, v1), (2, 0, v3), (3, 0, v4), (4, 0, q5)] [] M 0 0 (j123)) ?_ (fun j123 hj123 => ?_)
          · refine r_aload_n 123 hC 0 rfl (Or.inl (by decide)) rfl dX12_step_123 ?_
            refine r_dup 124 hC (by decide) dX12_step_124 ?_
            refine r_get 125 hC fd_10_24 fl_X12_248 dX12_step_125 (fun v8 => ?_)
            refine r_iload_n 128 hC 1 rfl rfl dX12_step_128 ?_
            refine r_bipush 129 hC kb_25 dX12_step_129 ?_
            refine r_jn (P := fun j139 => ∀ (q9 : Int), Bk E C 6 M (r0, M0) 139 [(0, 30, x0), (1, 0, v1), (2, 0, v3), (3, 0, v4), (4, 0, q5)] [(0, q9), (0, v8), (30, x0)] M 0 0 (j139 q9)) ?_ (fun j139 hj139 => ?_)
            · intro q9
              refine r_iadd 139 hC dX12_step_139 ?_
              refine r_put 140 hC fd_10_24 fl_X12_248 dX12_step_140 (fun M10 => ?_)
              refine r_aload_n 143 hC 0 rfl (Or.inl (by decide)) rfl dX12_step_143 ?_
              refine r_get 144 hC fd_10_0 fl_X12_7 dX12_step_144 (fun v11 => ?_)
              refine r_iload_n 147 hC 3 rfl rfl dX12_step_147 ?_
              refine r_iload_n 148 hC 1 rfl rfl dX12_step_148 ?_
              refine r_iastore 149 hC dX12_step_149 (fun M12 => ?_)
              refine r_iconst 150 hC (r32c rfl) dX12_step_150 ?_
              refine r_istore 151 hC (by decide) dX12_step_151 (r_eqls (ls' := [(5, 0, 1), (0, 30, x0), (1, 0, v1), (2, 0, v3), (3, 0, v4), (4, 0, q5)]) rfl ?_)
              refine r_sub [1, 2, 3, 4, 5, 0] rfl (f_X12_step_L153_ok h0 hC hq (fun M18 => ?_) KF 1 M12)
              · refine r_aload_n 176 hC 0 rfl (Or.inl (by decide)) rfl dX12_step_176 ?_
                refine r_get 177 hC fd_10_0 fl_X12_7 dX12_step_177 (fun v19 => ?_)
                refine r_sipush 180 hC ks_2569 dX12_step_180 ?_
                refine r_dup2 183 hC ⟨by decide, by decide⟩ dX12_step_183 ?_
                refine r_iaload 184 hC dX12_step_184 (fun v20 => ?_)
                refine r_iconst 185 hC (r32c rfl) dX12_step_185 ?_
                refine r_iadd 186 hC dX12_step_186 ?_
                refine r_iastore 187 hC dX12_step_187 (fun M21 => ?_)
                refine r_aload_n 188 hC 0 rfl (Or.inl (by decide)) rfl dX12_step_188 ?_
                refine r_callVV 189 hC [] [] rfl vl_X12_163 rfl h0 (by decide) (Nat.le_of_ble_eq_true rfl) (by decide) (by decide) dX12_step_189 (t_X12_ahead x0 M21 h0) (fun M22 => ?_)
                refine r_aload_n 192 hC 0 rfl (Or.inl (by decide)) rfl dX12_step_192 ?_
                refine r_iload_n 193 hC 1 rfl rfl dX12_step_193 ?_
                refine r_iload_n 194 hC 3 rfl rfl dX12_step_194 ?_
                refine r_callVI 195 hC [(0, v1), (0, v4)] [] rfl vl_X12_251 rfl h0 (by decide) (Nat.le_of_ble_eq_true rfl) (by decide) (by decide) dX12_step_195 (t_X12_dayOrder x0 v1 v4 M22 h0) (fun v23 M24 => ?_)
                refine r_if_ne 198 hC (tgt := 203) (by decide) dX12_step_198 ?_ ?_
                · refine r_iload 203 hC 4 rfl dX12_step_203 ?_
                  refine r_jn (P := fun j228 => ∀ (M25 : Mem), Bk E C 6 M (r0, M0) 228 [(0, 30, x0), (1, 0, v1), (2, 0, v3), (3, 0, v4)] [] M25 0 0 (j228 M25)) ?_ (fun j228 hj228 => ?_)
                  · intro M25
                    refine r_iload_n 228 hC 1 rfl rfl dX12_step_228 ?_
                    refine r_bipush 229 hC kb_25 dX12_step_229 ?_
                    refine r_jn (P := fun j285 => ∀ (M26 : Mem), Bk E C 6 M (r0, M0) 285 [(0, 30, x0)] [] M26 0 0 (j285 M26)) ?_ (fun j285 hj285 => ?_)
                    · intro M26
                      refine r_aload_n 285 hC 0 rfl (Or.inl (by decide)) rfl dX12_step_285 ?_
                      refine r_bipush 286 hC kb_59 dX12_step_286 ?_
                      refine r_callVI 288 hC [(0, 59)] [] rfl vl_X12_220 rfl h0 (by decide) (Nat.le_of_ble_eq_true rfl) (by decide) (by decide) dX12_step_288 (t_X12_wantSign x0 59 M26 h0) (fun v27 M28 => ?_)
                      exact r_zreturn 291 hC hq (by decide) (by decide) dX12_step_291
                    refine r_icmp_ne 231 hC (tgt := 285) (by decide) dX12_step_231 ?_ ?_
                    · exact r_sub [0] rfl (hj285 M25)
                    · refine r_aload_n 234 hC 0 rfl (Or.inl (by decide)) rfl dX12_step_234 ?_
                      refine r_dup 235 hC (by decide) dX12_step_235 ?_
                      refine r_get 236 hC fd_10_23 fl_X12_245 dX12_step_236 (fun v29 => ?_)
                      refine r_iconst 239 hC (r32c rfl) dX12_step_239 ?_
                      refine r_isub 240 hC dX12_step_240 ?_
                      refine r_put 241 hC fd_10_23 fl_X12_245 dX12_step_241 (fun M30 => ?_)
                      refine r_aload_n 244 hC 0 rfl (Or.inl (by decide)) rfl dX12_step_244 ?_
                      refine r_get 245 hC fd_10_0 fl_X12_7 dX12_step_245 (fun v31 => ?_)
                      refine r_iload_n 248 hC 3 rfl rfl dX12_step_248 ?_
                      refine r_iconst 249 hC (r32c rfl) dX12_step_249 ?_
                      refine r_iadd 250 hC dX12_step_250 ?_
                      refine r_aload_n 251 hC 0 rfl (Or.inl (by decide)) rfl dX12_step_251 ?_
                      refine r_get 252 hC fd_10_22 fl_X12_47 dX12_step_252 (fun v32 => ?_)
                      refine r_aload_n 255 hC 0 rfl (Or.inl (by decide)) rfl dX12_step_255 ?_
                      refine r_get 256 hC fd_10_23 fl_X12_245 dX12_step_256 (fun v33 => ?_)
                      refine r_iaload 259 hC dX12_step_259 (fun v34 => ?_)
                      refine r_iastore 260 hC dX12_step_260 (fun M35 => ?_)
                      refine r_aload_n 261 hC 0 rfl (Or.inl (by decide)) rfl dX12_step_261 ?_
                      refine r_get 262 hC fd_10_0 fl_X12_7 dX12_step_262 (fun v36 => ?_)
                      refine r_sipush 265 hC ks_2830 dX12_step_265 ?_
                      refine r_bipush 268 hC kb_6 dX12_step_268 ?_
                      refine r_aload_n 270 hC 0 rfl (Or.inl (by decide)) rfl dX12_step_270 ?_
                      refine r_get 271 hC fd_10_22 fl_X12_47 dX12_step_271 (fun v37 => ?_)
                      refine r_aload_n 274 hC 0 rfl (Or.inl (by decide)) rfl dX12_step_274 ?_
                      refine r_get 275 hC fd_10_23 fl_X12_245 dX12_step_275 (fun v38 => ?_)
                      refine r_iaload 278 hC dX12_step_278 (fun v39 => ?_)
                      refine r_imul 279 hC dX12_step_279 ?_
                      refine r_iadd 280 hC dX12_step_280 ?_
                      refine r_iconst 281 hC (r32c rfl) dX12_step_281 ?_
                      refine r_iadd 282 hC dX12_step_282 ?_
                      refine r_iload_n 283 hC 2 rfl rfl dX12_step_283 ?_
                      refine r_iastore 284 hC dX12_step_284 (fun M40 => ?_)
                      exact r_sub [0] rfl (hj285 M40)
                  refine r_if_eq 205 hC (tgt := 228) (by decide) dX12_step_205 ?_ ?_
                  · exact r_sub [0, 1, 2, 3] rfl (hj228 M24)
                  · refine r_aload_n 208 hC 0 rfl (Or.inl (by decide)) rfl dX12_step_208 ?_
                    refine r_get 209 hC fd_10_22 fl_X12_47 dX12_step_209 (fun v41 => ?_)
                    refine r_aload_n 212 hC 0 rfl (Or.inl (by decide)) rfl dX12_step_212 ?_
                    refine r_get 213 hC fd_10_23 fl_X12_245 dX12_step_213 (fun v42 => ?_)
                    refine r_iload_n 216 hC 2 rfl rfl dX12_step_216 ?_
                    refine r_iastore 217 hC dX12_step_217 (fun M43 => ?_)
                    refine r_aload_n 218 hC 0 rfl (Or.inl (by decide)) rfl dX12_step_218 ?_
                    refine r_dup 219 hC (by decide) dX12_step_219 ?_
                    refine r_get 220 hC fd_10_23 fl_X12_245 dX12_step_220 (fun v44 => ?_)
                    refine r_iconst 223 hC (r32c rfl) dX12_step_223 ?_
                    refine r_iadd 224 hC dX12_step_224 ?_
                    refine r_put 225 hC fd_10_23 fl_X12_245 dX12_step_225 (fun M45 => ?_)
                    exact r_sub [0, 1, 2, 3] rfl (hj228 M45)
                · refine r_iconst 201 hC (r32c rfl) dX12_step_201 ?_
                  exact r_zreturn 202 hC hq (by decide) (by decide) dX12_step_202
            refine r_icmp_ne 131 hC (tgt := 138) (by decide) dX12_step_131 ?_ ?_
            · refine r_iconst 138 hC (r32c rfl) dX12_step_138 ?_
              exact hj139 1
            · refine r_iconst 134 hC (r32c rfl) dX12_step_134 ?_
              refine r_goto 135 hC (tgt := 139) (by decide) dX12_step_135 ?_
              exact hj139 0
          refine r_if_eq 105 hC (tgt := 123) (by decide) dX12_step_105 ?_ ?_
          · exact hj123
          · refine r_aload_n 108 hC 0 rfl (Or.inl (by decide)) rfl dX12_step_108 ?_
            refine r_get 109 hC fd_10_23 fl_X12_245 dX12_step_109 (fun v46 => ?_)
            refine r_iconst 112 hC (r32c rfl) dX12_step_112 ?_
            refine r_icmp_ne 113 hC (tgt := 123) (by decide) dX12_step_113 ?_ ?_
            · exact hj123
            · refine r_aload_n 116 hC 0 rfl (Or.inl (by decide)) rfl dX12_step_116 ?_
              refine r_bipush 117 hC kb_7 dX12_step_117 ?_
              refine r_callVI 119 hC [(0, 7)] [] rfl vl_X12_169 rfl h0 (by decide) (Nat.le_of_ble_eq_true rfl) (by decide) (by decide) dX12_step_119 (t_X12_fails x0 7 M h0) (fun v47 M48 => ?_)
              exact r_zreturn 122 hC hq (by decide) (by decide) dX12_step_122
        refine r_icmp_eq 84 hC (tgt := 103) (by decide) dX12_step_84 ?_ ?_
        · exact hj103
        · refine r_aload_n 87 hC 0 rfl (Or.inl (by decide)) rfl dX12_step_87 ?_
          refine r_get 88 hC fd_10_24 fl_X12_248 dX12_step_88 (fun v49 => ?_)
          refine r_bipush 91 hC kb_30 dX12_step_91 ?_
          refine r_icmp_ne 93 hC (tgt := 103) (by decide) dX12_step_93 ?_ ?_
          · exact hj103
          · refine r_aload_n 96 hC 0 rfl (Or.inl (by decide)) rfl dX12_step_96 ?_
            refine r_bipush 97 hC kb_6 dX12_step_97 ?_
            refine r_callVI 99 hC [(0, 6)] [] rfl vl_X12_169 rfl h0 (by decide) (Nat.le_of_ble_eq_true rfl) (by decide) (by decide) dX12_step_99 (t_X12_fails x0 6 M h0) (fun v50 M51 => ?_)
            exact r_zreturn 102 hC hq (by decide) (by decide) dX12_step_102
      refine r_icmp_ne 65 hC (tgt := 81) (by decide) dX12_step_65 ?_ ?_
      · exact hj81
      · refine r_aload_n 68 hC 0 rfl (Or.inl (by decide)) rfl dX12_step_68 ?_
        refine r_get 69 hC fd_10_23 fl_X12_245 dX12_step_69 (fun v52 => ?_)
        refine r_if_ne 72 hC (tgt := 81) (by decide) dX12_step_72 ?_ ?_
        · exact hj81
        · exact r_sub [0] rfl (hj75)
    refine r_icmp_eq 47 hC (tgt := 62) (by decide) dX12_step_47 ?_ ?_
    · exact r_sub [1, 2, 3, 4, 0] rfl (hj62)
    · refine r_iload_n 50 hC 2 rfl rfl dX12_step_50 ?_
      refine r_bipush 51 hC kb_16 dX12_step_51 ?_
      refine r_icmp_lt 53 hC (tgt := 75) (by decide) dX12_step_53 ?_ ?_
      · exact r_sub [1] rfl (hj75)
      · refine r_iload_n 56 hC 2 rfl rfl dX12_step_56 ?_
        refine r_bipush 57 hC kb_26 dX12_step_57 ?_
        refine r_icmp_gt 59 hC (tgt := 75) (by decide) dX12_step_59 ?_ ?_
        · exact r_sub [1] rfl (hj75)
        · exact r_sub [1, 2, 3, 4, 0] rfl (hj62)
  refine r_jn (P := fun j37 => Bk E C 6 M (r0, M0) 37 [(0, 30, x0), (1, 0, v1), (2, 0, v3), (3, 0, v4)] [] M 0 0 (j37)) ?_ (fun j37 hj37 => ?_)
  · refine r_iconst 37 hC (r32c rfl) dX12_step_37 ?_
    refine r_goto 38 hC (tgt := 42) (by decide) dX12_step_38 ?_
    exact hj42 1
  refine r_icmp_eq 28 hC (tgt := 37) (by decide) dX12_step_28 ?_ ?_
  · exact r_sub [3, 2, 1, 0] rfl (hj37)
  · refine r_iload_n 31 hC 2 rfl rfl dX12_step_31 ?_
    refine r_bipush 32 hC kb_24 dX12_step_32 ?_
    refine r_icmp_ne 34 hC (tgt := 41) (by decide) dX12_step_34 ?_ ?_
    · refine r_iconst 41 hC (r32c rfl) dX12_step_41 ?_
      exact r_sub [3, 2, 1, 0] rfl (hj42 0)
    · exact r_sub [3, 2, 1, 0] rfl (hj37)

/-! WaterTurnsModel.days(I)I -/
theorem dX12_days_0 : decode cX12_days 0 = .ok (.aload_n 0, 1) := by decide +kernel
theorem dX12_days_1 : decode cX12_days 1 = .ok (.iload_n 1, 1) := by decide +kernel
theorem dX12_days_2 : decode cX12_days 2 = .ok (.sipush 300, 3) := by decide +kernel
theorem dX12_days_5 : decode cX12_days 5 = .ok (.invokevirtual 223, 3) := by decide +kernel
theorem dX12_days_8 : decode cX12_days 8 = .ok (.ifCond .ne 9, 3) := by decide +kernel
theorem dX12_days_11 : decode cX12_days 11 = .ok (.aload_n 0, 1) := by decide +kernel
theorem dX12_days_12 : decode cX12_days 12 = .ok (.iconst 1, 1) := by decide +kernel
theorem dX12_days_13 : decode cX12_days 13 = .ok (.invokevirtual 87, 3) := by decide +kernel
theorem dX12_days_16 : decode cX12_days 16 = .ok (.ireturn, 1) := by decide +kernel
theorem dX12_days_17 : decode cX12_days 17 = .ok (.aload_n 0, 1) := by decide +kernel
theorem dX12_days_18 : decode cX12_days 18 = .ok (.getfield 7, 3) := by decide +kernel
theorem dX12_days_21 : decode cX12_days 21 = .ok (.sipush 2569, 3) := by decide +kernel
theorem dX12_days_24 : decode cX12_days 24 = .ok (.iconst 0, 1) := by decide +kernel
theorem dX12_days_25 : decode cX12_days 25 = .ok (.iastore, 1) := by decide +kernel
theorem dX12_days_26 : decode cX12_days 26 = .ok (.aload_n 0, 1) := by decide +kernel
theorem dX12_days_27 : decode cX12_days 27 = .ok (.iconst 0, 1) := by decide +kernel
theorem dX12_days_28 : decode cX12_days 28 = .ok (.putfield 245, 3) := by decide +kernel
theorem dX12_days_31 : decode cX12_days 31 = .ok (.aload_n 0, 1) := by decide +kernel
theorem dX12_days_32 : decode cX12_days 32 = .ok (.iconst 0, 1) := by decide +kernel
theorem dX12_days_33 : decode cX12_days 33 = .ok (.putfield 248, 3) := by decide +kernel
theorem dX12_days_36 : decode cX12_days 36 = .ok (.iconst 1, 1) := by decide +kernel
theorem dX12_days_37 : decode cX12_days 37 = .ok (.istore_n 2, 1) := by decide +kernel
theorem dX12_days_38 : decode cX12_days 38 = .ok (.iload_n 2, 1) := by decide +kernel
theorem dX12_days_39 : decode cX12_days 39 = .ok (.ifCond .eq 18, 3) := by decide +kernel
theorem dX12_days_42 : decode cX12_days 42 = .ok (.aload_n 0, 1) := by decide +kernel
theorem dX12_days_43 : decode cX12_days 43 = .ok (.getfield 132, 3) := by decide +kernel
theorem dX12_days_46 : decode cX12_days 46 = .ok (.ifCond .eq 11, 3) := by decide +kernel
theorem dX12_days_49 : decode cX12_days 49 = .ok (.aload_n 0, 1) := by decide +kernel
theorem dX12_days_50 : decode cX12_days 50 = .ok (.invokevirtual 254, 3) := by decide +kernel
theorem dX12_days_53 : decode cX12_days 53 = .ok (.istore_n 2, 1) := by decide +kernel
theorem dX12_days_54 : decode cX12_days 54 = .ok (.goto (-16), 3) := by decide +kernel
theorem dX12_days_57 : decode cX12_days 57 = .ok (.aload_n 0, 1) := by decide +kernel
theorem dX12_days_58 : decode cX12_days 58 = .ok (.getfield 157, 3) := by decide +kernel
theorem dX12_days_61 : decode cX12_days 61 = .ok (.ifCond .ne 16, 3) := by decide +kernel
theorem dX12_days_64 : decode cX12_days 64 = .ok (.aload_n 0, 1) := by decide +kernel
theorem dX12_days_65 : decode cX12_days 65 = .ok (.getfield 245, 3) := by decide +kernel
theorem dX12_days_68 : decode cX12_days 68 = .ok (.ifCond .le 9, 3) := by decide +kernel
theorem dX12_days_71 : decode cX12_days 71 = .ok (.aload_n 0, 1) := by decide +kernel
theorem dX12_days_72 : decode cX12_days 72 = .ok (.iconst 2, 1) := by decide +kernel
theorem dX12_days_73 : decode cX12_days 73 = .ok (.invokevirtual 169, 3) := by decide +kernel
theorem dX12_days_76 : decode cX12_days 76 = .ok (.pop, 1) := by decide +kernel
theorem dX12_days_77 : decode cX12_days 77 = .ok (.aload_n 0, 1) := by decide +kernel
theorem dX12_days_78 : decode cX12_days 78 = .ok (.getfield 157, 3) := by decide +kernel
theorem dX12_days_81 : decode cX12_days 81 = .ok (.ifCond .ne 51, 3) := by decide +kernel
theorem dX12_days_84 : decode cX12_days 84 = .ok (.aload_n 0, 1) := by decide +kernel
theorem dX12_days_85 : decode cX12_days 85 = .ok (.getfield 7, 3) := by decide +kernel
theorem dX12_days_88 : decode cX12_days 88 = .ok (.bipush 9, 2) := by decide +kernel
theorem dX12_days_90 : decode cX12_days 90 = .ok (.aload_n 0, 1) := by decide +kernel
theorem dX12_days_91 : decode cX12_days 91 = .ok (.getfield 7, 3) := by decide +kernel
theorem dX12_days_94 : decode cX12_days 94 = .ok (.sipush 2569, 3) := by decide +kernel
theorem dX12_days_97 : decode cX12_days 97 = .ok (.iaload, 1) := by decide +kernel
theorem dX12_days_98 : decode cX12_days 98 = .ok (.iastore, 1) := by decide +kernel
theorem dX12_days_99 : decode cX12_days 99 = .ok (.sipush 270, 3) := by decide +kernel
theorem dX12_days_102 : decode cX12_days 102 = .ok (.istore_n 3, 1) := by decide +kernel
theorem dX12_days_103 : decode cX12_days 103 = .ok (.iload_n 3, 1) := by decide +kernel
theorem dX12_days_104 : decode cX12_days 104 = .ok (.sipush 640, 3) := by decide +kernel
theorem dX12_days_107 : decode cX12_days 107 = .ok (.if_icmp .ge 25, 3) := by decide +kernel
theorem dX12_days_110 : decode cX12_days 110 = .ok (.aload_n 0, 1) := by decide +kernel
theorem dX12_days_111 : decode cX12_days 111 = .ok (.getfield 7, 3) := by decide +kernel
theorem dX12_days_114 : decode cX12_days 114 = .ok (.iload_n 3, 1) := by decide +kernel
theorem dX12_days_115 : decode cX12_days 115 = .ok (.aload_n 0, 1) := by decide +kernel
theorem dX12_days_116 : decode cX12_days 116 = .ok (.getfield 7, 3) := by decide +kernel
theorem dX12_days_119 : decode cX12_days 119 = .ok (.sipush 2560, 3) := by decide +kernel
theorem dX12_days_122 : decode cX12_days 122 = .ok (.iload_n 3, 1) := by decide +kernel
theorem dX12_days_123 : decode cX12_days 123 = .ok (.iadd, 1) := by decide +kernel
theorem dX12_days_124 : decode cX12_days 124 = .ok (.iaload, 1) := by decide +kernel
theorem dX12_days_125 : decode cX12_days 125 = .ok (.iastore, 1) := by decide +kernel
theorem dX12_days_126 : decode cX12_days 126 = .ok (.iinc 3 1, 3) := by decide +kernel
theorem dX12_days_129 : decode cX12_days 129 = .ok (.goto (-26), 3) := by decide +kernel
theorem dX12_days_132 : decode cX12_days 132 = .ok (.aload_n 0, 1) := by decide +kernel
theorem dX12_days_133 : decode cX12_days 133 = .ok (.aload_n 0, 1) := by decide +kernel
theorem dX12_days_134 : decode cX12_days 134 = .ok (.getfield 248, 3) := by decide +kernel
theorem dX12_days_137 : decode cX12_days 137 = .ok (.invokevirtual 233, 3) := by decide +kernel
theorem dX12_days_140 : decode cX12_days 140 = .ok (.ireturn, 1) := by decide +kernel
set_option maxRecDepth 100000 in
theorem f_X12_days_L38_ok {E : EnvT} {C : Cx} {Mi : Mem} {x0 : Int} (h0 : x0 ≠ 0) (hC : CxOK E C cX12_days 4 yX12_days.cls 13 0 0) {r0 : Int} {M0 : Mem} (hq : RQ E C 0 0 Mi (some .int) (some (0, r0)) M0) {k : Mem → Option (Int × Mem)} (hk : ∀ M12, Bk E C 4 Mi (r0, M0) 57 [(0, 30, x0)] [] M12 0 0 (k M12)) : ∀ (n : Nat) (p7 : Int) (M8 : Mem), Bk E C 4 Mi (r0, M0) 38 [(0, 30, x0), (2, 0, p7)] [] M8 0 0 (f_X12_days_L38 x0 k n p7 M8) := by
  intro n
  induction n with
  | zero =>
    intro p7 M8
    exact r_none
  | succ n ih =>
    intro p7 M8
    rw [f_X12_days_L38]
    refine r_iload_n 38 hC 1 rfl rfl dX12_days_38 ?_
    refine r_if_eq 39 hC (tgt := 57) (by decide) dX12_days_39 ?_ ?_
    · exact r_sub [0] rfl (hk M8)
    · refine r_aload_n 42 hC 0 rfl (Or.inl (by decide)) rfl dX12_days_42 ?_
      refine r_get 43 hC fd_10_12 fl_X12_132 dX12_days_43 (fun v9 => ?_)
      refine r_if_eq 46 hC (tgt := 57) (by decide) dX12_days_46 ?_ ?_
      · exact r_sub [0] rfl (hk M8)
      · refine r_aload_n 49 hC 0 rfl (Or.inl (by decide)) rfl dX12_days_49 ?_
        refine r_callVI 50 hC [] [] rfl vl_X12_254 rfl h0 (by decide) (Nat.le_of_ble_eq_true rfl) (by decide) (by decide) dX12_days_50 (t_X12_step x0 M8 h0) (fun v10 M11 => ?_)
        refine r_istore_n 53 hC rfl (by decide) dX12_days_53 (r_eqls (ls' := [(2, 0, v10), (0, 30, x0)]) rfl ?_)
        refine r_goto 54 hC (tgt := 38) (by decide) dX12_days_54 ?_
        exact r_sub [1, 0] rfl (ih v10 M11)
set_option maxRecDepth 100000 in
theorem f_X12_days_L103_ok {E : EnvT} {C : Cx} {Mi : Mem} {x0 : Int} (h0 : x0 ≠ 0) (hC : CxOK E C cX12_days 4 yX12_days.cls 13 0 0) {r0 : Int} {M0 : Mem} (hq : RQ E C 0 0 Mi (some .int) (some (0, r0)) M0) {k : Mem → Option (Int × Mem)} (hk : ∀ M31, Bk E C 4 Mi (r0, M0) 132 [(0, 30, x0)] [] M31 0 0 (k M31)) : ∀ (n : Nat) (p25 : Int) (M26 : Mem), Bk E C 4 Mi (r0, M0) 103 [(0, 30, x0), (3, 0, p25)] [] M26 0 0 (f_X12_days_L103 x0 k n p25 M26) := by
  intro n
  induction n with
  | zero =>
    intro p25 M26
    exact r_none
  | succ n ih =>
    intro p25 M26
    rw [f_X12_days_L103]
    refine r_iload_n 103 hC 1 rfl rfl dX12_days_103 ?_
    refine r_sipush 104 hC ks_640 dX12_days_104 ?_
    refine r_icmp_ge 107 hC (tgt := 132) (by decide) dX12_days_107 ?_ ?_
    · exact r_sub [0] rfl (hk M26)
    · refine r_aload_n 110 hC 0 rfl (Or.inl (by decide)) rfl dX12_days_110 ?_
      refine r_get 111 hC fd_10_0 fl_X12_7 dX12_days_111 (fun v27 => ?_)
      refine r_iload_n 114 hC 1 rfl rfl dX12_days_114 ?_
      refine r_aload_n 115 hC 0 rfl (Or.inl (by decide)) rfl dX12_days_115 ?_
      refine r_get 116 hC fd_10_0 fl_X12_7 dX12_days_116 (fun v28 => ?_)
      refine r_sipush 119 hC ks_2560 dX12_days_119 ?_
      refine r_iload_n 122 hC 1 rfl rfl dX12_days_122 ?_
      refine r_iadd 123 hC dX12_days_123 ?_
      refine r_iaload 124 hC dX12_days_124 (fun v29 => ?_)
      refine r_iastore 125 hC dX12_days_125 (fun M30 => ?_)
      refine r_iinc 126 hC 1 rfl (by decide) dX12_days_126 (r_eqls (ls' := [(3, 0, w32 (p25 + 1)), (0, 30, x0)]) rfl ?_)
      refine r_goto 129 hC (tgt := 103) (by decide) dX12_days_129 ?_
      exact r_sub [1, 0] rfl (ih (w32 (p25 + 1)) M30)
set_option maxRecDepth 100000 in
theorem t_X12_days (x0 x1 : Int) (M : Mem) (h0 : x0 ≠ 0) : MtI yX12_days cX12_days 4 (some .int) 13 0 0 [(30, x0), (0, x1)] M 0 (f_X12_days x0 x1 M) := by
  refine mk_I (by decide +kernel) (Nat.le_of_ble_eq_true rfl) (fun E C r0 M0 hC hq hin => ?_)
  refine r_eqls (ls' := [(0, 30, x0), (1, 0, x1)]) rfl ?_
  unfold f_X12_days
  refine r_aload_n 0 hC 0 rfl (Or.inl (by decide)) rfl dX12_days_0 ?_
  refine r_iload_n 1 hC 1 rfl rfl dX12_days_1 ?_
  refine r_sipush 2 hC ks_300 dX12_days_2 ?_
  refine r_callVI 5 hC [(0, x1), (0, 300)] [] rfl vl_X12_223 rfl h0 (by decide) (Nat.le_of_ble_eq_true rfl) (by decide) (by decide) dX12_days_5 (t_X12_begins x0 x1 300 M h0) (fun v1 M2 => ?_)
  refine r_if_ne 8 hC (tgt := 17) (by decide) dX12_days_8 ?_ ?_
  · refine r_aload_n 17 hC 0 rfl (Or.inl (by decide)) rfl dX12_days_17 ?_
    refine r_get 18 hC fd_10_0 fl_X12_7 dX12_days_18 (fun v3 => ?_)
    refine r_sipush 21 hC ks_2569 dX12_days_21 ?_
    refine r_iconst 24 hC (r32c rfl) dX12_days_24 ?_
    refine r_iastore 25 hC dX12_days_25 (fun M4 => ?_)
    refine r_aload_n 26 hC 0 rfl (Or.inl (by decide)) rfl dX12_days_26 ?_
    refine r_iconst 27 hC (r32c rfl) dX12_days_27 ?_
    refine r_put 28 hC fd_10_23 fl_X12_245 dX12_days_28 (fun M5 => ?_)
    refine r_aload_n 31 hC 0 rfl (Or.inl (by decide)) rfl dX12_days_31 ?_
    refine r_iconst 32 hC (r32c rfl) dX12_days_32 ?_
    refine r_put 33 hC fd_10_24 fl_X12_248 dX12_days_33 (fun M6 => ?_)
    refine r_iconst 36 hC (r32c rfl) dX12_days_36 ?_
    refine r_istore_n 37 hC rfl (by decide) dX12_days_37 (r_eqls (ls' := [(2, 0, 1), (0, 30, x0), (1, 0, x1)]) rfl ?_)
    refine r_sub [1, 0] rfl (f_X12_days_L38_ok h0 hC hq (fun M13 => ?_) KF 1 M6)
    · refine r_aload_n 57 hC 0 rfl (Or.inl (by decide)) rfl dX12_days_57 ?_
      refine r_get 58 hC fd_10_18 fl_X12_157 dX12_days_58 (fun v14 => ?_)
      refine r_jn (P := fun j77 => ∀ (M15 : Mem), Bk E C 4 M (r0, M0) 77 [(0, 30, x0)] [] M15 0 0 (j77 M15)) ?_ (fun j77 hj77 => ?_)
      · intro M15
        refine r_aload_n 77 hC 0 rfl (Or.inl (by decide)) rfl dX12_days_77 ?_
        refine r_get 78 hC fd_10_18 fl_X12_157 dX12_days_78 (fun v16 => ?_)
        refine r_jn (P := fun j132 => ∀ (M17 : Mem), Bk E C 4 M (r0, M0) 132 [(0, 30, x0)] [] M17 0 0 (j132 M17)) ?_ (fun j132 hj132 => ?_)
        · intro M17
          refine r_aload_n 132 hC 0 rfl (Or.inl (by decide)) rfl dX12_days_132 ?_
          refine r_aload_n 133 hC 0 rfl (Or.inl (by decide)) rfl dX12_days_133 ?_
          refine r_get 134 hC fd_10_24 fl_X12_248 dX12_days_134 (fun v18 => ?_)
          refine r_callVI 137 hC [(0, v18)] [] rfl vl_X12_233 rfl h0 (by decide) (Nat.le_of_ble_eq_true rfl) (by decide) (by decide) dX12_days_137 (t_X12_taken x0 v18 M17 h0) (fun v19 M20 => ?_)
          exact r_ireturn 140 hC hq (by decide) (by decide) dX12_days_140
        refine r_if_ne 81 hC (tgt := 132) (by decide) dX12_days_81 ?_ ?_
        · exact hj132 M15
        · refine r_aload_n 84 hC 0 rfl (Or.inl (by decide)) rfl dX12_days_84 ?_
          refine r_get 85 hC fd_10_0 fl_X12_7 dX12_days_85 (fun v21 => ?_)
          refine r_bipush 88 hC kb_9 dX12_days_88 ?_
          refine r_aload_n 90 hC 0 rfl (Or.inl (by decide)) rfl dX12_days_90 ?_
          refine r_get 91 hC fd_10_0 fl_X12_7 dX12_days_91 (fun v22 => ?_)
          refine r_sipush 94 hC ks_2569 dX12_days_94 ?_
          refine r_iaload 97 hC dX12_days_97 (fun v23 => ?_)
          refine r_iastore 98 hC dX12_days_98 (fun M24 => ?_)
          refine r_sipush 99 hC ks_270 dX12_days_99 ?_
          refine r_istore_n 102 hC rfl (by decide) dX12_days_102 (r_eqls (ls' := [(3, 0, 270), (0, 30, x0)]) rfl ?_)
          refine r_sub [1, 0] rfl (f_X12_days_L103_ok h0 hC hq (fun M32 => ?_) KF 270 M24)
          · exact hj132 M32
      refine r_if_ne 61 hC (tgt := 77) (by decide) dX12_days_61 ?_ ?_
      · exact hj77 M13
      · refine r_aload_n 64 hC 0 rfl (Or.inl (by decide)) rfl dX12_days_64 ?_
        refine r_get 65 hC fd_10_23 fl_X12_245 dX12_days_65 (fun v33 => ?_)
        refine r_if_le 68 hC (tgt := 77) (by decide) dX12_days_68 ?_ ?_
        · exact hj77 M13
        · refine r_aload_n 71 hC 0 rfl (Or.inl (by decide)) rfl dX12_days_71 ?_
          refine r_iconst 72 hC (r32c rfl) dX12_days_72 ?_
          refine r_callVI 73 hC [(0, 2)] [] rfl vl_X12_169 rfl h0 (by decide) (Nat.le_of_ble_eq_true rfl) (by decide) (by decide) dX12_days_73 (t_X12_fails x0 2 M13 h0) (fun v34 M35 => ?_)
          refine r_pop 76 hC (by decide) dX12_days_76 ?_
          exact hj77 M35
  · refine r_aload_n 11 hC 0 rfl (Or.inl (by decide)) rfl dX12_days_11 ?_
    refine r_iconst 12 hC (r32c rfl) dX12_days_12 ?_
    refine r_callVI 13 hC [(0, 1)] [] rfl vl_X12_87 rfl h0 (by decide) (Nat.le_of_ble_eq_true rfl) (by decide) (by decide) dX12_days_13 (t_X12_refuse x0 1 M2 h0) (fun v36 M37 => ?_)
    exact r_ireturn 16 hC hq (by decide) (by decide) dX12_days_16

/-! WaterTurnsModel.isReach(I)Z -/
theorem dX12_isReach_0 : decode cX12_isReach 0 = .ok (.iload_n 1, 1) := by decide +kernel
theorem dX12_isReach_1 : decode cX12_isReach 1 = .ok (.ifCond .lt 17, 3) := by decide +kernel
theorem dX12_isReach_4 : decode cX12_isReach 4 = .ok (.iload_n 1, 1) := by decide +kernel
theorem dX12_isReach_5 : decode cX12_isReach 5 = .ok (.aload_n 0, 1) := by decide +kernel
theorem dX12_isReach_6 : decode cX12_isReach 6 = .ok (.getfield 7, 3) := by decide +kernel
theorem dX12_isReach_9 : decode cX12_isReach 9 = .ok (.iconst 3, 1) := by decide +kernel
theorem dX12_isReach_10 : decode cX12_isReach 10 = .ok (.iaload, 1) := by decide +kernel
theorem dX12_isReach_11 : decode cX12_isReach 11 = .ok (.if_icmp .ge 7, 3) := by decide +kernel
theorem dX12_isReach_14 : decode cX12_isReach 14 = .ok (.iconst 1, 1) := by decide +kernel
theorem dX12_isReach_15 : decode cX12_isReach 15 = .ok (.goto 4, 3) := by decide +kernel
theorem dX12_isReach_18 : decode cX12_isReach 18 = .ok (.iconst 0, 1) := by decide +kernel
theorem dX12_isReach_19 : decode cX12_isReach 19 = .ok (.ireturn, 1) := by decide +kernel
set_option maxRecDepth 100000 in
theorem t_X12_isReach (x0 x1 : Int) (M : Mem) (h0 : x0 ≠ 0) : MtP yX12_isReach cX12_isReach 2 (some .boolean) 1 0 0 [(30, x0), (0, x1)] M 0 (f_X12_isReach x0 x1 M) := by
  refine mk_P (by decide +kernel) (Nat.le_of_ble_eq_true rfl) (fun E C r0 hC hq hin => ?_)
  refine r_eqls (ls' := [(0, 30, x0), (1, 0, x1)]) rfl ?_
  unfold f_X12_isReach
  refine r_iload_n 0 hC 1 rfl rfl dX12_isReach_0 ?_
  refine r_jn (P := fun j19 => ∀ (q1 : Int), Bk E C 2 M r0 19 [] [(0, q1)] M 0 0 (j19 q1)) ?_ (fun j19 hj19 => ?_)
  · intro q1
    exact r_zreturnP 19 hC hq (by decide) (by decide) dX12_isReach_19
  refine r_jn (P := fun j18 => Bk E C 2 M r0 18 [] [] M 0 0 (j18)) ?_ (fun j18 hj18 => ?_)
  · refine r_iconst 18 hC (r32c rfl) dX12_isReach_18 ?_
    exact hj19 0
  refine r_if_lt 1 hC (tgt := 18) (by decide) dX12_isReach_1 ?_ ?_
  · exact r_sub [] rfl (hj18)
  · refine r_iload_n 4 hC 1 rfl rfl dX12_isReach_4 ?_
    refine r_aload_n 5 hC 0 rfl (Or.inl (by decide)) rfl dX12_isReach_5 ?_
    refine r_get 6 hC fd_10_0 fl_X12_7 dX12_isReach_6 (fun v2 => ?_)
    refine r_iconst 9 hC (r32c rfl) dX12_isReach_9 ?_
    refine r_iaload 10 hC dX12_isReach_10 (fun v3 => ?_)
    refine r_icmp_ge 11 hC (tgt := 18) (by decide) dX12_isReach_11 ?_ ?_
    · exact r_sub [] rfl (hj18)
    · refine r_iconst 14 hC (r32c rfl) dX12_isReach_14 ?_
      refine r_goto 15 hC (tgt := 19) (by decide) dX12_isReach_15 ?_
      exact r_sub [] rfl (hj19 1)

/-! WaterTurnsModel.isField(I)Z -/
theorem dX12_isField_0 : decode cX12_isField 0 = .ok (.iload_n 1, 1) := by decide +kernel
theorem dX12_isField_1 : decode cX12_isField 1 = .ok (.ifCond .lt 17, 3) := by decide +kernel
theorem dX12_isField_4 : decode cX12_isField 4 = .ok (.iload_n 1, 1) := by decide +kernel
theorem dX12_isField_5 : decode cX12_isField 5 = .ok (.aload_n 0, 1) := by decide +kernel
theorem dX12_isField_6 : decode cX12_isField 6 = .ok (.getfield 7, 3) := by decide +kernel
theorem dX12_isField_9 : decode cX12_isField 9 = .ok (.iconst 5, 1) := by decide +kernel
theorem dX12_isField_10 : decode cX12_isField 10 = .ok (.iaload, 1) := by decide +kernel
theorem dX12_isField_11 : decode cX12_isField 11 = .ok (.if_icmp .ge 7, 3) := by decide +kernel
theorem dX12_isField_14 : decode cX12_isField 14 = .ok (.iconst 1, 1) := by decide +kernel
theorem dX12_isField_15 : decode cX12_isField 15 = .ok (.goto 4, 3) := by decide +kernel
theorem dX12_isField_18 : decode cX12_isField 18 = .ok (.iconst 0, 1) := by decide +kernel
theorem dX12_isField_19 : decode cX12_isField 19 = .ok (.ireturn, 1) := by decide +kernel
set_option maxRecDepth 100000 in
theorem t_X12_isField (x0 x1 : Int) (M : Mem) (h0 : x0 ≠ 0) : MtP yX12_isField cX12_isField 2 (some .boolean) 1 0 0 [(30, x0), (0, x1)] M 0 (f_X12_isField x0 x1 M) := by
  refine mk_P (by decide +kernel) (Nat.le_of_ble_eq_true rfl) (fun E C r0 hC hq hin => ?_)
  refine r_eqls (ls' := [(0, 30, x0), (1, 0, x1)]) rfl ?_
  unfold f_X12_isField
  refine r_iload_n 0 hC 1 rfl rfl dX12_isField_0 ?_
  refine r_jn (P := fun j19 => ∀ (q1 : Int), Bk E C 2 M r0 19 [] [(0, q1)] M 0 0 (j19 q1)) ?_ (fun j19 hj19 => ?_)
  · intro q1
    exact r_zreturnP 19 hC hq (by decide) (by decide) dX12_isField_19
  refine r_jn (P := fun j18 => Bk E C 2 M r0 18 [] [] M 0 0 (j18)) ?_ (fun j18 hj18 => ?_)
  · refine r_iconst 18 hC (r32c rfl) dX12_isField_18 ?_
    exact hj19 0
  refine r_if_lt 1 hC (tgt := 18) (by decide) dX12_isField_1 ?_ ?_
  · exact r_sub [] rfl (hj18)
  · refine r_iload_n 4 hC 1 rfl rfl dX12_isField_4 ?_
    refine r_aload_n 5 hC 0 rfl (Or.inl (by decide)) rfl dX12_isField_5 ?_
    refine r_get 6 hC fd_10_0 fl_X12_7 dX12_isField_6 (fun v2 => ?_)
    refine r_iconst 9 hC (r32c rfl) dX12_isField_9 ?_
    refine r_iaload 10 hC dX12_isField_10 (fun v3 => ?_)
    refine r_icmp_ge 11 hC (tgt := 18) (by decide) dX12_isField_11 ?_ ?_
    · exact r_sub [] rfl (hj18)
    · refine r_iconst 14 hC (r32c rfl) dX12_isField_14 ?_
      refine r_goto 15 hC (tgt := 19) (by decide) dX12_isField_15 ?_
      exact r_sub [] rfl (hj19 1)

/-! WaterTurnsModel.ofReach(II)I -/
theorem dX12_ofReach_0 : decode cX12_ofReach 0 = .ok (.aload_n 0, 1) := by decide +kernel
theorem dX12_ofReach_1 : decode cX12_ofReach 1 = .ok (.getfield 7, 3) := by decide +kernel
theorem dX12_ofReach_4 : decode cX12_ofReach 4 = .ok (.bipush 12, 2) := by decide +kernel
theorem dX12_ofReach_6 : decode cX12_ofReach 6 = .ok (.bipush 6, 2) := by decide +kernel
theorem dX12_ofReach_8 : decode cX12_ofReach 8 = .ok (.iload_n 1, 1) := by decide +kernel
theorem dX12_ofReach_9 : decode cX12_ofReach 9 = .ok (.imul, 1) := by decide +kernel
theorem dX12_ofReach_10 : decode cX12_ofReach 10 = .ok (.iadd, 1) := by decide +kernel
theorem dX12_ofReach_11 : decode cX12_ofReach 11 = .ok (.iload_n 2, 1) := by decide +kernel
theorem dX12_ofReach_12 : decode cX12_ofReach 12 = .ok (.iadd, 1) := by decide +kernel
theorem dX12_ofReach_13 : decode cX12_ofReach 13 = .ok (.iaload, 1) := by decide +kernel
theorem dX12_ofReach_14 : decode cX12_ofReach 14 = .ok (.ireturn, 1) := by decide +kernel
set_option maxRecDepth 100000 in
theorem t_X12_ofReach (x0 x1 x2 : Int) (M : Mem) (h0 : x0 ≠ 0) : MtP yX12_ofReach cX12_ofReach 3 (some .int) 1 0 0 [(30, x0), (0, x1), (0, x2)] M 0 (f_X12_ofReach x0 x1 x2 M) := by
  refine mk_P (by decide +kernel) (Nat.le_of_ble_eq_true rfl) (fun E C r0 hC hq hin => ?_)
  refine r_eqls (ls' := [(0, 30, x0), (1, 0, x1), (2, 0, x2)]) rfl ?_
  unfold f_X12_ofReach
  refine r_aload_n 0 hC 0 rfl (Or.inl (by decide)) rfl dX12_ofReach_0 ?_
  refine r_get 1 hC fd_10_0 fl_X12_7 dX12_ofReach_1 (fun v1 => ?_)
  refine r_bipush 4 hC kb_12 dX12_ofReach_4 ?_
  refine r_bipush 6 hC kb_6 dX12_ofReach_6 ?_
  refine r_iload_n 8 hC 1 rfl rfl dX12_ofReach_8 ?_
  refine r_imul 9 hC dX12_ofReach_9 ?_
  refine r_iadd 10 hC dX12_ofReach_10 ?_
  refine r_iload_n 11 hC 2 rfl rfl dX12_ofReach_11 ?_
  refine r_iadd 12 hC dX12_ofReach_12 ?_
  refine r_iaload 13 hC dX12_ofReach_13 (fun v2 => ?_)
  exact r_ireturnP 14 hC hq (by decide) (by decide) dX12_ofReach_14

/-! WaterTurnsModel.ofField(II)I -/
theorem dX12_ofField_0 : decode cX12_ofField 0 = .ok (.aload_n 0, 1) := by decide +kernel
theorem dX12_ofField_1 : decode cX12_ofField 1 = .ok (.getfield 7, 3) := by decide +kernel
theorem dX12_ofField_4 : decode cX12_ofField 4 = .ok (.bipush 72, 2) := by decide +kernel
theorem dX12_ofField_6 : decode cX12_ofField 6 = .ok (.iconst 4, 1) := by decide +kernel
theorem dX12_ofField_7 : decode cX12_ofField 7 = .ok (.iload_n 1, 1) := by decide +kernel
theorem dX12_ofField_8 : decode cX12_ofField 8 = .ok (.imul, 1) := by decide +kernel
theorem dX12_ofField_9 : decode cX12_ofField 9 = .ok (.iadd, 1) := by decide +kernel
theorem dX12_ofField_10 : decode cX12_ofField 10 = .ok (.iload_n 2, 1) := by decide +kernel
theorem dX12_ofField_11 : decode cX12_ofField 11 = .ok (.iadd, 1) := by decide +kernel
theorem dX12_ofField_12 : decode cX12_ofField 12 = .ok (.iaload, 1) := by decide +kernel
theorem dX12_ofField_13 : decode cX12_ofField 13 = .ok (.ireturn, 1) := by decide +kernel
set_option maxRecDepth 100000 in
theorem t_X12_ofField (x0 x1 x2 : Int) (M : Mem) (h0 : x0 ≠ 0) : MtP yX12_ofField cX12_ofField 3 (some .int) 1 0 0 [(30, x0), (0, x1), (0, x2)] M 0 (f_X12_ofField x0 x1 x2 M) := by
  refine mk_P (by decide +kernel) (Nat.le_of_ble_eq_true rfl) (fun E C r0 hC hq hin => ?_)
  refine r_eqls (ls' := [(0, 30, x0), (1, 0, x1), (2, 0, x2)]) rfl ?_
  unfold f_X12_ofField
  refine r_aload_n 0 hC 0 rfl (Or.inl (by decide)) rfl dX12_ofField_0 ?_
  refine r_get 1 hC fd_10_0 fl_X12_7 dX12_ofField_1 (fun v1 => ?_)
  refine r_bipush 4 hC kb_72 dX12_ofField_4 ?_
  refine r_iconst 6 hC (r32c rfl) dX12_ofField_6 ?_
  refine r_iload_n 7 hC 1 rfl rfl dX12_ofField_7 ?_
  refine r_imul 8 hC dX12_ofField_8 ?_
  refine r_iadd 9 hC dX12_ofField_9 ?_
  refine r_iload_n 10 hC 2 rfl rfl dX12_ofField_10 ?_
  refine r_iadd 11 hC dX12_ofField_11 ?_
  refine r_iaload 12 hC dX12_ofField_12 (fun v2 => ?_)
  exact r_ireturnP 13 hC hq (by decide) (by decide) dX12_ofField_13

/-! WaterTurnsModel.told(I)I -/
theorem dX12_told_0 : decode cX12_told 0 = .ok (.iload_n 1, 1) := by decide +kernel
theorem dX12_told_1 : decode cX12_told 1 = .ok (.ifCond .lt 9, 3) := by decide +kernel
theorem dX12_told_4 : decode cX12_told 4 = .ok (.iload_n 1, 1) := by decide +kernel
theorem dX12_told_5 : decode cX12_told 5 = .ok (.bipush 8, 2) := by decide +kernel
theorem dX12_told_7 : decode cX12_told 7 = .ok (.if_icmp .le 11, 3) := by decide +kernel
theorem dX12_told_10 : decode cX12_told 10 = .ok (.aload_n 0, 1) := by decide +kernel
theorem dX12_told_11 : decode cX12_told 11 = .ok (.iconst 1, 1) := by decide +kernel
theorem dX12_told_12 : decode cX12_told 12 = .ok (.invokevirtual 87, 3) := by decide +kernel
theorem dX12_told_15 : decode cX12_told 15 = .ok (.goto 13, 3) := by decide +kernel
theorem dX12_told_18 : decode cX12_told 18 = .ok (.aload_n 0, 1) := by decide +kernel
theorem dX12_told_19 : decode cX12_told 19 = .ok (.aload_n 0, 1) := by decide +kernel
theorem dX12_told_20 : decode cX12_told 20 = .ok (.getfield 7, 3) := by decide +kernel
theorem dX12_told_23 : decode cX12_told 23 = .ok (.iload_n 1, 1) := by decide +kernel
theorem dX12_told_24 : decode cX12_told 24 = .ok (.iaload, 1) := by decide +kernel
theorem dX12_told_25 : decode cX12_told 25 = .ok (.invokevirtual 91, 3) := by decide +kernel
theorem dX12_told_28 : decode cX12_told 28 = .ok (.ireturn, 1) := by decide +kernel
set_option maxRecDepth 100000 in
theorem t_X12_told (x0 x1 : Int) (M : Mem) (h0 : x0 ≠ 0) : MtI yX12_told cX12_told 2 (some .int) 2 0 0 [(30, x0), (0, x1)] M 0 (f_X12_told x0 x1 M) := by
  refine mk_I (by decide +kernel) (Nat.le_of_ble_eq_true rfl) (fun E C r0 M0 hC hq hin => ?_)
  refine r_eqls (ls' := [(0, 30, x0), (1, 0, x1)]) rfl ?_
  unfold f_X12_told
  refine r_iload_n 0 hC 1 rfl rfl dX12_told_0 ?_
  refine r_jn (P := fun j28 => ∀ (q1 : Int) (M2 : Mem), Bk E C 2 M (r0, M0) 28 [] [(0, q1)] M2 0 0 (j28 q1 M2)) ?_ (fun j28 hj28 => ?_)
  · intro q1 M2
    exact r_ireturn 28 hC hq (by decide) (by decide) dX12_told_28
  refine r_jn (P := fun j10 => Bk E C 2 M (r0, M0) 10 [(0, 30, x0)] [] M 0 0 (j10)) ?_ (fun j10 hj10 => ?_)
  · refine r_aload_n 10 hC 0 rfl (Or.inl (by decide)) rfl dX12_told_10 ?_
    refine r_iconst 11 hC (r32c rfl) dX12_told_11 ?_
    refine r_callVI 12 hC [(0, 1)] [] rfl vl_X12_87 rfl h0 (by decide) (Nat.le_of_ble_eq_true rfl) (by decide) (by decide) dX12_told_12 (t_X12_refuse x0 1 M h0) (fun v3 M4 => ?_)
    refine r_goto 15 hC (tgt := 28) (by decide) dX12_told_15 ?_
    exact r_sub [] rfl (hj28 v3 M4)
  refine r_if_lt 1 hC (tgt := 10) (by decide) dX12_told_1 ?_ ?_
  · exact r_sub [0] rfl (hj10)
  · refine r_iload_n 4 hC 1 rfl rfl dX12_told_4 ?_
    refine r_bipush 5 hC kb_8 dX12_told_5 ?_
    refine r_icmp_le 7 hC (tgt := 18) (by decide) dX12_told_7 ?_ ?_
    · refine r_aload_n 18 hC 0 rfl (Or.inl (by decide)) rfl dX12_told_18 ?_
      refine r_aload_n 19 hC 0 rfl (Or.inl (by decide)) rfl dX12_told_19 ?_
      refine r_get 20 hC fd_10_0 fl_X12_7 dX12_told_20 (fun v5 => ?_)
      refine r_iload_n 23 hC 1 rfl rfl dX12_told_23 ?_
      refine r_iaload 24 hC dX12_told_24 (fun v6 => ?_)
      refine r_callVI 25 hC [(0, v6)] [] rfl vl_X12_91 rfl h0 (by decide) (Nat.le_of_ble_eq_true rfl) (by decide) (by decide) dX12_told_25 (t_X12_gives x0 v6 M h0) (fun v7 M8 => ?_)
      exact r_sub [] rfl (hj28 v7 M8)
    · exact r_sub [0] rfl (hj10)

/-! WaterTurnsModel.reach(II)I -/
theorem dX12_reach_0 : decode cX12_reach 0 = .ok (.aload_n 0, 1) := by decide +kernel
theorem dX12_reach_1 : decode cX12_reach 1 = .ok (.iload_n 1, 1) := by decide +kernel
theorem dX12_reach_2 : decode cX12_reach 2 = .ok (.invokevirtual 257, 3) := by decide +kernel
theorem dX12_reach_5 : decode cX12_reach 5 = .ok (.ifCond .eq 25, 3) := by decide +kernel
theorem dX12_reach_8 : decode cX12_reach 8 = .ok (.iload_n 2, 1) := by decide +kernel
theorem dX12_reach_9 : decode cX12_reach 9 = .ok (.ifCond .lt 21, 3) := by decide +kernel
theorem dX12_reach_12 : decode cX12_reach 12 = .ok (.iload_n 2, 1) := by decide +kernel
theorem dX12_reach_13 : decode cX12_reach 13 = .ok (.iconst 5, 1) := by decide +kernel
theorem dX12_reach_14 : decode cX12_reach 14 = .ok (.if_icmp .gt 16, 3) := by decide +kernel
theorem dX12_reach_17 : decode cX12_reach 17 = .ok (.aload_n 0, 1) := by decide +kernel
theorem dX12_reach_18 : decode cX12_reach 18 = .ok (.aload_n 0, 1) := by decide +kernel
theorem dX12_reach_19 : decode cX12_reach 19 = .ok (.iload_n 1, 1) := by decide +kernel
theorem dX12_reach_20 : decode cX12_reach 20 = .ok (.iload_n 2, 1) := by decide +kernel
theorem dX12_reach_21 : decode cX12_reach 21 = .ok (.invokevirtual 260, 3) := by decide +kernel
theorem dX12_reach_24 : decode cX12_reach 24 = .ok (.invokevirtual 263, 3) := by decide +kernel
theorem dX12_reach_27 : decode cX12_reach 27 = .ok (.goto 8, 3) := by decide +kernel
theorem dX12_reach_30 : decode cX12_reach 30 = .ok (.aload_n 0, 1) := by decide +kernel
theorem dX12_reach_31 : decode cX12_reach 31 = .ok (.iconst 1, 1) := by decide +kernel
theorem dX12_reach_32 : decode cX12_reach 32 = .ok (.invokevirtual 87, 3) := by decide +kernel
theorem dX12_reach_35 : decode cX12_reach 35 = .ok (.ireturn, 1) := by decide +kernel
set_option maxRecDepth 100000 in
theorem t_X12_reach (x0 x1 x2 : Int) (M : Mem) (h0 : x0 ≠ 0) : MtI yX12_reach cX12_reach 3 (some .int) 3 0 0 [(30, x0), (0, x1), (0, x2)] M 0 (f_X12_reach x0 x1 x2 M) := by
  refine mk_I (by decide +kernel) (Nat.le_of_ble_eq_true rfl) (fun E C r0 M0 hC hq hin => ?_)
  refine r_eqls (ls' := [(0, 30, x0), (1, 0, x1), (2, 0, x2)]) rfl ?_
  unfold f_X12_reach
  refine r_aload_n 0 hC 0 rfl (Or.inl (by decide)) rfl dX12_reach_0 ?_
  refine r_iload_n 1 hC 1 rfl rfl dX12_reach_1 ?_
  refine r_callVP 2 hC [(0, x1)] [] rfl vl_X12_257 rfl h0 (by decide) (Nat.le_of_ble_eq_true rfl) (by decide) (by decide) dX12_reach_2 (t_X12_isReach x0 x1 M h0) (fun v1 => ?_)
  refine r_jn (P := fun j35 => ∀ (q2 : Int) (M3 : Mem), Bk E C 3 M (r0, M0) 35 [] [(0, q2)] M3 0 0 (j35 q2 M3)) ?_ (fun j35 hj35 => ?_)
  · intro q2 M3
    exact r_ireturn 35 hC hq (by decide) (by decide) dX12_reach_35
  refine r_jn (P := fun j30 => Bk E C 3 M (r0, M0) 30 [(0, 30, x0)] [] M 0 0 (j30)) ?_ (fun j30 hj30 => ?_)
  · refine r_aload_n 30 hC 0 rfl (Or.inl (by decide)) rfl dX12_reach_30 ?_
    refine r_iconst 31 hC (r32c rfl) dX12_reach_31 ?_
    refine r_callVI 32 hC [(0, 1)] [] rfl vl_X12_87 rfl h0 (by decide) (Nat.le_of_ble_eq_true rfl) (by decide) (by decide) dX12_reach_32 (t_X12_refuse x0 1 M h0) (fun v4 M5 => ?_)
    exact r_sub [] rfl (hj35 v4 M5)
  refine r_if_eq 5 hC (tgt := 30) (by decide) dX12_reach_5 ?_ ?_
  · exact r_sub [0] rfl (hj30)
  · refine r_iload_n 8 hC 2 rfl rfl dX12_reach_8 ?_
    refine r_if_lt 9 hC (tgt := 30) (by decide) dX12_reach_9 ?_ ?_
    · exact r_sub [0] rfl (hj30)
    · refine r_iload_n 12 hC 2 rfl rfl dX12_reach_12 ?_
      refine r_iconst 13 hC (r32c rfl) dX12_reach_13 ?_
      refine r_icmp_gt 14 hC (tgt := 30) (by decide) dX12_reach_14 ?_ ?_
      · exact r_sub [0] rfl (hj30)
      · refine r_aload_n 17 hC 0 rfl (Or.inl (by decide)) rfl dX12_reach_17 ?_
        refine r_aload_n 18 hC 0 rfl (Or.inl (by decide)) rfl dX12_reach_18 ?_
        refine r_iload_n 19 hC 1 rfl rfl dX12_reach_19 ?_
        refine r_iload_n 20 hC 2 rfl rfl dX12_reach_20 ?_
        refine r_callVP 21 hC [(0, x1), (0, x2)] [(30, x0)] rfl vl_X12_260 rfl h0 (by decide) (Nat.le_of_ble_eq_true rfl) (by decide) (by decide) dX12_reach_21 (t_X12_ofReach x0 x1 x2 M h0) (fun v6 => ?_)
        refine r_callVI 24 hC [(0, v6)] [] rfl vl_X12_263 rfl h0 (by decide) (Nat.le_of_ble_eq_true rfl) (by decide) (by decide) dX12_reach_24 (t_X12_orNone x0 v6 M h0) (fun v7 M8 => ?_)
        refine r_goto 27 hC (tgt := 35) (by decide) dX12_reach_27 ?_
        exact r_sub [] rfl (hj35 v7 M8)

/-! WaterTurnsModel.field(II)I -/
theorem dX12_field_0 : decode cX12_field 0 = .ok (.aload_n 0, 1) := by decide +kernel
theorem dX12_field_1 : decode cX12_field 1 = .ok (.iload_n 1, 1) := by decide +kernel
theorem dX12_field_2 : decode cX12_field 2 = .ok (.invokevirtual 266, 3) := by decide +kernel
theorem dX12_field_5 : decode cX12_field 5 = .ok (.ifCond .eq 25, 3) := by decide +kernel
theorem dX12_field_8 : decode cX12_field 8 = .ok (.iload_n 2, 1) := by decide +kernel
theorem dX12_field_9 : decode cX12_field 9 = .ok (.ifCond .lt 21, 3) := by decide +kernel
theorem dX12_field_12 : decode cX12_field 12 = .ok (.iload_n 2, 1) := by decide +kernel
theorem dX12_field_13 : decode cX12_field 13 = .ok (.iconst 3, 1) := by decide +kernel
theorem dX12_field_14 : decode cX12_field 14 = .ok (.if_icmp .gt 16, 3) := by decide +kernel
theorem dX12_field_17 : decode cX12_field 17 = .ok (.aload_n 0, 1) := by decide +kernel
theorem dX12_field_18 : decode cX12_field 18 = .ok (.aload_n 0, 1) := by decide +kernel
theorem dX12_field_19 : decode cX12_field 19 = .ok (.iload_n 1, 1) := by decide +kernel
theorem dX12_field_20 : decode cX12_field 20 = .ok (.iload_n 2, 1) := by decide +kernel
theorem dX12_field_21 : decode cX12_field 21 = .ok (.invokevirtual 269, 3) := by decide +kernel
theorem dX12_field_24 : decode cX12_field 24 = .ok (.invokevirtual 263, 3) := by decide +kernel
theorem dX12_field_27 : decode cX12_field 27 = .ok (.goto 8, 3) := by decide +kernel
theorem dX12_field_30 : decode cX12_field 30 = .ok (.aload_n 0, 1) := by decide +kernel
theorem dX12_field_31 : decode cX12_field 31 = .ok (.iconst 1, 1) := by decide +kernel
theorem dX12_field_32 : decode cX12_field 32 = .ok (.invokevirtual 87, 3) := by decide +kernel
theorem dX12_field_35 : decode cX12_field 35 = .ok (.ireturn, 1) := by decide +kernel
set_option maxRecDepth 100000 in
theorem t_X12_field (x0 x1 x2 : Int) (M : Mem) (h0 : x0 ≠ 0) : MtI yX12_field cX12_field 3 (some .int) 3 0 0 [(30, x0), (0, x1), (0, x2)] M 0 (f_X12_field x0 x1 x2 M) := by
  refine mk_I (by decide +kernel) (Nat.le_of_ble_eq_true rfl) (fun E C r0 M0 hC hq hin => ?_)
  refine r_eqls (ls' := [(0, 30, x0), (1, 0, x1), (2, 0, x2)]) rfl ?_
  unfold f_X12_field
  refine r_aload_n 0 hC 0 rfl (Or.inl (by decide)) rfl dX12_field_0 ?_
  refine r_iload_n 1 hC 1 rfl rfl dX12_field_1 ?_
  refine r_callVP 2 hC [(0, x1)] [] rfl vl_X12_266 rfl h0 (by decide) (Nat.le_of_ble_eq_true rfl) (by decide) (by decide) dX12_field_2 (t_X12_isField x0 x1 M h0) (fun v1 => ?_)
  refine r_jn (P := fun j35 => ∀ (q2 : Int) (M3 : Mem), Bk E C 3 M (r0, M0) 35 [] [(0, q2)] M3 0 0 (j35 q2 M3)) ?_ (fun j35 hj35 => ?_)
  · intro q2 M3
    exact r_ireturn 35 hC hq (by decide) (by decide) dX12_field_35
  refine r_jn (P := fun j30 => Bk E C 3 M (r0, M0) 30 [(0, 30, x0)] [] M 0 0 (j30)) ?_ (fun j30 hj30 => ?_)
  · refine r_aload_n 30 hC 0 rfl (Or.inl (by decide)) rfl dX12_field_30 ?_
    refine r_iconst 31 hC (r32c rfl) dX12_field_31 ?_
    refine r_callVI 32 hC [(0, 1)] [] rfl vl_X12_87 rfl h0 (by decide) (Nat.le_of_ble_eq_true rfl) (by decide) (by decide) dX12_field_32 (t_X12_refuse x0 1 M h0) (fun v4 M5 => ?_)
    exact r_sub [] rfl (hj35 v4 M5)
  refine r_if_eq 5 hC (tgt := 30) (by decide) dX12_field_5 ?_ ?_
  · exact r_sub [0] rfl (hj30)
  · refine r_iload_n 8 hC 2 rfl rfl dX12_field_8 ?_
    refine r_if_lt 9 hC (tgt := 30) (by decide) dX12_field_9 ?_ ?_
    · exact r_sub [0] rfl (hj30)
    · refine r_iload_n 12 hC 2 rfl rfl dX12_field_12 ?_
      refine r_iconst 13 hC (r32c rfl) dX12_field_13 ?_
      refine r_icmp_gt 14 hC (tgt := 30) (by decide) dX12_field_14 ?_ ?_
      · exact r_sub [0] rfl (hj30)
      · refine r_aload_n 17 hC 0 rfl (Or.inl (by decide)) rfl dX12_field_17 ?_
        refine r_aload_n 18 hC 0 rfl (Or.inl (by decide)) rfl dX12_field_18 ?_
        refine r_iload_n 19 hC 1 rfl rfl dX12_field_19 ?_
        refine r_iload_n 20 hC 2 rfl rfl dX12_field_20 ?_
        refine r_callVP 21 hC [(0, x1), (0, x2)] [(30, x0)] rfl vl_X12_269 rfl h0 (by decide) (Nat.le_of_ble_eq_true rfl) (by decide) (by decide) dX12_field_21 (t_X12_ofField x0 x1 x2 M h0) (fun v6 => ?_)
        refine r_callVI 24 hC [(0, v6)] [] rfl vl_X12_263 rfl h0 (by decide) (Nat.le_of_ble_eq_true rfl) (by decide) (by decide) dX12_field_24 (t_X12_orNone x0 v6 M h0) (fun v7 M8 => ?_)
        refine r_goto 27 hC (tgt := 35) (by decide) dX12_field_27 ?_
        exact r_sub [] rfl (hj35 v7 M8)

/-! WaterTurnsModel.laysWay(I)V -/
theorem dX12_laysWay_0 : decode cX12_laysWay 0 = .ok (.aload_n 0, 1) := by decide +kernel
theorem dX12_laysWay_1 : decode cX12_laysWay 1 = .ok (.iconst 0, 1) := by decide +kernel
theorem dX12_laysWay_2 : decode cX12_laysWay 2 = .ok (.putfield 272, 3) := by decide +kernel
theorem dX12_laysWay_5 : decode cX12_laysWay 5 = .ok (.iload_n 1, 1) := by decide +kernel
theorem dX12_laysWay_6 : decode cX12_laysWay 6 = .ok (.istore_n 2, 1) := by decide +kernel
theorem dX12_laysWay_7 : decode cX12_laysWay 7 = .ok (.iload_n 2, 1) := by decide +kernel
theorem dX12_laysWay_8 : decode cX12_laysWay 8 = .ok (.iconst (-1), 1) := by decide +kernel
theorem dX12_laysWay_9 : decode cX12_laysWay 9 = .ok (.if_icmp .eq 23, 3) := by decide +kernel
theorem dX12_laysWay_12 : decode cX12_laysWay 12 = .ok (.aload_n 0, 1) := by decide +kernel
theorem dX12_laysWay_13 : decode cX12_laysWay 13 = .ok (.dup, 1) := by decide +kernel
theorem dX12_laysWay_14 : decode cX12_laysWay 14 = .ok (.getfield 272, 3) := by decide +kernel
theorem dX12_laysWay_17 : decode cX12_laysWay 17 = .ok (.iconst 1, 1) := by decide +kernel
theorem dX12_laysWay_18 : decode cX12_laysWay 18 = .ok (.iadd, 1) := by decide +kernel
theorem dX12_laysWay_19 : decode cX12_laysWay 19 = .ok (.putfield 272, 3) := by decide +kernel
theorem dX12_laysWay_22 : decode cX12_laysWay 22 = .ok (.aload_n 0, 1) := by decide +kernel
theorem dX12_laysWay_23 : decode cX12_laysWay 23 = .ok (.iload_n 2, 1) := by decide +kernel
theorem dX12_laysWay_24 : decode cX12_laysWay 24 = .ok (.iconst 0, 1) := by decide +kernel
theorem dX12_laysWay_25 : decode cX12_laysWay 25 = .ok (.invokevirtual 260, 3) := by decide +kernel
theorem dX12_laysWay_28 : decode cX12_laysWay 28 = .ok (.istore_n 2, 1) := by decide +kernel
theorem dX12_laysWay_29 : decode cX12_laysWay 29 = .ok (.goto (-22), 3) := by decide +kernel
theorem dX12_laysWay_32 : decode cX12_laysWay 32 = .ok (.aload_n 0, 1) := by decide +kernel
theorem dX12_laysWay_33 : decode cX12_laysWay 33 = .ok (.getfield 272, 3) := by decide +kernel
theorem dX12_laysWay_36 : decode cX12_laysWay 36 = .ok (.iconst 1, 1) := by decide +kernel
theorem dX12_laysWay_37 : decode cX12_laysWay 37 = .ok (.isub, 1) := by decide +kernel
theorem dX12_laysWay_38 : decode cX12_laysWay 38 = .ok (.istore_n 2, 1) := by decide +kernel
theorem dX12_laysWay_39 : decode cX12_laysWay 39 = .ok (.iload_n 1, 1) := by decide +kernel
theorem dX12_laysWay_40 : decode cX12_laysWay 40 = .ok (.istore_n 3, 1) := by decide +kernel
theorem dX12_laysWay_41 : decode cX12_laysWay 41 = .ok (.iload_n 3, 1) := by decide +kernel
theorem dX12_laysWay_42 : decode cX12_laysWay 42 = .ok (.iconst (-1), 1) := by decide +kernel
theorem dX12_laysWay_43 : decode cX12_laysWay 43 = .ok (.if_icmp .eq 23, 3) := by decide +kernel
theorem dX12_laysWay_46 : decode cX12_laysWay 46 = .ok (.aload_n 0, 1) := by decide +kernel
theorem dX12_laysWay_47 : decode cX12_laysWay 47 = .ok (.getfield 50, 3) := by decide +kernel
theorem dX12_laysWay_50 : decode cX12_laysWay 50 = .ok (.iload_n 2, 1) := by decide +kernel
theorem dX12_laysWay_51 : decode cX12_laysWay 51 = .ok (.iload_n 3, 1) := by decide +kernel
theorem dX12_laysWay_52 : decode cX12_laysWay 52 = .ok (.iastore, 1) := by decide +kernel
theorem dX12_laysWay_53 : decode cX12_laysWay 53 = .ok (.iinc 2 (-1), 3) := by decide +kernel
theorem dX12_laysWay_56 : decode cX12_laysWay 56 = .ok (.aload_n 0, 1) := by decide +kernel
theorem dX12_laysWay_57 : decode cX12_laysWay 57 = .ok (.iload_n 3, 1) := by decide +kernel
theorem dX12_laysWay_58 : decode cX12_laysWay 58 = .ok (.iconst 0, 1) := by decide +kernel
theorem dX12_laysWay_59 : decode cX12_laysWay 59 = .ok (.invokevirtual 260, 3) := by decide +kernel
theorem dX12_laysWay_62 : decode cX12_laysWay 62 = .ok (.istore_n 3, 1) := by decide +kernel
theorem dX12_laysWay_63 : decode cX12_laysWay 63 = .ok (.goto (-22), 3) := by decide +kernel
theorem dX12_laysWay_66 : decode cX12_laysWay 66 = .ok (.return_, 1) := by decide +kernel
set_option maxRecDepth 100000 in
theorem f_X12_laysWay_L7_ok {E : EnvT} {C : Cx} {Mi : Mem} {x0 : Int} (h0 : x0 ≠ 0) (hC : CxOK E C cX12_laysWay 4 yX12_laysWay.cls 2 0 0) {M0 : Mem} (hq : RQ E C 0 0 Mi none none M0) {x1 : Int} {k : Mem → Option (Mem)} (hk : ∀ M7, Bk E C 4 Mi M0 32 [(0, 30, x0), (1, 0, x1)] [] M7 0 0 (k M7)) : ∀ (n : Nat) (p2 : Int) (M3 : Mem), Bk E C 4 Mi M0 7 [(0, 30, x0), (1, 0, x1), (2, 0, p2)] [] M3 0 0 (f_X12_laysWay_L7 x0 x1 k n p2 M3) := by
  intro n
  induction n with
  | zero =>
    intro p2 M3
    exact r_none
  | succ n ih =>
    intro p2 M3
    rw [f_X12_laysWay_L7]
    refine r_iload_n 7 hC 2 rfl rfl dX12_laysWay_7 ?_
    refine r_iconst 8 hC (r32c rfl) dX12_laysWay_8 ?_
    refine r_icmp_eq 9 hC (tgt := 32) (by decide) dX12_laysWay_9 ?_ ?_
    · exact r_sub [0, 1] rfl (hk M3)
    · refine r_aload_n 12 hC 0 rfl (Or.inl (by decide)) rfl dX12_laysWay_12 ?_
      refine r_dup 13 hC (by decide) dX12_laysWay_13 ?_
      refine r_get 14 hC fd_10_26 fl_X12_272 dX12_laysWay_14 (fun v4 => ?_)
      refine r_iconst 17 hC (r32c rfl) dX12_laysWay_17 ?_
      refine r_iadd 18 hC dX12_laysWay_18 ?_
      refine r_put 19 hC fd_10_26 fl_X12_272 dX12_laysWay_19 (fun M5 => ?_)
      refine r_aload_n 22 hC 0 rfl (Or.inl (by decide)) rfl dX12_laysWay_22 ?_
      refine r_iload_n 23 hC 2 rfl rfl dX12_laysWay_23 ?_
      refine r_iconst 24 hC (r32c rfl) dX12_laysWay_24 ?_
      refine r_callVP 25 hC [(0, p2), (0, 0)] [] rfl vl_X12_260 rfl h0 (by decide) (Nat.le_of_ble_eq_true rfl) (by decide) (by decide) dX12_laysWay_25 (t_X12_ofReach x0 p2 0 M5 h0) (fun v6 => ?_)
      refine r_istore_n 28 hC rfl (by decide) dX12_laysWay_28 (r_eqls (ls' := [(2, 0, v6), (0, 30, x0), (1, 0, x1)]) rfl ?_)
      refine r_goto 29 hC (tgt := 7) (by decide) dX12_laysWay_29 ?_
      exact r_sub [1, 2, 0] rfl (ih v6 M5)
set_option maxRecDepth 100000 in
theorem f_X12_laysWay_L41_ok {E : EnvT} {C : Cx} {Mi : Mem} {x0 : Int} (h0 : x0 ≠ 0) (hC : CxOK E C cX12_laysWay 4 yX12_laysWay.cls 2 0 0) {M0 : Mem} (hq : RQ E C 0 0 Mi none none M0) {k : Mem → Option (Mem)} (hk : ∀ M17, Bk E C 4 Mi M0 66 [] [] M17 0 0 (k M17)) : ∀ (n : Nat) (p11 : Int) (p12 : Int) (M13 : Mem), Bk E C 4 Mi M0 41 [(0, 30, x0), (2, 0, p11), (3, 0, p12)] [] M13 0 0 (f_X12_laysWay_L41 x0 k n p11 p12 M13) := by
  intro n
  induction n with
  | zero =>
    intro p11 p12 M13
    exact r_none
  | succ n ih =>
    intro p11 p12 M13
    rw [f_X12_laysWay_L41]
    refine r_iload_n 41 hC 2 rfl rfl dX12_laysWay_41 ?_
    refine r_iconst 42 hC (r32c rfl) dX12_laysWay_42 ?_
    refine r_icmp_eq 43 hC (tgt := 66) (by decide) dX12_laysWay_43 ?_ ?_
    · exact r_sub [] rfl (hk M13)
    · refine r_aload_n 46 hC 0 rfl (Or.inl (by decide)) rfl dX12_laysWay_46 ?_
      refine r_get 47 hC fd_10_25 fl_X12_50 dX12_laysWay_47 (fun v14 => ?_)
      refine r_iload_n 50 hC 1 rfl rfl dX12_laysWay_50 ?_
      refine r_iload_n 51 hC 2 rfl rfl dX12_laysWay_51 ?_
      refine r_iastore 52 hC dX12_laysWay_52 (fun M15 => ?_)
      refine r_iinc 53 hC 1 rfl (by decide) dX12_laysWay_53 (r_eqls (ls' := [(2, 0, w32 (p11 + (-1))), (0, 30, x0), (3, 0, p12)]) rfl ?_)
      refine r_aload_n 56 hC 1 rfl (Or.inl (by decide)) rfl dX12_laysWay_56 ?_
      refine r_iload_n 57 hC 2 rfl rfl dX12_laysWay_57 ?_
      refine r_iconst 58 hC (r32c rfl) dX12_laysWay_58 ?_
      refine r_callVP 59 hC [(0, p12), (0, 0)] [] rfl vl_X12_260 rfl h0 (by decide) (Nat.le_of_ble_eq_true rfl) (by decide) (by decide) dX12_laysWay_59 (t_X12_ofReach x0 p12 0 M15 h0) (fun v16 => ?_)
      refine r_istore_n 62 hC rfl (by decide) dX12_laysWay_62 (r_eqls (ls' := [(3, 0, v16), (2, 0, w32 (p11 + (-1))), (0, 30, x0)]) rfl ?_)
      refine r_goto 63 hC (tgt := 41) (by decide) dX12_laysWay_63 ?_
      exact r_sub [2, 1, 0] rfl (ih (w32 (p11 + (-1))) v16 M15)
set_option maxRecDepth 100000 in
theorem t_X12_laysWay (x0 x1 : Int) (M : Mem) (h0 : x0 ≠ 0) : MtV yX12_laysWay cX12_laysWay 4 none 2 0 0 [(30, x0), (0, x1)] M (f_X12_laysWay x0 x1 M) := by
  refine mk_V (by decide +kernel) (Nat.le_of_ble_eq_true rfl) (fun E C M0 hC hq hin => ?_)
  refine r_eqls (ls' := [(0, 30, x0), (1, 0, x1)]) rfl ?_
  unfold f_X12_laysWay
  refine r_aload_n 0 hC 0 rfl (Or.inl (by decide)) rfl dX12_laysWay_0 ?_
  refine r_iconst 1 hC (r32c rfl) dX12_laysWay_1 ?_
  refine r_put 2 hC fd_10_26 fl_X12_272 dX12_laysWay_2 (fun M1 => ?_)
  refine r_iload_n 5 hC 1 rfl rfl dX12_laysWay_5 ?_
  refine r_istore_n 6 hC rfl (by decide) dX12_laysWay_6 (r_eqls (ls' := [(2, 0, x1), (0, 30, x0), (1, 0, x1)]) rfl ?_)
  refine r_sub [1, 2, 0] rfl (f_X12_laysWay_L7_ok h0 hC hq (fun M8 => ?_) KF x1 M1)
  · refine r_aload_n 32 hC 0 rfl (Or.inl (by decide)) rfl dX12_laysWay_32 ?_
    refine r_get 33 hC fd_10_26 fl_X12_272 dX12_laysWay_33 (fun v9 => ?_)
    refine r_iconst 36 hC (r32c rfl) dX12_laysWay_36 ?_
    refine r_isub 37 hC dX12_laysWay_37 ?_
    refine r_istore_nL 38 hC rfl (by decide) dX12_laysWay_38 (fun v10 => r_eqls (ls' := [(2, 0, v10), (0, 30, x0), (1, 0, x1)]) rfl ?_)
    refine r_iload_n 39 hC 2 rfl rfl dX12_laysWay_39 ?_
    refine r_istore_n 40 hC rfl (by decide) dX12_laysWay_40 (r_eqls (ls' := [(3, 0, x1), (2, 0, v10), (0, 30, x0), (1, 0, x1)]) rfl ?_)
    refine r_sub [2, 1, 0] rfl (f_X12_laysWay_L41_ok h0 hC hq (fun M18 => ?_) KF v10 x1 M8)
    · exact r_return 66 hC hq (by decide) (by decide) dX12_laysWay_66

/-! WaterTurnsModel.isBelow(II)Z -/
theorem dX12_isBelow_0 : decode cX12_isBelow 0 = .ok (.aload_n 0, 1) := by decide +kernel
theorem dX12_isBelow_1 : decode cX12_isBelow 1 = .ok (.iload_n 1, 1) := by decide +kernel
theorem dX12_isBelow_2 : decode cX12_isBelow 2 = .ok (.iconst 0, 1) := by decide +kernel
theorem dX12_isBelow_3 : decode cX12_isBelow 3 = .ok (.invokevirtual 269, 3) := by decide +kernel
theorem dX12_isBelow_6 : decode cX12_isBelow 6 = .ok (.istore_n 3, 1) := by decide +kernel
theorem dX12_isBelow_7 : decode cX12_isBelow 7 = .ok (.iload_n 3, 1) := by decide +kernel
theorem dX12_isBelow_8 : decode cX12_isBelow 8 = .ok (.iconst (-1), 1) := by decide +kernel
theorem dX12_isBelow_9 : decode cX12_isBelow 9 = .ok (.if_icmp .eq 20, 3) := by decide +kernel
theorem dX12_isBelow_12 : decode cX12_isBelow 12 = .ok (.iload_n 3, 1) := by decide +kernel
theorem dX12_isBelow_13 : decode cX12_isBelow 13 = .ok (.iload_n 2, 1) := by decide +kernel
theorem dX12_isBelow_14 : decode cX12_isBelow 14 = .ok (.if_icmp .ne 5, 3) := by decide +kernel
theorem dX12_isBelow_17 : decode cX12_isBelow 17 = .ok (.iconst 1, 1) := by decide +kernel
theorem dX12_isBelow_18 : decode cX12_isBelow 18 = .ok (.ireturn, 1) := by decide +kernel
theorem dX12_isBelow_19 : decode cX12_isBelow 19 = .ok (.aload_n 0, 1) := by decide +kernel
theorem dX12_isBelow_20 : decode cX12_isBelow 20 = .ok (.iload_n 3, 1) := by decide +kernel
theorem dX12_isBelow_21 : decode cX12_isBelow 21 = .ok (.iconst 0, 1) := by decide +kernel
theorem dX12_isBelow_22 : decode cX12_isBelow 22 = .ok (.invokevirtual 260, 3) := by decide +kernel
theorem dX12_isBelow_25 : decode cX12_isBelow 25 = .ok (.istore_n 3, 1) := by decide +kernel
theorem dX12_isBelow_26 : decode cX12_isBelow 26 = .ok (.goto (-19), 3) := by decide +kernel
theorem dX12_isBelow_29 : decode cX12_isBelow 29 = .ok (.iconst 0, 1) := by decide +kernel
theorem dX12_isBelow_30 : decode cX12_isBelow 30 = .ok (.ireturn, 1) := by decide +kernel
set_option maxRecDepth 100000 in
theorem f_X12_isBelow_L7_ok {E : EnvT} {C : Cx} {Mi M : Mem} {x0 : Int} (h0 : x0 ≠ 0) (hC : CxOK E C cX12_isBelow 4 yX12_isBelow.cls 2 0 0) {r0 : Int} (hq : RQ E C 0 0 Mi (some .boolean) (some (0, r0)) M) {x2 : Int} {k : Option (Int)} (hk : Bk E C 4 Mi r0 29 [] [] M 0 0 (k)) : ∀ (n : Nat) (p2 : Int), Bk E C 4 Mi r0 7 [(0, 30, x0), (2, 0, x2), (3, 0, p2)] [] M 0 0 (f_X12_isBelow_L7 M x0 x2 k n p2) := by
  intro n
  induction n with
  | zero =>
    intro p2
    exact r_none
  | succ n ih =>
    intro p2
    rw [f_X12_isBelow_L7]
    refine r_iload_n 7 hC 2 rfl rfl dX12_isBelow_7 ?_
    refine r_iconst 8 hC (r32c rfl) dX12_isBelow_8 ?_
    refine r_icmp_eq 9 hC (tgt := 29) (by decide) dX12_isBelow_9 ?_ ?_
    · exact r_sub [] rfl (hk)
    · refine r_iload_n 12 hC 2 rfl rfl dX12_isBelow_12 ?_
      refine r_iload_n 13 hC 1 rfl rfl dX12_isBelow_13 ?_
      refine r_icmp_ne 14 hC (tgt := 19) (by decide) dX12_isBelow_14 ?_ ?_
      · refine r_aload_n 19 hC 0 rfl (Or.inl (by decide)) rfl dX12_isBelow_19 ?_
        refine r_iload_n 20 hC 2 rfl rfl dX12_isBelow_20 ?_
        refine r_iconst 21 hC (r32c rfl) dX12_isBelow_21 ?_
        refine r_callVP 22 hC [(0, p2), (0, 0)] [] rfl vl_X12_260 rfl h0 (by decide) (Nat.le_of_ble_eq_true rfl) (by decide) (by decide) dX12_isBelow_22 (t_X12_ofReach x0 p2 0 M h0) (fun v3 => ?_)
        refine r_istore_n 25 hC rfl (by decide) dX12_isBelow_25 (r_eqls (ls' := [(3, 0, v3), (0, 30, x0), (2, 0, x2)]) rfl ?_)
        refine r_goto 26 hC (tgt := 7) (by decide) dX12_isBelow_26 ?_
        exact r_sub [1, 2, 0] rfl (ih v3)
      · refine r_iconst 17 hC (r32c rfl) dX12_isBelow_17 ?_
        exact r_zreturnP 18 hC hq (by decide) (by decide) dX12_isBelow_18
set_option maxRecDepth 100000 in
theorem t_X12_isBelow (x0 x1 x2 : Int) (M : Mem) (h0 : x0 ≠ 0) : MtP yX12_isBelow cX12_isBelow 4 (some .boolean) 2 0 0 [(30, x0), (0, x1), (0, x2)] M 0 (f_X12_isBelow x0 x1 x2 M) := by
  refine mk_P (by decide +kernel) (Nat.le_of_ble_eq_true rfl) (fun E C r0 hC hq hin => ?_)
  refine r_eqls (ls' := [(0, 30, x0), (1, 0, x1), (2, 0, x2)]) rfl ?_
  unfold f_X12_isBelow
  refine r_aload_n 0 hC 0 rfl (Or.inl (by decide)) rfl dX12_isBelow_0 ?_
  refine r_iload_n 1 hC 1 rfl rfl dX12_isBelow_1 ?_
  refine r_iconst 2 hC (r32c rfl) dX12_isBelow_2 ?_
  refine r_callVP 3 hC [(0, x1), (0, 0)] [] rfl vl_X12_269 rfl h0 (by decide) (Nat.le_of_ble_eq_true rfl) (by decide) (by decide) dX12_isBelow_3 (t_X12_ofField x0 x1 0 M h0) (fun v1 => ?_)
  refine r_istore_n 6 hC rfl (by decide) dX12_isBelow_6 (r_eqls (ls' := [(3, 0, v1), (0, 30, x0), (1, 0, x1), (2, 0, x2)]) rfl ?_)
  refine r_sub [1, 3, 0] rfl (f_X12_isBelow_L7_ok h0 hC hq ?_ KF v1)
  · refine r_iconst 29 hC (r32c rfl) dX12_isBelow_29 ?_
    exact r_zreturnP 30 hC hq (by decide) (by decide) dX12_isBelow_30

/-! WaterTurnsModel.belowOf(I)I -/
theorem dX12_belowOf_0 : decode cX12_belowOf 0 = .ok (.iconst 0, 1) := by decide +kernel
theorem dX12_belowOf_1 : decode cX12_belowOf 1 = .ok (.istore_n 2, 1) := by decide +kernel
theorem dX12_belowOf_2 : decode cX12_belowOf 2 = .ok (.iconst 0, 1) := by decide +kernel
theorem dX12_belowOf_3 : decode cX12_belowOf 3 = .ok (.istore_n 3, 1) := by decide +kernel
theorem dX12_belowOf_4 : decode cX12_belowOf 4 = .ok (.iload_n 3, 1) := by decide +kernel
theorem dX12_belowOf_5 : decode cX12_belowOf 5 = .ok (.aload_n 0, 1) := by decide +kernel
theorem dX12_belowOf_6 : decode cX12_belowOf 6 = .ok (.getfield 7, 3) := by decide +kernel
theorem dX12_belowOf_9 : decode cX12_belowOf 9 = .ok (.iconst 5, 1) := by decide +kernel
theorem dX12_belowOf_10 : decode cX12_belowOf 10 = .ok (.iaload, 1) := by decide +kernel
theorem dX12_belowOf_11 : decode cX12_belowOf 11 = .ok (.if_icmp .ge 28, 3) := by decide +kernel
theorem dX12_belowOf_14 : decode cX12_belowOf 14 = .ok (.iload_n 2, 1) := by decide +kernel
theorem dX12_belowOf_15 : decode cX12_belowOf 15 = .ok (.aload_n 0, 1) := by decide +kernel
theorem dX12_belowOf_16 : decode cX12_belowOf 16 = .ok (.iload_n 3, 1) := by decide +kernel
theorem dX12_belowOf_17 : decode cX12_belowOf 17 = .ok (.iload_n 1, 1) := by decide +kernel
theorem dX12_belowOf_18 : decode cX12_belowOf 18 = .ok (.invokevirtual 275, 3) := by decide +kernel
theorem dX12_belowOf_21 : decode cX12_belowOf 21 = .ok (.ifCond .eq 9, 3) := by decide +kernel
theorem dX12_belowOf_24 : decode cX12_belowOf 24 = .ok (.iconst 1, 1) := by decide +kernel
theorem dX12_belowOf_25 : decode cX12_belowOf 25 = .ok (.iload_n 3, 1) := by decide +kernel
theorem dX12_belowOf_26 : decode cX12_belowOf 26 = .ok (.ishl, 1) := by decide +kernel
theorem dX12_belowOf_27 : decode cX12_belowOf 27 = .ok (.goto 4, 3) := by decide +kernel
theorem dX12_belowOf_30 : decode cX12_belowOf 30 = .ok (.iconst 0, 1) := by decide +kernel
theorem dX12_belowOf_31 : decode cX12_belowOf 31 = .ok (.ior, 1) := by decide +kernel
theorem dX12_belowOf_32 : decode cX12_belowOf 32 = .ok (.istore_n 2, 1) := by decide +kernel
theorem dX12_belowOf_33 : decode cX12_belowOf 33 = .ok (.iinc 3 1, 3) := by decide +kernel
theorem dX12_belowOf_36 : decode cX12_belowOf 36 = .ok (.goto (-32), 3) := by decide +kernel
theorem dX12_belowOf_39 : decode cX12_belowOf 39 = .ok (.iload_n 2, 1) := by decide +kernel
theorem dX12_belowOf_40 : decode cX12_belowOf 40 = .ok (.ireturn, 1) := by decide +kernel
set_option maxRecDepth 100000 in
theorem f_X12_belowOf_L4_ok {E : EnvT} {C : Cx} {Mi M : Mem} {x0 : Int} (h0 : x0 ≠ 0) (hC : CxOK E C cX12_belowOf 4 yX12_belowOf.cls 3 0 0) {r0 : Int} (hq : RQ E C 0 0 Mi (some .int) (some (0, r0)) M) {x1 : Int} {k : Int → Option (Int)} (hk : ∀ q8, Bk E C 4 Mi r0 39 [(2, 0, q8)] [] M 0 0 (k q8)) : ∀ (n : Nat) (p1 : Int) (p2 : Int), Bk E C 4 Mi r0 4 [(0, 30, x0), (1, 0, x1), (2, 0, p1), (3, 0, p2)] [] M 0 0 (f_X12_belowOf_L4 M x0 x1 k n p1 p2) := by
  intro n
  induction n with
  | zero =>
    intro p1 p2
    exact r_none
  | succ n ih =>
    intro p1 p2
    rw [f_X12_belowOf_L4]
    refine r_iload_n 4 hC 3 rfl rfl dX12_belowOf_4 ?_
    refine r_aload_n 5 hC 0 rfl (Or.inl (by decide)) rfl dX12_belowOf_5 ?_
    refine r_get 6 hC fd_10_0 fl_X12_7 dX12_belowOf_6 (fun v3 => ?_)
    refine r_iconst 9 hC (r32c rfl) dX12_belowOf_9 ?_
    refine r_iaload 10 hC dX12_belowOf_10 (fun v4 => ?_)
    refine r_icmp_ge 11 hC (tgt := 39) (by decide) dX12_belowOf_11 ?_ ?_
    · exact r_sub [2] rfl (hk p1)
    · refine r_iload_n 14 hC 2 rfl rfl dX12_belowOf_14 ?_
      refine r_aload_n 15 hC 0 rfl (Or.inl (by decide)) rfl dX12_belowOf_15 ?_
      refine r_iload_n 16 hC 3 rfl rfl dX12_belowOf_16 ?_
      refine r_iload_n 17 hC 1 rfl rfl dX12_belowOf_17 ?_
      refine r_callVP 18 hC [(0, p2), (0, x1)] [(0, p1)] rfl vl_X12_275 rfl h0 (by decide) (Nat.le_of_ble_eq_true rfl) (by decide) (by decide) dX12_belowOf_18 (t_X12_isBelow x0 p2 x1 M h0) (fun v5 => ?_)
      refine r_jn (P := fun j31 => ∀ (q6 : Int), Bk E C 4 Mi r0 31 [(0, 30, x0), (1, 0, x1), (3, 0, p2)] [(0, q6), (0, p1)] M 0 0 (j31 q6)) ?_ (fun j31 hj31 => ?_)
      · intro q6
        refine r_ior 31 hC dX12_belowOf_31 ?_
        refine r_istore_nL 32 hC rfl (by decide) dX12_belowOf_32 (fun v7 => r_eqls (ls' := [(2, 0, v7), (0, 30, x0), (1, 0, x1), (3, 0, p2)]) rfl ?_)
        refine r_iinc 33 hC 3 rfl (by decide) dX12_belowOf_33 (r_eqls (ls' := [(3, 0, w32 (p2 + 1)), (2, 0, v7), (0, 30, x0), (1, 0, x1)]) rfl ?_)
        refine r_goto 36 hC (tgt := 4) (by decide) dX12_belowOf_36 ?_
        exact r_sub [2, 3, 1, 0] rfl (ih v7 (w32 (p2 + 1)))
      refine r_if_eq 21 hC (tgt := 30) (by decide) dX12_belowOf_21 ?_ ?_
      · refine r_iconst 30 hC (r32c rfl) dX12_belowOf_30 ?_
        exact r_sub [0, 1, 3] rfl (hj31 0)
      · refine r_iconst 24 hC (r32c rfl) dX12_belowOf_24 ?_
        refine r_iload_n 25 hC 3 rfl rfl dX12_belowOf_25 ?_
        refine r_ishl 26 hC dX12_belowOf_26 ?_
        refine r_goto 27 hC (tgt := 31) (by decide) dX12_belowOf_27 ?_
        exact r_sub [0, 1, 3] rfl (hj31 (ishlv 1 p2))
set_option maxRecDepth 100000 in
theorem t_X12_belowOf (x0 x1 : Int) (M : Mem) (h0 : x0 ≠ 0) : MtP yX12_belowOf cX12_belowOf 4 (some .int) 3 0 0 [(30, x0), (0, x1)] M 0 (f_X12_belowOf x0 x1 M) := by
  refine mk_P (by decide +kernel) (Nat.le_of_ble_eq_true rfl) (fun E C r0 hC hq hin => ?_)
  refine r_eqls (ls' := [(0, 30, x0), (1, 0, x1)]) rfl ?_
  unfold f_X12_belowOf
  refine r_iconst 0 hC (r32c rfl) dX12_belowOf_0 ?_
  refine r_istore_n 1 hC rfl (by decide) dX12_belowOf_1 (r_eqls (ls' := [(2, 0, 0), (0, 30, x0), (1, 0, x1)]) rfl ?_)
  refine r_iconst 2 hC (r32c rfl) dX12_belowOf_2 ?_
  refine r_istore_n 3 hC rfl (by decide) dX12_belowOf_3 (r_eqls (ls' := [(3, 0, 0), (2, 0, 0), (0, 30, x0), (1, 0, x1)]) rfl ?_)
  refine r_sub [2, 3, 1, 0] rfl (f_X12_belowOf_L4_ok h0 hC hq (fun q9 => ?_) KF 0 0)
  · refine r_iload_n 39 hC 0 rfl rfl dX12_belowOf_39 ?_
    exact r_ireturnP 40 hC hq (by decide) (by decide) dX12_belowOf_40

/-! WaterTurnsModel.below(I)I -/
theorem dX12_below_0 : decode cX12_below 0 = .ok (.aload_n 0, 1) := by decide +kernel
theorem dX12_below_1 : decode cX12_below 1 = .ok (.iload_n 1, 1) := by decide +kernel
theorem dX12_below_2 : decode cX12_below 2 = .ok (.invokevirtual 257, 3) := by decide +kernel
theorem dX12_below_5 : decode cX12_below 5 = .ok (.ifCond .eq 15, 3) := by decide +kernel
theorem dX12_below_8 : decode cX12_below 8 = .ok (.aload_n 0, 1) := by decide +kernel
theorem dX12_below_9 : decode cX12_below 9 = .ok (.aload_n 0, 1) := by decide +kernel
theorem dX12_below_10 : decode cX12_below 10 = .ok (.iload_n 1, 1) := by decide +kernel
theorem dX12_below_11 : decode cX12_below 11 = .ok (.invokevirtual 278, 3) := by decide +kernel
theorem dX12_below_14 : decode cX12_below 14 = .ok (.invokevirtual 91, 3) := by decide +kernel
theorem dX12_below_17 : decode cX12_below 17 = .ok (.goto 8, 3) := by decide +kernel
theorem dX12_below_20 : decode cX12_below 20 = .ok (.aload_n 0, 1) := by decide +kernel
theorem dX12_below_21 : decode cX12_below 21 = .ok (.iconst 1, 1) := by decide +kernel
theorem dX12_below_22 : decode cX12_below 22 = .ok (.invokevirtual 87, 3) := by decide +kernel
theorem dX12_below_25 : decode cX12_below 25 = .ok (.ireturn, 1) := by decide +kernel
set_option maxRecDepth 100000 in
theorem t_X12_below (x0 x1 : Int) (M : Mem) (h0 : x0 ≠ 0) : MtI yX12_below cX12_below 2 (some .int) 4 0 0 [(30, x0), (0, x1)] M 0 (f_X12_below x0 x1 M) := by
  refine mk_I (by decide +kernel) (Nat.le_of_ble_eq_true rfl) (fun E C r0 M0 hC hq hin => ?_)
  refine r_eqls (ls' := [(0, 30, x0), (1, 0, x1)]) rfl ?_
  unfold f_X12_below
  refine r_aload_n 0 hC 0 rfl (Or.inl (by decide)) rfl dX12_below_0 ?_
  refine r_iload_n 1 hC 1 rfl rfl dX12_below_1 ?_
  refine r_callVP 2 hC [(0, x1)] [] rfl vl_X12_257 rfl h0 (by decide) (Nat.le_of_ble_eq_true rfl) (by decide) (by decide) dX12_below_2 (t_X12_isReach x0 x1 M h0) (fun v1 => ?_)
  refine r_jn (P := fun j25 => ∀ (q2 : Int) (M3 : Mem), Bk E C 2 M (r0, M0) 25 [] [(0, q2)] M3 0 0 (j25 q2 M3)) ?_ (fun j25 hj25 => ?_)
  · intro q2 M3
    exact r_ireturn 25 hC hq (by decide) (by decide) dX12_below_25
  refine r_if_eq 5 hC (tgt := 20) (by decide) dX12_below_5 ?_ ?_
  · refine r_aload_n 20 hC 0 rfl (Or.inl (by decide)) rfl dX12_below_20 ?_
    refine r_iconst 21 hC (r32c rfl) dX12_below_21 ?_
    refine r_callVI 22 hC [(0, 1)] [] rfl vl_X12_87 rfl h0 (by decide) (Nat.le_of_ble_eq_true rfl) (by decide) (by decide) dX12_below_22 (t_X12_refuse x0 1 M h0) (fun v4 M5 => ?_)
    exact r_sub [] rfl (hj25 v4 M5)
  · refine r_aload_n 8 hC 0 rfl (Or.inl (by decide)) rfl dX12_below_8 ?_
    refine r_aload_n 9 hC 0 rfl (Or.inl (by decide)) rfl dX12_below_9 ?_
    refine r_iload_n 10 hC 1 rfl rfl dX12_below_10 ?_
    refine r_callVP 11 hC [(0, x1)] [(30, x0)] rfl vl_X12_278 rfl h0 (by decide) (Nat.le_of_ble_eq_true rfl) (by decide) (by decide) dX12_below_11 (t_X12_belowOf x0 x1 M h0) (fun v6 => ?_)
    refine r_callVI 14 hC [(0, v6)] [] rfl vl_X12_91 rfl h0 (by decide) (Nat.le_of_ble_eq_true rfl) (by decide) (by decide) dX12_below_14 (t_X12_gives x0 v6 M h0) (fun v7 M8 => ?_)
    refine r_goto 17 hC (tgt := 25) (by decide) dX12_below_17 ?_
    exact r_sub [] rfl (hj25 v7 M8)

/-! WaterTurnsModel.allShares()I -/
theorem dX12_allShares_0 : decode cX12_allShares 0 = .ok (.iconst 0, 1) := by decide +kernel
theorem dX12_allShares_1 : decode cX12_allShares 1 = .ok (.istore_n 1, 1) := by decide +kernel
theorem dX12_allShares_2 : decode cX12_allShares 2 = .ok (.iconst 0, 1) := by decide +kernel
theorem dX12_allShares_3 : decode cX12_allShares 3 = .ok (.istore_n 2, 1) := by decide +kernel
theorem dX12_allShares_4 : decode cX12_allShares 4 = .ok (.iload_n 2, 1) := by decide +kernel
theorem dX12_allShares_5 : decode cX12_allShares 5 = .ok (.aload_n 0, 1) := by decide +kernel
theorem dX12_allShares_6 : decode cX12_allShares 6 = .ok (.getfield 7, 3) := by decide +kernel
theorem dX12_allShares_9 : decode cX12_allShares 9 = .ok (.iconst 5, 1) := by decide +kernel
theorem dX12_allShares_10 : decode cX12_allShares 10 = .ok (.iaload, 1) := by decide +kernel
theorem dX12_allShares_11 : decode cX12_allShares 11 = .ok (.if_icmp .ge 18, 3) := by decide +kernel
theorem dX12_allShares_14 : decode cX12_allShares 14 = .ok (.iload_n 1, 1) := by decide +kernel
theorem dX12_allShares_15 : decode cX12_allShares 15 = .ok (.aload_n 0, 1) := by decide +kernel
theorem dX12_allShares_16 : decode cX12_allShares 16 = .ok (.iload_n 2, 1) := by decide +kernel
theorem dX12_allShares_17 : decode cX12_allShares 17 = .ok (.iconst 1, 1) := by decide +kernel
theorem dX12_allShares_18 : decode cX12_allShares 18 = .ok (.invokevirtual 269, 3) := by decide +kernel
theorem dX12_allShares_21 : decode cX12_allShares 21 = .ok (.iadd, 1) := by decide +kernel
theorem dX12_allShares_22 : decode cX12_allShares 22 = .ok (.istore_n 1, 1) := by decide +kernel
theorem dX12_allShares_23 : decode cX12_allShares 23 = .ok (.iinc 2 1, 3) := by decide +kernel
theorem dX12_allShares_26 : decode cX12_allShares 26 = .ok (.goto (-22), 3) := by decide +kernel
theorem dX12_allShares_29 : decode cX12_allShares 29 = .ok (.iload_n 1, 1) := by decide +kernel
theorem dX12_allShares_30 : decode cX12_allShares 30 = .ok (.ireturn, 1) := by decide +kernel
set_option maxRecDepth 100000 in
theorem f_X12_allShares_L4_ok {E : EnvT} {C : Cx} {Mi M : Mem} {x0 : Int} (h0 : x0 ≠ 0) (hC : CxOK E C cX12_allShares 3 yX12_allShares.cls 2 0 0) {r0 : Int} (hq : RQ E C 0 0 Mi (some .int) (some (0, r0)) M) {k : Int → Option (Int)} (hk : ∀ q7, Bk E C 3 Mi r0 29 [(1, 0, q7)] [] M 0 0 (k q7)) : ∀ (n : Nat) (p1 : Int) (p2 : Int), Bk E C 3 Mi r0 4 [(0, 30, x0), (1, 0, p1), (2, 0, p2)] [] M 0 0 (f_X12_allShares_L4 M x0 k n p1 p2) := by
  intro n
  induction n with
  | zero =>
    intro p1 p2
    exact r_none
  | succ n ih =>
    intro p1 p2
    rw [f_X12_allShares_L4]
    refine r_iload_n 4 hC 2 rfl rfl dX12_allShares_4 ?_
    refine r_aload_n 5 hC 0 rfl (Or.inl (by decide)) rfl dX12_allShares_5 ?_
    refine r_get 6 hC fd_10_0 fl_X12_7 dX12_allShares_6 (fun v3 => ?_)
    refine r_iconst 9 hC (r32c rfl) dX12_allShares_9 ?_
    refine r_iaload 10 hC dX12_allShares_10 (fun v4 => ?_)
    refine r_icmp_ge 11 hC (tgt := 29) (by decide) dX12_allShares_11 ?_ ?_
    · exact r_sub [1] rfl (hk p1)
    · refine r_iload_n 14 hC 1 rfl rfl dX12_allShares_14 ?_
      refine r_aload_n 15 hC 0 rfl (Or.inl (by decide)) rfl dX12_allShares_15 ?_
      refine r_iload_n 16 hC 2 rfl rfl dX12_allShares_16 ?_
      refine r_iconst 17 hC (r32c rfl) dX12_allShares_17 ?_
      refine r_callVP 18 hC [(0, p2), (0, 1)] [(0, p1)] rfl vl_X12_269 rfl h0 (by decide) (Nat.le_of_ble_eq_true rfl) (by decide) (by decide) dX12_allShares_18 (t_X12_ofField x0 p2 1 M h0) (fun v5 => ?_)
      refine r_iadd 21 hC dX12_allShares_21 ?_
      refine r_istore_nL 22 hC rfl (by decide) dX12_allShares_22 (fun v6 => r_eqls (ls' := [(1, 0, v6), (0, 30, x0), (2, 0, p2)]) rfl ?_)
      refine r_iinc 23 hC 2 rfl (by decide) dX12_allShares_23 (r_eqls (ls' := [(2, 0, w32 (p2 + 1)), (1, 0, v6), (0, 30, x0)]) rfl ?_)
      refine r_goto 26 hC (tgt := 4) (by decide) dX12_allShares_26 ?_
      exact r_sub [2, 1, 0] rfl (ih v6 (w32 (p2 + 1)))
set_option maxRecDepth 100000 in
theorem t_X12_allShares (x0 : Int) (M : Mem) (h0 : x0 ≠ 0) : MtP yX12_allShares cX12_allShares 3 (some .int) 2 0 0 [(30, x0)] M 0 (f_X12_allShares x0 M) := by
  refine mk_P (by decide +kernel) (Nat.le_of_ble_eq_true rfl) (fun E C r0 hC hq hin => ?_)
  refine r_eqls (ls' := [(0, 30, x0)]) rfl ?_
  unfold f_X12_allShares
  refine r_iconst 0 hC (r32c rfl) dX12_allShares_0 ?_
  refine r_istore_n 1 hC rfl (by decide) dX12_allShares_1 (r_eqls (ls' := [(1, 0, 0), (0, 30, x0)]) rfl ?_)
  refine r_iconst 2 hC (r32c rfl) dX12_allShares_2 ?_
  refine r_istore_n 3 hC rfl (by decide) dX12_allShares_3 (r_eqls (ls' := [(2, 0, 0), (1, 0, 0), (0, 30, x0)]) rfl ?_)
  refine r_sub [2, 1, 0] rfl (f_X12_allShares_L4_ok h0 hC hq (fun q8 => ?_) KF 0 0)
  · refine r_iload_n 29 hC 0 rfl rfl dX12_allShares_29 ?_
    exact r_ireturnP 30 hC hq (by decide) (by decide) dX12_allShares_30

/-! WaterTurnsModel.placeOf(I)I -/
theorem dX12_placeOf_0 : decode cX12_placeOf 0 = .ok (.iconst 0, 1) := by decide +kernel
theorem dX12_placeOf_1 : decode cX12_placeOf 1 = .ok (.istore_n 2, 1) := by decide +kernel
theorem dX12_placeOf_2 : decode cX12_placeOf 2 = .ok (.aload_n 0, 1) := by decide +kernel
theorem dX12_placeOf_3 : decode cX12_placeOf 3 = .ok (.getfield 7, 3) := by decide +kernel
theorem dX12_placeOf_6 : decode cX12_placeOf 6 = .ok (.bipush 112, 2) := by decide +kernel
theorem dX12_placeOf_8 : decode cX12_placeOf 8 = .ok (.iload_n 2, 1) := by decide +kernel
theorem dX12_placeOf_9 : decode cX12_placeOf 9 = .ok (.iadd, 1) := by decide +kernel
theorem dX12_placeOf_10 : decode cX12_placeOf 10 = .ok (.iaload, 1) := by decide +kernel
theorem dX12_placeOf_11 : decode cX12_placeOf 11 = .ok (.iload_n 1, 1) := by decide +kernel
theorem dX12_placeOf_12 : decode cX12_placeOf 12 = .ok (.if_icmp .eq 9, 3) := by decide +kernel
theorem dX12_placeOf_15 : decode cX12_placeOf 15 = .ok (.iinc 2 1, 3) := by decide +kernel
theorem dX12_placeOf_18 : decode cX12_placeOf 18 = .ok (.goto (-16), 3) := by decide +kernel
theorem dX12_placeOf_21 : decode cX12_placeOf 21 = .ok (.iload_n 2, 1) := by decide +kernel
theorem dX12_placeOf_22 : decode cX12_placeOf 22 = .ok (.ireturn, 1) := by decide +kernel
set_option maxRecDepth 100000 in
theorem f_X12_placeOf_L2_ok {E : EnvT} {C : Cx} {Mi M : Mem} {x0 : Int} (h0 : x0 ≠ 0) (hC : CxOK E C cX12_placeOf 3 yX12_placeOf.cls 1 0 0) {r0 : Int} (hq : RQ E C 0 0 Mi (some .int) (some (0, r0)) M) {x1 : Int} {k : Int → Option (Int)} (hk : ∀ q4, Bk E C 3 Mi r0 21 [(2, 0, q4)] [] M 0 0 (k q4)) : ∀ (n : Nat) (p1 : Int), Bk E C 3 Mi r0 2 [(0, 30, x0), (1, 0, x1), (2, 0, p1)] [] M 0 0 (f_X12_placeOf_L2 M x0 x1 k n p1) := by
  intro n
  induction n with
  | zero =>
    intro p1
    exact r_none
  | succ n ih =>
    intro p1
    rw [f_X12_placeOf_L2]
    refine r_aload_n 2 hC 0 rfl (Or.inl (by decide)) rfl dX12_placeOf_2 ?_
    refine r_get 3 hC fd_10_0 fl_X12_7 dX12_placeOf_3 (fun v2 => ?_)
    refine r_bipush 6 hC kb_112 dX12_placeOf_6 ?_
    refine r_iload_n 8 hC 2 rfl rfl dX12_placeOf_8 ?_
    refine r_iadd 9 hC dX12_placeOf_9 ?_
    refine r_iaload 10 hC dX12_placeOf_10 (fun v3 => ?_)
    refine r_iload_n 11 hC 1 rfl rfl dX12_placeOf_11 ?_
    refine r_icmp_eq 12 hC (tgt := 21) (by decide) dX12_placeOf_12 ?_ ?_
    · exact r_sub [2] rfl (hk p1)
    · refine r_iinc 15 hC 2 rfl (by decide) dX12_placeOf_15 (r_eqls (ls' := [(2, 0, w32 (p1 + 1)), (0, 30, x0), (1, 0, x1)]) rfl ?_)
      refine r_goto 18 hC (tgt := 2) (by decide) dX12_placeOf_18 ?_
      exact r_sub [1, 2, 0] rfl (ih (w32 (p1 + 1)))
set_option maxRecDepth 100000 in
theorem t_X12_placeOf (x0 x1 : Int) (M : Mem) (h0 : x0 ≠ 0) : MtP yX12_placeOf cX12_placeOf 3 (some .int) 1 0 0 [(30, x0), (0, x1)] M 0 (f_X12_placeOf x0 x1 M) := by
  refine mk_P (by decide +kernel) (Nat.le_of_ble_eq_true rfl) (fun E C r0 hC hq hin => ?_)
  refine r_eqls (ls' := [(0, 30, x0), (1, 0, x1)]) rfl ?_
  unfold f_X12_placeOf
  refine r_iconst 0 hC (r32c rfl) dX12_placeOf_0 ?_
  refine r_istore_n 1 hC rfl (by decide) dX12_placeOf_1 (r_eqls (ls' := [(2, 0, 0), (0, 30, x0), (1, 0, x1)]) rfl ?_)
  refine r_sub [1, 2, 0] rfl (f_X12_placeOf_L2_ok h0 hC hq (fun q5 => ?_) KF 0)
  · refine r_iload_n 21 hC 0 rfl rfl dX12_placeOf_21 ?_
    exact r_ireturnP 22 hC hq (by decide) (by decide) dX12_placeOf_22

/-! WaterTurnsModel.beginOf(I)I -/
theorem dX12_beginOf_0 : decode cX12_beginOf 0 = .ok (.iconst 0, 1) := by decide +kernel
theorem dX12_beginOf_1 : decode cX12_beginOf 1 = .ok (.istore_n 2, 1) := by decide +kernel
theorem dX12_beginOf_2 : decode cX12_beginOf 2 = .ok (.iconst 0, 1) := by decide +kernel
theorem dX12_beginOf_3 : decode cX12_beginOf 3 = .ok (.istore_n 3, 1) := by decide +kernel
theorem dX12_beginOf_4 : decode cX12_beginOf 4 = .ok (.iload_n 3, 1) := by decide +kernel
theorem dX12_beginOf_5 : decode cX12_beginOf 5 = .ok (.iload_n 1, 1) := by decide +kernel
theorem dX12_beginOf_6 : decode cX12_beginOf 6 = .ok (.if_icmp .ge 26, 3) := by decide +kernel
theorem dX12_beginOf_9 : decode cX12_beginOf 9 = .ok (.iload_n 2, 1) := by decide +kernel
theorem dX12_beginOf_10 : decode cX12_beginOf 10 = .ok (.aload_n 0, 1) := by decide +kernel
theorem dX12_beginOf_11 : decode cX12_beginOf 11 = .ok (.aload_n 0, 1) := by decide +kernel
theorem dX12_beginOf_12 : decode cX12_beginOf 12 = .ok (.getfield 7, 3) := by decide +kernel
theorem dX12_beginOf_15 : decode cX12_beginOf 15 = .ok (.bipush 112, 2) := by decide +kernel
theorem dX12_beginOf_17 : decode cX12_beginOf 17 = .ok (.iload_n 3, 1) := by decide +kernel
theorem dX12_beginOf_18 : decode cX12_beginOf 18 = .ok (.iadd, 1) := by decide +kernel
theorem dX12_beginOf_19 : decode cX12_beginOf 19 = .ok (.iaload, 1) := by decide +kernel
theorem dX12_beginOf_20 : decode cX12_beginOf 20 = .ok (.iconst 1, 1) := by decide +kernel
theorem dX12_beginOf_21 : decode cX12_beginOf 21 = .ok (.invokevirtual 269, 3) := by decide +kernel
theorem dX12_beginOf_24 : decode cX12_beginOf 24 = .ok (.iadd, 1) := by decide +kernel
theorem dX12_beginOf_25 : decode cX12_beginOf 25 = .ok (.istore_n 2, 1) := by decide +kernel
theorem dX12_beginOf_26 : decode cX12_beginOf 26 = .ok (.iinc 3 1, 3) := by decide +kernel
theorem dX12_beginOf_29 : decode cX12_beginOf 29 = .ok (.goto (-25), 3) := by decide +kernel
theorem dX12_beginOf_32 : decode cX12_beginOf 32 = .ok (.aload_n 0, 1) := by decide +kernel
theorem dX12_beginOf_33 : decode cX12_beginOf 33 = .ok (.getfield 7, 3) := by decide +kernel
theorem dX12_beginOf_36 : decode cX12_beginOf 36 = .ok (.iconst 1, 1) := by decide +kernel
theorem dX12_beginOf_37 : decode cX12_beginOf 37 = .ok (.iaload, 1) := by decide +kernel
theorem dX12_beginOf_38 : decode cX12_beginOf 38 = .ok (.iload_n 2, 1) := by decide +kernel
theorem dX12_beginOf_39 : decode cX12_beginOf 39 = .ok (.imul, 1) := by decide +kernel
theorem dX12_beginOf_40 : decode cX12_beginOf 40 = .ok (.aload_n 0, 1) := by decide +kernel
theorem dX12_beginOf_41 : decode cX12_beginOf 41 = .ok (.invokevirtual 281, 3) := by decide +kernel
theorem dX12_beginOf_44 : decode cX12_beginOf 44 = .ok (.idiv, 1) := by decide +kernel
theorem dX12_beginOf_45 : decode cX12_beginOf 45 = .ok (.ireturn, 1) := by decide +kernel
set_option maxRecDepth 100000 in
theorem f_X12_beginOf_L4_ok {E : EnvT} {C : Cx} {Mi M : Mem} {x0 : Int} (h0 : x0 ≠ 0) (hC : CxOK E C cX12_beginOf 4 yX12_beginOf.cls 3 0 0) {r0 : Int} (hq : RQ E C 0 0 Mi (some .int) (some (0, r0)) M) {x1 : Int} {k : Int → Option (Int)} (hk : ∀ q7, Bk E C 4 Mi r0 32 [(0, 30, x0), (2, 0, q7)] [] M 0 0 (k q7)) : ∀ (n : Nat) (p1 : Int) (p2 : Int), Bk E C 4 Mi r0 4 [(0, 30, x0), (1, 0, x1), (2, 0, p1), (3, 0, p2)] [] M 0 0 (f_X12_beginOf_L4 M x0 x1 k n p1 p2) := by
  intro n
  induction n with
  | zero =>
    intro p1 p2
    exact r_none
  | succ n ih =>
    intro p1 p2
    rw [f_X12_beginOf_L4]
    refine r_iload_n 4 hC 3 rfl rfl dX12_beginOf_4 ?_
    refine r_iload_n 5 hC 1 rfl rfl dX12_beginOf_5 ?_
    refine r_icmp_ge 6 hC (tgt := 32) (by decide) dX12_beginOf_6 ?_ ?_
    · exact r_sub [0, 2] rfl (hk p1)
    · refine r_iload_n 9 hC 2 rfl rfl dX12_beginOf_9 ?_
      refine r_aload_n 10 hC 0 rfl (Or.inl (by decide)) rfl dX12_beginOf_10 ?_
      refine r_aload_n 11 hC 0 rfl (Or.inl (by decide)) rfl dX12_beginOf_11 ?_
      refine r_get 12 hC fd_10_0 fl_X12_7 dX12_beginOf_12 (fun v3 => ?_)
      refine r_bipush 15 hC kb_112 dX12_beginOf_15 ?_
      refine r_iload_n 17 hC 3 rfl rfl dX12_beginOf_17 ?_
      refine r_iadd 18 hC dX12_beginOf_18 ?_
      refine r_iaload 19 hC dX12_beginOf_19 (fun v4 => ?_)
      refine r_iconst 20 hC (r32c rfl) dX12_beginOf_20 ?_
      refine r_callVP 21 hC [(0, v4), (0, 1)] [(0, p1)] rfl vl_X12_269 rfl h0 (by decide) (Nat.le_of_ble_eq_true rfl) (by decide) (by decide) dX12_beginOf_21 (t_X12_ofField x0 v4 1 M h0) (fun v5 => ?_)
      refine r_iadd 24 hC dX12_beginOf_24 ?_
      refine r_istore_nL 25 hC rfl (by decide) dX12_beginOf_25 (fun v6 => r_eqls (ls' := [(2, 0, v6), (0, 30, x0), (1, 0, x1), (3, 0, p2)]) rfl ?_)
      refine r_iinc 26 hC 3 rfl (by decide) dX12_beginOf_26 (r_eqls (ls' := [(3, 0, w32 (p2 + 1)), (2, 0, v6), (0, 30, x0), (1, 0, x1)]) rfl ?_)
      refine r_goto 29 hC (tgt := 4) (by decide) dX12_beginOf_29 ?_
      exact r_sub [2, 3, 1, 0] rfl (ih v6 (w32 (p2 + 1)))
set_option maxRecDepth 100000 in
theorem t_X12_beginOf (x0 x1 : Int) (M : Mem) (h0 : x0 ≠ 0) : MtP yX12_beginOf cX12_beginOf 4 (some .int) 3 0 0 [(30, x0), (0, x1)] M 0 (f_X12_beginOf x0 x1 M) := by
  refine mk_P (by decide +kernel) (Nat.le_of_ble_eq_true rfl) (fun E C r0 hC hq hin => ?_)
  refine r_eqls (ls' := [(0, 30, x0), (1, 0, x1)]) rfl ?_
  unfold f_X12_beginOf
  refine r_iconst 0 hC (r32c rfl) dX12_beginOf_0 ?_
  refine r_istore_n 1 hC rfl (by decide) dX12_beginOf_1 (r_eqls (ls' := [(2, 0, 0), (0, 30, x0), (1, 0, x1)]) rfl ?_)
  refine r_iconst 2 hC (r32c rfl) dX12_beginOf_2 ?_
  refine r_istore_n 3 hC rfl (by decide) dX12_beginOf_3 (r_eqls (ls' := [(3, 0, 0), (2, 0, 0), (0, 30, x0), (1, 0, x1)]) rfl ?_)
  refine r_sub [2, 3, 1, 0] rfl (f_X12_beginOf_L4_ok h0 hC hq (fun q8 => ?_) KF 0 0)
  · refine r_aload_n 32 hC 0 rfl (Or.inl (by decide)) rfl dX12_beginOf_32 ?_
    refine r_get 33 hC fd_10_0 fl_X12_7 dX12_beginOf_33 (fun v9 => ?_)
    refine r_iconst 36 hC (r32c rfl) dX12_beginOf_36 ?_
    refine r_iaload 37 hC dX12_beginOf_37 (fun v10 => ?_)
    refine r_iload_n 38 hC 1 rfl rfl dX12_beginOf_38 ?_
    refine r_imul 39 hC dX12_beginOf_39 ?_
    refine r_aload_n 40 hC 0 rfl (Or.inl (by decide)) rfl dX12_beginOf_40 ?_
    refine r_callVP 41 hC [] [(0, w32 (v10 * q8))] rfl vl_X12_281 rfl h0 (by decide) (Nat.le_of_ble_eq_true rfl) (by decide) (by decide) dX12_beginOf_41 (t_X12_allShares x0 M h0) (fun v11 => ?_)
    refine r_idiv 44 hC dX12_beginOf_44 (fun v12 => ?_)
    exact r_ireturnP 45 hC hq (by decide) (by decide) dX12_beginOf_45

/-! WaterTurnsModel.order(I)I -/
theorem dX12_order_0 : decode cX12_order 0 = .ok (.iload_n 1, 1) := by decide +kernel
theorem dX12_order_1 : decode cX12_order 1 = .ok (.ifCond .ge 11, 3) := by decide +kernel
theorem dX12_order_4 : decode cX12_order 4 = .ok (.aload_n 0, 1) := by decide +kernel
theorem dX12_order_5 : decode cX12_order 5 = .ok (.iconst 1, 1) := by decide +kernel
theorem dX12_order_6 : decode cX12_order 6 = .ok (.invokevirtual 87, 3) := by decide +kernel
theorem dX12_order_9 : decode cX12_order 9 = .ok (.goto 35, 3) := by decide +kernel
theorem dX12_order_12 : decode cX12_order 12 = .ok (.iload_n 1, 1) := by decide +kernel
theorem dX12_order_13 : decode cX12_order 13 = .ok (.aload_n 0, 1) := by decide +kernel
theorem dX12_order_14 : decode cX12_order 14 = .ok (.getfield 7, 3) := by decide +kernel
theorem dX12_order_17 : decode cX12_order 17 = .ok (.iconst 5, 1) := by decide +kernel
theorem dX12_order_18 : decode cX12_order 18 = .ok (.iaload, 1) := by decide +kernel
theorem dX12_order_19 : decode cX12_order 19 = .ok (.if_icmp .lt 12, 3) := by decide +kernel
theorem dX12_order_22 : decode cX12_order 22 = .ok (.aload_n 0, 1) := by decide +kernel
theorem dX12_order_23 : decode cX12_order 23 = .ok (.bipush 6, 2) := by decide +kernel
theorem dX12_order_25 : decode cX12_order 25 = .ok (.invokevirtual 87, 3) := by decide +kernel
theorem dX12_order_28 : decode cX12_order 28 = .ok (.goto 16, 3) := by decide +kernel
theorem dX12_order_31 : decode cX12_order 31 = .ok (.aload_n 0, 1) := by decide +kernel
theorem dX12_order_32 : decode cX12_order 32 = .ok (.aload_n 0, 1) := by decide +kernel
theorem dX12_order_33 : decode cX12_order 33 = .ok (.getfield 7, 3) := by decide +kernel
theorem dX12_order_36 : decode cX12_order 36 = .ok (.bipush 112, 2) := by decide +kernel
theorem dX12_order_38 : decode cX12_order 38 = .ok (.iload_n 1, 1) := by decide +kernel
theorem dX12_order_39 : decode cX12_order 39 = .ok (.iadd, 1) := by decide +kernel
theorem dX12_order_40 : decode cX12_order 40 = .ok (.iaload, 1) := by decide +kernel
theorem dX12_order_41 : decode cX12_order 41 = .ok (.invokevirtual 91, 3) := by decide +kernel
theorem dX12_order_44 : decode cX12_order 44 = .ok (.ireturn, 1) := by decide +kernel
set_option maxRecDepth 100000 in
theorem t_X12_order (x0 x1 : Int) (M : Mem) (h0 : x0 ≠ 0) : MtI yX12_order cX12_order 2 (some .int) 2 0 0 [(30, x0), (0, x1)] M 0 (f_X12_order x0 x1 M) := by
  refine mk_I (by decide +kernel) (Nat.le_of_ble_eq_true rfl) (fun E C r0 M0 hC hq hin => ?_)
  refine r_eqls (ls' := [(0, 30, x0), (1, 0, x1)]) rfl ?_
  unfold f_X12_order
  refine r_iload_n 0 hC 1 rfl rfl dX12_order_0 ?_
  refine r_jn (P := fun j44 => ∀ (q1 : Int) (M2 : Mem), Bk E C 2 M (r0, M0) 44 [] [(0, q1)] M2 0 0 (j44 q1 M2)) ?_ (fun j44 hj44 => ?_)
  · intro q1 M2
    exact r_ireturn 44 hC hq (by decide) (by decide) dX12_order_44
  refine r_if_ge 1 hC (tgt := 12) (by decide) dX12_order_1 ?_ ?_
  · refine r_iload_n 12 hC 1 rfl rfl dX12_order_12 ?_
    refine r_aload_n 13 hC 0 rfl (Or.inl (by decide)) rfl dX12_order_13 ?_
    refine r_get 14 hC fd_10_0 fl_X12_7 dX12_order_14 (fun v3 => ?_)
    refine r_iconst 17 hC (r32c rfl) dX12_order_17 ?_
    refine r_iaload 18 hC dX12_order_18 (fun v4 => ?_)
    refine r_icmp_lt 19 hC (tgt := 31) (by decide) dX12_order_19 ?_ ?_
    · refine r_aload_n 31 hC 0 rfl (Or.inl (by decide)) rfl dX12_order_31 ?_
      refine r_aload_n 32 hC 0 rfl (Or.inl (by decide)) rfl dX12_order_32 ?_
      refine r_get 33 hC fd_10_0 fl_X12_7 dX12_order_33 (fun v5 => ?_)
      refine r_bipush 36 hC kb_112 dX12_order_36 ?_
      refine r_iload_n 38 hC 1 rfl rfl dX12_order_38 ?_
      refine r_iadd 39 hC dX12_order_39 ?_
      refine r_iaload 40 hC dX12_order_40 (fun v6 => ?_)
      refine r_callVI 41 hC [(0, v6)] [] rfl vl_X12_91 rfl h0 (by decide) (Nat.le_of_ble_eq_true rfl) (by decide) (by decide) dX12_order_41 (t_X12_gives x0 v6 M h0) (fun v7 M8 => ?_)
      exact r_sub [] rfl (hj44 v7 M8)
    · refine r_aload_n 22 hC 0 rfl (Or.inl (by decide)) rfl dX12_order_22 ?_
      refine r_bipush 23 hC kb_6 dX12_order_23 ?_
      refine r_callVI 25 hC [(0, 6)] [] rfl vl_X12_87 rfl h0 (by decide) (Nat.le_of_ble_eq_true rfl) (by decide) (by decide) dX12_order_25 (t_X12_refuse x0 6 M h0) (fun v9 M10 => ?_)
      refine r_goto 28 hC (tgt := 44) (by decide) dX12_order_28 ?_
      exact r_sub [] rfl (hj44 v9 M10)
  · refine r_aload_n 4 hC 0 rfl (Or.inl (by decide)) rfl dX12_order_4 ?_
    refine r_iconst 5 hC (r32c rfl) dX12_order_5 ?_
    refine r_callVI 6 hC [(0, 1)] [] rfl vl_X12_87 rfl h0 (by decide) (Nat.le_of_ble_eq_true rfl) (by decide) (by decide) dX12_order_6 (t_X12_refuse x0 1 M h0) (fun v11 M12 => ?_)
    refine r_goto 9 hC (tgt := 44) (by decide) dX12_order_9 ?_
    exact r_sub [] rfl (hj44 v11 M12)

/-! WaterTurnsModel.turnMany(I)I -/
theorem dX12_turnMany_0 : decode cX12_turnMany 0 = .ok (.aload_n 0, 1) := by decide +kernel
theorem dX12_turnMany_1 : decode cX12_turnMany 1 = .ok (.aload_n 0, 1) := by decide +kernel
theorem dX12_turnMany_2 : decode cX12_turnMany 2 = .ok (.iload_n 1, 1) := by decide +kernel
theorem dX12_turnMany_3 : decode cX12_turnMany 3 = .ok (.invokevirtual 284, 3) := by decide +kernel
theorem dX12_turnMany_6 : decode cX12_turnMany 6 = .ok (.iconst 1, 1) := by decide +kernel
theorem dX12_turnMany_7 : decode cX12_turnMany 7 = .ok (.iadd, 1) := by decide +kernel
theorem dX12_turnMany_8 : decode cX12_turnMany 8 = .ok (.invokevirtual 287, 3) := by decide +kernel
theorem dX12_turnMany_11 : decode cX12_turnMany 11 = .ok (.aload_n 0, 1) := by decide +kernel
theorem dX12_turnMany_12 : decode cX12_turnMany 12 = .ok (.aload_n 0, 1) := by decide +kernel
theorem dX12_turnMany_13 : decode cX12_turnMany 13 = .ok (.iload_n 1, 1) := by decide +kernel
theorem dX12_turnMany_14 : decode cX12_turnMany 14 = .ok (.invokevirtual 284, 3) := by decide +kernel
theorem dX12_turnMany_17 : decode cX12_turnMany 17 = .ok (.invokevirtual 287, 3) := by decide +kernel
theorem dX12_turnMany_20 : decode cX12_turnMany 20 = .ok (.isub, 1) := by decide +kernel
theorem dX12_turnMany_21 : decode cX12_turnMany 21 = .ok (.ireturn, 1) := by decide +kernel
set_option maxRecDepth 100000 in
theorem t_X12_turnMany (x0 x1 : Int) (M : Mem) (h0 : x0 ≠ 0) : MtP yX12_turnMany cX12_turnMany 2 (some .int) 4 0 0 [(30, x0), (0, x1)] M 0 (f_X12_turnMany x0 x1 M) := by
  refine mk_P (by decide +kernel) (Nat.le_of_ble_eq_true rfl) (fun E C r0 hC hq hin => ?_)
  refine r_eqls (ls' := [(0, 30, x0), (1, 0, x1)]) rfl ?_
  unfold f_X12_turnMany
  refine r_aload_n 0 hC 0 rfl (Or.inl (by decide)) rfl dX12_turnMany_0 ?_
  refine r_aload_n 1 hC 0 rfl (Or.inl (by decide)) rfl dX12_turnMany_1 ?_
  refine r_iload_n 2 hC 1 rfl rfl dX12_turnMany_2 ?_
  refine r_callVP 3 hC [(0, x1)] [(30, x0)] rfl vl_X12_284 rfl h0 (by decide) (Nat.le_of_ble_eq_true rfl) (by decide) (by decide) dX12_turnMany_3 (t_X12_placeOf x0 x1 M h0) (fun v1 => ?_)
  refine r_iconst 6 hC (r32c rfl) dX12_turnMany_6 ?_
  refine r_iadd 7 hC dX12_turnMany_7 ?_
  refine r_callVP 8 hC [(0, w32 (v1 + 1))] [] rfl vl_X12_287 rfl h0 (by decide) (Nat.le_of_ble_eq_true rfl) (by decide) (by decide) dX12_turnMany_8 (t_X12_beginOf x0 (w32 (v1 + 1)) M h0) (fun v2 => ?_)
  refine r_aload_n 11 hC 0 rfl (Or.inl (by decide)) rfl dX12_turnMany_11 ?_
  refine r_aload_n 12 hC 0 rfl (Or.inl (by decide)) rfl dX12_turnMany_12 ?_
  refine r_iload_n 13 hC 1 rfl rfl dX12_turnMany_13 ?_
  refine r_callVP 14 hC [(0, x1)] [(30, x0), (0, v2)] rfl vl_X12_284 rfl h0 (by decide) (Nat.le_of_ble_eq_true rfl) (by decide) (by decide) dX12_turnMany_14 (t_X12_placeOf x0 x1 M h0) (fun v3 => ?_)
  refine r_callVP 17 hC [(0, v3)] [(0, v2)] rfl vl_X12_287 rfl h0 (by decide) (Nat.le_of_ble_eq_true rfl) (by decide) (by decide) dX12_turnMany_17 (t_X12_beginOf x0 v3 M h0) (fun v4 => ?_)
  refine r_isub 20 hC dX12_turnMany_20 ?_
  exact r_ireturnP 21 hC hq (by decide) (by decide) dX12_turnMany_21

/-! WaterTurnsModel.turn(II)I -/
theorem dX12_turn_0 : decode cX12_turn 0 = .ok (.aload_n 0, 1) := by decide +kernel
theorem dX12_turn_1 : decode cX12_turn 1 = .ok (.iload_n 1, 1) := by decide +kernel
theorem dX12_turn_2 : decode cX12_turn 2 = .ok (.invokevirtual 266, 3) := by decide +kernel
theorem dX12_turn_5 : decode cX12_turn 5 = .ok (.ifCond .eq 12, 3) := by decide +kernel
theorem dX12_turn_8 : decode cX12_turn 8 = .ok (.iload_n 2, 1) := by decide +kernel
theorem dX12_turn_9 : decode cX12_turn 9 = .ok (.ifCond .lt 8, 3) := by decide +kernel
theorem dX12_turn_12 : decode cX12_turn 12 = .ok (.iload_n 2, 1) := by decide +kernel
theorem dX12_turn_13 : decode cX12_turn 13 = .ok (.iconst 1, 1) := by decide +kernel
theorem dX12_turn_14 : decode cX12_turn 14 = .ok (.if_icmp .le 9, 3) := by decide +kernel
theorem dX12_turn_17 : decode cX12_turn 17 = .ok (.aload_n 0, 1) := by decide +kernel
theorem dX12_turn_18 : decode cX12_turn 18 = .ok (.iconst 1, 1) := by decide +kernel
theorem dX12_turn_19 : decode cX12_turn 19 = .ok (.invokevirtual 87, 3) := by decide +kernel
theorem dX12_turn_22 : decode cX12_turn 22 = .ok (.ireturn, 1) := by decide +kernel
theorem dX12_turn_23 : decode cX12_turn 23 = .ok (.aload_n 0, 1) := by decide +kernel
theorem dX12_turn_24 : decode cX12_turn 24 = .ok (.iload_n 2, 1) := by decide +kernel
theorem dX12_turn_25 : decode cX12_turn 25 = .ok (.ifCond .ne 15, 3) := by decide +kernel
theorem dX12_turn_28 : decode cX12_turn 28 = .ok (.aload_n 0, 1) := by decide +kernel
theorem dX12_turn_29 : decode cX12_turn 29 = .ok (.aload_n 0, 1) := by decide +kernel
theorem dX12_turn_30 : decode cX12_turn 30 = .ok (.iload_n 1, 1) := by decide +kernel
theorem dX12_turn_31 : decode cX12_turn 31 = .ok (.invokevirtual 284, 3) := by decide +kernel
theorem dX12_turn_34 : decode cX12_turn 34 = .ok (.invokevirtual 287, 3) := by decide +kernel
theorem dX12_turn_37 : decode cX12_turn 37 = .ok (.goto 8, 3) := by decide +kernel
theorem dX12_turn_40 : decode cX12_turn 40 = .ok (.aload_n 0, 1) := by decide +kernel
theorem dX12_turn_41 : decode cX12_turn 41 = .ok (.iload_n 1, 1) := by decide +kernel
theorem dX12_turn_42 : decode cX12_turn 42 = .ok (.invokevirtual 290, 3) := by decide +kernel
theorem dX12_turn_45 : decode cX12_turn 45 = .ok (.invokevirtual 91, 3) := by decide +kernel
theorem dX12_turn_48 : decode cX12_turn 48 = .ok (.ireturn, 1) := by decide +kernel
set_option maxRecDepth 100000 in
theorem t_X12_turn (x0 x1 x2 : Int) (M : Mem) (h0 : x0 ≠ 0) : MtI yX12_turn cX12_turn 3 (some .int) 5 0 0 [(30, x0), (0, x1), (0, x2)] M 0 (f_X12_turn x0 x1 x2 M) := by
  refine mk_I (by decide +kernel) (Nat.le_of_ble_eq_true rfl) (fun E C r0 M0 hC hq hin => ?_)
  refine r_eqls (ls' := [(0, 30, x0), (1, 0, x1), (2, 0, x2)]) rfl ?_
  unfold f_X12_turn
  refine r_aload_n 0 hC 0 rfl (Or.inl (by decide)) rfl dX12_turn_0 ?_
  refine r_iload_n 1 hC 1 rfl rfl dX12_turn_1 ?_
  refine r_callVP 2 hC [(0, x1)] [] rfl vl_X12_266 rfl h0 (by decide) (Nat.le_of_ble_eq_true rfl) (by decide) (by decide) dX12_turn_2 (t_X12_isField x0 x1 M h0) (fun v1 => ?_)
  refine r_jn (P := fun j17 => Bk E C 3 M (r0, M0) 17 [(0, 30, x0)] [] M 0 0 (j17)) ?_ (fun j17 hj17 => ?_)
  · refine r_aload_n 17 hC 0 rfl (Or.inl (by decide)) rfl dX12_turn_17 ?_
    refine r_iconst 18 hC (r32c rfl) dX12_turn_18 ?_
    refine r_callVI 19 hC [(0, 1)] [] rfl vl_X12_87 rfl h0 (by decide) (Nat.le_of_ble_eq_true rfl) (by decide) (by decide) dX12_turn_19 (t_X12_refuse x0 1 M h0) (fun v2 M3 => ?_)
    exact r_ireturn 22 hC hq (by decide) (by decide) dX12_turn_22
  refine r_if_eq 5 hC (tgt := 17) (by decide) dX12_turn_5 ?_ ?_
  · exact r_sub [0] rfl (hj17)
  · refine r_iload_n 8 hC 2 rfl rfl dX12_turn_8 ?_
    refine r_if_lt 9 hC (tgt := 17) (by decide) dX12_turn_9 ?_ ?_
    · exact r_sub [0] rfl (hj17)
    · refine r_iload_n 12 hC 2 rfl rfl dX12_turn_12 ?_
      refine r_iconst 13 hC (r32c rfl) dX12_turn_13 ?_
      refine r_icmp_le 14 hC (tgt := 23) (by decide) dX12_turn_14 ?_ ?_
      · refine r_aload_n 23 hC 0 rfl (Or.inl (by decide)) rfl dX12_turn_23 ?_
        refine r_iload_n 24 hC 2 rfl rfl dX12_turn_24 ?_
        refine r_jn (P := fun j45 => ∀ (q4 : Int), Bk E C 3 M (r0, M0) 45 [] [(0, q4), (30, x0)] M 0 0 (j45 q4)) ?_ (fun j45 hj45 => ?_)
        · intro q4
          refine r_callVI 45 hC [(0, q4)] [] rfl vl_X12_91 rfl h0 (by decide) (Nat.le_of_ble_eq_true rfl) (by decide) (by decide) dX12_turn_45 (t_X12_gives x0 q4 M h0) (fun v5 M6 => ?_)
          exact r_ireturn 48 hC hq (by decide) (by decide) dX12_turn_48
        refine r_if_ne 25 hC (tgt := 40) (by decide) dX12_turn_25 ?_ ?_
        · refine r_aload_n 40 hC 0 rfl (Or.inl (by decide)) rfl dX12_turn_40 ?_
          refine r_iload_n 41 hC 1 rfl rfl dX12_turn_41 ?_
          refine r_callVP 42 hC [(0, x1)] [(30, x0)] rfl vl_X12_290 rfl h0 (by decide) (Nat.le_of_ble_eq_true rfl) (by decide) (by decide) dX12_turn_42 (t_X12_turnMany x0 x1 M h0) (fun v7 => ?_)
          exact r_sub [] rfl (hj45 v7)
        · refine r_aload_n 28 hC 0 rfl (Or.inl (by decide)) rfl dX12_turn_28 ?_
          refine r_aload_n 29 hC 0 rfl (Or.inl (by decide)) rfl dX12_turn_29 ?_
          refine r_iload_n 30 hC 1 rfl rfl dX12_turn_30 ?_
          refine r_callVP 31 hC [(0, x1)] [(30, x0), (30, x0)] rfl vl_X12_284 rfl h0 (by decide) (Nat.le_of_ble_eq_true rfl) (by decide) (by decide) dX12_turn_31 (t_X12_placeOf x0 x1 M h0) (fun v8 => ?_)
          refine r_callVP 34 hC [(0, v8)] [(30, x0)] rfl vl_X12_287 rfl h0 (by decide) (Nat.le_of_ble_eq_true rfl) (by decide) (by decide) dX12_turn_34 (t_X12_beginOf x0 v8 M h0) (fun v9 => ?_)
          refine r_goto 37 hC (tgt := 45) (by decide) dX12_turn_37 ?_
          exact r_sub [] rfl (hj45 v9)
      · exact r_sub [0] rfl (hj17)

/-! WaterTurnsModel.swaps(II)V -/
theorem dX12_swaps_0 : decode cX12_swaps 0 = .ok (.aload_n 0, 1) := by decide +kernel
theorem dX12_swaps_1 : decode cX12_swaps 1 = .ok (.iload_n 1, 1) := by decide +kernel
theorem dX12_swaps_2 : decode cX12_swaps 2 = .ok (.invokevirtual 284, 3) := by decide +kernel
theorem dX12_swaps_5 : decode cX12_swaps 5 = .ok (.istore_n 3, 1) := by decide +kernel
theorem dX12_swaps_6 : decode cX12_swaps 6 = .ok (.aload_n 0, 1) := by decide +kernel
theorem dX12_swaps_7 : decode cX12_swaps 7 = .ok (.iload_n 2, 1) := by decide +kernel
theorem dX12_swaps_8 : decode cX12_swaps 8 = .ok (.invokevirtual 284, 3) := by decide +kernel
theorem dX12_swaps_11 : decode cX12_swaps 11 = .ok (.istore 4, 2) := by decide +kernel
theorem dX12_swaps_13 : decode cX12_swaps 13 = .ok (.aload_n 0, 1) := by decide +kernel
theorem dX12_swaps_14 : decode cX12_swaps 14 = .ok (.getfield 7, 3) := by decide +kernel
theorem dX12_swaps_17 : decode cX12_swaps 17 = .ok (.bipush 112, 2) := by decide +kernel
theorem dX12_swaps_19 : decode cX12_swaps 19 = .ok (.iload_n 3, 1) := by decide +kernel
theorem dX12_swaps_20 : decode cX12_swaps 20 = .ok (.iadd, 1) := by decide +kernel
theorem dX12_swaps_21 : decode cX12_swaps 21 = .ok (.iload_n 2, 1) := by decide +kernel
theorem dX12_swaps_22 : decode cX12_swaps 22 = .ok (.iastore, 1) := by decide +kernel
theorem dX12_swaps_23 : decode cX12_swaps 23 = .ok (.aload_n 0, 1) := by decide +kernel
theorem dX12_swaps_24 : decode cX12_swaps 24 = .ok (.getfield 7, 3) := by decide +kernel
theorem dX12_swaps_27 : decode cX12_swaps 27 = .ok (.bipush 112, 2) := by decide +kernel
theorem dX12_swaps_29 : decode cX12_swaps 29 = .ok (.iload 4, 2) := by decide +kernel
theorem dX12_swaps_31 : decode cX12_swaps 31 = .ok (.iadd, 1) := by decide +kernel
theorem dX12_swaps_32 : decode cX12_swaps 32 = .ok (.iload_n 1, 1) := by decide +kernel
theorem dX12_swaps_33 : decode cX12_swaps 33 = .ok (.iastore, 1) := by decide +kernel
theorem dX12_swaps_34 : decode cX12_swaps 34 = .ok (.return_, 1) := by decide +kernel
set_option maxRecDepth 100000 in
theorem t_X12_swaps (x0 x1 x2 : Int) (M : Mem) (h0 : x0 ≠ 0) : MtV yX12_swaps cX12_swaps 5 none 2 0 0 [(30, x0), (0, x1), (0, x2)] M (f_X12_swaps x0 x1 x2 M) := by
  refine mk_V (by decide +kernel) (Nat.le_of_ble_eq_true rfl) (fun E C M0 hC hq hin => ?_)
  refine r_eqls (ls' := [(0, 30, x0), (1, 0, x1), (2, 0, x2)]) rfl ?_
  unfold f_X12_swaps
  refine r_aload_n 0 hC 0 rfl (Or.inl (by decide)) rfl dX12_swaps_0 ?_
  refine r_iload_n 1 hC 1 rfl rfl dX12_swaps_1 ?_
  refine r_callVP 2 hC [(0, x1)] [] rfl vl_X12_284 rfl h0 (by decide) (Nat.le_of_ble_eq_true rfl) (by decide) (by decide) dX12_swaps_2 (t_X12_placeOf x0 x1 M h0) (fun v1 => ?_)
  refine r_istore_n 5 hC rfl (by decide) dX12_swaps_5 (r_eqls (ls' := [(3, 0, v1), (0, 30, x0), (1, 0, x1), (2, 0, x2)]) rfl ?_)
  refine r_aload_n 6 hC 1 rfl (Or.inl (by decide)) rfl dX12_swaps_6 ?_
  refine r_iload_n 7 hC 3 rfl rfl dX12_swaps_7 ?_
  refine r_callVP 8 hC [(0, x2)] [] rfl vl_X12_284 rfl h0 (by decide) (Nat.le_of_ble_eq_true rfl) (by decide) (by decide) dX12_swaps_8 (t_X12_placeOf x0 x2 M h0) (fun v2 => ?_)
  refine r_istore 11 hC (by decide) dX12_swaps_11 (r_eqls (ls' := [(4, 0, v2), (3, 0, v1), (0, 30, x0), (1, 0, x1), (2, 0, x2)]) rfl ?_)
  refine r_aload_n 13 hC 2 rfl (Or.inl (by decide)) rfl dX12_swaps_13 ?_
  refine r_get 14 hC fd_10_0 fl_X12_7 dX12_swaps_14 (fun v3 => ?_)
  refine r_bipush 17 hC kb_112 dX12_swaps_17 ?_
  refine r_iload_n 19 hC 1 rfl rfl dX12_swaps_19 ?_
  refine r_iadd 20 hC dX12_swaps_20 ?_
  refine r_iload_n 21 hC 4 rfl rfl dX12_swaps_21 ?_
  refine r_iastore 22 hC dX12_swaps_22 (fun M4 => ?_)
  refine r_aload_n 23 hC 2 rfl (Or.inl (by decide)) rfl dX12_swaps_23 ?_
  refine r_get 24 hC fd_10_0 fl_X12_7 dX12_swaps_24 (fun v5 => ?_)
  refine r_bipush 27 hC kb_112 dX12_swaps_27 ?_
  refine r_iload 29 hC 0 rfl dX12_swaps_29 ?_
  refine r_iadd 31 hC dX12_swaps_31 ?_
  refine r_iload_n 32 hC 3 rfl rfl dX12_swaps_32 ?_
  refine r_iastore 33 hC dX12_swaps_33 (fun M6 => ?_)
  exact r_return 34 hC hq (by decide) (by decide) dX12_swaps_34

/-! WaterTurnsModel.swap(II)Z -/
theorem dX12_swap_0 : decode cX12_swap 0 = .ok (.aload_n 0, 1) := by decide +kernel
theorem dX12_swap_1 : decode cX12_swap 1 = .ok (.iload_n 1, 1) := by decide +kernel
theorem dX12_swap_2 : decode cX12_swap 2 = .ok (.invokevirtual 266, 3) := by decide +kernel
theorem dX12_swap_5 : decode cX12_swap 5 = .ok (.ifCond .eq 16, 3) := by decide +kernel
theorem dX12_swap_8 : decode cX12_swap 8 = .ok (.aload_n 0, 1) := by decide +kernel
theorem dX12_swap_9 : decode cX12_swap 9 = .ok (.iload_n 2, 1) := by decide +kernel
theorem dX12_swap_10 : decode cX12_swap 10 = .ok (.invokevirtual 266, 3) := by decide +kernel
theorem dX12_swap_13 : decode cX12_swap 13 = .ok (.ifCond .eq 8, 3) := by decide +kernel
theorem dX12_swap_16 : decode cX12_swap 16 = .ok (.iload_n 1, 1) := by decide +kernel
theorem dX12_swap_17 : decode cX12_swap 17 = .ok (.iload_n 2, 1) := by decide +kernel
theorem dX12_swap_18 : decode cX12_swap 18 = .ok (.if_icmp .ne 9, 3) := by decide +kernel
theorem dX12_swap_21 : decode cX12_swap 21 = .ok (.aload_n 0, 1) := by decide +kernel
theorem dX12_swap_22 : decode cX12_swap 22 = .ok (.iconst 1, 1) := by decide +kernel
theorem dX12_swap_23 : decode cX12_swap 23 = .ok (.invokevirtual 94, 3) := by decide +kernel
theorem dX12_swap_26 : decode cX12_swap 26 = .ok (.ireturn, 1) := by decide +kernel
theorem dX12_swap_27 : decode cX12_swap 27 = .ok (.aload_n 0, 1) := by decide +kernel
theorem dX12_swap_28 : decode cX12_swap 28 = .ok (.getfield 7, 3) := by decide +kernel
theorem dX12_swap_31 : decode cX12_swap 31 = .ok (.bipush 8, 2) := by decide +kernel
theorem dX12_swap_33 : decode cX12_swap 33 = .ok (.iaload, 1) := by decide +kernel
theorem dX12_swap_34 : decode cX12_swap 34 = .ok (.ifCond .le 10, 3) := by decide +kernel
theorem dX12_swap_37 : decode cX12_swap 37 = .ok (.aload_n 0, 1) := by decide +kernel
theorem dX12_swap_38 : decode cX12_swap 38 = .ok (.bipush 7, 2) := by decide +kernel
theorem dX12_swap_40 : decode cX12_swap 40 = .ok (.invokevirtual 94, 3) := by decide +kernel
theorem dX12_swap_43 : decode cX12_swap 43 = .ok (.ireturn, 1) := by decide +kernel
theorem dX12_swap_44 : decode cX12_swap 44 = .ok (.aload_n 0, 1) := by decide +kernel
theorem dX12_swap_45 : decode cX12_swap 45 = .ok (.iload_n 1, 1) := by decide +kernel
theorem dX12_swap_46 : decode cX12_swap 46 = .ok (.iload_n 2, 1) := by decide +kernel
theorem dX12_swap_47 : decode cX12_swap 47 = .ok (.invokevirtual 293, 3) := by decide +kernel
theorem dX12_swap_50 : decode cX12_swap 50 = .ok (.aload_n 0, 1) := by decide +kernel
theorem dX12_swap_51 : decode cX12_swap 51 = .ok (.iconst 0, 1) := by decide +kernel
theorem dX12_swap_52 : decode cX12_swap 52 = .ok (.invokevirtual 94, 3) := by decide +kernel
theorem dX12_swap_55 : decode cX12_swap 55 = .ok (.ireturn, 1) := by decide +kernel
set_option maxRecDepth 100000 in
theorem t_X12_swap (x0 x1 x2 : Int) (M : Mem) (h0 : x0 ≠ 0) : MtI yX12_swap cX12_swap 3 (some .boolean) 3 0 0 [(30, x0), (0, x1), (0, x2)] M 0 (f_X12_swap x0 x1 x2 M) := by
  refine mk_I (by decide +kernel) (Nat.le_of_ble_eq_true rfl) (fun E C r0 M0 hC hq hin => ?_)
  refine r_eqls (ls' := [(0, 30, x0), (1, 0, x1), (2, 0, x2)]) rfl ?_
  unfold f_X12_swap
  refine r_aload_n 0 hC 0 rfl (Or.inl (by decide)) rfl dX12_swap_0 ?_
  refine r_iload_n 1 hC 1 rfl rfl dX12_swap_1 ?_
  refine r_callVP 2 hC [(0, x1)] [] rfl vl_X12_266 rfl h0 (by decide) (Nat.le_of_ble_eq_true rfl) (by decide) (by decide) dX12_swap_2 (t_X12_isField x0 x1 M h0) (fun v1 => ?_)
  refine r_jn (P := fun j21 => Bk E C 3 M (r0, M0) 21 [(0, 30, x0)] [] M 0 0 (j21)) ?_ (fun j21 hj21 => ?_)
  · refine r_aload_n 21 hC 0 rfl (Or.inl (by decide)) rfl dX12_swap_21 ?_
    refine r_iconst 22 hC (r32c rfl) dX12_swap_22 ?_
    refine r_callVI 23 hC [(0, 1)] [] rfl vl_X12_94 rfl h0 (by decide) (Nat.le_of_ble_eq_true rfl) (by decide) (by decide) dX12_swap_23 (t_X12_is x0 1 M h0) (fun v2 M3 => ?_)
    exact r_zreturn 26 hC hq (by decide) (by decide) dX12_swap_26
  refine r_if_eq 5 hC (tgt := 21) (by decide) dX12_swap_5 ?_ ?_
  · exact r_sub [0] rfl (hj21)
  · refine r_aload_n 8 hC 0 rfl (Or.inl (by decide)) rfl dX12_swap_8 ?_
    refine r_iload_n 9 hC 2 rfl rfl dX12_swap_9 ?_
    refine r_callVP 10 hC [(0, x2)] [] rfl vl_X12_266 rfl h0 (by decide) (Nat.le_of_ble_eq_true rfl) (by decide) (by decide) dX12_swap_10 (t_X12_isField x0 x2 M h0) (fun v4 => ?_)
    refine r_if_eq 13 hC (tgt := 21) (by decide) dX12_swap_13 ?_ ?_
    · exact r_sub [0] rfl (hj21)
    · refine r_iload_n 16 hC 1 rfl rfl dX12_swap_16 ?_
      refine r_iload_n 17 hC 2 rfl rfl dX12_swap_17 ?_
      refine r_icmp_ne 18 hC (tgt := 27) (by decide) dX12_swap_18 ?_ ?_
      · refine r_aload_n 27 hC 0 rfl (Or.inl (by decide)) rfl dX12_swap_27 ?_
        refine r_get 28 hC fd_10_0 fl_X12_7 dX12_swap_28 (fun v5 => ?_)
        refine r_bipush 31 hC kb_8 dX12_swap_31 ?_
        refine r_iaload 33 hC dX12_swap_33 (fun v6 => ?_)
        refine r_if_le 34 hC (tgt := 44) (by decide) dX12_swap_34 ?_ ?_
        · refine r_aload_n 44 hC 0 rfl (Or.inl (by decide)) rfl dX12_swap_44 ?_
          refine r_iload_n 45 hC 1 rfl rfl dX12_swap_45 ?_
          refine r_iload_n 46 hC 2 rfl rfl dX12_swap_46 ?_
          refine r_callVV 47 hC [(0, x1), (0, x2)] [] rfl vl_X12_293 rfl h0 (by decide) (Nat.le_of_ble_eq_true rfl) (by decide) (by decide) dX12_swap_47 (t_X12_swaps x0 x1 x2 M h0) (fun M7 => ?_)
          refine r_aload_n 50 hC 0 rfl (Or.inl (by decide)) rfl dX12_swap_50 ?_
          refine r_iconst 51 hC (r32c rfl) dX12_swap_51 ?_
          refine r_callVI 52 hC [(0, 0)] [] rfl vl_X12_94 rfl h0 (by decide) (Nat.le_of_ble_eq_true rfl) (by decide) (by decide) dX12_swap_52 (t_X12_is x0 0 M7 h0) (fun v8 M9 => ?_)
          exact r_zreturn 55 hC hq (by decide) (by decide) dX12_swap_55
        · refine r_aload_n 37 hC 0 rfl (Or.inl (by decide)) rfl dX12_swap_37 ?_
          refine r_bipush 38 hC kb_7 dX12_swap_38 ?_
          refine r_callVI 40 hC [(0, 7)] [] rfl vl_X12_94 rfl h0 (by decide) (Nat.le_of_ble_eq_true rfl) (by decide) (by decide) dX12_swap_40 (t_X12_is x0 7 M h0) (fun v10 M11 => ?_)
          exact r_zreturn 43 hC hq (by decide) (by decide) dX12_swap_43
      · exact r_sub [0] rfl (hj21)

/-! WaterTurnsModel.ownLeft(I)I -/
theorem dX12_ownLeft_0 : decode cX12_ownLeft 0 = .ok (.aload_n 0, 1) := by decide +kernel
theorem dX12_ownLeft_1 : decode cX12_ownLeft 1 = .ok (.iload_n 1, 1) := by decide +kernel
theorem dX12_ownLeft_2 : decode cX12_ownLeft 2 = .ok (.invokevirtual 290, 3) := by decide +kernel
theorem dX12_ownLeft_5 : decode cX12_ownLeft 5 = .ok (.istore_n 2, 1) := by decide +kernel
theorem dX12_ownLeft_6 : decode cX12_ownLeft 6 = .ok (.iconst 0, 1) := by decide +kernel
theorem dX12_ownLeft_7 : decode cX12_ownLeft 7 = .ok (.istore_n 3, 1) := by decide +kernel
theorem dX12_ownLeft_8 : decode cX12_ownLeft 8 = .ok (.iload_n 3, 1) := by decide +kernel
theorem dX12_ownLeft_9 : decode cX12_ownLeft 9 = .ok (.aload_n 0, 1) := by decide +kernel
theorem dX12_ownLeft_10 : decode cX12_ownLeft 10 = .ok (.getfield 7, 3) := by decide +kernel
theorem dX12_ownLeft_13 : decode cX12_ownLeft 13 = .ok (.bipush 8, 2) := by decide +kernel
theorem dX12_ownLeft_15 : decode cX12_ownLeft 15 = .ok (.iaload, 1) := by decide +kernel
theorem dX12_ownLeft_16 : decode cX12_ownLeft 16 = .ok (.if_icmp .ge 44, 3) := by decide +kernel
theorem dX12_ownLeft_19 : decode cX12_ownLeft 19 = .ok (.iload_n 2, 1) := by decide +kernel
theorem dX12_ownLeft_20 : decode cX12_ownLeft 20 = .ok (.aload_n 0, 1) := by decide +kernel
theorem dX12_ownLeft_21 : decode cX12_ownLeft 21 = .ok (.getfield 7, 3) := by decide +kernel
theorem dX12_ownLeft_24 : decode cX12_ownLeft 24 = .ok (.bipush 122, 2) := by decide +kernel
theorem dX12_ownLeft_26 : decode cX12_ownLeft 26 = .ok (.iconst 3, 1) := by decide +kernel
theorem dX12_ownLeft_27 : decode cX12_ownLeft 27 = .ok (.iload_n 3, 1) := by decide +kernel
theorem dX12_ownLeft_28 : decode cX12_ownLeft 28 = .ok (.imul, 1) := by decide +kernel
theorem dX12_ownLeft_29 : decode cX12_ownLeft 29 = .ok (.iadd, 1) := by decide +kernel
theorem dX12_ownLeft_30 : decode cX12_ownLeft 30 = .ok (.iaload, 1) := by decide +kernel
theorem dX12_ownLeft_31 : decode cX12_ownLeft 31 = .ok (.iload_n 1, 1) := by decide +kernel
theorem dX12_ownLeft_32 : decode cX12_ownLeft 32 = .ok (.if_icmp .ne 19, 3) := by decide +kernel
theorem dX12_ownLeft_35 : decode cX12_ownLeft 35 = .ok (.aload_n 0, 1) := by decide +kernel
theorem dX12_ownLeft_36 : decode cX12_ownLeft 36 = .ok (.getfield 7, 3) := by decide +kernel
theorem dX12_ownLeft_39 : decode cX12_ownLeft 39 = .ok (.bipush 122, 2) := by decide +kernel
theorem dX12_ownLeft_41 : decode cX12_ownLeft 41 = .ok (.iconst 3, 1) := by decide +kernel
theorem dX12_ownLeft_42 : decode cX12_ownLeft 42 = .ok (.iload_n 3, 1) := by decide +kernel
theorem dX12_ownLeft_43 : decode cX12_ownLeft 43 = .ok (.imul, 1) := by decide +kernel
theorem dX12_ownLeft_44 : decode cX12_ownLeft 44 = .ok (.iadd, 1) := by decide +kernel
theorem dX12_ownLeft_45 : decode cX12_ownLeft 45 = .ok (.iconst 2, 1) := by decide +kernel
theorem dX12_ownLeft_46 : decode cX12_ownLeft 46 = .ok (.iadd, 1) := by decide +kernel
theorem dX12_ownLeft_47 : decode cX12_ownLeft 47 = .ok (.iaload, 1) := by decide +kernel
theorem dX12_ownLeft_48 : decode cX12_ownLeft 48 = .ok (.goto 4, 3) := by decide +kernel
theorem dX12_ownLeft_51 : decode cX12_ownLeft 51 = .ok (.iconst 0, 1) := by decide +kernel
theorem dX12_ownLeft_52 : decode cX12_ownLeft 52 = .ok (.isub, 1) := by decide +kernel
theorem dX12_ownLeft_53 : decode cX12_ownLeft 53 = .ok (.istore_n 2, 1) := by decide +kernel
theorem dX12_ownLeft_54 : decode cX12_ownLeft 54 = .ok (.iinc 3 1, 3) := by decide +kernel
theorem dX12_ownLeft_57 : decode cX12_ownLeft 57 = .ok (.goto (-49), 3) := by decide +kernel
theorem dX12_ownLeft_60 : decode cX12_ownLeft 60 = .ok (.iload_n 2, 1) := by decide +kernel
theorem dX12_ownLeft_61 : decode cX12_ownLeft 61 = .ok (.ireturn, 1) := by decide +kernel
set_option maxRecDepth 100000 in
theorem f_X12_ownLeft_L8_ok {E : EnvT} {C : Cx} {Mi M : Mem} {x0 : Int} (h0 : x0 ≠ 0) (hC : CxOK E C cX12_ownLeft 4 yX12_ownLeft.cls 5 0 0) {r0 : Int} (hq : RQ E C 0 0 Mi (some .int) (some (0, r0)) M) {x1 : Int} {k : Int → Option (Int)} (hk : ∀ q12, Bk E C 4 Mi r0 60 [(2, 0, q12)] [] M 0 0 (k q12)) : ∀ (n : Nat) (p2 : Int) (p3 : Int), Bk E C 4 Mi r0 8 [(0, 30, x0), (1, 0, x1), (2, 0, p2), (3, 0, p3)] [] M 0 0 (f_X12_ownLeft_L8 M x0 x1 k n p2 p3) := by
  intro n
  induction n with
  | zero =>
    intro p2 p3
    exact r_none
  | succ n ih =>
    intro p2 p3
    rw [f_X12_ownLeft_L8]
    refine r_iload_n 8 hC 3 rfl rfl dX12_ownLeft_8 ?_
    refine r_aload_n 9 hC 0 rfl (Or.inl (by decide)) rfl dX12_ownLeft_9 ?_
    refine r_get 10 hC fd_10_0 fl_X12_7 dX12_ownLeft_10 (fun v4 => ?_)
    refine r_bipush 13 hC kb_8 dX12_ownLeft_13 ?_
    refine r_iaload 15 hC dX12_ownLeft_15 (fun v5 => ?_)
    refine r_icmp_ge 16 hC (tgt := 60) (by decide) dX12_ownLeft_16 ?_ ?_
    · exact r_sub [2] rfl (hk p2)
    · refine r_iload_n 19 hC 2 rfl rfl dX12_ownLeft_19 ?_
      refine r_aload_n 20 hC 0 rfl (Or.inl (by decide)) rfl dX12_ownLeft_20 ?_
      refine r_get 21 hC fd_10_0 fl_X12_7 dX12_ownLeft_21 (fun v6 => ?_)
      refine r_bipush 24 hC kb_122 dX12_ownLeft_24 ?_
      refine r_iconst 26 hC (r32c rfl) dX12_ownLeft_26 ?_
      refine r_iload_n 27 hC 3 rfl rfl dX12_ownLeft_27 ?_
      refine r_imul 28 hC dX12_ownLeft_28 ?_
      refine r_iadd 29 hC dX12_ownLeft_29 ?_
      refine r_iaload 30 hC dX12_ownLeft_30 (fun v7 => ?_)
      refine r_iload_n 31 hC 1 rfl rfl dX12_ownLeft_31 ?_
      refine r_jn (P := fun j52 => ∀ (q8 : Int), Bk E C 4 Mi r0 52 [(0, 30, x0), (1, 0, x1), (3, 0, p3)] [(0, q8), (0, p2)] M 0 0 (j52 q8)) ?_ (fun j52 hj52 => ?_)
      · intro q8
        refine r_isub 52 hC dX12_ownLeft_52 ?_
        refine r_istore_nL 53 hC rfl (by decide) dX12_ownLeft_53 (fun v9 => r_eqls (ls' := [(2, 0, v9), (0, 30, x0), (1, 0, x1), (3, 0, p3)]) rfl ?_)
        refine r_iinc 54 hC 3 rfl (by decide) dX12_ownLeft_54 (r_eqls (ls' := [(3, 0, w32 (p3 + 1)), (2, 0, v9), (0, 30, x0), (1, 0, x1)]) rfl ?_)
        refine r_goto 57 hC (tgt := 8) (by decide) dX12_ownLeft_57 ?_
        exact r_sub [2, 3, 1, 0] rfl (ih v9 (w32 (p3 + 1)))
      refine r_icmp_ne 32 hC (tgt := 51) (by decide) dX12_ownLeft_32 ?_ ?_
      · refine r_iconst 51 hC (r32c rfl) dX12_ownLeft_51 ?_
        exact r_sub [0, 1, 3] rfl (hj52 0)
      · refine r_aload_n 35 hC 0 rfl (Or.inl (by decide)) rfl dX12_ownLeft_35 ?_
        refine r_get 36 hC fd_10_0 fl_X12_7 dX12_ownLeft_36 (fun v10 => ?_)
        refine r_bipush 39 hC kb_122 dX12_ownLeft_39 ?_
        refine r_iconst 41 hC (r32c rfl) dX12_ownLeft_41 ?_
        refine r_iload_n 42 hC 3 rfl rfl dX12_ownLeft_42 ?_
        refine r_imul 43 hC dX12_ownLeft_43 ?_
        refine r_iadd 44 hC dX12_ownLeft_44 ?_
        refine r_iconst 45 hC (r32c rfl) dX12_ownLeft_45 ?_
        refine r_iadd 46 hC dX12_ownLeft_46 ?_
        refine r_iaload 47 hC dX12_ownLeft_47 (fun v11 => ?_)
        refine r_goto 48 hC (tgt := 52) (by decide) dX12_ownLeft_48 ?_
        exact r_sub [0, 1, 3] rfl (hj52 v11)
set_option maxRecDepth 100000 in
theorem t_X12_ownLeft (x0 x1 : Int) (M : Mem) (h0 : x0 ≠ 0) : MtP yX12_ownLeft cX12_ownLeft 4 (some .int) 5 0 0 [(30, x0), (0, x1)] M 0 (f_X12_ownLeft x0 x1 M) := by
  refine mk_P (by decide +kernel) (Nat.le_of_ble_eq_true rfl) (fun E C r0 hC hq hin => ?_)
  refine r_eqls (ls' := [(0, 30, x0), (1, 0, x1)]) rfl ?_
  unfold f_X12_ownLeft
  refine r_aload_n 0 hC 0 rfl (Or.inl (by decide)) rfl dX12_ownLeft_0 ?_
  refine r_iload_n 1 hC 1 rfl rfl dX12_ownLeft_1 ?_
  refine r_callVP 2 hC [(0, x1)] [] rfl vl_X12_290 rfl h0 (by decide) (Nat.le_of_ble_eq_true rfl) (by decide) (by decide) dX12_ownLeft_2 (t_X12_turnMany x0 x1 M h0) (fun v1 => ?_)
  refine r_istore_n 5 hC rfl (by decide) dX12_ownLeft_5 (r_eqls (ls' := [(2, 0, v1), (0, 30, x0), (1, 0, x1)]) rfl ?_)
  refine r_iconst 6 hC (r32c rfl) dX12_ownLeft_6 ?_
  refine r_istore_n 7 hC rfl (by decide) dX12_ownLeft_7 (r_eqls (ls' := [(3, 0, 0), (2, 0, v1), (0, 30, x0), (1, 0, x1)]) rfl ?_)
  refine r_sub [2, 3, 1, 0] rfl (f_X12_ownLeft_L8_ok h0 hC hq (fun q13 => ?_) KF v1 0)
  · refine r_iload_n 60 hC 0 rfl rfl dX12_ownLeft_60 ?_
    exact r_ireturnP 61 hC hq (by decide) (by decide) dX12_ownLeft_61

/-! WaterTurnsModel.lends(III)V -/
theorem dX12_lends_0 : decode cX12_lends 0 = .ok (.bipush 122, 2) := by decide +kernel
theorem dX12_lends_2 : decode cX12_lends 2 = .ok (.iconst 3, 1) := by decide +kernel
theorem dX12_lends_3 : decode cX12_lends 3 = .ok (.aload_n 0, 1) := by decide +kernel
theorem dX12_lends_4 : decode cX12_lends 4 = .ok (.getfield 7, 3) := by decide +kernel
theorem dX12_lends_7 : decode cX12_lends 7 = .ok (.bipush 8, 2) := by decide +kernel
theorem dX12_lends_9 : decode cX12_lends 9 = .ok (.iaload, 1) := by decide +kernel
theorem dX12_lends_10 : decode cX12_lends 10 = .ok (.imul, 1) := by decide +kernel
theorem dX12_lends_11 : decode cX12_lends 11 = .ok (.iadd, 1) := by decide +kernel
theorem dX12_lends_12 : decode cX12_lends 12 = .ok (.istore 4, 2) := by decide +kernel
theorem dX12_lends_14 : decode cX12_lends 14 = .ok (.aload_n 0, 1) := by decide +kernel
theorem dX12_lends_15 : decode cX12_lends 15 = .ok (.getfield 7, 3) := by decide +kernel
theorem dX12_lends_18 : decode cX12_lends 18 = .ok (.iload 4, 2) := by decide +kernel
theorem dX12_lends_20 : decode cX12_lends 20 = .ok (.iload_n 1, 1) := by decide +kernel
theorem dX12_lends_21 : decode cX12_lends 21 = .ok (.iastore, 1) := by decide +kernel
theorem dX12_lends_22 : decode cX12_lends 22 = .ok (.aload_n 0, 1) := by decide +kernel
theorem dX12_lends_23 : decode cX12_lends 23 = .ok (.getfield 7, 3) := by decide +kernel
theorem dX12_lends_26 : decode cX12_lends 26 = .ok (.iload 4, 2) := by decide +kernel
theorem dX12_lends_28 : decode cX12_lends 28 = .ok (.iconst 1, 1) := by decide +kernel
theorem dX12_lends_29 : decode cX12_lends 29 = .ok (.iadd, 1) := by decide +kernel
theorem dX12_lends_30 : decode cX12_lends 30 = .ok (.iload_n 2, 1) := by decide +kernel
theorem dX12_lends_31 : decode cX12_lends 31 = .ok (.iastore, 1) := by decide +kernel
theorem dX12_lends_32 : decode cX12_lends 32 = .ok (.aload_n 0, 1) := by decide +kernel
theorem dX12_lends_33 : decode cX12_lends 33 = .ok (.getfield 7, 3) := by decide +kernel
theorem dX12_lends_36 : decode cX12_lends 36 = .ok (.iload 4, 2) := by decide +kernel
theorem dX12_lends_38 : decode cX12_lends 38 = .ok (.iconst 2, 1) := by decide +kernel
theorem dX12_lends_39 : decode cX12_lends 39 = .ok (.iadd, 1) := by decide +kernel
theorem dX12_lends_40 : decode cX12_lends 40 = .ok (.iload_n 3, 1) := by decide +kernel
theorem dX12_lends_41 : decode cX12_lends 41 = .ok (.iastore, 1) := by decide +kernel
theorem dX12_lends_42 : decode cX12_lends 42 = .ok (.aload_n 0, 1) := by decide +kernel
theorem dX12_lends_43 : decode cX12_lends 43 = .ok (.getfield 7, 3) := by decide +kernel
theorem dX12_lends_46 : decode cX12_lends 46 = .ok (.bipush 8, 2) := by decide +kernel
theorem dX12_lends_48 : decode cX12_lends 48 = .ok (.dup2, 1) := by decide +kernel
theorem dX12_lends_49 : decode cX12_lends 49 = .ok (.iaload, 1) := by decide +kernel
theorem dX12_lends_50 : decode cX12_lends 50 = .ok (.iconst 1, 1) := by decide +kernel
theorem dX12_lends_51 : decode cX12_lends 51 = .ok (.iadd, 1) := by decide +kernel
theorem dX12_lends_52 : decode cX12_lends 52 = .ok (.iastore, 1) := by decide +kernel
theorem dX12_lends_53 : decode cX12_lends 53 = .ok (.sipush 158, 3) := by decide +kernel
theorem dX12_lends_56 : decode cX12_lends 56 = .ok (.bipush 10, 2) := by decide +kernel
theorem dX12_lends_58 : decode cX12_lends 58 = .ok (.iload_n 1, 1) := by decide +kernel
theorem dX12_lends_59 : decode cX12_lends 59 = .ok (.imul, 1) := by decide +kernel
theorem dX12_lends_60 : decode cX12_lends 60 = .ok (.iadd, 1) := by decide +kernel
theorem dX12_lends_61 : decode cX12_lends 61 = .ok (.iload_n 2, 1) := by decide +kernel
theorem dX12_lends_62 : decode cX12_lends 62 = .ok (.iadd, 1) := by decide +kernel
theorem dX12_lends_63 : decode cX12_lends 63 = .ok (.istore 5, 2) := by decide +kernel
theorem dX12_lends_65 : decode cX12_lends 65 = .ok (.aload_n 0, 1) := by decide +kernel
theorem dX12_lends_66 : decode cX12_lends 66 = .ok (.getfield 7, 3) := by decide +kernel
theorem dX12_lends_69 : decode cX12_lends 69 = .ok (.iload 5, 2) := by decide +kernel
theorem dX12_lends_71 : decode cX12_lends 71 = .ok (.iaload, 1) := by decide +kernel
theorem dX12_lends_72 : decode cX12_lends 72 = .ok (.iload_n 3, 1) := by decide +kernel
theorem dX12_lends_73 : decode cX12_lends 73 = .ok (.invokestatic 142, 3) := by decide +kernel
theorem dX12_lends_76 : decode cX12_lends 76 = .ok (.istore 6, 2) := by decide +kernel
theorem dX12_lends_78 : decode cX12_lends 78 = .ok (.aload_n 0, 1) := by decide +kernel
theorem dX12_lends_79 : decode cX12_lends 79 = .ok (.getfield 7, 3) := by decide +kernel
theorem dX12_lends_82 : decode cX12_lends 82 = .ok (.iload 5, 2) := by decide +kernel
theorem dX12_lends_84 : decode cX12_lends 84 = .ok (.dup2, 1) := by decide +kernel
theorem dX12_lends_85 : decode cX12_lends 85 = .ok (.iaload, 1) := by decide +kernel
theorem dX12_lends_86 : decode cX12_lends 86 = .ok (.iload 6, 2) := by decide +kernel
theorem dX12_lends_88 : decode cX12_lends 88 = .ok (.isub, 1) := by decide +kernel
theorem dX12_lends_89 : decode cX12_lends 89 = .ok (.iastore, 1) := by decide +kernel
theorem dX12_lends_90 : decode cX12_lends 90 = .ok (.aload_n 0, 1) := by decide +kernel
theorem dX12_lends_91 : decode cX12_lends 91 = .ok (.getfield 7, 3) := by decide +kernel
theorem dX12_lends_94 : decode cX12_lends 94 = .ok (.sipush 158, 3) := by decide +kernel
theorem dX12_lends_97 : decode cX12_lends 97 = .ok (.bipush 10, 2) := by decide +kernel
theorem dX12_lends_99 : decode cX12_lends 99 = .ok (.iload_n 2, 1) := by decide +kernel
theorem dX12_lends_100 : decode cX12_lends 100 = .ok (.imul, 1) := by decide +kernel
theorem dX12_lends_101 : decode cX12_lends 101 = .ok (.iadd, 1) := by decide +kernel
theorem dX12_lends_102 : decode cX12_lends 102 = .ok (.iload_n 1, 1) := by decide +kernel
theorem dX12_lends_103 : decode cX12_lends 103 = .ok (.iadd, 1) := by decide +kernel
theorem dX12_lends_104 : decode cX12_lends 104 = .ok (.dup2, 1) := by decide +kernel
theorem dX12_lends_105 : decode cX12_lends 105 = .ok (.iaload, 1) := by decide +kernel
theorem dX12_lends_106 : decode cX12_lends 106 = .ok (.iload_n 3, 1) := by decide +kernel
theorem dX12_lends_107 : decode cX12_lends 107 = .ok (.iload 6, 2) := by decide +kernel
theorem dX12_lends_109 : decode cX12_lends 109 = .ok (.isub, 1) := by decide +kernel
theorem dX12_lends_110 : decode cX12_lends 110 = .ok (.iadd, 1) := by decide +kernel
theorem dX12_lends_111 : decode cX12_lends 111 = .ok (.iastore, 1) := by decide +kernel
theorem dX12_lends_112 : decode cX12_lends 112 = .ok (.return_, 1) := by decide +kernel
set_option maxRecDepth 100000 in
theorem t_X12_lends (x0 x1 x2 x3 : Int) (M : Mem) (h0 : x0 ≠ 0) : MtV yX12_lends cX12_lends 7 none 2 0 0 [(30, x0), (0, x1), (0, x2), (0, x3)] M (f_X12_lends x0 x1 x2 x3 M) := by
  refine mk_V (by decide +kernel) (Nat.le_of_ble_eq_true rfl) (fun E C M0 hC hq hin => ?_)
  refine r_eqls (ls' := [(0, 30, x0), (1, 0, x1), (2, 0, x2), (3, 0, x3)]) rfl ?_
  unfold f_X12_lends
  refine r_bipush 0 hC kb_122 dX12_lends_0 ?_
  refine r_iconst 2 hC (r32c rfl) dX12_lends_2 ?_
  refine r_aload_n 3 hC 0 rfl (Or.inl (by decide)) rfl dX12_lends_3 ?_
  refine r_get 4 hC fd_10_0 fl_X12_7 dX12_lends_4 (fun v1 => ?_)
  refine r_bipush 7 hC kb_8 dX12_lends_7 ?_
  refine r_iaload 9 hC dX12_lends_9 (fun v2 => ?_)
  refine r_imul 10 hC dX12_lends_10 ?_
  refine r_iadd 11 hC dX12_lends_11 ?_
  refine r_istoreL 12 hC (by decide) dX12_lends_12 (fun v3 => r_eqls (ls' := [(4, 0, v3), (0, 30, x0), (1, 0, x1), (2, 0, x2), (3, 0, x3)]) rfl ?_)
  refine r_aload_n 14 hC 1 rfl (Or.inl (by decide)) rfl dX12_lends_14 ?_
  refine r_get 15 hC fd_10_0 fl_X12_7 dX12_lends_15 (fun v4 => ?_)
  refine r_iload 18 hC 0 rfl dX12_lends_18 ?_
  refine r_iload_n 20 hC 2 rfl rfl dX12_lends_20 ?_
  refine r_iastore 21 hC dX12_lends_21 (fun M5 => ?_)
  refine r_aload_n 22 hC 1 rfl (Or.inl (by decide)) rfl dX12_lends_22 ?_
  refine r_get 23 hC fd_10_0 fl_X12_7 dX12_lends_23 (fun v6 => ?_)
  refine r_iload 26 hC 0 rfl dX12_lends_26 ?_
  refine r_iconst 28 hC (r32c rfl) dX12_lends_28 ?_
  refine r_iadd 29 hC dX12_lends_29 ?_
  refine r_iload_n 30 hC 3 rfl rfl dX12_lends_30 ?_
  refine r_iastore 31 hC dX12_lends_31 (fun M7 => ?_)
  refine r_aload_n 32 hC 1 rfl (Or.inl (by decide)) rfl dX12_lends_32 ?_
  refine r_get 33 hC fd_10_0 fl_X12_7 dX12_lends_33 (fun v8 => ?_)
  refine r_iload 36 hC 0 rfl dX12_lends_36 ?_
  refine r_iconst 38 hC (r32c rfl) dX12_lends_38 ?_
  refine r_iadd 39 hC dX12_lends_39 ?_
  refine r_iload_n 40 hC 4 rfl rfl dX12_lends_40 ?_
  refine r_iastore 41 hC dX12_lends_41 (fun M9 => ?_)
  refine r_aload_n 42 hC 1 rfl (Or.inl (by decide)) rfl dX12_lends_42 ?_
  refine r_get 43 hC fd_10_0 fl_X12_7 dX12_lends_43 (fun v10 => ?_)
  refine r_bipush 46 hC kb_8 dX12_lends_46 ?_
  refine r_dup2 48 hC ⟨by decide, by decide⟩ dX12_lends_48 ?_
  refine r_iaload 49 hC dX12_lends_49 (fun v11 => ?_)
  refine r_iconst 50 hC (r32c rfl) dX12_lends_50 ?_
  refine r_iadd 51 hC dX12_lends_51 ?_
  refine r_iastore 52 hC dX12_lends_52 (fun M12 => ?_)
  refine r_sipush 53 hC ks_158 dX12_lends_53 ?_
  refine r_bipush 56 hC kb_10 dX12_lends_56 ?_
  refine r_iload_n 58 hC 2 rfl rfl dX12_lends_58 ?_
  refine r_imul 59 hC dX12_lends_59 ?_
  refine r_iadd 60 hC dX12_lends_60 ?_
  refine r_iload_n 61 hC 3 rfl rfl dX12_lends_61 ?_
  refine r_iadd 62 hC dX12_lends_62 ?_
  refine r_istoreL 63 hC (by decide) dX12_lends_63 (fun v13 => r_eqls (ls' := [(5, 0, v13), (4, 0, v3), (0, 30, x0), (1, 0, x1), (2, 0, x2), (3, 0, x3)]) rfl ?_)
  refine r_aload_n 65 hC 2 rfl (Or.inl (by decide)) rfl dX12_lends_65 ?_
  refine r_get 66 hC fd_10_0 fl_X12_7 dX12_lends_66 (fun v14 => ?_)
  refine r_iload 69 hC 0 rfl dX12_lends_69 ?_
  refine r_iaload 71 hC dX12_lends_71 (fun v15 => ?_)
  refine r_iload_n 72 hC 5 rfl rfl dX12_lends_72 ?_
  refine r_callSP 73 hC [(0, v15), (0, x3)] [] rfl sl_X12_142 rfl (by decide) (Nat.le_of_ble_eq_true rfl) (by decide) (by decide) dX12_lends_73 (t_J9_min_7cf53 v15 x3 M12) (fun v16 => ?_)
  refine r_istore 76 hC (by decide) dX12_lends_76 (r_eqls (ls' := [(6, 0, v16), (5, 0, v13), (4, 0, v3), (0, 30, x0), (1, 0, x1), (2, 0, x2), (3, 0, x3)]) rfl ?_)
  refine r_aload_n 78 hC 3 rfl (Or.inl (by decide)) rfl dX12_lends_78 ?_
  refine r_get 79 hC fd_10_0 fl_X12_7 dX12_lends_79 (fun v17 => ?_)
  refine r_iload 82 hC 1 rfl dX12_lends_82 ?_
  refine r_dup2 84 hC ⟨by decide, by decide⟩ dX12_lends_84 ?_
  refine r_iaload 85 hC dX12_lends_85 (fun v18 => ?_)
  refine r_iload 86 hC 0 rfl dX12_lends_86 ?_
  refine r_isub 88 hC dX12_lends_88 ?_
  refine r_iastore 89 hC dX12_lends_89 (fun M19 => ?_)
  refine r_aload_n 90 hC 3 rfl (Or.inl (by decide)) rfl dX12_lends_90 ?_
  refine r_get 91 hC fd_10_0 fl_X12_7 dX12_lends_91 (fun v20 => ?_)
  refine r_sipush 94 hC ks_158 dX12_lends_94 ?_
  refine r_bipush 97 hC kb_10 dX12_lends_97 ?_
  refine r_iload_n 99 hC 5 rfl rfl dX12_lends_99 ?_
  refine r_imul 100 hC dX12_lends_100 ?_
  refine r_iadd 101 hC dX12_lends_101 ?_
  refine r_iload_n 102 hC 4 rfl rfl dX12_lends_102 ?_
  refine r_iadd 103 hC dX12_lends_103 ?_
  refine r_dup2 104 hC ⟨by decide, by decide⟩ dX12_lends_104 ?_
  refine r_iaload 105 hC dX12_lends_105 (fun v21 => ?_)
  refine r_iload_n 106 hC 6 rfl rfl dX12_lends_106 ?_
  refine r_iload 107 hC 0 rfl dX12_lends_107 ?_
  refine r_isub 109 hC dX12_lends_109 ?_
  refine r_iadd 110 hC dX12_lends_110 ?_
  refine r_iastore 111 hC dX12_lends_111 (fun M22 => ?_)
  exact r_return 112 hC hq (by decide) (by decide) dX12_lends_112

/-! WaterTurnsModel.lend(III)I -/
theorem dX12_lend_0 : decode cX12_lend 0 = .ok (.aload_n 0, 1) := by decide +kernel
theorem dX12_lend_1 : decode cX12_lend 1 = .ok (.iload_n 1, 1) := by decide +kernel
theorem dX12_lend_2 : decode cX12_lend 2 = .ok (.invokevirtual 266, 3) := by decide +kernel
theorem dX12_lend_5 : decode cX12_lend 5 = .ok (.ifCond .eq 28, 3) := by decide +kernel
theorem dX12_lend_8 : decode cX12_lend 8 = .ok (.aload_n 0, 1) := by decide +kernel
theorem dX12_lend_9 : decode cX12_lend 9 = .ok (.iload_n 2, 1) := by decide +kernel
theorem dX12_lend_10 : decode cX12_lend 10 = .ok (.invokevirtual 266, 3) := by decide +kernel
theorem dX12_lend_13 : decode cX12_lend 13 = .ok (.ifCond .eq 20, 3) := by decide +kernel
theorem dX12_lend_16 : decode cX12_lend 16 = .ok (.iload_n 1, 1) := by decide +kernel
theorem dX12_lend_17 : decode cX12_lend 17 = .ok (.iload_n 2, 1) := by decide +kernel
theorem dX12_lend_18 : decode cX12_lend 18 = .ok (.if_icmp .eq 15, 3) := by decide +kernel
theorem dX12_lend_21 : decode cX12_lend 21 = .ok (.iload_n 3, 1) := by decide +kernel
theorem dX12_lend_22 : decode cX12_lend 22 = .ok (.i2l, 1) := by decide +kernel
theorem dX12_lend_23 : decode cX12_lend 23 = .ok (.lconst 1, 1) := by decide +kernel
theorem dX12_lend_24 : decode cX12_lend 24 = .ok (.ldc2_w 297, 3) := by decide +kernel
theorem dX12_lend_27 : decode cX12_lend 27 = .ok (.invokestatic 299, 3) := by decide +kernel
theorem dX12_lend_30 : decode cX12_lend 30 = .ok (.ifCond .ne 9, 3) := by decide +kernel
theorem dX12_lend_33 : decode cX12_lend 33 = .ok (.aload_n 0, 1) := by decide +kernel
theorem dX12_lend_34 : decode cX12_lend 34 = .ok (.iconst 1, 1) := by decide +kernel
theorem dX12_lend_35 : decode cX12_lend 35 = .ok (.invokevirtual 87, 3) := by decide +kernel
theorem dX12_lend_38 : decode cX12_lend 38 = .ok (.ireturn, 1) := by decide +kernel
theorem dX12_lend_39 : decode cX12_lend 39 = .ok (.aload_n 0, 1) := by decide +kernel
theorem dX12_lend_40 : decode cX12_lend 40 = .ok (.getfield 7, 3) := by decide +kernel
theorem dX12_lend_43 : decode cX12_lend 43 = .ok (.bipush 8, 2) := by decide +kernel
theorem dX12_lend_45 : decode cX12_lend 45 = .ok (.iaload, 1) := by decide +kernel
theorem dX12_lend_46 : decode cX12_lend 46 = .ok (.bipush 12, 2) := by decide +kernel
theorem dX12_lend_48 : decode cX12_lend 48 = .ok (.if_icmp .ne 9, 3) := by decide +kernel
theorem dX12_lend_51 : decode cX12_lend 51 = .ok (.aload_n 0, 1) := by decide +kernel
theorem dX12_lend_52 : decode cX12_lend 52 = .ok (.iconst 4, 1) := by decide +kernel
theorem dX12_lend_53 : decode cX12_lend 53 = .ok (.invokevirtual 87, 3) := by decide +kernel
theorem dX12_lend_56 : decode cX12_lend 56 = .ok (.ireturn, 1) := by decide +kernel
theorem dX12_lend_57 : decode cX12_lend 57 = .ok (.aload_n 0, 1) := by decide +kernel
theorem dX12_lend_58 : decode cX12_lend 58 = .ok (.iload_n 1, 1) := by decide +kernel
theorem dX12_lend_59 : decode cX12_lend 59 = .ok (.invokevirtual 303, 3) := by decide +kernel
theorem dX12_lend_62 : decode cX12_lend 62 = .ok (.iload_n 3, 1) := by decide +kernel
theorem dX12_lend_63 : decode cX12_lend 63 = .ok (.if_icmp .ge 10, 3) := by decide +kernel
theorem dX12_lend_66 : decode cX12_lend 66 = .ok (.aload_n 0, 1) := by decide +kernel
theorem dX12_lend_67 : decode cX12_lend 67 = .ok (.bipush 7, 2) := by decide +kernel
theorem dX12_lend_69 : decode cX12_lend 69 = .ok (.invokevirtual 87, 3) := by decide +kernel
theorem dX12_lend_72 : decode cX12_lend 72 = .ok (.ireturn, 1) := by decide +kernel
theorem dX12_lend_73 : decode cX12_lend 73 = .ok (.aload_n 0, 1) := by decide +kernel
theorem dX12_lend_74 : decode cX12_lend 74 = .ok (.iload_n 1, 1) := by decide +kernel
theorem dX12_lend_75 : decode cX12_lend 75 = .ok (.iload_n 2, 1) := by decide +kernel
theorem dX12_lend_76 : decode cX12_lend 76 = .ok (.iload_n 3, 1) := by decide +kernel
theorem dX12_lend_77 : decode cX12_lend 77 = .ok (.invokevirtual 306, 3) := by decide +kernel
theorem dX12_lend_80 : decode cX12_lend 80 = .ok (.aload_n 0, 1) := by decide +kernel
theorem dX12_lend_81 : decode cX12_lend 81 = .ok (.aload_n 0, 1) := by decide +kernel
theorem dX12_lend_82 : decode cX12_lend 82 = .ok (.getfield 7, 3) := by decide +kernel
theorem dX12_lend_85 : decode cX12_lend 85 = .ok (.sipush 158, 3) := by decide +kernel
theorem dX12_lend_88 : decode cX12_lend 88 = .ok (.bipush 10, 2) := by decide +kernel
theorem dX12_lend_90 : decode cX12_lend 90 = .ok (.iload_n 2, 1) := by decide +kernel
theorem dX12_lend_91 : decode cX12_lend 91 = .ok (.imul, 1) := by decide +kernel
theorem dX12_lend_92 : decode cX12_lend 92 = .ok (.iadd, 1) := by decide +kernel
theorem dX12_lend_93 : decode cX12_lend 93 = .ok (.iload_n 1, 1) := by decide +kernel
theorem dX12_lend_94 : decode cX12_lend 94 = .ok (.iadd, 1) := by decide +kernel
theorem dX12_lend_95 : decode cX12_lend 95 = .ok (.iaload, 1) := by decide +kernel
theorem dX12_lend_96 : decode cX12_lend 96 = .ok (.invokevirtual 91, 3) := by decide +kernel
theorem dX12_lend_99 : decode cX12_lend 99 = .ok (.ireturn, 1) := by decide +kernel
set_option maxRecDepth 100000 in
theorem t_X12_lend (x0 x1 x2 x3 : Int) (M : Mem) (h0 : x0 ≠ 0) : MtI yX12_lend cX12_lend 4 (some .int) 6 0 0 [(30, x0), (0, x1), (0, x2), (0, x3)] M 0 (f_X12_lend x0 x1 x2 x3 M) := by
  refine mk_I (by decide +kernel) (Nat.le_of_ble_eq_true rfl) (fun E C r0 M0 hC hq hin => ?_)
  refine r_eqls (ls' := [(0, 30, x0), (1, 0, x1), (2, 0, x2), (3, 0, x3)]) rfl ?_
  unfold f_X12_lend
  refine r_aload_n 0 hC 0 rfl (Or.inl (by decide)) rfl dX12_lend_0 ?_
  refine r_iload_n 1 hC 1 rfl rfl dX12_lend_1 ?_
  refine r_callVP 2 hC [(0, x1)] [] rfl vl_X12_266 rfl h0 (by decide) (Nat.le_of_ble_eq_true rfl) (by decide) (by decide) dX12_lend_2 (t_X12_isField x0 x1 M h0) (fun v1 => ?_)
  refine r_jn (P := fun j33 => Bk E C 4 M (r0, M0) 33 [(0, 30, x0)] [] M 0 0 (j33)) ?_ (fun j33 hj33 => ?_)
  · refine r_aload_n 33 hC 0 rfl (Or.inl (by decide)) rfl dX12_lend_33 ?_
    refine r_iconst 34 hC (r32c rfl) dX12_lend_34 ?_
    refine r_callVI 35 hC [(0, 1)] [] rfl vl_X12_87 rfl h0 (by decide) (Nat.le_of_ble_eq_true rfl) (by decide) (by decide) dX12_lend_35 (t_X12_refuse x0 1 M h0) (fun v2 M3 => ?_)
    exact r_ireturn 38 hC hq (by decide) (by decide) dX12_lend_38
  refine r_if_eq 5 hC (tgt := 33) (by decide) dX12_lend_5 ?_ ?_
  · exact r_sub [0] rfl (hj33)
  · refine r_aload_n 8 hC 0 rfl (Or.inl (by decide)) rfl dX12_lend_8 ?_
    refine r_iload_n 9 hC 2 rfl rfl dX12_lend_9 ?_
    refine r_callVP 10 hC [(0, x2)] [] rfl vl_X12_266 rfl h0 (by decide) (Nat.le_of_ble_eq_true rfl) (by decide) (by decide) dX12_lend_10 (t_X12_isField x0 x2 M h0) (fun v4 => ?_)
    refine r_if_eq 13 hC (tgt := 33) (by decide) dX12_lend_13 ?_ ?_
    · exact r_sub [0] rfl (hj33)
    · refine r_iload_n 16 hC 1 rfl rfl dX12_lend_16 ?_
      refine r_iload_n 17 hC 2 rfl rfl dX12_lend_17 ?_
      refine r_icmp_eq 18 hC (tgt := 33) (by decide) dX12_lend_18 ?_ ?_
      · exact r_sub [0] rfl (hj33)
      · refine r_iload_n 21 hC 3 rfl rfl dX12_lend_21 ?_
        refine r_i2l 22 hC dX12_lend_22 ?_
        refine r_lconst 23 hC (x := 1) ⟨by decide +kernel, r64c rfl⟩ dX12_lend_23 ?_
        refine r_ldc2 24 hC (x := 999) kl_X12_297 ⟨by decide +kernel, r64c rfl⟩ dX12_lend_24 ?_
        refine r_callSP 27 hC [(1, x3), (1, 1), (1, 999)] [] rfl sl_X12_299 rfl (by decide) (Nat.le_of_ble_eq_true rfl) (by decide) (by decide) dX12_lend_27 (t_X12_isFrom x3 1 999 M) (fun v5 => ?_)
        refine r_if_ne 30 hC (tgt := 39) (by decide) dX12_lend_30 ?_ ?_
        · refine r_aload_n 39 hC 0 rfl (Or.inl (by decide)) rfl dX12_lend_39 ?_
          refine r_get 40 hC fd_10_0 fl_X12_7 dX12_lend_40 (fun v6 => ?_)
          refine r_bipush 43 hC kb_8 dX12_lend_43 ?_
          refine r_iaload 45 hC dX12_lend_45 (fun v7 => ?_)
          refine r_bipush 46 hC kb_12 dX12_lend_46 ?_
          refine r_icmp_ne 48 hC (tgt := 57) (by decide) dX12_lend_48 ?_ ?_
          · refine r_aload_n 57 hC 0 rfl (Or.inl (by decide)) rfl dX12_lend_57 ?_
            refine r_iload_n 58 hC 1 rfl rfl dX12_lend_58 ?_
            refine r_callVP 59 hC [(0, x1)] [] rfl vl_X12_303 rfl h0 (by decide) (Nat.le_of_ble_eq_true rfl) (by decide) (by decide) dX12_lend_59 (t_X12_ownLeft x0 x1 M h0) (fun v8 => ?_)
            refine r_iload_n 62 hC 3 rfl rfl dX12_lend_62 ?_
            refine r_icmp_ge 63 hC (tgt := 73) (by decide) dX12_lend_63 ?_ ?_
            · refine r_aload_n 73 hC 0 rfl (Or.inl (by decide)) rfl dX12_lend_73 ?_
              refine r_iload_n 74 hC 1 rfl rfl dX12_lend_74 ?_
              refine r_iload_n 75 hC 2 rfl rfl dX12_lend_75 ?_
              refine r_iload_n 76 hC 3 rfl rfl dX12_lend_76 ?_
              refine r_callVV 77 hC [(0, x1), (0, x2), (0, x3)] [] rfl vl_X12_306 rfl h0 (by decide) (Nat.le_of_ble_eq_true rfl) (by decide) (by decide) dX12_lend_77 (t_X12_lends x0 x1 x2 x3 M h0) (fun M9 => ?_)
              refine r_aload_n 80 hC 0 rfl (Or.inl (by decide)) rfl dX12_lend_80 ?_
              refine r_aload_n 81 hC 0 rfl (Or.inl (by decide)) rfl dX12_lend_81 ?_
              refine r_get 82 hC fd_10_0 fl_X12_7 dX12_lend_82 (fun v10 => ?_)
              refine r_sipush 85 hC ks_158 dX12_lend_85 ?_
              refine r_bipush 88 hC kb_10 dX12_lend_88 ?_
              refine r_iload_n 90 hC 2 rfl rfl dX12_lend_90 ?_
              refine r_imul 91 hC dX12_lend_91 ?_
              refine r_iadd 92 hC dX12_lend_92 ?_
              refine r_iload_n 93 hC 1 rfl rfl dX12_lend_93 ?_
              refine r_iadd 94 hC dX12_lend_94 ?_
              refine r_iaload 95 hC dX12_lend_95 (fun v11 => ?_)
              refine r_callVI 96 hC [(0, v11)] [] rfl vl_X12_91 rfl h0 (by decide) (Nat.le_of_ble_eq_true rfl) (by decide) (by decide) dX12_lend_96 (t_X12_gives x0 v11 M9 h0) (fun v12 M13 => ?_)
              exact r_ireturn 99 hC hq (by decide) (by decide) dX12_lend_99
            · refine r_aload_n 66 hC 0 rfl (Or.inl (by decide)) rfl dX12_lend_66 ?_
              refine r_bipush 67 hC kb_7 dX12_lend_67 ?_
              refine r_callVI 69 hC [(0, 7)] [] rfl vl_X12_87 rfl h0 (by decide) (Nat.le_of_ble_eq_true rfl) (by decide) (by decide) dX12_lend_69 (t_X12_refuse x0 7 M h0) (fun v14 M15 => ?_)
              exact r_ireturn 72 hC hq (by decide) (by decide) dX12_lend_72
          · refine r_aload_n 51 hC 0 rfl (Or.inl (by decide)) rfl dX12_lend_51 ?_
            refine r_iconst 52 hC (r32c rfl) dX12_lend_52 ?_
            refine r_callVI 53 hC [(0, 4)] [] rfl vl_X12_87 rfl h0 (by decide) (Nat.le_of_ble_eq_true rfl) (by decide) (by decide) dX12_lend_53 (t_X12_refuse x0 4 M h0) (fun v16 M17 => ?_)
            exact r_ireturn 56 hC hq (by decide) (by decide) dX12_lend_56
        · exact r_sub [0] rfl (hj33)

/-! WaterTurnsModel.owed(II)I -/
theorem dX12_owed_0 : decode cX12_owed 0 = .ok (.aload_n 0, 1) := by decide +kernel
theorem dX12_owed_1 : decode cX12_owed 1 = .ok (.iload_n 1, 1) := by decide +kernel
theorem dX12_owed_2 : decode cX12_owed 2 = .ok (.invokevirtual 266, 3) := by decide +kernel
theorem dX12_owed_5 : decode cX12_owed 5 = .ok (.ifCond .eq 38, 3) := by decide +kernel
theorem dX12_owed_8 : decode cX12_owed 8 = .ok (.aload_n 0, 1) := by decide +kernel
theorem dX12_owed_9 : decode cX12_owed 9 = .ok (.iload_n 2, 1) := by decide +kernel
theorem dX12_owed_10 : decode cX12_owed 10 = .ok (.invokevirtual 266, 3) := by decide +kernel
theorem dX12_owed_13 : decode cX12_owed 13 = .ok (.ifCond .eq 30, 3) := by decide +kernel
theorem dX12_owed_16 : decode cX12_owed 16 = .ok (.iload_n 1, 1) := by decide +kernel
theorem dX12_owed_17 : decode cX12_owed 17 = .ok (.iload_n 2, 1) := by decide +kernel
theorem dX12_owed_18 : decode cX12_owed 18 = .ok (.if_icmp .eq 25, 3) := by decide +kernel
theorem dX12_owed_21 : decode cX12_owed 21 = .ok (.aload_n 0, 1) := by decide +kernel
theorem dX12_owed_22 : decode cX12_owed 22 = .ok (.aload_n 0, 1) := by decide +kernel
theorem dX12_owed_23 : decode cX12_owed 23 = .ok (.getfield 7, 3) := by decide +kernel
theorem dX12_owed_26 : decode cX12_owed 26 = .ok (.sipush 158, 3) := by decide +kernel
theorem dX12_owed_29 : decode cX12_owed 29 = .ok (.bipush 10, 2) := by decide +kernel
theorem dX12_owed_31 : decode cX12_owed 31 = .ok (.iload_n 1, 1) := by decide +kernel
theorem dX12_owed_32 : decode cX12_owed 32 = .ok (.imul, 1) := by decide +kernel
theorem dX12_owed_33 : decode cX12_owed 33 = .ok (.iadd, 1) := by decide +kernel
theorem dX12_owed_34 : decode cX12_owed 34 = .ok (.iload_n 2, 1) := by decide +kernel
theorem dX12_owed_35 : decode cX12_owed 35 = .ok (.iadd, 1) := by decide +kernel
theorem dX12_owed_36 : decode cX12_owed 36 = .ok (.iaload, 1) := by decide +kernel
theorem dX12_owed_37 : decode cX12_owed 37 = .ok (.invokevirtual 91, 3) := by decide +kernel
theorem dX12_owed_40 : decode cX12_owed 40 = .ok (.goto 8, 3) := by decide +kernel
theorem dX12_owed_43 : decode cX12_owed 43 = .ok (.aload_n 0, 1) := by decide +kernel
theorem dX12_owed_44 : decode cX12_owed 44 = .ok (.iconst 1, 1) := by decide +kernel
theorem dX12_owed_45 : decode cX12_owed 45 = .ok (.invokevirtual 87, 3) := by decide +kernel
theorem dX12_owed_48 : decode cX12_owed 48 = .ok (.ireturn, 1) := by decide +kernel
set_option maxRecDepth 100000 in
theorem t_X12_owed (x0 x1 x2 : Int) (M : Mem) (h0 : x0 ≠ 0) : MtI yX12_owed cX12_owed 3 (some .int) 2 0 0 [(30, x0), (0, x1), (0, x2)] M 0 (f_X12_owed x0 x1 x2 M) := by
  refine mk_I (by decide +kernel) (Nat.le_of_ble_eq_true rfl) (fun E C r0 M0 hC hq hin => ?_)
  refine r_eqls (ls' := [(0, 30, x0), (1, 0, x1), (2, 0, x2)]) rfl ?_
  unfold f_X12_owed
  refine r_aload_n 0 hC 0 rfl (Or.inl (by decide)) rfl dX12_owed_0 ?_
  refine r_iload_n 1 hC 1 rfl rfl dX12_owed_1 ?_
  refine r_callVP 2 hC [(0, x1)] [] rfl vl_X12_266 rfl h0 (by decide) (Nat.le_of_ble_eq_true rfl) (by decide) (by decide) dX12_owed_2 (t_X12_isField x0 x1 M h0) (fun v1 => ?_)
  refine r_jn (P := fun j48 => ∀ (q2 : Int) (M3 : Mem), Bk E C 3 M (r0, M0) 48 [] [(0, q2)] M3 0 0 (j48 q2 M3)) ?_ (fun j48 hj48 => ?_)
  · intro q2 M3
    exact r_ireturn 48 hC hq (by decide) (by decide) dX12_owed_48
  refine r_jn (P := fun j43 => Bk E C 3 M (r0, M0) 43 [(0, 30, x0)] [] M 0 0 (j43)) ?_ (fun j43 hj43 => ?_)
  · refine r_aload_n 43 hC 0 rfl (Or.inl (by decide)) rfl dX12_owed_43 ?_
    refine r_iconst 44 hC (r32c rfl) dX12_owed_44 ?_
    refine r_callVI 45 hC [(0, 1)] [] rfl vl_X12_87 rfl h0 (by decide) (Nat.le_of_ble_eq_true rfl) (by decide) (by decide) dX12_owed_45 (t_X12_refuse x0 1 M h0) (fun v4 M5 => ?_)
    exact r_sub [] rfl (hj48 v4 M5)
  refine r_if_eq 5 hC (tgt := 43) (by decide) dX12_owed_5 ?_ ?_
  · exact r_sub [0] rfl (hj43)
  · refine r_aload_n 8 hC 0 rfl (Or.inl (by decide)) rfl dX12_owed_8 ?_
    refine r_iload_n 9 hC 2 rfl rfl dX12_owed_9 ?_
    refine r_callVP 10 hC [(0, x2)] [] rfl vl_X12_266 rfl h0 (by decide) (Nat.le_of_ble_eq_true rfl) (by decide) (by decide) dX12_owed_10 (t_X12_isField x0 x2 M h0) (fun v6 => ?_)
    refine r_if_eq 13 hC (tgt := 43) (by decide) dX12_owed_13 ?_ ?_
    · exact r_sub [0] rfl (hj43)
    · refine r_iload_n 16 hC 1 rfl rfl dX12_owed_16 ?_
      refine r_iload_n 17 hC 2 rfl rfl dX12_owed_17 ?_
      refine r_icmp_eq 18 hC (tgt := 43) (by decide) dX12_owed_18 ?_ ?_
      · exact r_sub [0] rfl (hj43)
      · refine r_aload_n 21 hC 0 rfl (Or.inl (by decide)) rfl dX12_owed_21 ?_
        refine r_aload_n 22 hC 0 rfl (Or.inl (by decide)) rfl dX12_owed_22 ?_
        refine r_get 23 hC fd_10_0 fl_X12_7 dX12_owed_23 (fun v7 => ?_)
        refine r_sipush 26 hC ks_158 dX12_owed_26 ?_
        refine r_bipush 29 hC kb_10 dX12_owed_29 ?_
        refine r_iload_n 31 hC 1 rfl rfl dX12_owed_31 ?_
        refine r_imul 32 hC dX12_owed_32 ?_
        refine r_iadd 33 hC dX12_owed_33 ?_
        refine r_iload_n 34 hC 2 rfl rfl dX12_owed_34 ?_
        refine r_iadd 35 hC dX12_owed_35 ?_
        refine r_iaload 36 hC dX12_owed_36 (fun v8 => ?_)
        refine r_callVI 37 hC [(0, v8)] [] rfl vl_X12_91 rfl h0 (by decide) (Nat.le_of_ble_eq_true rfl) (by decide) (by decide) dX12_owed_37 (t_X12_gives x0 v8 M h0) (fun v9 M10 => ?_)
        refine r_goto 40 hC (tgt := 48) (by decide) dX12_owed_40 ?_
        exact r_sub [] rfl (hj48 v9 M10)

/-! WaterTurnsModel.aSlot(III)V -/
theorem dX12_aSlot_0 : decode cX12_aSlot 0 = .ok (.aload_n 0, 1) := by decide +kernel
theorem dX12_aSlot_1 : decode cX12_aSlot 1 = .ok (.getfield 53, 3) := by decide +kernel
theorem dX12_aSlot_4 : decode cX12_aSlot 4 = .ok (.aload_n 0, 1) := by decide +kernel
theorem dX12_aSlot_5 : decode cX12_aSlot 5 = .ok (.getfield 310, 3) := by decide +kernel
theorem dX12_aSlot_8 : decode cX12_aSlot 8 = .ok (.iload_n 1, 1) := by decide +kernel
theorem dX12_aSlot_9 : decode cX12_aSlot 9 = .ok (.iastore, 1) := by decide +kernel
theorem dX12_aSlot_10 : decode cX12_aSlot 10 = .ok (.aload_n 0, 1) := by decide +kernel
theorem dX12_aSlot_11 : decode cX12_aSlot 11 = .ok (.getfield 56, 3) := by decide +kernel
theorem dX12_aSlot_14 : decode cX12_aSlot 14 = .ok (.aload_n 0, 1) := by decide +kernel
theorem dX12_aSlot_15 : decode cX12_aSlot 15 = .ok (.getfield 310, 3) := by decide +kernel
theorem dX12_aSlot_18 : decode cX12_aSlot 18 = .ok (.iload_n 2, 1) := by decide +kernel
theorem dX12_aSlot_19 : decode cX12_aSlot 19 = .ok (.iastore, 1) := by decide +kernel
theorem dX12_aSlot_20 : decode cX12_aSlot 20 = .ok (.aload_n 0, 1) := by decide +kernel
theorem dX12_aSlot_21 : decode cX12_aSlot 21 = .ok (.getfield 59, 3) := by decide +kernel
theorem dX12_aSlot_24 : decode cX12_aSlot 24 = .ok (.aload_n 0, 1) := by decide +kernel
theorem dX12_aSlot_25 : decode cX12_aSlot 25 = .ok (.getfield 310, 3) := by decide +kernel
theorem dX12_aSlot_28 : decode cX12_aSlot 28 = .ok (.iload_n 3, 1) := by decide +kernel
theorem dX12_aSlot_29 : decode cX12_aSlot 29 = .ok (.iastore, 1) := by decide +kernel
theorem dX12_aSlot_30 : decode cX12_aSlot 30 = .ok (.aload_n 0, 1) := by decide +kernel
theorem dX12_aSlot_31 : decode cX12_aSlot 31 = .ok (.dup, 1) := by decide +kernel
theorem dX12_aSlot_32 : decode cX12_aSlot 32 = .ok (.getfield 310, 3) := by decide +kernel
theorem dX12_aSlot_35 : decode cX12_aSlot 35 = .ok (.iconst 1, 1) := by decide +kernel
theorem dX12_aSlot_36 : decode cX12_aSlot 36 = .ok (.iadd, 1) := by decide +kernel
theorem dX12_aSlot_37 : decode cX12_aSlot 37 = .ok (.putfield 310, 3) := by decide +kernel
theorem dX12_aSlot_40 : decode cX12_aSlot 40 = .ok (.return_, 1) := by decide +kernel
set_option maxRecDepth 100000 in
theorem t_X12_aSlot (x0 x1 x2 x3 : Int) (M : Mem) (h0 : x0 ≠ 0) : MtV yX12_aSlot cX12_aSlot 4 none 1 0 0 [(30, x0), (0, x1), (0, x2), (0, x3)] M (f_X12_aSlot x0 x1 x2 x3 M) := by
  refine mk_V (by decide +kernel) (Nat.le_of_ble_eq_true rfl) (fun E C M0 hC hq hin => ?_)
  refine r_eqls (ls' := [(0, 30, x0), (1, 0, x1), (2, 0, x2), (3, 0, x3)]) rfl ?_
  unfold f_X12_aSlot
  refine r_aload_n 0 hC 0 rfl (Or.inl (by decide)) rfl dX12_aSlot_0 ?_
  refine r_get 1 hC fd_10_27 fl_X12_53 dX12_aSlot_1 (fun v1 => ?_)
  refine r_aload_n 4 hC 0 rfl (Or.inl (by decide)) rfl dX12_aSlot_4 ?_
  refine r_get 5 hC fd_10_30 fl_X12_310 dX12_aSlot_5 (fun v2 => ?_)
  refine r_iload_n 8 hC 1 rfl rfl dX12_aSlot_8 ?_
  refine r_iastore 9 hC dX12_aSlot_9 (fun M3 => ?_)
  refine r_aload_n 10 hC 0 rfl (Or.inl (by decide)) rfl dX12_aSlot_10 ?_
  refine r_get 11 hC fd_10_28 fl_X12_56 dX12_aSlot_11 (fun v4 => ?_)
  refine r_aload_n 14 hC 0 rfl (Or.inl (by decide)) rfl dX12_aSlot_14 ?_
  refine r_get 15 hC fd_10_30 fl_X12_310 dX12_aSlot_15 (fun v5 => ?_)
  refine r_iload_n 18 hC 2 rfl rfl dX12_aSlot_18 ?_
  refine r_iastore 19 hC dX12_aSlot_19 (fun M6 => ?_)
  refine r_aload_n 20 hC 0 rfl (Or.inl (by decide)) rfl dX12_aSlot_20 ?_
  refine r_get 21 hC fd_10_29 fl_X12_59 dX12_aSlot_21 (fun v7 => ?_)
  refine r_aload_n 24 hC 0 rfl (Or.inl (by decide)) rfl dX12_aSlot_24 ?_
  refine r_get 25 hC fd_10_30 fl_X12_310 dX12_aSlot_25 (fun v8 => ?_)
  refine r_iload_n 28 hC 3 rfl rfl dX12_aSlot_28 ?_
  refine r_iastore 29 hC dX12_aSlot_29 (fun M9 => ?_)
  refine r_aload_n 30 hC 0 rfl (Or.inl (by decide)) rfl dX12_aSlot_30 ?_
  refine r_dup 31 hC (by decide) dX12_aSlot_31 ?_
  refine r_get 32 hC fd_10_30 fl_X12_310 dX12_aSlot_32 (fun v10 => ?_)
  refine r_iconst 35 hC (r32c rfl) dX12_aSlot_35 ?_
  refine r_iadd 36 hC dX12_aSlot_36 ?_
  refine r_put 37 hC fd_10_30 fl_X12_310 dX12_aSlot_37 (fun M11 => ?_)
  exact r_return 40 hC hq (by decide) (by decide) dX12_aSlot_40

/-! WaterTurnsModel.laysSlots()V -/
theorem dX12_laysSlots_0 : decode cX12_laysSlots 0 = .ok (.aload_n 0, 1) := by decide +kernel
theorem dX12_laysSlots_1 : decode cX12_laysSlots 1 = .ok (.iconst 0, 1) := by decide +kernel
theorem dX12_laysSlots_2 : decode cX12_laysSlots 2 = .ok (.putfield 310, 3) := by decide +kernel
theorem dX12_laysSlots_5 : decode cX12_laysSlots 5 = .ok (.iconst 0, 1) := by decide +kernel
theorem dX12_laysSlots_6 : decode cX12_laysSlots 6 = .ok (.istore_n 1, 1) := by decide +kernel
theorem dX12_laysSlots_7 : decode cX12_laysSlots 7 = .ok (.iload_n 1, 1) := by decide +kernel
theorem dX12_laysSlots_8 : decode cX12_laysSlots 8 = .ok (.aload_n 0, 1) := by decide +kernel
theorem dX12_laysSlots_9 : decode cX12_laysSlots 9 = .ok (.getfield 7, 3) := by decide +kernel
theorem dX12_laysSlots_12 : decode cX12_laysSlots 12 = .ok (.iconst 5, 1) := by decide +kernel
theorem dX12_laysSlots_13 : decode cX12_laysSlots 13 = .ok (.iaload, 1) := by decide +kernel
theorem dX12_laysSlots_14 : decode cX12_laysSlots 14 = .ok (.if_icmp .ge 141, 3) := by decide +kernel
theorem dX12_laysSlots_17 : decode cX12_laysSlots 17 = .ok (.aload_n 0, 1) := by decide +kernel
theorem dX12_laysSlots_18 : decode cX12_laysSlots 18 = .ok (.getfield 7, 3) := by decide +kernel
theorem dX12_laysSlots_21 : decode cX12_laysSlots 21 = .ok (.bipush 112, 2) := by decide +kernel
theorem dX12_laysSlots_23 : decode cX12_laysSlots 23 = .ok (.iload_n 1, 1) := by decide +kernel
theorem dX12_laysSlots_24 : decode cX12_laysSlots 24 = .ok (.iadd, 1) := by decide +kernel
theorem dX12_laysSlots_25 : decode cX12_laysSlots 25 = .ok (.iaload, 1) := by decide +kernel
theorem dX12_laysSlots_26 : decode cX12_laysSlots 26 = .ok (.istore_n 2, 1) := by decide +kernel
theorem dX12_laysSlots_27 : decode cX12_laysSlots 27 = .ok (.aload_n 0, 1) := by decide +kernel
theorem dX12_laysSlots_28 : decode cX12_laysSlots 28 = .ok (.iload_n 1, 1) := by decide +kernel
theorem dX12_laysSlots_29 : decode cX12_laysSlots 29 = .ok (.invokevirtual 287, 3) := by decide +kernel
theorem dX12_laysSlots_32 : decode cX12_laysSlots 32 = .ok (.istore_n 3, 1) := by decide +kernel
theorem dX12_laysSlots_33 : decode cX12_laysSlots 33 = .ok (.aload_n 0, 1) := by decide +kernel
theorem dX12_laysSlots_34 : decode cX12_laysSlots 34 = .ok (.iload_n 2, 1) := by decide +kernel
theorem dX12_laysSlots_35 : decode cX12_laysSlots 35 = .ok (.invokevirtual 303, 3) := by decide +kernel
theorem dX12_laysSlots_38 : decode cX12_laysSlots 38 = .ok (.istore 4, 2) := by decide +kernel
theorem dX12_laysSlots_40 : decode cX12_laysSlots 40 = .ok (.iload 4, 2) := by decide +kernel
theorem dX12_laysSlots_42 : decode cX12_laysSlots 42 = .ok (.ifCond .le 11, 3) := by decide +kernel
theorem dX12_laysSlots_45 : decode cX12_laysSlots 45 = .ok (.aload_n 0, 1) := by decide +kernel
theorem dX12_laysSlots_46 : decode cX12_laysSlots 46 = .ok (.iload_n 2, 1) := by decide +kernel
theorem dX12_laysSlots_47 : decode cX12_laysSlots 47 = .ok (.iload_n 3, 1) := by decide +kernel
theorem dX12_laysSlots_48 : decode cX12_laysSlots 48 = .ok (.iload 4, 2) := by decide +kernel
theorem dX12_laysSlots_50 : decode cX12_laysSlots 50 = .ok (.invokevirtual 313, 3) := by decide +kernel
theorem dX12_laysSlots_53 : decode cX12_laysSlots 53 = .ok (.iload_n 3, 1) := by decide +kernel
theorem dX12_laysSlots_54 : decode cX12_laysSlots 54 = .ok (.iload 4, 2) := by decide +kernel
theorem dX12_laysSlots_56 : decode cX12_laysSlots 56 = .ok (.iadd, 1) := by decide +kernel
theorem dX12_laysSlots_57 : decode cX12_laysSlots 57 = .ok (.istore_n 3, 1) := by decide +kernel
theorem dX12_laysSlots_58 : decode cX12_laysSlots 58 = .ok (.aload_n 0, 1) := by decide +kernel
theorem dX12_laysSlots_59 : decode cX12_laysSlots 59 = .ok (.getfield 7, 3) := by decide +kernel
theorem dX12_laysSlots_62 : decode cX12_laysSlots 62 = .ok (.bipush 8, 2) := by decide +kernel
theorem dX12_laysSlots_64 : decode cX12_laysSlots 64 = .ok (.iaload, 1) := by decide +kernel
theorem dX12_laysSlots_65 : decode cX12_laysSlots 65 = .ok (.iconst 1, 1) := by decide +kernel
theorem dX12_laysSlots_66 : decode cX12_laysSlots 66 = .ok (.isub, 1) := by decide +kernel
theorem dX12_laysSlots_67 : decode cX12_laysSlots 67 = .ok (.istore 5, 2) := by decide +kernel
theorem dX12_laysSlots_69 : decode cX12_laysSlots 69 = .ok (.iload 5, 2) := by decide +kernel
theorem dX12_laysSlots_71 : decode cX12_laysSlots 71 = .ok (.ifCond .lt 78, 3) := by decide +kernel
theorem dX12_laysSlots_74 : decode cX12_laysSlots 74 = .ok (.aload_n 0, 1) := by decide +kernel
theorem dX12_laysSlots_75 : decode cX12_laysSlots 75 = .ok (.getfield 7, 3) := by decide +kernel
theorem dX12_laysSlots_78 : decode cX12_laysSlots 78 = .ok (.bipush 122, 2) := by decide +kernel
theorem dX12_laysSlots_80 : decode cX12_laysSlots 80 = .ok (.iconst 3, 1) := by decide +kernel
theorem dX12_laysSlots_81 : decode cX12_laysSlots 81 = .ok (.iload 5, 2) := by decide +kernel
theorem dX12_laysSlots_83 : decode cX12_laysSlots 83 = .ok (.imul, 1) := by decide +kernel
theorem dX12_laysSlots_84 : decode cX12_laysSlots 84 = .ok (.iadd, 1) := by decide +kernel
theorem dX12_laysSlots_85 : decode cX12_laysSlots 85 = .ok (.iaload, 1) := by decide +kernel
theorem dX12_laysSlots_86 : decode cX12_laysSlots 86 = .ok (.iload_n 2, 1) := by decide +kernel
theorem dX12_laysSlots_87 : decode cX12_laysSlots 87 = .ok (.if_icmp .eq 6, 3) := by decide +kernel
theorem dX12_laysSlots_90 : decode cX12_laysSlots 90 = .ok (.goto 53, 3) := by decide +kernel
theorem dX12_laysSlots_93 : decode cX12_laysSlots 93 = .ok (.aload_n 0, 1) := by decide +kernel
theorem dX12_laysSlots_94 : decode cX12_laysSlots 94 = .ok (.aload_n 0, 1) := by decide +kernel
theorem dX12_laysSlots_95 : decode cX12_laysSlots 95 = .ok (.getfield 7, 3) := by decide +kernel
theorem dX12_laysSlots_98 : decode cX12_laysSlots 98 = .ok (.bipush 122, 2) := by decide +kernel
theorem dX12_laysSlots_100 : decode cX12_laysSlots 100 = .ok (.iconst 3, 1) := by decide +kernel
theorem dX12_laysSlots_101 : decode cX12_laysSlots 101 = .ok (.iload 5, 2) := by decide +kernel
theorem dX12_laysSlots_103 : decode cX12_laysSlots 103 = .ok (.imul, 1) := by decide +kernel
theorem dX12_laysSlots_104 : decode cX12_laysSlots 104 = .ok (.iadd, 1) := by decide +kernel
theorem dX12_laysSlots_105 : decode cX12_laysSlots 105 = .ok (.iconst 1, 1) := by decide +kernel
theorem dX12_laysSlots_106 : decode cX12_laysSlots 106 = .ok (.iadd, 1) := by decide +kernel
theorem dX12_laysSlots_107 : decode cX12_laysSlots 107 = .ok (.iaload, 1) := by decide +kernel
theorem dX12_laysSlots_108 : decode cX12_laysSlots 108 = .ok (.iload_n 3, 1) := by decide +kernel
theorem dX12_laysSlots_109 : decode cX12_laysSlots 109 = .ok (.aload_n 0, 1) := by decide +kernel
theorem dX12_laysSlots_110 : decode cX12_laysSlots 110 = .ok (.getfield 7, 3) := by decide +kernel
theorem dX12_laysSlots_113 : decode cX12_laysSlots 113 = .ok (.bipush 122, 2) := by decide +kernel
theorem dX12_laysSlots_115 : decode cX12_laysSlots 115 = .ok (.iconst 3, 1) := by decide +kernel
theorem dX12_laysSlots_116 : decode cX12_laysSlots 116 = .ok (.iload 5, 2) := by decide +kernel
theorem dX12_laysSlots_118 : decode cX12_laysSlots 118 = .ok (.imul, 1) := by decide +kernel
theorem dX12_laysSlots_119 : decode cX12_laysSlots 119 = .ok (.iadd, 1) := by decide +kernel
theorem dX12_laysSlots_120 : decode cX12_laysSlots 120 = .ok (.iconst 2, 1) := by decide +kernel
theorem dX12_laysSlots_121 : decode cX12_laysSlots 121 = .ok (.iadd, 1) := by decide +kernel
theorem dX12_laysSlots_122 : decode cX12_laysSlots 122 = .ok (.iaload, 1) := by decide +kernel
theorem dX12_laysSlots_123 : decode cX12_laysSlots 123 = .ok (.invokevirtual 313, 3) := by decide +kernel
theorem dX12_laysSlots_126 : decode cX12_laysSlots 126 = .ok (.iload_n 3, 1) := by decide +kernel
theorem dX12_laysSlots_127 : decode cX12_laysSlots 127 = .ok (.aload_n 0, 1) := by decide +kernel
theorem dX12_laysSlots_128 : decode cX12_laysSlots 128 = .ok (.getfield 7, 3) := by decide +kernel
theorem dX12_laysSlots_131 : decode cX12_laysSlots 131 = .ok (.bipush 122, 2) := by decide +kernel
theorem dX12_laysSlots_133 : decode cX12_laysSlots 133 = .ok (.iconst 3, 1) := by decide +kernel
theorem dX12_laysSlots_134 : decode cX12_laysSlots 134 = .ok (.iload 5, 2) := by decide +kernel
theorem dX12_laysSlots_136 : decode cX12_laysSlots 136 = .ok (.imul, 1) := by decide +kernel
theorem dX12_laysSlots_137 : decode cX12_laysSlots 137 = .ok (.iadd, 1) := by decide +kernel
theorem dX12_laysSlots_138 : decode cX12_laysSlots 138 = .ok (.iconst 2, 1) := by decide +kernel
theorem dX12_laysSlots_139 : decode cX12_laysSlots 139 = .ok (.iadd, 1) := by decide +kernel
theorem dX12_laysSlots_140 : decode cX12_laysSlots 140 = .ok (.iaload, 1) := by decide +kernel
theorem dX12_laysSlots_141 : decode cX12_laysSlots 141 = .ok (.iadd, 1) := by decide +kernel
theorem dX12_laysSlots_142 : decode cX12_laysSlots 142 = .ok (.istore_n 3, 1) := by decide +kernel
theorem dX12_laysSlots_143 : decode cX12_laysSlots 143 = .ok (.iinc 5 (-1), 3) := by decide +kernel
theorem dX12_laysSlots_146 : decode cX12_laysSlots 146 = .ok (.goto (-77), 3) := by decide +kernel
theorem dX12_laysSlots_149 : decode cX12_laysSlots 149 = .ok (.iinc 1 1, 3) := by decide +kernel
theorem dX12_laysSlots_152 : decode cX12_laysSlots 152 = .ok (.goto (-145), 3) := by decide +kernel
theorem dX12_laysSlots_155 : decode cX12_laysSlots 155 = .ok (.return_, 1) := by decide +kernel
set_option maxRecDepth 100000 in
theorem f_X12_laysSlots_L69_ok {E : EnvT} {C : Cx} {Mi : Mem} {x0 : Int} (h0 : x0 ≠ 0) (hC : CxOK E C cX12_laysSlots 6 yX12_laysSlots.cls 6 0 0) {M0 : Mem} (hq : RQ E C 0 0 Mi none none M0) {p2 v7 : Int} {k : Mem → Option (Mem)} (hk : ∀ M30, Bk E C 6 Mi M0 149 [(0, 30, x0), (1, 0, p2)] [] M30 0 0 (k M30)) : ∀ (n : Nat) (p15 : Int) (p16 : Int) (M17 : Mem), Bk E C 6 Mi M0 69 [(0, 30, x0), (1, 0, p2), (2, 0, v7), (3, 0, p15), (5, 0, p16)] [] M17 0 0 (f_X12_laysSlots_L69 p2 v7 x0 k n p15 p16 M17) := by
  intro n
  induction n with
  | zero =>
    intro p15 p16 M17
    exact r_none
  | succ n ih =>
    intro p15 p16 M17
    rw [f_X12_laysSlots_L69]
    refine r_iload 69 hC 4 rfl dX12_laysSlots_69 ?_
    refine r_if_lt 71 hC (tgt := 149) (by decide) dX12_laysSlots_71 ?_ ?_
    · exact r_sub [0, 1] rfl (hk M17)
    · refine r_aload_n 74 hC 0 rfl (Or.inl (by decide)) rfl dX12_laysSlots_74 ?_
      refine r_get 75 hC fd_10_0 fl_X12_7 dX12_laysSlots_75 (fun v18 => ?_)
      refine r_bipush 78 hC kb_122 dX12_laysSlots_78 ?_
      refine r_iconst 80 hC (r32c rfl) dX12_laysSlots_80 ?_
      refine r_iload 81 hC 4 rfl dX12_laysSlots_81 ?_
      refine r_imul 83 hC dX12_laysSlots_83 ?_
      refine r_iadd 84 hC dX12_laysSlots_84 ?_
      refine r_iaload 85 hC dX12_laysSlots_85 (fun v19 => ?_)
      refine r_iload_n 86 hC 2 rfl rfl dX12_laysSlots_86 ?_
      refine r_jn (P := fun j143 => ∀ (q20 : Int) (M21 : Mem), Bk E C 6 Mi M0 143 [(0, 30, x0), (1, 0, p2), (2, 0, v7), (3, 0, q20), (5, 0, p16)] [] M21 0 0 (j143 q20 M21)) ?_ (fun j143 hj143 => ?_)
      · intro q20 M21
        refine r_iinc 143 hC 4 rfl (by decide) dX12_laysSlots_143 (r_eqls (ls' := [(5, 0, w32 (p16 + (-1))), (0, 30, x0), (1, 0, p2), (2, 0, v7), (3, 0, q20)]) rfl ?_)
        refine r_goto 146 hC (tgt := 69) (by decide) dX12_laysSlots_146 ?_
        exact r_sub [1, 2, 3, 4, 0] rfl (ih q20 (w32 (p16 + (-1))) M21)
      refine r_icmp_eq 87 hC (tgt := 93) (by decide) dX12_laysSlots_87 ?_ ?_
      · refine r_aload_n 93 hC 0 rfl (Or.inl (by decide)) rfl dX12_laysSlots_93 ?_
        refine r_aload_n 94 hC 0 rfl (Or.inl (by decide)) rfl dX12_laysSlots_94 ?_
        refine r_get 95 hC fd_10_0 fl_X12_7 dX12_laysSlots_95 (fun v22 => ?_)
        refine r_bipush 98 hC kb_122 dX12_laysSlots_98 ?_
        refine r_iconst 100 hC (r32c rfl) dX12_laysSlots_100 ?_
        refine r_iload 101 hC 4 rfl dX12_laysSlots_101 ?_
        refine r_imul 103 hC dX12_laysSlots_103 ?_
        refine r_iadd 104 hC dX12_laysSlots_104 ?_
        refine r_iconst 105 hC (r32c rfl) dX12_laysSlots_105 ?_
        refine r_iadd 106 hC dX12_laysSlots_106 ?_
        refine r_iaload 107 hC dX12_laysSlots_107 (fun v23 => ?_)
        refine r_iload_n 108 hC 3 rfl rfl dX12_laysSlots_108 ?_
        refine r_aload_n 109 hC 0 rfl (Or.inl (by decide)) rfl dX12_laysSlots_109 ?_
        refine r_get 110 hC fd_10_0 fl_X12_7 dX12_laysSlots_110 (fun v24 => ?_)
        refine r_bipush 113 hC kb_122 dX12_laysSlots_113 ?_
        refine r_iconst 115 hC (r32c rfl) dX12_laysSlots_115 ?_
        refine r_iload 116 hC 4 rfl dX12_laysSlots_116 ?_
        refine r_imul 118 hC dX12_laysSlots_118 ?_
        refine r_iadd 119 hC dX12_laysSlots_119 ?_
        refine r_iconst 120 hC (r32c rfl) dX12_laysSlots_120 ?_
        refine r_iadd 121 hC dX12_laysSlots_121 ?_
        refine r_iaload 122 hC dX12_laysSlots_122 (fun v25 => ?_)
        refine r_callVV 123 hC [(0, v23), (0, p15), (0, v25)] [] rfl vl_X12_313 rfl h0 (by decide) (Nat.le_of_ble_eq_true rfl) (by decide) (by decide) dX12_laysSlots_123 (t_X12_aSlot x0 v23 p15 v25 M17 h0) (fun M26 => ?_)
        refine r_iload_n 126 hC 3 rfl rfl dX12_laysSlots_126 ?_
        refine r_aload_n 127 hC 0 rfl (Or.inl (by decide)) rfl dX12_laysSlots_127 ?_
        refine r_get 128 hC fd_10_0 fl_X12_7 dX12_laysSlots_128 (fun v27 => ?_)
        refine r_bipush 131 hC kb_122 dX12_laysSlots_131 ?_
        refine r_iconst 133 hC (r32c rfl) dX12_laysSlots_133 ?_
        refine r_iload 134 hC 4 rfl dX12_laysSlots_134 ?_
        refine r_imul 136 hC dX12_laysSlots_136 ?_
        refine r_iadd 137 hC dX12_laysSlots_137 ?_
        refine r_iconst 138 hC (r32c rfl) dX12_laysSlots_138 ?_
        refine r_iadd 139 hC dX12_laysSlots_139 ?_
        refine r_iaload 140 hC dX12_laysSlots_140 (fun v28 => ?_)
        refine r_iadd 141 hC dX12_laysSlots_141 ?_
        refine r_istore_nL 142 hC rfl (by decide) dX12_laysSlots_142 (fun v29 => r_eqls (ls' := [(3, 0, v29), (0, 30, x0), (1, 0, p2), (2, 0, v7), (5, 0, p16)]) rfl ?_)
        exact r_sub [1, 2, 3, 0, 4] rfl (hj143 v29 M26)
      · refine r_goto 90 hC (tgt := 143) (by decide) dX12_laysSlots_90 ?_
        exact hj143 p15 M17
set_option maxRecDepth 100000 in
theorem f_X12_laysSlots_L7_ok {E : EnvT} {C : Cx} {Mi : Mem} {x0 : Int} (h0 : x0 ≠ 0) (hC : CxOK E C cX12_laysSlots 6 yX12_laysSlots.cls 6 0 0) {M0 : Mem} (hq : RQ E C 0 0 Mi none none M0) {k : Mem → Option (Mem)} (hk : ∀ M33, Bk E C 6 Mi M0 155 [] [] M33 0 0 (k M33)) : ∀ (n : Nat) (p2 : Int) (M3 : Mem), Bk E C 6 Mi M0 7 [(0, 30, x0), (1, 0, p2)] [] M3 0 0 (f_X12_laysSlots_L7 x0 k n p2 M3) := by
  intro n
  induction n with
  | zero =>
    intro p2 M3
    exact r_none
  | succ n ih =>
    intro p2 M3
    rw [f_X12_laysSlots_L7]
    refine r_iload_n 7 hC 1 rfl rfl dX12_laysSlots_7 ?_
    refine r_aload_n 8 hC 0 rfl (Or.inl (by decide)) rfl dX12_laysSlots_8 ?_
    refine r_get 9 hC fd_10_0 fl_X12_7 dX12_laysSlots_9 (fun v4 => ?_)
    refine r_iconst 12 hC (r32c rfl) dX12_laysSlots_12 ?_
    refine r_iaload 13 hC dX12_laysSlots_13 (fun v5 => ?_)
    refine r_icmp_ge 14 hC (tgt := 155) (by decide) dX12_laysSlots_14 ?_ ?_
    · exact r_sub [] rfl (hk M3)
    · refine r_aload_n 17 hC 0 rfl (Or.inl (by decide)) rfl dX12_laysSlots_17 ?_
      refine r_get 18 hC fd_10_0 fl_X12_7 dX12_laysSlots_18 (fun v6 => ?_)
      refine r_bipush 21 hC kb_112 dX12_laysSlots_21 ?_
      refine r_iload_n 23 hC 1 rfl rfl dX12_laysSlots_23 ?_
      refine r_iadd 24 hC dX12_laysSlots_24 ?_
      refine r_iaload 25 hC dX12_laysSlots_25 (fun v7 => ?_)
      refine r_istore_n 26 hC rfl (by decide) dX12_laysSlots_26 (r_eqls (ls' := [(2, 0, v7), (0, 30, x0), (1, 0, p2)]) rfl ?_)
      refine r_aload_n 27 hC 1 rfl (Or.inl (by decide)) rfl dX12_laysSlots_27 ?_
      refine r_iload_n 28 hC 2 rfl rfl dX12_laysSlots_28 ?_
      refine r_callVP 29 hC [(0, p2)] [] rfl vl_X12_287 rfl h0 (by decide) (Nat.le_of_ble_eq_true rfl) (by decide) (by decide) dX12_laysSlots_29 (t_X12_beginOf x0 p2 M3 h0) (fun v8 => ?_)
      refine r_istore_n 32 hC rfl (by decide) dX12_laysSlots_32 (r_eqls (ls' := [(3, 0, v8), (2, 0, v7), (0, 30, x0), (1, 0, p2)]) rfl ?_)
      refine r_aload_n 33 hC 2 rfl (Or.inl (by decide)) rfl dX12_laysSlots_33 ?_
      refine r_iload_n 34 hC 1 rfl rfl dX12_laysSlots_34 ?_
      refine r_callVP 35 hC [(0, v7)] [] rfl vl_X12_303 rfl h0 (by decide) (Nat.le_of_ble_eq_true rfl) (by decide) (by decide) dX12_laysSlots_35 (t_X12_ownLeft x0 v7 M3 h0) (fun v9 => ?_)
      refine r_istore 38 hC (by decide) dX12_laysSlots_38 (r_eqls (ls' := [(4, 0, v9), (3, 0, v8), (2, 0, v7), (0, 30, x0), (1, 0, p2)]) rfl ?_)
      refine r_iload 40 hC 0 rfl dX12_laysSlots_40 ?_
      refine r_jn (P := fun j53 => ∀ (M10 : Mem), Bk E C 6 Mi M0 53 [(0, 30, x0), (1, 0, p2), (2, 0, v7), (3, 0, v8), (4, 0, v9)] [] M10 0 0 (j53 M10)) ?_ (fun j53 hj53 => ?_)
      · intro M10
        refine r_iload_n 53 hC 3 rfl rfl dX12_laysSlots_53 ?_
        refine r_iload 54 hC 4 rfl dX12_laysSlots_54 ?_
        refine r_iadd 56 hC dX12_laysSlots_56 ?_
        refine r_istore_nL 57 hC rfl (by decide) dX12_laysSlots_57 (fun v11 => r_eqls (ls' := [(3, 0, v11), (0, 30, x0), (1, 0, p2), (2, 0, v7), (4, 0, v9)]) rfl ?_)
        refine r_aload_n 58 hC 1 rfl (Or.inl (by decide)) rfl dX12_laysSlots_58 ?_
        refine r_get 59 hC fd_10_0 fl_X12_7 dX12_laysSlots_59 (fun v12 => ?_)
        refine r_bipush 62 hC kb_8 dX12_laysSlots_62 ?_
        refine r_iaload 64 hC dX12_laysSlots_64 (fun v13 => ?_)
        refine r_iconst 65 hC (r32c rfl) dX12_laysSlots_65 ?_
        refine r_isub 66 hC dX12_laysSlots_66 ?_
        refine r_istoreL 67 hC (by decide) dX12_laysSlots_67 (fun v14 => r_eqls (ls' := [(5, 0, v14), (3, 0, v11), (0, 30, x0), (1, 0, p2), (2, 0, v7), (4, 0, v9)]) rfl ?_)
        refine r_sub [2, 3, 4, 1, 0] rfl (f_X12_laysSlots_L69_ok h0 hC hq (fun M31 => ?_) KF v11 v14 M10)
        · refine r_iinc 149 hC 1 rfl (by decide) dX12_laysSlots_149 (r_eqls (ls' := [(1, 0, w32 (p2 + 1)), (0, 30, x0)]) rfl ?_)
          refine r_goto 152 hC (tgt := 7) (by decide) dX12_laysSlots_152 ?_
          exact r_sub [1, 0] rfl (ih (w32 (p2 + 1)) M31)
      refine r_if_le 42 hC (tgt := 53) (by decide) dX12_laysSlots_42 ?_ ?_
      · exact r_sub [3, 4, 2, 1, 0] rfl (hj53 M3)
      · refine r_aload_n 45 hC 3 rfl (Or.inl (by decide)) rfl dX12_laysSlots_45 ?_
        refine r_iload_n 46 hC 2 rfl rfl dX12_laysSlots_46 ?_
        refine r_iload_n 47 hC 1 rfl rfl dX12_laysSlots_47 ?_
        refine r_iload 48 hC 0 rfl dX12_laysSlots_48 ?_
        refine r_callVV 50 hC [(0, v7), (0, v8), (0, v9)] [] rfl vl_X12_313 rfl h0 (by decide) (Nat.le_of_ble_eq_true rfl) (by decide) (by decide) dX12_laysSlots_50 (t_X12_aSlot x0 v7 v8 v9 M3 h0) (fun M32 => ?_)
        exact r_sub [3, 4, 2, 1, 0] rfl (hj53 M32)
set_option maxRecDepth 100000 in
theorem t_X12_laysSlots (x0 : Int) (M : Mem) (h0 : x0 ≠ 0) : MtV yX12_laysSlots cX12_laysSlots 6 none 6 0 0 [(30, x0)] M (f_X12_laysSlots x0 M) := by
  refine mk_V (by decide +kernel) (Nat.le_of_ble_eq_true rfl) (fun E C M0 hC hq hin => ?_)
  refine r_eqls (ls' := [(0, 30, x0)]) rfl ?_
  unfold f_X12_laysSlots
  refine r_aload_n 0 hC 0 rfl (Or.inl (by decide)) rfl dX12_laysSlots_0 ?_
  refine r_iconst 1 hC (r32c rfl) dX12_laysSlots_1 ?_
  refine r_put 2 hC fd_10_30 fl_X12_310 dX12_laysSlots_2 (fun M1 => ?_)
  refine r_iconst 5 hC (r32c rfl) dX12_laysSlots_5 ?_
  refine r_istore_n 6 hC rfl (by decide) dX12_laysSlots_6 (r_eqls (ls' := [(1, 0, 0), (0, 30, x0)]) rfl ?_)
  refine r_sub [1, 0] rfl (f_X12_laysSlots_L7_ok h0 hC hq (fun M34 => ?_) KF 0 M1)
  · exact r_return 155 hC hq (by decide) (by decide) dX12_laysSlots_155
