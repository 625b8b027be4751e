/-! rows that the printed proofs use besides -/
theorem r32c {n : Int} (h : decide (-2147483648 ≤ n ∧ n ≤ 2147483647) = true) : r32 n := by unfold r32; exact of_decide_eq_true h
theorem r64c {n : Int} (h : decide (-9223372036854775808 ≤ n ∧ n ≤ 9223372036854775807) = true) : r64 n := by unfold r64; exact of_decide_eq_true h
section ROWS
variable {E : EnvT} {C : Cx} {ρ : Type} {x0 : ρ} {Mi M M0 : Mem} {cc : ByteArray} {nL h mc ms cl sl : Nat} {own : String} {ls : List (Nat × Int × Int)} {st : List (Int × Int)} {o : Option ρ}
theorem r_none {pc : Nat} : Bk E C nL Mi x0 pc ls st M cl sl (none : Option ρ) := fun ho => by cases ho
theorem r_widen {pc cl' sl' : Nat} (h1 : cl ≤ cl') (h2 : sl ≤ sl') (kk : Bk E C nL Mi x0 pc ls st M cl' sl' o) : Bk E C nL Mi x0 pc ls st M cl sl o :=
  fun ho hE hl hs H locs la hH hL hla => W.widen h1 h2 (kk ho hE hl hs H locs la hH hL hla)
theorem r_sw_dflt2 (pc : Nat) {tgt : Nat} {x : Int} {dflt lo hi : Int} {offs : Array Int} {len : Nat} (hC : CxOK E C cc nL own h mc ms) (hd : decode cc pc = .ok (.tableswitch dflt lo hi offs, len)) (gaps : List Int) (hg : ∀ g ∈ gaps, lo ≤ g ∧ g ≤ hi ∧ offs[(g - lo).toNat]? = some dflt) (hx0 : x < lo ∨ hi < x ∨ x ∈ gaps) (ht : (pc : Int) + dflt = (tgt : Int)) (k1 : Bk E C nL Mi x0 tgt ls st M cl sl o) : Bk E C nL Mi x0 pc ls ((0, x) :: st) M cl sl o := by
  intro ho hE hl hs H locs la hH hL hla
  rw [oks_c] at hs
  have e := toI32r (okx_0.mp hs.1)
  obtain ⟨hx, hb, -⟩ := hC
  simp only [encs, List.map_cons, enc_0]
  have k := k1 ho hE hl hs.2 H locs la hH hL hla
  rcases hx0 with h1 | h1 | h1
  · exact lv_tableOut hx hb hd (by rw [e]; exact Or.inl h1) ht k
  · exact lv_tableOut hx hb hd (by rw [e]; exact Or.inr h1) ht k
  · obtain ⟨g1, g2, g3⟩ := hg x h1
    exact lv_tableIn hx hb hd (by rw [e]; omega) (by rw [e]; omega) (by rw [e]; exact g3) ht k
end ROWS
theorem nad_10 (E : EnvT) : defaultValue (aT 10) = enc E (ek 10) 0 := by show Value.int 0 = enc E 0 0; rw [enc_0]; rfl
theorem nad_11 (E : EnvT) : defaultValue (aT 11) = enc E (ek 11) 0 := by show Value.long 0 = enc E 1 0; rw [enc_1]; rfl
theorem nad_12 (E : EnvT) : defaultValue (aT 12) = enc E (ek 12) 0 := by show Value.int 0 = enc E 4 0; rw [enc_4]; rfl
theorem nad_13 (E : EnvT) : defaultValue (aT 13) = enc E (ek 13) 0 := by show Value.int 0 = enc E 3 0; rw [enc_3]; rfl
theorem nao_10 {M : Mem} : okx M (ek 10) 0 := okx_0.mpr (r32c rfl)
theorem nao_11 {M : Mem} : okx M (ek 11) 0 := okx_1.mpr (r64c rfl)
theorem nao_12 {M : Mem} : okx M (ek 12) 0 := okx_4.mpr (by decide)
theorem nao_13 {M : Mem} : okx M (ek 13) 0 := okx_3.mpr (Or.inl rfl)
theorem nac_10 : Cond.arrayClass .int ∈ Gw := gw_1 51 rfl rfl
theorem nac_11 : Cond.arrayClass .long ∈ Gw := gw_1 50 rfl rfl
theorem nac_12 : Cond.arrayClass .byte ∈ Gw := gw_1 155 rfl rfl
theorem nac_13 : Cond.arrayClass .boolean ∈ Gw := gw_2 232 rfl rfl
theorem obj_i : Cond.instanceMethod objectInit ∈ Gw := gw_1 28 rfl rfl
theorem obj_c : Cond.code objectInit ⟨#[0xb1]⟩ 1 none ∈ Gw := gw_1 29 rfl rfl
theorem cp_n : Cond.native arraycopyName ∈ Gw := gw_3 148 rfl rfl
theorem cp_s : Cond.static arraycopyName ∈ Gw := gw_3 147 rfl rfl
theorem cp_i : Cond.initialized "java/lang/System" ∈ Gw := gw_1 17 rfl rfl
theorem clw_0 : ∀ w ∈ u_ws RX0 TX0 10, w ∈ tables_1 := by decide +kernel
theorem clg_0 : (u_ws RX0 TX0 10).all goodWord = true := by decide +kernel
theorem clt_0 : ∀ k, k < 10 → tyK (tyX0 k) (fk 0 k) := by
  intro k hk
  match k, hk with
  | 0, _ => exact Or.inr (Or.inr (Or.inl ⟨rfl, rfl⟩))
  | 1, _ => exact Or.inl ⟨rfl, rfl⟩
  | 2, _ => exact Or.inl ⟨rfl, rfl⟩
  | 3, _ => exact Or.inr (Or.inr (Or.inr ⟨by decide, Or.inr ⟨_, rfl⟩⟩))
  | 4, _ => exact Or.inr (Or.inr (Or.inr ⟨by decide, Or.inr ⟨_, rfl⟩⟩))
  | 5, _ => exact Or.inr (Or.inr (Or.inr ⟨by decide, Or.inr ⟨_, rfl⟩⟩))
  | 6, _ => exact Or.inr (Or.inr (Or.inr ⟨by decide, Or.inr ⟨_, rfl⟩⟩))
  | 7, _ => exact Or.inr (Or.inr (Or.inr ⟨by decide, Or.inr ⟨_, rfl⟩⟩))
  | 8, _ => exact Or.inr (Or.inr (Or.inr ⟨by decide, Or.inr ⟨_, rfl⟩⟩))
  | 9, _ => exact Or.inr (Or.inr (Or.inr ⟨by decide, Or.inr ⟨_, rfl⟩⟩))
  | k + 10, hk => exact absurd hk (by omega)
theorem cl_0 : ClOK 0 RX0 TX0 10 tyX0 := ⟨rfl, rfl, fun w hw => List.mem_filter.mpr ⟨List.mem_append_right _ (clw_0 w hw), List.all_eq_true.mp clg_0 w hw⟩, tyX0_ok, clt_0⟩
theorem clw_1 : ∀ w ∈ u_ws RX2 TX2 7, w ∈ tables_1 := by decide +kernel
theorem clg_1 : (u_ws RX2 TX2 7).all goodWord = true := by decide +kernel
theorem clt_1 : ∀ k, k < 7 → tyK (tyX2 k) (fk 1 k) := by
  intro k hk
  match k, hk with
  | 0, _ => exact Or.inl ⟨rfl, rfl⟩
  | 1, _ => exact Or.inl ⟨rfl, rfl⟩
  | 2, _ => exact Or.inl ⟨rfl, rfl⟩
  | 3, _ => exact Or.inl ⟨rfl, rfl⟩
  | 4, _ => exact Or.inr (Or.inr (Or.inl ⟨rfl, rfl⟩))
  | 5, _ => exact Or.inl ⟨rfl, rfl⟩
  | 6, _ => exact Or.inr (Or.inr (Or.inr ⟨by decide, Or.inr ⟨_, rfl⟩⟩))
  | k + 7, hk => exact absurd hk (by omega)
theorem cl_1 : ClOK 1 RX2 TX2 7 tyX2 := ⟨rfl, rfl, fun w hw => List.mem_filter.mpr ⟨List.mem_append_right _ (clw_1 w hw), List.all_eq_true.mp clg_1 w hw⟩, tyX2_ok, clt_1⟩
theorem clw_2 : ∀ w ∈ u_ws RX3 TX3 7, w ∈ tables_1 := by decide +kernel
theorem clg_2 : (u_ws RX3 TX3 7).all goodWord = true := by decide +kernel
theorem clt_2 : ∀ k, k < 7 → tyK (tyX3 k) (fk 2 k) := by
  intro k hk
  match k, hk with
  | 0, _ => exact Or.inr (Or.inr (Or.inr ⟨by decide, Or.inr ⟨_, rfl⟩⟩))
  | 1, _ => exact Or.inr (Or.inr (Or.inr ⟨by decide, Or.inr ⟨_, rfl⟩⟩))
  | 2, _ => exact Or.inr (Or.inr (Or.inr ⟨by decide, Or.inr ⟨_, rfl⟩⟩))
  | 3, _ => exact Or.inl ⟨rfl, rfl⟩
  | 4, _ => exact Or.inr (Or.inr (Or.inr ⟨by decide, Or.inr ⟨_, rfl⟩⟩))
  | 5, _ => exact Or.inr (Or.inr (Or.inr ⟨by decide, Or.inr ⟨_, rfl⟩⟩))
  | 6, _ => exact Or.inr (Or.inr (Or.inr ⟨by decide, Or.inr ⟨_, rfl⟩⟩))
  | k + 7, hk => exact absurd hk (by omega)
theorem cl_2 : ClOK 2 RX3 TX3 7 tyX3 := ⟨rfl, rfl, fun w hw => List.mem_filter.mpr ⟨List.mem_append_right _ (clw_2 w hw), List.all_eq_true.mp clg_2 w hw⟩, tyX3_ok, clt_2⟩
theorem clw_3 : ∀ w ∈ u_ws RX4 TX4 10, w ∈ tables_1 := by decide +kernel
theorem clg_3 : (u_ws RX4 TX4 10).all goodWord = true := by decide +kernel
theorem clt_3 : ∀ k, k < 10 → tyK (tyX4 k) (fk 3 k) := by
  intro k hk
  match k, hk with
  | 0, _ => exact Or.inl ⟨rfl, rfl⟩
  | 1, _ => exact Or.inl ⟨rfl, rfl⟩
  | 2, _ => exact Or.inl ⟨rfl, rfl⟩
  | 3, _ => exact Or.inl ⟨rfl, rfl⟩
  | 4, _ => exact Or.inr (Or.inr (Or.inr ⟨by decide, Or.inr ⟨_, rfl⟩⟩))
  | 5, _ => exact Or.inr (Or.inr (Or.inr ⟨by decide, Or.inr ⟨_, rfl⟩⟩))
  | 6, _ => exact Or.inr (Or.inr (Or.inr ⟨by decide, Or.inr ⟨_, rfl⟩⟩))
  | 7, _ => exact Or.inr (Or.inr (Or.inr ⟨by decide, Or.inr ⟨_, rfl⟩⟩))
  | 8, _ => exact Or.inr (Or.inr (Or.inr ⟨by decide, Or.inr ⟨_, rfl⟩⟩))
  | 9, _ => exact Or.inr (Or.inr (Or.inr ⟨by decide, Or.inr ⟨_, rfl⟩⟩))
  | k + 10, hk => exact absurd hk (by omega)
theorem cl_3 : ClOK 3 RX4 TX4 10 tyX4 := ⟨rfl, rfl, fun w hw => List.mem_filter.mpr ⟨List.mem_append_right _ (clw_3 w hw), List.all_eq_true.mp clg_3 w hw⟩, tyX4_ok, clt_3⟩
theorem clw_4 : ∀ w ∈ u_ws RX5 TX5 13, w ∈ tables_1 := by decide +kernel
theorem clg_4 : (u_ws RX5 TX5 13).all goodWord = true := by decide +kernel
theorem clt_4 : ∀ k, k < 13 → tyK (tyX5 k) (fk 4 k) := by
  intro k hk
  match k, hk with
  | 0, _ => exact Or.inr (Or.inr (Or.inr ⟨by decide, Or.inl ⟨_, rfl⟩⟩))
  | 1, _ => exact Or.inr (Or.inr (Or.inr ⟨by decide, Or.inr ⟨_, rfl⟩⟩))
  | 2, _ => exact Or.inr (Or.inr (Or.inr ⟨by decide, Or.inr ⟨_, rfl⟩⟩))
  | 3, _ => exact Or.inr (Or.inr (Or.inr ⟨by decide, Or.inr ⟨_, rfl⟩⟩))
  | 4, _ => exact Or.inr (Or.inr (Or.inr ⟨by decide, Or.inr ⟨_, rfl⟩⟩))
  | 5, _ => exact Or.inr (Or.inr (Or.inr ⟨by decide, Or.inr ⟨_, rfl⟩⟩))
  | 6, _ => exact Or.inr (Or.inr (Or.inr ⟨by decide, Or.inr ⟨_, rfl⟩⟩))
  | 7, _ => exact Or.inr (Or.inr (Or.inr ⟨by decide, Or.inr ⟨_, rfl⟩⟩))
  | 8, _ => exact Or.inl ⟨rfl, rfl⟩
  | 9, _ => exact Or.inr (Or.inr (Or.inr ⟨by decide, Or.inr ⟨_, rfl⟩⟩))
  | 10, _ => exact Or.inr (Or.inr (Or.inr ⟨by decide, Or.inr ⟨_, rfl⟩⟩))
  | 11, _ => exact Or.inr (Or.inr (Or.inr ⟨by decide, Or.inr ⟨_, rfl⟩⟩))
  | 12, _ => exact Or.inr (Or.inr (Or.inr ⟨by decide, Or.inr ⟨_, rfl⟩⟩))
  | k + 13, hk => exact absurd hk (by omega)
theorem cl_4 : ClOK 4 RX5 TX5 13 tyX5 := ⟨rfl, rfl, fun w hw => List.mem_filter.mpr ⟨List.mem_append_right _ (clw_4 w hw), List.all_eq_true.mp clg_4 w hw⟩, tyX5_ok, clt_4⟩
theorem clw_5 : ∀ w ∈ u_ws RX6 TX6 13, w ∈ tables_1 := by decide +kernel
theorem clg_5 : (u_ws RX6 TX6 13).all goodWord = true := by decide +kernel
theorem clt_5 : ∀ k, k < 13 → tyK (tyX6 k) (fk 5 k) := by
  intro k hk
  match k, hk with
  | 0, _ => exact Or.inr (Or.inr (Or.inr ⟨by decide, Or.inr ⟨_, rfl⟩⟩))
  | 1, _ => exact Or.inr (Or.inr (Or.inr ⟨by decide, Or.inr ⟨_, rfl⟩⟩))
  | 2, _ => exact Or.inl ⟨rfl, rfl⟩
  | 3, _ => exact Or.inl ⟨rfl, rfl⟩
  | 4, _ => exact Or.inl ⟨rfl, rfl⟩
  | 5, _ => exact Or.inl ⟨rfl, rfl⟩
  | 6, _ => exact Or.inl ⟨rfl, rfl⟩
  | 7, _ => exact Or.inl ⟨rfl, rfl⟩
  | 8, _ => exact Or.inl ⟨rfl, rfl⟩
  | 9, _ => exact Or.inl ⟨rfl, rfl⟩
  | 10, _ => exact Or.inr (Or.inl ⟨rfl, rfl⟩)
  | 11, _ => exact Or.inl ⟨rfl, rfl⟩
  | 12, _ => exact Or.inl ⟨rfl, rfl⟩
  | k + 13, hk => exact absurd hk (by omega)
theorem cl_5 : ClOK 5 RX6 TX6 13 tyX6 := ⟨rfl, rfl, fun w hw => List.mem_filter.mpr ⟨List.mem_append_right _ (clw_5 w hw), List.all_eq_true.mp clg_5 w hw⟩, tyX6_ok, clt_5⟩
theorem clw_6 : ∀ w ∈ u_ws RX7 TX7 3, w ∈ tables_1 := by decide +kernel
theorem clg_6 : (u_ws RX7 TX7 3).all goodWord = true := by decide +kernel
theorem clt_6 : ∀ k, k < 3 → tyK (tyX7 k) (fk 6 k) := by
  intro k hk
  match k, hk with
  | 0, _ => exact Or.inr (Or.inr (Or.inr ⟨by decide, Or.inr ⟨_, rfl⟩⟩))
  | 1, _ => exact Or.inr (Or.inr (Or.inr ⟨by decide, Or.inr ⟨_, rfl⟩⟩))
  | 2, _ => exact Or.inr (Or.inr (Or.inr ⟨by decide, Or.inr ⟨_, rfl⟩⟩))
  | k + 3, hk => exact absurd hk (by omega)
theorem cl_6 : ClOK 6 RX7 TX7 3 tyX7 := ⟨rfl, rfl, fun w hw => List.mem_filter.mpr ⟨List.mem_append_right _ (clw_6 w hw), List.all_eq_true.mp clg_6 w hw⟩, tyX7_ok, clt_6⟩
theorem clw_7 : ∀ w ∈ u_ws RX8 TX8 13, w ∈ tables_1 := by decide +kernel
theorem clg_7 : (u_ws RX8 TX8 13).all goodWord = true := by decide +kernel
theorem clt_7 : ∀ k, k < 13 → tyK (tyX8 k) (fk 7 k) := by
  intro k hk
  match k, hk with
  | 0, _ => exact Or.inl ⟨rfl, rfl⟩
  | 1, _ => exact Or.inl ⟨rfl, rfl⟩
  | 2, _ => exact Or.inl ⟨rfl, rfl⟩
  | 3, _ => exact Or.inl ⟨rfl, rfl⟩
  | 4, _ => exact Or.inl ⟨rfl, rfl⟩
  | 5, _ => exact Or.inl ⟨rfl, rfl⟩
  | 6, _ => exact Or.inl ⟨rfl, rfl⟩
  | 7, _ => exact Or.inr (Or.inl ⟨rfl, rfl⟩)
  | 8, _ => exact Or.inr (Or.inr (Or.inr ⟨by decide, Or.inr ⟨_, rfl⟩⟩))
  | 9, _ => exact Or.inr (Or.inr (Or.inr ⟨by decide, Or.inr ⟨_, rfl⟩⟩))
  | 10, _ => exact Or.inr (Or.inr (Or.inr ⟨by decide, Or.inr ⟨_, rfl⟩⟩))
  | 11, _ => exact Or.inr (Or.inr (Or.inr ⟨by decide, Or.inr ⟨_, rfl⟩⟩))
  | 12, _ => exact Or.inr (Or.inr (Or.inr ⟨by decide, Or.inr ⟨_, rfl⟩⟩))
  | k + 13, hk => exact absurd hk (by omega)
theorem cl_7 : ClOK 7 RX8 TX8 13 tyX8 := ⟨rfl, rfl, fun w hw => List.mem_filter.mpr ⟨List.mem_append_right _ (clw_7 w hw), List.all_eq_true.mp clg_7 w hw⟩, tyX8_ok, clt_7⟩
theorem clw_8 : ∀ w ∈ u_ws RX10 TX10 3, w ∈ tables_1 := by decide +kernel
theorem clg_8 : (u_ws RX10 TX10 3).all goodWord = true := by decide +kernel
theorem clt_8 : ∀ k, k < 3 → tyK (tyX10 k) (fk 8 k) := by
  intro k hk
  match k, hk with
  | 0, _ => exact Or.inr (Or.inr (Or.inr ⟨by decide, Or.inl ⟨_, rfl⟩⟩))
  | 1, _ => exact Or.inr (Or.inr (Or.inr ⟨by decide, Or.inl ⟨_, rfl⟩⟩))
  | 2, _ => exact Or.inr (Or.inr (Or.inr ⟨by decide, Or.inl ⟨_, rfl⟩⟩))
  | k + 3, hk => exact absurd hk (by omega)
theorem cl_8 : ClOK 8 RX10 TX10 3 tyX10 := ⟨rfl, rfl, fun w hw => List.mem_filter.mpr ⟨List.mem_append_right _ (clw_8 w hw), List.all_eq_true.mp clg_8 w hw⟩, tyX10_ok, clt_8⟩
theorem clw_9 : ∀ w ∈ u_ws RX11 TX11 15, w ∈ tables_1 := by decide +kernel
theorem clg_9 : (u_ws RX11 TX11 15).all goodWord = true := by decide +kernel
theorem clt_9 : ∀ k, k < 15 → tyK (tyX11 k) (fk 9 k) := by
  intro k hk
  match k, hk with
  | 0, _ => exact Or.inr (Or.inr (Or.inr ⟨by decide, Or.inl ⟨_, rfl⟩⟩))
  | 1, _ => exact Or.inr (Or.inr (Or.inr ⟨by decide, Or.inl ⟨_, rfl⟩⟩))
  | 2, _ => exact Or.inr (Or.inr (Or.inr ⟨by decide, Or.inl ⟨_, rfl⟩⟩))
  | 3, _ => exact Or.inr (Or.inr (Or.inr ⟨by decide, Or.inl ⟨_, rfl⟩⟩))
  | 4, _ => exact Or.inr (Or.inr (Or.inr ⟨by decide, Or.inl ⟨_, rfl⟩⟩))
  | 5, _ => exact Or.inr (Or.inr (Or.inr ⟨by decide, Or.inl ⟨_, rfl⟩⟩))
  | 6, _ => exact Or.inr (Or.inr (Or.inr ⟨by decide, Or.inr ⟨_, rfl⟩⟩))
  | 7, _ => exact Or.inr (Or.inr (Or.inr ⟨by decide, Or.inr ⟨_, rfl⟩⟩))
  | 8, _ => exact Or.inr (Or.inr (Or.inr ⟨by decide, Or.inl ⟨_, rfl⟩⟩))
  | 9, _ => exact Or.inr (Or.inr (Or.inr ⟨by decide, Or.inl ⟨_, rfl⟩⟩))
  | 10, _ => exact Or.inr (Or.inr (Or.inl ⟨rfl, rfl⟩))
  | 11, _ => exact Or.inl ⟨rfl, rfl⟩
  | 12, _ => exact Or.inl ⟨rfl, rfl⟩
  | 13, _ => exact Or.inr (Or.inl ⟨rfl, rfl⟩)
  | 14, _ => exact Or.inr (Or.inl ⟨rfl, rfl⟩)
  | k + 15, hk => exact absurd hk (by omega)
theorem cl_9 : ClOK 9 RX11 TX11 15 tyX11 := ⟨rfl, rfl, fun w hw => List.mem_filter.mpr ⟨List.mem_append_right _ (clw_9 w hw), List.all_eq_true.mp clg_9 w hw⟩, tyX11_ok, clt_9⟩
theorem clw_10 : ∀ w ∈ u_ws RX12 TX12 43, w ∈ tables_1 := by decide +kernel
theorem clg_10 : (u_ws RX12 TX12 43).all goodWord = true := by decide +kernel
theorem clt_10 : ∀ k, k < 43 → tyK (tyX12 k) (fk 10 k) := by
  intro k hk
  match k, hk with
  | 0, _ => exact Or.inr (Or.inr (Or.inr ⟨by decide, Or.inr ⟨_, rfl⟩⟩))
  | 1, _ => exact Or.inr (Or.inr (Or.inr ⟨by decide, Or.inr ⟨_, rfl⟩⟩))
  | 2, _ => exact Or.inl ⟨rfl, rfl⟩
  | 3, _ => exact Or.inr (Or.inl ⟨rfl, rfl⟩)
  | 4, _ => exact Or.inr (Or.inl ⟨rfl, rfl⟩)
  | 5, _ => exact Or.inr (Or.inr (Or.inr ⟨by decide, Or.inr ⟨_, rfl⟩⟩))
  | 6, _ => exact Or.inr (Or.inr (Or.inr ⟨by decide, Or.inr ⟨_, rfl⟩⟩))
  | 7, _ => exact Or.inr (Or.inr (Or.inr ⟨by decide, Or.inr ⟨_, rfl⟩⟩))
  | 8, _ => exact Or.inr (Or.inr (Or.inr ⟨by decide, Or.inr ⟨_, rfl⟩⟩))
  | 9, _ => exact Or.inr (Or.inr (Or.inr ⟨by decide, Or.inr ⟨_, rfl⟩⟩))
  | 10, _ => exact Or.inl ⟨rfl, rfl⟩
  | 11, _ => exact Or.inl ⟨rfl, rfl⟩
  | 12, _ => exact Or.inl ⟨rfl, rfl⟩
  | 13, _ => exact Or.inl ⟨rfl, rfl⟩
  | 14, _ => exact Or.inl ⟨rfl, rfl⟩
  | 15, _ => exact Or.inl ⟨rfl, rfl⟩
  | 16, _ => exact Or.inl ⟨rfl, rfl⟩
  | 17, _ => exact Or.inl ⟨rfl, rfl⟩
  | 18, _ => exact Or.inl ⟨rfl, rfl⟩
  | 19, _ => exact Or.inl ⟨rfl, rfl⟩
  | 20, _ => exact Or.inl ⟨rfl, rfl⟩
  | 21, _ => exact Or.inr (Or.inr (Or.inr ⟨by decide, Or.inr ⟨_, rfl⟩⟩))
  | 22, _ => exact Or.inr (Or.inr (Or.inr ⟨by decide, Or.inr ⟨_, rfl⟩⟩))
  | 23, _ => exact Or.inl ⟨rfl, rfl⟩
  | 24, _ => exact Or.inl ⟨rfl, rfl⟩
  | 25, _ => exact Or.inr (Or.inr (Or.inr ⟨by decide, Or.inr ⟨_, rfl⟩⟩))
  | 26, _ => exact Or.inl ⟨rfl, rfl⟩
  | 27, _ => exact Or.inr (Or.inr (Or.inr ⟨by decide, Or.inr ⟨_, rfl⟩⟩))
  | 28, _ => exact Or.inr (Or.inr (Or.inr ⟨by decide, Or.inr ⟨_, rfl⟩⟩))
  | 29, _ => exact Or.inr (Or.inr (Or.inr ⟨by decide, Or.inr ⟨_, rfl⟩⟩))
  | 30, _ => exact Or.inl ⟨rfl, rfl⟩
  | 31, _ => exact Or.inr (Or.inl ⟨rfl, rfl⟩)
  | 32, _ => exact Or.inr (Or.inl ⟨rfl, rfl⟩)
  | 33, _ => exact Or.inr (Or.inl ⟨rfl, rfl⟩)
  | 34, _ => exact Or.inl ⟨rfl, rfl⟩
  | 35, _ => exact Or.inr (Or.inr (Or.inr ⟨by decide, Or.inr ⟨_, rfl⟩⟩))
  | 36, _ => exact Or.inl ⟨rfl, rfl⟩
  | 37, _ => exact Or.inl ⟨rfl, rfl⟩
  | 38, _ => exact Or.inr (Or.inr (Or.inr ⟨by decide, Or.inr ⟨_, rfl⟩⟩))
  | 39, _ => exact Or.inr (Or.inr (Or.inr ⟨by decide, Or.inr ⟨_, rfl⟩⟩))
  | 40, _ => exact Or.inr (Or.inr (Or.inr ⟨by decide, Or.inr ⟨_, rfl⟩⟩))
  | 41, _ => exact Or.inr (Or.inr (Or.inl ⟨rfl, rfl⟩))
  | 42, _ => exact Or.inl ⟨rfl, rfl⟩
  | k + 43, hk => exact absurd hk (by omega)
theorem cl_10 : ClOK 10 RX12 TX12 43 tyX12 := ⟨rfl, rfl, fun w hw => List.mem_filter.mpr ⟨List.mem_append_right _ (clw_10 w hw), List.all_eq_true.mp clg_10 w hw⟩, tyX12_ok, clt_10⟩
