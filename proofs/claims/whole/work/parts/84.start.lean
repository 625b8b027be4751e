def flN : List Cond := flatC (Jvm.Cond.and given_1 narrow_1)
def tmS (i : Nat) : Term := if i = 0 then .string "WaterTurns$Tape" 54 else .string "WaterTurnsModel" 187
def elC (i : Nat) (j : Nat) : Cond := .eq (.elem (.field (tmS i) "java/lang/String" "value" "[B") (.int (Int32.ofNat j))) (.int ((sByt.getD i []).getD j 0))
theorem flE1 : (flN.drop 13).take 149 = (List.range 149).map (elC 0) := by decide +kernel
theorem flE2 : (flN.drop 166).take 150 = (List.range 150).map (elC 1) := by decide +kernel
theorem flE (i : Nat) (hi : i < 2) (j : Nat) (hj : j < sLen.getD i 0) : elC i j ∈ flN := by
  rcases (show i = 0 ∨ i = 1 by omega) with rfl | rfl
  · have h : elC 0 j ∈ (flN.drop 13).take 149 := by
      rw [flE1]; exact List.mem_map.mpr ⟨j, List.mem_range.mpr hj, rfl⟩
    exact List.mem_of_mem_drop (List.mem_of_mem_take h)
  · have h : elC 1 j ∈ (flN.drop 166).take 150 := by
      rw [flE2]; exact List.mem_map.mpr ⟨j, List.mem_range.mpr hj, rfl⟩
    exact List.mem_of_mem_drop (List.mem_of_mem_take h)
theorem sx1 : (.exactly (tmS 0) "java/lang/String" : Cond) ∈ flN := List.mem_of_getElem? (i := 9) (by decide +kernel)
theorem sx2 : (.exactly (tmS 1) "java/lang/String" : Cond) ∈ flN := List.mem_of_getElem? (i := 162) (by decide +kernel)
theorem sc1 : (.eq (.field (tmS 0) "java/lang/String" "coder" "B") (.int 0) : Cond) ∈ flN := List.mem_of_getElem? (i := 10) (by decide +kernel)
theorem sc2 : (.eq (.field (tmS 1) "java/lang/String" "coder" "B") (.int 0) : Cond) ∈ flN := List.mem_of_getElem? (i := 163) (by decide +kernel)
theorem sa1 : (.arrayOf (.field (tmS 0) "java/lang/String" "value" "[B") .byte : Cond) ∈ flN := List.mem_of_getElem? (i := 11) (by decide +kernel)
theorem sa2 : (.arrayOf (.field (tmS 1) "java/lang/String" "value" "[B") .byte : Cond) ∈ flN := List.mem_of_getElem? (i := 164) (by decide +kernel)
theorem sn1 : (.eq (.length (.field (tmS 0) "java/lang/String" "value" "[B")) (.int (Int32.ofNat (sLen.getD 0 0))) : Cond) ∈ flN := List.mem_of_getElem? (i := 12) (by decide +kernel)
theorem sn2 : (.eq (.length (.field (tmS 1) "java/lang/String" "value" "[B")) (.int (Int32.ofNat (sLen.getD 1 0))) : Cond) ∈ flN := List.mem_of_getElem? (i := 165) (by decide +kernel)
theorem scs : (.eq (.static "java/lang/String" "COMPACT_STRINGS" "Z") (.int 1) : Cond) ∈ flN := List.mem_of_getElem? (i := 4) (by decide +kernel)
theorem sfm : (.isRef (.static "jdk/internal/util/Preconditions" "SIOOBE_FORMATTER" "Ljava/util/function/BiFunction;") : Cond) ∈ flN := List.mem_of_getElem? (i := 5) (by decide +kernel)
theorem sne : (.not (.eq (tmS 0) (tmS 1)) : Cond) ∈ flN := List.mem_of_getElem? (i := 316) (by decide +kernel)
theorem nest_in : ∀ q ∈ nestL, Cond.methodLinkNest q.1 q.2.1 q.2.2 "WaterTurns" ∈ tables_1 := by decide +kernel
theorem tw1 : (.stringRef "WaterTurns$Tape" 54 tx1 : Cond) ∈ lw_tbl := List.mem_append_right _ (List.mem_of_getElem? (i := 58) (by decide +kernel))
theorem tw2 : (.stringRef "WaterTurnsModel" 187 tx2 : Cond) ∈ lw_tbl := List.mem_append_right _ (List.mem_of_getElem? (i := 1540) (by decide +kernel))
theorem tw3 : (.arrayOver (.object "WaterTurns$World") : Cond) ∈ lw_tbl := List.mem_append_right _ (List.mem_of_getElem? (i := 508) (by decide +kernel))
theorem tw4 : (.arrayOver (.array .int) : Cond) ∈ lw_tbl := List.mem_append_right _ (List.mem_of_getElem? (i := 169) (by decide +kernel))
theorem tw5 : (.arrayOver (.array .long) : Cond) ∈ lw_tbl := List.mem_append_right _ (List.mem_of_getElem? (i := 37) (by decide +kernel))
theorem tw6 : (.laysStatic "java/lang/String" "COMPACT_STRINGS" "Z" : Cond) ∈ lw_tbl := List.mem_append_right _ (List.mem_of_getElem? (i := 68) (by decide +kernel))
theorem tw7 : (.laysStatic "jdk/internal/util/Preconditions" "SIOOBE_FORMATTER" "Ljava/util/function/BiFunction;" : Cond) ∈ lw_tbl := List.mem_append_right _ (List.mem_of_getElem? (i := 84) (by decide +kernel))
theorem tw8 : (.initialized "java/lang/String" : Cond) ∈ lw_tbl := List.mem_append_right _ (List.mem_of_getElem? (i := 4) (by decide +kernel))
theorem tw9 : (.initialized "jdk/internal/util/Preconditions" : Cond) ∈ lw_tbl := List.mem_append_right _ (List.mem_of_getElem? (i := 6) (by decide +kernel))
theorem tin_0 : Cond.instantiable RX0 10 ∈ lw_tbl := List.mem_append_right _ (List.mem_of_getElem? (i := 248) (by decide +kernel))
theorem tin_1 : Cond.instantiable RX2 7 ∈ lw_tbl := List.mem_append_right _ (List.mem_of_getElem? (i := 474) (by decide +kernel))
theorem tin_2 : Cond.instantiable RX3 7 ∈ lw_tbl := List.mem_append_right _ (List.mem_of_getElem? (i := 385) (by decide +kernel))
theorem tin_3 : Cond.instantiable RX4 10 ∈ lw_tbl := List.mem_append_right _ (List.mem_of_getElem? (i := 303) (by decide +kernel))
theorem tin_4 : Cond.instantiable RX5 13 ∈ lw_tbl := List.mem_append_right _ (List.mem_of_getElem? (i := 379) (by decide +kernel))
theorem tin_5 : Cond.instantiable RX6 13 ∈ lw_tbl := List.mem_append_right _ (List.mem_of_getElem? (i := 53) (by decide +kernel))
theorem tin_6 : Cond.instantiable RX7 3 ∈ lw_tbl := List.mem_append_right _ (List.mem_of_getElem? (i := 31) (by decide +kernel))
theorem tin_7 : Cond.instantiable RX8 13 ∈ lw_tbl := List.mem_append_right _ (List.mem_of_getElem? (i := 163) (by decide +kernel))
theorem tin_8 : Cond.instantiable RX10 3 ∈ lw_tbl := List.mem_append_right _ (List.mem_of_getElem? (i := 157) (by decide +kernel))
theorem tin_9 : Cond.instantiable RX11 15 ∈ lw_tbl := List.mem_append_right _ (List.mem_of_getElem? (i := 23) (by decide +kernel))
theorem tin_10 : Cond.instantiable RX12 43 ∈ lw_tbl := List.mem_append_right _ (List.mem_of_getElem? (i := 1314) (by decide +kernel))
theorem isRef_val {args : Array Value} {s : State} {t : Term} (h : (Cond.isRef t).before args s = true) : t.eval args s none [] s = some .null ∨ ∃ a, t.eval args s none [] s = some (.ref a) := by
  cases hv : t.eval args s none [] s with
  | none => simp [Cond.before, Cond.holds, Cond.value, hv] at h
  | some w => cases w <;> simp [Cond.before, Cond.holds, Cond.value, hv, Value.isRef] at h ⊢
/-- what is left to show: my function of the law answers 1 -/
def LawTrue : Prop := ∀ (xs : Int → Int) (L : Int), 0 ≤ L → L ≤ 3072 → (∀ i, 0 ≤ i → i < L → r32 (xs i)) → f_L_law xs L (fun _ _ => 0) = some 1
set_option maxHeartbeats 4000000 in
set_option maxRecDepth 100000 in
theorem whole_start0 (hT : LawTrue) {p : Program} {e : Env} {s : State} {m : MethodId} {below : List Frame} {meth : Method} {c : Code} (l : Launch) {b L : Nat} {xs : Nat → Int32} (hL : L ≤ 3072) (C0 : lw_At p s m meth c b L xs) : W p l e room_1 s m #[Value.ref b] below meth c s.heap [] 0 0 (lw_Z below #[Value.ref b] s) (entryFrame m ([Value.ref b] : List Value).toArray 4) := by
  obtain ⟨hx, hb, hr, hml, hown, hts, hX, hbl, hlocks, hgv⟩ := C0
  have hfl := flat_of_before _ hgv
  have hA : ∀ a : Nat, a < s.heap.size → ¬ (fun q : Nat => s.heap.size ≤ q) a := fun a h => Nat.not_le.mpr h
  obtain ⟨c0, iS0, hKn0⟩ := u_known (C := RX0) (T := TX0) (N := 10) (n := 10) hts (fun w hw => List.mem_append_right _ (clw_0 w hw)) (hts _ tin_0)
  obtain ⟨c1, iS1, hKn1⟩ := u_known (C := RX2) (T := TX2) (N := 7) (n := 7) hts (fun w hw => List.mem_append_right _ (clw_1 w hw)) (hts _ tin_1)
  obtain ⟨c2, iS2, hKn2⟩ := u_known (C := RX3) (T := TX3) (N := 7) (n := 7) hts (fun w hw => List.mem_append_right _ (clw_2 w hw)) (hts _ tin_2)
  obtain ⟨c3, iS3, hKn3⟩ := u_known (C := RX4) (T := TX4) (N := 10) (n := 10) hts (fun w hw => List.mem_append_right _ (clw_3 w hw)) (hts _ tin_3)
  obtain ⟨c4, iS4, hKn4⟩ := u_known (C := RX5) (T := TX5) (N := 13) (n := 13) hts (fun w hw => List.mem_append_right _ (clw_4 w hw)) (hts _ tin_4)
  obtain ⟨c5, iS5, hKn5⟩ := u_known (C := RX6) (T := TX6) (N := 13) (n := 13) hts (fun w hw => List.mem_append_right _ (clw_5 w hw)) (hts _ tin_5)
  obtain ⟨c6, iS6, hKn6⟩ := u_known (C := RX7) (T := TX7) (N := 3) (n := 3) hts (fun w hw => List.mem_append_right _ (clw_6 w hw)) (hts _ tin_6)
  obtain ⟨c7, iS7, hKn7⟩ := u_known (C := RX8) (T := TX8) (N := 13) (n := 13) hts (fun w hw => List.mem_append_right _ (clw_7 w hw)) (hts _ tin_7)
  obtain ⟨c8, iS8, hKn8⟩ := u_known (C := RX10) (T := TX10) (N := 3) (n := 3) hts (fun w hw => List.mem_append_right _ (clw_8 w hw)) (hts _ tin_8)
  obtain ⟨c9, iS9, hKn9⟩ := u_known (C := RX11) (T := TX11) (N := 15) (n := 15) hts (fun w hw => List.mem_append_right _ (clw_9 w hw)) (hts _ tin_9)
  obtain ⟨c10, iS10, hKn10⟩ := u_known (C := RX12) (T := TX12) (N := 43) (n := 43) hts (fun w hw => List.mem_append_right _ (clw_10 w hw)) (hts _ tin_10)
  obtain ⟨dC, dI, hKc⟩ : ∃ (dC : Nat → ClassId) (dI : Nat → Nat → Nat), ∀ (k : Nat) (q : vw_C), vwCl[k]? = some q → u_Kn s q.1 q.2.1 q.2.2 (dC k) (dI k) := by
    refine ⟨fun k => if k = 0 then c0 else if k = 1 then c1 else if k = 2 then c2 else if k = 3 then c3 else if k = 4 then c4 else if k = 5 then c5 else if k = 6 then c6 else if k = 7 then c7 else if k = 8 then c8 else if k = 9 then c9 else c10, fun k => if k = 0 then iS0 else if k = 1 then iS1 else if k = 2 then iS2 else if k = 3 then iS3 else if k = 4 then iS4 else if k = 5 then iS5 else if k = 6 then iS6 else if k = 7 then iS7 else if k = 8 then iS8 else if k = 9 then iS9 else iS10, ?_⟩
    intro k q hq
    match k, hq with
    | 0, hq => cases hq; exact hKn0
    | 1, hq => cases hq; exact hKn1
    | 2, hq => cases hq; exact hKn2
    | 3, hq => cases hq; exact hKn3
    | 4, hq => cases hq; exact hKn4
    | 5, hq => cases hq; exact hKn5
    | 6, hq => cases hq; exact hKn6
    | 7, hq => cases hq; exact hKn7
    | 8, hq => cases hq; exact hKn8
    | 9, hq => cases hq; exact hKn9
    | 10, hq => cases hq; exact hKn10
    | k + 11, hq => simp [vwCl] at hq
  have hKv : va_K (dC, dI) vwCl [] s := ⟨hKc, fun k q h => by simp at h⟩
  obtain ⟨adK, adV, hS, hev⟩ := vk_Sof (args := #[Value.ref b]) (s := s) (N := 2) (tm := tmS) (len := sLen) (byt := sByt) (A := fun q => s.heap.size ≤ q)
    (by decide) (fun i hi => by rcases (show i = 0 ∨ i = 1 by omega) with rfl | rfl; exact hfl _ sx1; exact hfl _ sx2)
    (fun i hi => by rcases (show i = 0 ∨ i = 1 by omega) with rfl | rfl; exact hfl _ sc1; exact hfl _ sc2)
    (fun i hi => by rcases (show i = 0 ∨ i = 1 by omega) with rfl | rfl; exact hfl _ sa1; exact hfl _ sa2)
    (fun i hi => by rcases (show i = 0 ∨ i = 1 by omega) with rfl | rfl; exact hfl _ sn1; exact hfl _ sn2)
    (fun i hi j hj => hfl _ (flE i hi j hj))
    (fun i j hi hj hne => by
      rcases (show (i = 0 ∧ j = 1) ∨ (i = 1 ∧ j = 0) by omega) with ⟨rfl, rfl⟩ | ⟨rfl, rfl⟩
      · exact Or.inl (hfl _ sne)
      · exact Or.inr (hfl _ sne)) hA
  have hZ1 : va_Z "java/lang/String" "COMPACT_STRINGS" "Z" (.int 1) (fun q => s.heap.size ≤ q) s s.heap := va_Zof (hts _ tw6) (hts _ tw8) (va_eqi (hfl _ scs)) hA
  obtain ⟨fa, hfa⟩ : ∃ fa : Nat, va_Z "jdk/internal/util/Preconditions" "SIOOBE_FORMATTER" "Ljava/util/function/BiFunction;" .null (fun q => s.heap.size ≤ q) s s.heap ∨ va_Z "jdk/internal/util/Preconditions" "SIOOBE_FORMATTER" "Ljava/util/function/BiFunction;" (.ref fa) (fun q => s.heap.size ≤ q) s s.heap := by
    rcases isRef_val (hfl _ sfm) with hv | ⟨a, hv⟩
    · exact ⟨0, Or.inl (va_Zof (hts _ tw7) (hts _ tw9) hv hA)⟩
    · exact ⟨a, Or.inr (va_Zof (hts _ tw7) (hts _ tw9) hv hA)⟩
  obtain ⟨sA, hsA⟩ : ∃ sA : Int → Nat, sA = fun x => if x = -3 then b else if x = -4 then fa else if x = -1 then adK 0 else if x = -2 then adK 1 else if x = -11 then adV 0 else adV 1 := ⟨_, rfl⟩
  have e3 : sA (-3) = b := by rw [hsA]; simp
  have e4 : sA (-4) = fa := by rw [hsA]; simp
  have eK : ∀ i : Nat, i < 2 → sA (-1 - i) = adK i := by
    intro i hi
    rcases (show i = 0 ∨ i = 1 by omega) with rfl | rfl <;> rw [hsA] <;> simp
  have eV : ∀ i : Nat, i < 2 → sA (-11 - i) = adV i := by
    intro i hi
    rcases (show i = 0 ∨ i = 1 by omega) with rfl | rfl <;> rw [hsA] <;> simp
  have hS2 : vk_S 2 sLen sByt (fun i => sA (-1 - i)) (fun i => sA (-11 - i)) (fun q => s.heap.size ≤ q) s s.heap := by
    refine ⟨fun i hi => ?_, fun i j hi hj he => ?_⟩
    · have := hS.1 i hi
      dsimp only
      rw [eK i hi, eV i hi]
      exact this
    · dsimp only at he
      rw [eK i hi, eK j hj] at he
      exact hS.2 i j hi hj he
  have hap : ∀ ci x y, x < fN ci → y < fN ci → x ≠ y → dI ci x ≠ dI ci y := by
    intro ci
    match ci with
    | 0 => exact va_apart (args := #[Value.ref b]) (own := RX0) (ci := 0) hts (fun w hw => List.mem_append_right _ (clw_0 w hw)) tyX0 tyX0_ok nmX0 hKv rfl
    | 1 => exact va_apart (args := #[Value.ref b]) (own := RX2) (ci := 1) hts (fun w hw => List.mem_append_right _ (clw_1 w hw)) tyX2 tyX2_ok nmX2 hKv rfl
    | 2 => exact va_apart (args := #[Value.ref b]) (own := RX3) (ci := 2) hts (fun w hw => List.mem_append_right _ (clw_2 w hw)) tyX3 tyX3_ok nmX3 hKv rfl
    | 3 => exact va_apart (args := #[Value.ref b]) (own := RX4) (ci := 3) hts (fun w hw => List.mem_append_right _ (clw_3 w hw)) tyX4 tyX4_ok nmX4 hKv rfl
    | 4 => exact va_apart (args := #[Value.ref b]) (own := RX5) (ci := 4) hts (fun w hw => List.mem_append_right _ (clw_4 w hw)) tyX5 tyX5_ok nmX5 hKv rfl
    | 5 => exact va_apart (args := #[Value.ref b]) (own := RX6) (ci := 5) hts (fun w hw => List.mem_append_right _ (clw_5 w hw)) tyX6 tyX6_ok nmX6 hKv rfl
    | 6 => exact va_apart (args := #[Value.ref b]) (own := RX7) (ci := 6) hts (fun w hw => List.mem_append_right _ (clw_6 w hw)) tyX7 tyX7_ok nmX7 hKv rfl
    | 7 => exact va_apart (args := #[Value.ref b]) (own := RX8) (ci := 7) hts (fun w hw => List.mem_append_right _ (clw_7 w hw)) tyX8 tyX8_ok nmX8 hKv rfl
    | 8 => exact va_apart (args := #[Value.ref b]) (own := RX10) (ci := 8) hts (fun w hw => List.mem_append_right _ (clw_8 w hw)) tyX10 tyX10_ok nmX10 hKv rfl
    | 9 => exact va_apart (args := #[Value.ref b]) (own := RX11) (ci := 9) hts (fun w hw => List.mem_append_right _ (clw_9 w hw)) tyX11 tyX11_ok nmX11 hKv rfl
    | 10 => exact va_apart (args := #[Value.ref b]) (own := RX12) (ci := 10) hts (fun w hw => List.mem_append_right _ (clw_10 w hw)) tyX12 tyX12_ok nmX12 hKv rfl
    | k + 11 => intro x y hx; exact absurd hx (Nat.not_lt_zero _)
  let E : EnvT := (s.heap.size, s.heap, s, sA, (dC, dI))
  have hKK : KK E s := by
    refine ⟨Vm.Alike.refl _, hKc, hap, fun q hq => va_Nw.of rfl (hts _ (List.mem_append_right _ (nest_in q hq))), va_AO.of (hts _ tw3), hts _ tw4, hts _ tw5, ?_, ?_, hS2, hZ1, ?_⟩
    · have h1 := vk_R.of (hts _ tw1) (hev 0 (by decide))
      rw [← eK 0 (by decide)] at h1
      exact h1
    · have h1 := vk_R.of (hts _ tw2) (hev 1 (by decide))
      rw [← eK 1 (by decide)] at h1
      exact h1
    · show va_Z _ _ _ _ _ _ _ ∨ va_Z _ _ _ (.ref (sA (-4))) _ _ _
      rw [e4]; exact hfa
  have hHR : HR E (fun _ _ => 0) s.heap := ⟨by show s.heap.size = s.heap.size + _; simp, Int.le_refl _, fun q _ => rfl, fun a h1 h2 => absurd (Int.le_trans h1 h2) (by decide)⟩
  have hC : CxOK E (p, l, e, room_1, s, m, #[Value.ref b], below, meth, c, lw_Z below #[Value.ref b] s) code 4 RL 20 600000 7302250 :=
    ⟨hx, hb, hml, hown, fun w hw => hts w (List.mem_filter.mp hw).1, hKK, Nat.le_of_ble_eq_true rfl, Nat.le_of_ble_eq_true rfl, Nat.le_refl _, Nat.le_refl _, Nat.le_refl _⟩
  have hq : LawQ E (p, l, e, room_1, s, m, #[Value.ref b], below, meth, c, lw_Z below #[Value.ref b] s) := ⟨b, hr, hlocks, rfl, rfl, rfl, Nat.le_refl _⟩
  have hLX : LawX E (p, l, e, room_1, s, m, #[Value.ref b], below, meth, c, lw_Z below #[Value.ref b] s) (fun j => (xs j.toNat).toInt) L := by
    refine ⟨L, xs, ?_, rfl, hL, fun j hj => rfl, ?_⟩
    · show ¬ s.heap.size ≤ sA (-3)
      rw [e3]; exact Nat.not_le.mpr hbl
    · show va_X (sA (-3)) L xs s s.heap
      rw [e3]; exact hX
  have hval : f_L_law (fun j => (xs j.toNat).toInt) L (fun _ _ => 0) = some 1 := hT _ _ (by omega) (by omega) (fun i _ _ => r32_toInt _)
  have hl := lv_entry ([Value.ref b]) (n := 4) (Nat.le_of_ble_eq_true rfl)
  rw [lg_entry_eq]
  have henc : encl E [(0, 2, -3)] = lv_args 0 [Value.ref b] := by
    show [(0, enc E 2 (-3))] = [(0, Value.ref b)]
    rw [enc_s (by decide)]
    show [(0, Value.ref (sA (-3)))] = _
    rw [e3]
  exact t_law hC hq hLX hval Ext.rf (okl_c.mpr ⟨okx_2.mpr (by decide), fun q hq => by cases hq⟩) (fun q hq => by cases hq) s.heap [] _ hHR (fun q hq => by cases hq) (by rw [henc]; exact hl)
