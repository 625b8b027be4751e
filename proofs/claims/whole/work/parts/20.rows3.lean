section ROWS
variable {E : EnvT} {C : Cx} {ρ : Type} {x0 : ρ} {Mi M : Mem} {cc : ByteArray} {nL h mc ms cl sl : Nat} {own : String} {ls : List (Nat × Int × Int)} {st : List (Int × Int)} {o : Option ρ}
theorem in_arr {n i : Int} {cA : ClassId} {z : Nat → Value} (i0 : 0 ≤ i) (i1 : i < n) (hi : r32 i) : ¬ (Int32.ofInt i < 0 ∨ (arrV cA n.toNat z).slots.size ≤ (Int32.ofInt i).toNatClampNeg) := by
  rw [arrV_size]
  exact in32 i0 (by omega) hi
theorem at_arr {n i : Int} {cA : ClassId} {z : Nat → Value} (i0 : 0 ≤ i) (i1 : i < n) (hi : r32 i) : (arrV cA n.toNat z).slots[(Int32.ofInt i).toNatClampNeg]? = some (z i.toNat) := by
  rw [cl32 i0 hi]
  exact arrV_read _ _ (by omega)
theorem hC_arr (hC : CxOK E C cc nL own h mc ms) {cA : ClassId} {ty : FieldType} (h1 : ArrOfT E.2.2.1 cA ty) : ArrOfT (cS C) cA ty := arrOfT_moved hC.2.2.2.2.2.1.1 h1
theorem r_iaload (pc : Nat) (hC : CxOK E C cc nL own h mc ms) {a i : Int} {f : Int → Option ρ} (hd : decode cc pc = .ok (.iaload, 1)) (kk : ∀ v, Bk E C nL Mi x0 (pc + 1) ls ((0, v) :: st) M cl sl (f v)) : Bk E C nL Mi x0 pc ls ((0, i) :: (10, a) :: st) M cl sl (geti M a i f) := by
  intro ho hE hl hs H locs la hH hL hla
  rw [oks_c, oks_c] at hs
  unfold geti at ho
  by_cases hr : a = 0
  · rw [if_pos hr] at ho; cases ho
  rw [if_neg hr] at ho
  by_cases hi : 0 ≤ i ∧ i < M a (-1)
  · rw [if_pos hi] at ho
    obtain ⟨r1, r2, r3⟩ := okx_ref hs.2.1 (by omega) hr
    obtain ⟨cA, q1, q2, q3, q4, q5, q6⟩ := hH.arr r1 r2 r3 (by omega) (by omega)
    have q7 := hC_arr hC q5
    obtain ⟨hx, hb, hn, hown, hts, hKK, -⟩ := hC
    have hi32 := okx_0.mp hs.1
    have hv := at_arr (cA := cA) (z := fun j => enc E (ek 10) (M a j)) hi.1 hi.2 hi32
    have hok := q4 i hi.1 hi.2
    have e0 : ((i.toNat : Nat) : Int) = i := by omega
    simp only [e0] at hv
    simp only [encs, List.map_cons, enc_0]
    rw [enc_r (by omega), rf_pos r1]
    refine W.iald hx hb q1 (q7 _ _) (fun h => by cases h) (in_arr hi.1 hi.2 hi32) hv rfl rfl hd ?_
    exact kk _ ho hE hl (oks_c.mpr ⟨hok, hs.2.2⟩) H locs la hH hL hla
  · rw [if_neg hi] at ho; cases ho
theorem r_laload (pc : Nat) (hC : CxOK E C cc nL own h mc ms) {a i : Int} {f : Int → Option ρ} (hd : decode cc pc = .ok (.laload, 1)) (kk : ∀ v, Bk E C nL Mi x0 (pc + 1) ls ((1, v) :: st) M cl sl (f v)) : Bk E C nL Mi x0 pc ls ((0, i) :: (11, a) :: st) M cl sl (geti M a i f) := by
  intro ho hE hl hs H locs la hH hL hla
  rw [oks_c, oks_c] at hs
  unfold geti at ho
  by_cases hr : a = 0
  · rw [if_pos hr] at ho; cases ho
  rw [if_neg hr] at ho
  by_cases hi : 0 ≤ i ∧ i < M a (-1)
  · rw [if_pos hi] at ho
    obtain ⟨r1, r2, r3⟩ := okx_ref hs.2.1 (by omega) hr
    obtain ⟨cA, q1, q2, q3, q4, q5, q6⟩ := hH.arr r1 r2 r3 (by omega) (by omega)
    have q7 := hC_arr hC q5
    obtain ⟨hx, hb, hn, hown, hts, hKK, -⟩ := hC
    have hi32 := okx_0.mp hs.1
    have hv := at_arr (cA := cA) (z := fun j => enc E (ek 11) (M a j)) hi.1 hi.2 hi32
    have hok := q4 i hi.1 hi.2
    have e0 : ((i.toNat : Nat) : Int) = i := by omega
    simp only [e0] at hv
    simp only [encs, List.map_cons, enc_0]
    rw [enc_r (by omega), rf_pos r1]
    refine W.lald hx hb q1 (q7 _ _) (fun h => by cases h) (in_arr hi.1 hi.2 hi32) hv rfl rfl hd ?_
    exact kk _ ho hE hl (oks_c.mpr ⟨hok, hs.2.2⟩) H locs la hH hL hla
  · rw [if_neg hi] at ho; cases ho
theorem r_baload (pc : Nat) (hC : CxOK E C cc nL own h mc ms) {a i : Int} {f : Int → Option ρ} (hd : decode cc pc = .ok (.baload, 1)) (kk : ∀ v, Bk E C nL Mi x0 (pc + 1) ls ((0, v) :: st) M cl sl (f v)) : Bk E C nL Mi x0 pc ls ((0, i) :: (12, a) :: st) M cl sl (geti M a i f) := by
  intro ho hE hl hs H locs la hH hL hla
  rw [oks_c, oks_c] at hs
  unfold geti at ho
  by_cases hr : a = 0
  · rw [if_pos hr] at ho; cases ho
  rw [if_neg hr] at ho
  by_cases hi : 0 ≤ i ∧ i < M a (-1)
  · rw [if_pos hi] at ho
    obtain ⟨r1, r2, r3⟩ := okx_ref hs.2.1 (by omega) hr
    obtain ⟨cA, q1, q2, q3, q4, q5, q6⟩ := hH.arr r1 r2 r3 (by omega) (by omega)
    have q7 := hC_arr hC q5
    obtain ⟨hx, hb, hn, hown, hts, hKK, -⟩ := hC
    have hi32 := okx_0.mp hs.1
    have hv := at_arr (cA := cA) (z := fun j => enc E (ek 12) (M a j)) hi.1 hi.2 hi32
    have hok := q4 i hi.1 hi.2
    have e0 : ((i.toNat : Nat) : Int) = i := by omega
    simp only [e0] at hv
    simp only [encs, List.map_cons, enc_0]
    rw [enc_r (by omega), rf_pos r1]
    refine W.bald hx hb q1 (q7 _ _) (fun h => by cases h) (in_arr hi.1 hi.2 hi32) hv rfl rfl hd ?_
    have k := kk _ ho hE hl (oks_c.mpr ⟨okx_0.mpr (by have h4 := okx_4.mp (show okx M 4 (M a i) from hok); unfold r32; omega), hs.2.2⟩) H locs la hH hL hla
    simp only [encs, List.map_cons, enc_0] at k
    rw [show enc E (ek 12) (M a i) = _ from enc_4]
    exact k
  · rw [if_neg hi] at ho; cases ho
theorem r_zaload (pc : Nat) (hC : CxOK E C cc nL own h mc ms) {a i : Int} {f : Int → Option ρ} (hd : decode cc pc = .ok (.baload, 1)) (kk : ∀ v, Bk E C nL Mi x0 (pc + 1) ls ((0, v) :: st) M cl sl (f v)) : Bk E C nL Mi x0 pc ls ((0, i) :: (13, a) :: st) M cl sl (geti M a i f) := by
  intro ho hE hl hs H locs la hH hL hla
  rw [oks_c, oks_c] at hs
  unfold geti at ho
  by_cases hr : a = 0
  · rw [if_pos hr] at ho; cases ho
  rw [if_neg hr] at ho
  by_cases hi : 0 ≤ i ∧ i < M a (-1)
  · rw [if_pos hi] at ho
    obtain ⟨r1, r2, r3⟩ := okx_ref hs.2.1 (by omega) hr
    obtain ⟨cA, q1, q2, q3, q4, q5, q6⟩ := hH.arr r1 r2 r3 (by omega) (by omega)
    have q7 := hC_arr hC q5
    obtain ⟨hx, hb, hn, hown, hts, hKK, -⟩ := hC
    have hi32 := okx_0.mp hs.1
    have hv := at_arr (cA := cA) (z := fun j => enc E (ek 13) (M a j)) hi.1 hi.2 hi32
    have hok := q4 i hi.1 hi.2
    have e0 : ((i.toNat : Nat) : Int) = i := by omega
    simp only [e0] at hv
    simp only [encs, List.map_cons, enc_0]
    rw [enc_r (by omega), rf_pos r1]
    refine W.zald hx hb q1 (q7 _ _) (fun h => by cases h) (in_arr hi.1 hi.2 hi32) hv rfl rfl hd ?_
    have k := kk _ ho hE hl (oks_c.mpr ⟨okx_0.mpr (by have h4 := okx_3.mp (show okx M 3 (M a i) from hok); unfold r32; omega), hs.2.2⟩) H locs la hH hL hla
    simp only [encs, List.map_cons, enc_0] at k
    rw [show enc E (ek 13) (M a i) = _ from enc_3]
    exact k
  · rw [if_neg hi] at ho; cases ho
theorem r_aaloadI (pc : Nat) (hC : CxOK E C cc nL own h mc ms) {a i : Int} {f : Int → Option ρ} (hd : decode cc pc = .ok (.aaload, 1)) (kk : ∀ v, Bk E C nL Mi x0 (pc + 1) ls ((10, v) :: st) M cl sl (f v)) : Bk E C nL Mi x0 pc ls ((0, i) :: (14, a) :: st) M cl sl (geti M a i f) := by
  intro ho hE hl hs H locs la hH hL hla
  rw [oks_c, oks_c] at hs
  unfold geti at ho
  by_cases hr : a = 0
  · rw [if_pos hr] at ho; cases ho
  rw [if_neg hr] at ho
  by_cases hi : 0 ≤ i ∧ i < M a (-1)
  · rw [if_pos hi] at ho
    obtain ⟨r1, r2, r3⟩ := okx_ref hs.2.1 (by omega) hr
    obtain ⟨cA, q1, q2, q3, q4, q5, q6⟩ := hH.arr r1 r2 r3 (by omega) (by omega)
    have q7 := hC_arr hC q5
    obtain ⟨hx, hb, hn, hown, hts, hKK, -⟩ := hC
    have hi32 := okx_0.mp hs.1
    have hv := at_arr (cA := cA) (z := fun j => enc E (ek 14) (M a j)) hi.1 hi.2 hi32
    have hok := q4 i hi.1 hi.2
    have e0 : ((i.toNat : Nat) : Int) = i := by omega
    simp only [e0] at hv
    simp only [encs, List.map_cons, enc_0]
    rw [enc_r (by omega), rf_pos r1]
    refine W.aald (ty := aT 14) hx hb q1 (q7 _ _) rfl (fun h => by cases h) (in_arr hi.1 hi.2 hi32) hv rfl rfl hd ?_
    exact kk _ ho hE hl (oks_c.mpr ⟨hok, hs.2.2⟩) H locs la hH hL hla
  · rw [if_neg hi] at ho; cases ho
theorem r_aaloadL (pc : Nat) (hC : CxOK E C cc nL own h mc ms) {a i : Int} {f : Int → Option ρ} (hd : decode cc pc = .ok (.aaload, 1)) (kk : ∀ v, Bk E C nL Mi x0 (pc + 1) ls ((11, v) :: st) M cl sl (f v)) : Bk E C nL Mi x0 pc ls ((0, i) :: (15, a) :: st) M cl sl (geti M a i f) := by
  intro ho hE hl hs H locs la hH hL hla
  rw [oks_c, oks_c] at hs
  unfold geti at ho
  by_cases hr : a = 0
  · rw [if_pos hr] at ho; cases ho
  rw [if_neg hr] at ho
  by_cases hi : 0 ≤ i ∧ i < M a (-1)
  · rw [if_pos hi] at ho
    obtain ⟨r1, r2, r3⟩ := okx_ref hs.2.1 (by omega) hr
    obtain ⟨cA, q1, q2, q3, q4, q5, q6⟩ := hH.arr r1 r2 r3 (by omega) (by omega)
    have q7 := hC_arr hC q5
    obtain ⟨hx, hb, hn, hown, hts, hKK, -⟩ := hC
    have hi32 := okx_0.mp hs.1
    have hv := at_arr (cA := cA) (z := fun j => enc E (ek 15) (M a j)) hi.1 hi.2 hi32
    have hok := q4 i hi.1 hi.2
    have e0 : ((i.toNat : Nat) : Int) = i := by omega
    simp only [e0] at hv
    simp only [encs, List.map_cons, enc_0]
    rw [enc_r (by omega), rf_pos r1]
    refine W.aald (ty := aT 15) hx hb q1 (q7 _ _) rfl (fun h => by cases h) (in_arr hi.1 hi.2 hi32) hv rfl rfl hd ?_
    exact kk _ ho hE hl (oks_c.mpr ⟨hok, hs.2.2⟩) H locs la hH hL hla
  · rw [if_neg hi] at ho; cases ho
theorem r_aaloadW (pc : Nat) (hC : CxOK E C cc nL own h mc ms) {a i : Int} {f : Int → Option ρ} (hd : decode cc pc = .ok (.aaload, 1)) (kk : ∀ v, Bk E C nL Mi x0 (pc + 1) ls ((28, v) :: st) M cl sl (f v)) : Bk E C nL Mi x0 pc ls ((0, i) :: (16, a) :: st) M cl sl (geti M a i f) := by
  intro ho hE hl hs H locs la hH hL hla
  rw [oks_c, oks_c] at hs
  unfold geti at ho
  by_cases hr : a = 0
  · rw [if_pos hr] at ho; cases ho
  rw [if_neg hr] at ho
  by_cases hi : 0 ≤ i ∧ i < M a (-1)
  · rw [if_pos hi] at ho
    obtain ⟨r1, r2, r3⟩ := okx_ref hs.2.1 (by omega) hr
    obtain ⟨cA, q1, q2, q3, q4, q5, q6⟩ := hH.arr r1 r2 r3 (by omega) (by omega)
    have q7 := hC_arr hC q5
    obtain ⟨hx, hb, hn, hown, hts, hKK, -⟩ := hC
    have hi32 := okx_0.mp hs.1
    have hv := at_arr (cA := cA) (z := fun j => enc E (ek 16) (M a j)) hi.1 hi.2 hi32
    have hok := q4 i hi.1 hi.2
    have e0 : ((i.toNat : Nat) : Int) = i := by omega
    simp only [e0] at hv
    simp only [encs, List.map_cons, enc_0]
    rw [enc_r (by omega), rf_pos r1]
    refine W.aald (ty := aT 16) hx hb q1 (q7 _ _) rfl (fun h => by cases h) (in_arr hi.1 hi.2 hi32) hv rfl rfl hd ?_
    exact kk _ ho hE hl (oks_c.mpr ⟨hok, hs.2.2⟩) H locs la hH hL hla
  · rw [if_neg hi] at ho; cases ho
theorem r_iastore (pc : Nat) (hC : CxOK E C cc nL own h mc ms) {a i x : Int} {f : Mem → Option ρ} (hd : decode cc pc = .ok (.iastore, 1)) (kk : ∀ M', Bk E C nL Mi x0 (pc + 1) ls st M' cl sl (f M')) : Bk E C nL Mi x0 pc ls ((0, x) :: (0, i) :: (10, a) :: st) M cl sl (seti M a i (x) f) := by
  intro ho hE hl hs H locs la hH hL hla
  rw [oks_c, oks_c, oks_c] at hs
  unfold seti at ho
  by_cases hr : a = 0
  · rw [if_pos hr] at ho; cases ho
  rw [if_neg hr] at ho
  by_cases hi : 0 ≤ i ∧ i < M a (-1)
  · rw [if_pos hi] at ho
    obtain ⟨r1, r2, r3⟩ := okx_ref hs.2.2.1 (by omega) hr
    obtain ⟨cA, q1, q2, q3, q4, q5, q6⟩ := hH.arr r1 r2 r3 (by omega) (by omega)
    have q7 := hC_arr hC q5
    obtain ⟨hx, hb, hn, hown, hts, hKK, -⟩ := hC
    have hi32 := okx_0.mp hs.2.1
    have hext : Ext M (upd2 M a i (x)) := ext_upd r1 hi.1
    have hvok : okx M (ek 10) (x) := hs.1
    simp only [encs, List.map_cons, enc_0, enc_1]
    rw [enc_r (kd := 10) (by omega), rf_pos r1]
    refine W.iast hx hb q1 (q7 _ _) (fun h => by cases h) (in_arr hi.1 hi.2 hi32) rfl rfl hd (fun H' e1 e2 e3 => ?_)
    rw [cl32 hi.1 hi32] at e1 ⊢
    rw [show Value.int (Int32.ofInt x) = enc E (ek 10) x from enc_0.symm] at e1
    exact kk _ ho (hE.tr hext) (okl_ext hext hl) (oks_ext hext hs.2.2.2) H' _ la (hH.aput r1 r2 r3 (by omega) (by omega) hi.1 hi.2 hvok q1 e1 e2 e3) (locs_c hL (Nat.le_add_right _ _)) hla
  · rw [if_neg hi] at ho; cases ho
theorem r_lastore (pc : Nat) (hC : CxOK E C cc nL own h mc ms) {a i x : Int} {f : Mem → Option ρ} (hd : decode cc pc = .ok (.lastore, 1)) (kk : ∀ M', Bk E C nL Mi x0 (pc + 1) ls st M' cl sl (f M')) : Bk E C nL Mi x0 pc ls ((1, x) :: (0, i) :: (11, a) :: st) M cl sl (seti M a i (x) f) := by
  intro ho hE hl hs H locs la hH hL hla
  rw [oks_c, oks_c, oks_c] at hs
  unfold seti at ho
  by_cases hr : a = 0
  · rw [if_pos hr] at ho; cases ho
  rw [if_neg hr] at ho
  by_cases hi : 0 ≤ i ∧ i < M a (-1)
  · rw [if_pos hi] at ho
    obtain ⟨r1, r2, r3⟩ := okx_ref hs.2.2.1 (by omega) hr
    obtain ⟨cA, q1, q2, q3, q4, q5, q6⟩ := hH.arr r1 r2 r3 (by omega) (by omega)
    have q7 := hC_arr hC q5
    obtain ⟨hx, hb, hn, hown, hts, hKK, -⟩ := hC
    have hi32 := okx_0.mp hs.2.1
    have hext : Ext M (upd2 M a i (x)) := ext_upd r1 hi.1
    have hvok : okx M (ek 11) (x) := hs.1
    simp only [encs, List.map_cons, enc_0, enc_1]
    rw [enc_r (kd := 11) (by omega), rf_pos r1]
    refine W.last hx hb q1 (q7 _ _) (fun h => by cases h) (in_arr hi.1 hi.2 hi32) rfl rfl hd (fun H' e1 e2 e3 => ?_)
    rw [cl32 hi.1 hi32] at e1 ⊢
    rw [show Value.long (Int64.ofInt x) = enc E (ek 11) x from enc_1.symm] at e1
    exact kk _ ho (hE.tr hext) (okl_ext hext hl) (oks_ext hext hs.2.2.2) H' _ la (hH.aput r1 r2 r3 (by omega) (by omega) hi.1 hi.2 hvok q1 e1 e2 e3) (locs_c hL (Nat.le_add_right _ _)) hla
  · rw [if_neg hi] at ho; cases ho
theorem r_bastore (pc : Nat) (hC : CxOK E C cc nL own h mc ms) {a i x : Int} {f : Mem → Option ρ} (hd : decode cc pc = .ok (.bastore, 1)) (kk : ∀ M', Bk E C nL Mi x0 (pc + 1) ls st M' cl sl (f M')) : Bk E C nL Mi x0 pc ls ((0, x) :: (0, i) :: (12, a) :: st) M cl sl (seti M a i (w8 x) f) := by
  intro ho hE hl hs H locs la hH hL hla
  rw [oks_c, oks_c, oks_c] at hs
  unfold seti at ho
  by_cases hr : a = 0
  · rw [if_pos hr] at ho; cases ho
  rw [if_neg hr] at ho
  by_cases hi : 0 ≤ i ∧ i < M a (-1)
  · rw [if_pos hi] at ho
    obtain ⟨r1, r2, r3⟩ := okx_ref hs.2.2.1 (by omega) hr
    obtain ⟨cA, q1, q2, q3, q4, q5, q6⟩ := hH.arr r1 r2 r3 (by omega) (by omega)
    have q7 := hC_arr hC q5
    obtain ⟨hx, hb, hn, hown, hts, hKK, -⟩ := hC
    have hi32 := okx_0.mp hs.2.1
    have hext : Ext M (upd2 M a i (w8 x)) := ext_upd r1 hi.1
    have hvok : okx M (ek 12) (w8 x) := okx_4.mpr (by unfold w8; omega)
    simp only [encs, List.map_cons, enc_0, enc_1]
    rw [enc_r (kd := 12) (by omega), rf_pos r1]
    refine W.bast hx hb q1 (q7 _ _) (fun h => by cases h) (in_arr hi.1 hi.2 hi32) rfl rfl hd (fun H' e1 e2 e3 => ?_)
    rw [cl32 hi.1 hi32] at e1 ⊢
    rw [narrow_byte, a_i2b, show Value.int (Int32.ofInt (w8 x)) = enc E (ek 12) (w8 x) from enc_4.symm] at e1
    exact kk _ ho (hE.tr hext) (okl_ext hext hl) (oks_ext hext hs.2.2.2) H' _ la (hH.aput r1 r2 r3 (by omega) (by omega) hi.1 hi.2 hvok q1 e1 e2 e3) (locs_c hL (Nat.le_add_right _ _)) hla
  · rw [if_neg hi] at ho; cases ho
theorem r_zastore (pc : Nat) (hC : CxOK E C cc nL own h mc ms) {a i x : Int} {f : Mem → Option ρ} (hd : decode cc pc = .ok (.bastore, 1)) (kk : ∀ M', Bk E C nL Mi x0 (pc + 1) ls st M' cl sl (f M')) : Bk E C nL Mi x0 pc ls ((0, x) :: (0, i) :: (13, a) :: st) M cl sl (setz M a i (x) f) := by
  intro ho hE hl hs H locs la hH hL hla
  rw [oks_c, oks_c, oks_c] at hs
  unfold setz at ho
  by_cases hr : a = 0
  · rw [if_pos hr] at ho; cases ho
  rw [if_neg hr] at ho
  by_cases hi : 0 ≤ i ∧ i < M a (-1)
  · rw [if_pos hi] at ho
    by_cases hz : x = 0 ∨ x = 1
    · rw [if_pos hz] at ho
      obtain ⟨r1, r2, r3⟩ := okx_ref hs.2.2.1 (by omega) hr
      obtain ⟨cA, q1, q2, q3, q4, q5, q6⟩ := hH.arr r1 r2 r3 (by omega) (by omega)
      have q7 := hC_arr hC q5
      obtain ⟨hx, hb, hn, hown, hts, hKK, -⟩ := hC
      have hi32 := okx_0.mp hs.2.1
      have hext : Ext M (upd2 M a i (x)) := ext_upd r1 hi.1
      have hvok : okx M (ek 13) (x) := okx_3.mpr hz
      simp only [encs, List.map_cons, enc_0, enc_1]
      rw [enc_r (kd := 13) (by omega), rf_pos r1]
      refine W.zast hx hb q1 (q7 _ _) (fun h => by cases h) (in_arr hi.1 hi.2 hi32) rfl rfl hd (fun H' e1 e2 e3 => ?_)
      rw [cl32 hi.1 hi32] at e1 ⊢
      rw [show narrow .boolean (Value.int (Int32.ofInt x)) = enc E (ek 13) x by rw [show enc E (ek 13) x = _ from enc_3]; rcases hz with rfl | rfl <;> decide] at e1
      exact kk _ ho (hE.tr hext) (okl_ext hext hl) (oks_ext hext hs.2.2.2) H' _ la (hH.aput r1 r2 r3 (by omega) (by omega) hi.1 hi.2 hvok q1 e1 e2 e3) (locs_c hL (Nat.le_add_right _ _)) hla
    · rw [if_neg hz] at ho; cases ho
  · rw [if_neg hi] at ho; cases ho
theorem r_alen (pc : Nat) (hC : CxOK E C cc nL own h mc ms) {a t : Int} {f : Int → Option ρ} (h10 : 10 ≤ t) (h16 : t ≤ 16) (hd : decode cc pc = .ok (.arraylength, 1)) (kk : ∀ v, Bk E C nL Mi x0 (pc + 1) ls ((0, v) :: st) M cl sl (f v)) : Bk E C nL Mi x0 pc ls ((t, a) :: st) M cl sl (alen M a f) := by
  intro ho hE hl hs H locs la hH hL hla
  rw [oks_c] at hs
  unfold alen at ho
  by_cases hr : a = 0
  · rw [if_pos hr] at ho; cases ho
  rw [if_neg hr] at ho
  obtain ⟨r1, r2, r3⟩ := okx_ref hs.1 h10 hr
  obtain ⟨cA, q1, q2, q3, q4, q5, q6⟩ := hH.arr r1 r2 r3 h10 h16
  have q7 := hC_arr hC q5
  obtain ⟨hx, hb, hn, hown, hts, hKK, -⟩ := hC
  have k := kk _ ho hE hl (oks_c.mpr ⟨okx_0.mpr (by unfold r32; omega), hs.2⟩) H locs la hH hL hla
  simp only [encs, List.map_cons, enc_0] at k ⊢
  rw [enc_r h10, rf_pos r1]
  refine W.alen hx hb q1 (q7 _ _) (n := Int32.ofInt (M a (-1))) ?_ rfl rfl hd k
  rw [arrV_size]
  apply of32_of
  show (Int32.ofNat (M a (-1)).toNat).toInt = _
  rw [Int32.toInt_ofNat_small (by omega)]
  omega
/-- a store of a World -/
theorem r_aastore (pc : Nat) (hC : CxOK E C cc nL own h mc ms) {a i x : Int} {f : Mem → Option ρ} (hw : ClOK 8 RX10 TX10 3 tyX10) (hd : decode cc pc = .ok (.aastore, 1)) (kk : ∀ M', Bk E C nL Mi x0 (pc + 1) ls st M' cl sl (f M')) : Bk E C nL Mi x0 pc ls ((28, x) :: (0, i) :: (16, a) :: st) M cl sl (seta M a i x f) := by
  intro ho hE hl hs H locs la hH hL hla
  rw [oks_c, oks_c, oks_c] at hs
  unfold seta at ho
  by_cases hr : a = 0
  · rw [if_pos hr] at ho; cases ho
  rw [if_neg hr] at ho
  by_cases hrx : x = 0
  · rw [if_pos hrx] at ho; cases ho
  rw [if_neg hrx] at ho
  by_cases hi : 0 ≤ i ∧ i < M a (-1)
  · rw [if_pos hi] at ho
    obtain ⟨r1, r2, r3⟩ := okx_ref hs.2.2.1 (by omega) hr
    obtain ⟨v1, v2, v3⟩ := okx_ref hs.1 (by omega) hrx
    obtain ⟨cA, q1, q2, q3, q4, q5, q6⟩ := hH.arr r1 r2 r3 (by omega) (by omega)
    obtain ⟨hx, hb, hn, hown, hts, hKK, -⟩ := hC
    obtain ⟨cw, w1, w2, w3, w4, w5⟩ := hH.obj (ci := 8) v1 v2 v3
    obtain ⟨hS, hfc, kC, hkC, hkind⟩ := hKK.2.1 8 _ hw.1
    obtain ⟨kA, comp, p1, p2, p3, p4⟩ := va_RA.moved hKK.1 q6
    have hcomp : comp = E.2.2.2.2.1 8 := Option.some.inj (p3.symm.trans hfc)
    subst hcomp
    have hi32 := okx_0.mp hs.2.1
    have hext : Ext M (upd2 M a i x) := ext_upd r1 hi.1
    simp only [encs, List.map_cons, enc_0]
    rw [enc_r (kd := 28) (by omega), enc_r (kd := 16) (by omega), rf_pos r1, rf_pos v1]
    refine W.aast hx hb q1 (fun q h => by cases h) (fun h => by cases h) p1 p2 rfl hkC ⟨?_, ?_⟩ w1 (fun q h => by rw [w2] at h; cases h) (by rw [w3]; exact hkC) (by rw [w3]; exact va_asg _ _) rfl rfl hd (fun H' e1 e2 e3 => ?_)
    · rw [zero32, lt32 hi32 (by unfold r32; omega)]; omega
    · rw [cl32 hi.1 hi32, arrV_size]; omega
    rw [cl32 hi.1 hi32] at e1 ⊢
    rw [show Value.ref (E.1 + (x - 1).toNat) = enc E (ek 16) x by rw [show ek 16 = 28 from rfl, enc_r (by omega), rf_pos v1]] at e1
    exact kk _ ho (hE.tr hext) (okl_ext hext hl) (oks_ext hext hs.2.2.2) H' _ la (hH.aput r1 r2 r3 (by omega) (by omega) hi.1 hi.2 hs.1 q1 e1 e2 e3) (locs_c hL (Nat.le_add_right _ _)) hla
  · rw [if_neg hi] at ho; cases ho
theorem newm_row {M : Mem} {t n : Int} (h0 : 0 ≤ M 0 0) (k : Int) : newm M t n (M 0 0 + 1) k = (if k = -2 then t else if k = -1 then n else 0) := by
  unfold newm; rw [if_neg (by omega), if_pos rfl]
theorem newm_n {M : Mem} {t n : Int} : newm M t n 0 0 = M 0 0 + 1 := by
  unfold newm; rw [if_pos ⟨rfl, rfl⟩]
theorem newm_t {M : Mem} {t n : Int} (h0 : 0 ≤ M 0 0) : newm M t n (M 0 0 + 1) (-2) = t := by rw [newm_row h0, if_pos rfl]
theorem newm_l {M : Mem} {t n : Int} (h0 : 0 ≤ M 0 0) : newm M t n (M 0 0 + 1) (-1) = n := by rw [newm_row h0, if_neg (by decide), if_pos rfl]
theorem newm_i {M : Mem} {t n k : Int} (h0 : 0 ≤ M 0 0) (hk : 0 ≤ k) : newm M t n (M 0 0 + 1) k = 0 := by rw [newm_row h0, if_neg (by omega), if_neg (by omega)]
/-- a new object -/
theorem r_new (pc : Nat) (hC : CxOK E C cc nL own h mc ms) {ci N idx : Nat} {t : Int} {R : String} {T : u_T} {ty : Nat → FieldType} {f : Int → Mem → Option ρ} (hK : ClOK ci R T N ty) (ht : t = 20 + ci) (hci : ci < 11) (hlk : Cond.classLink own idx R ∈ Gw) (hins : Cond.instantiable R N ∈ Gw) (hini : Cond.initialized R ∈ Gw) (hcl : cl + 1 ≤ mc) (hsl : sl + N ≤ ms) (hd : decode cc pc = .ok (.new idx, 3))
    (kk : ∀ v M', Bk E C nL Mi x0 (pc + 3) ls ((t, v) :: st) M' (cl + 1) (sl + N) (f v M')) : Bk E C nL Mi x0 pc ls st M cl sl (newo M t 0 f) := by
  intro ho hE hl hs H locs la hH hL hla
  obtain ⟨hx, hb, hn, hown, hts, hKK, hfr, hlo, hmc, hms, -⟩ := hC
  obtain ⟨c1, c2, c3, c4, c5⟩ := hK
  have hu := hKK.2.1 ci _ c1
  obtain ⟨hS, hfc, kC0, hkC0, hkind⟩ := id hu
  have h0 := hH.2.1
  have hext : Ext M (newm M t 0) := ext_new h0
  refine W.newcK hx hb hown (hts _ hlk) (hts _ hins) (hts _ hini) rfl hd (Nat.le_trans hcl hmc) (Nat.le_trans hsl hms) hfc rfl (fun H' kC hkC e1 e2 e3 => ?_)
  obtain ⟨cell, b1, b2, b3, b4⟩ := u_born ty hts c3 hu hkC e1 c4
  have hcr : CR E (newm M t 0) (M 0 0 + 1) cell := by
    refine ⟨b3, Or.inr ⟨ci, hci, ?_, b2, fun k hk => ?_⟩⟩
    · rw [newm_row h0, if_pos rfl, ht]
    · rw [c2] at hk
      rw [newm_row h0, if_neg (by omega), if_neg (by omega)]
      exact ⟨ok_0 (c5 k hk), by rw [b4 k hk]; exact congrArg some (dfl_ok (E := E) (c5 k hk))⟩
  have hH' := hH.push b1 e2 e3 hcr
  have k := kk _ _ ho (hE.tr hext) (okl_ext hext hl) (oks_c.mpr ⟨okx_mk (by omega) (Or.inr ⟨by omega, by rw [newm_n]; omega, by rw [newm_row h0, if_pos rfl]⟩), oks_ext hext hs⟩) H' locs la hH' hL hla
  simp only [encs, List.map_cons] at k ⊢
  rw [enc_r (by omega), rf_pos (by omega), show E.1 + (M 0 0 + 1 - 1).toNat = H.size by rw [hH.1]; omega] at k
  exact k
/-- a new array of numbers -/
theorem r_newa (pc : Nat) (hC : CxOK E C cc nL own h mc ms) {n t : Int} {N : Nat} {aty : ArrayType} {f : Int → Mem → Option ρ} (hn : n = (N : Int)) (hN : N ≤ 100000) (h10 : 10 ≤ t) (h13 : t ≤ 13) (hty : newarray.typeOf aty = aT t) (hra : ∀ (U : State) (c : ClassId), va_RA U c (aT t) ↔ U.vm.findClass ("[" ++ (aT t).toString) = some c) (hdv : ∀ E : EnvT, defaultValue (aT t) = enc E (ek t) 0) (hok : ∀ M : Mem, okx M (ek t) 0) (hcb : componentBytes (aT t) ≤ 8) (hac : Cond.arrayClass (aT t) ∈ Gw) (hcl : cl + 1 ≤ mc) (hsl : sl + N ≤ ms) (hd : decode cc pc = .ok (.newarray aty, 2))
    (kk : ∀ v M', Bk E C nL Mi x0 (pc + 2) ls ((t, v) :: st) M' (cl + 1) (sl + N) (f v M')) : Bk E C nL Mi x0 pc ls ((0, n) :: st) M cl sl (newo M t n f) := by
  intro ho hE hl hs H locs la hH hL hla
  rw [oks_c] at hs
  obtain ⟨hx, hb, hn2, hown, hts, hKK, hfr, hlo, hmc, hms, -⟩ := hC
  have h0 := hH.2.1
  have hext : Ext M (newm M t n) := ext_new h0
  have hn32 := okx_0.mp hs.1
  have hcl32 : (Int32.ofInt n).toNatClampNeg = N := by rw [cl32 (by omega) hn32]; omega
  simp only [encs, List.map_cons, enc_0]
  have hb8 : N * componentBytes (newarray.typeOf aty) ≤ 536870912 := by
    rw [hty]
    calc N * componentBytes (aT t) ≤ 100000 * 8 := Nat.mul_le_mul hN hcb
      _ ≤ 536870912 := by decide
  refine W.newa hx hb (hts _ (by rw [hty]; exact hac)) rfl hd rfl (by rw [zero32, lt32 hn32 (by unfold r32; omega)]; omega) (by rw [hcl32]; exact hb8) (Nat.le_trans hcl hmc) (by rw [hcl32]; exact Nat.le_trans hsl hms) (fun cA kA comp g1 g2 g3 => ?_)
  rw [hcl32, hty] at *
  generalize hH1 : H.push ({ cls := cA, slots := Array.replicate N (defaultValue (aT t)), vm := .none } : Cell) = H1
  have z1 : H1.size = H.size + 1 := by rw [← hH1, Array.size_push]
  have e1 : H1[H.size]? = some (arrV cA N (fun _ => defaultValue (aT t))) := by rw [← hH1, Array.getElem?_push_size, ← arrV_new]
  have o1 : ∀ q : Nat, q < H.size → H1[q]? = H[q]? := fun q hq => by rw [← hH1, Array.getElem?_push, if_neg (Nat.ne_of_lt hq)]
  have hsym : (cS C).vm.Alike E.2.2.1.vm := hKK.1.symm
  have hcr : CR E (newm M t n) (M 0 0 + 1) (arrV cA N (fun _ => defaultValue (aT t))) := by
    refine ⟨rfl, Or.inl ?_⟩
    rw [newm_t h0, newm_l h0]
    refine ⟨h10, by omega, by omega, by omega, fun i i0 i1 => ?_, cA, ?_, ?_, ?_⟩
    · rw [newm_i h0 i0]; exact hok _
    · exact arrOfT_moved hsym (fun n z => ⟨fun k h => (by cases h), kA, g2, comp, g3⟩)
    · exact va_RA.moved hsym ((hra _ _).mpr g1)
    · show _ = arrV cA (n).toNat _
      rw [show n.toNat = N by omega]
      refine congrArg (arrV cA N) (funext fun j => ?_)
      rw [hdv E, newm_i h0 (by omega)]
  have hH' := hH.push e1 z1 o1 hcr
  have k := kk _ _ ho (hE.tr hext) (okl_ext hext hl) (oks_c.mpr ⟨okx_mk (by omega) (Or.inr ⟨by omega, by rw [newm_n]; omega, by rw [newm_row h0, if_pos rfl]⟩), oks_ext hext hs.2⟩) H1 locs la hH' hL hla
  simp only [encs, List.map_cons] at k ⊢
  rw [enc_r (by omega), rf_pos (by omega), show E.1 + (M 0 0 + 1 - 1).toNat = H.size by rw [hH.1]; omega] at k
  exact k
/-- new World[n] -/
theorem r_neww (pc : Nat) (hC : CxOK E C cc nL own h mc ms) {n : Int} {N idx : Nat} {f : Int → Mem → Option ρ} (hn : n = (N : Int)) (hN : N ≤ 100000) (hlk : Cond.classLink own idx "WaterTurns$World" ∈ Gw) (hcl : cl + 1 ≤ mc) (hsl : sl + N ≤ ms) (hd : decode cc pc = .ok (.anewarray idx, 3))
    (kk : ∀ v M', Bk E C nL Mi x0 (pc + 3) ls ((16, v) :: st) M' (cl + 1) (sl + N) (f v M')) : Bk E C nL Mi x0 pc ls ((0, n) :: st) M cl sl (newo M 16 n f) := by
  intro ho hE hl hs H locs la hH hL hla
  rw [oks_c] at hs
  obtain ⟨hx, hb, hn2, hown, hts, hKK, hfr, hlo, hmc, hms, -⟩ := hC
  have h0 := hH.2.1
  have hext : Ext M (newm M 16 n) := ext_new h0
  have hn32 := okx_0.mp hs.1
  have hcl32 : (Int32.ofInt n).toNatClampNeg = N := by rw [cl32 (by omega) hn32]; omega
  simp only [encs, List.map_cons, enc_0]
  refine W.anew hx hb hown (hts _ hlk) (va_AO.use hKK.2.2.2.2.1) rfl hd rfl (by rw [zero32, lt32 hn32 (by unfold r32; omega)]; omega) (by rw [hcl32]; omega) (Nat.le_trans hcl hmc) (by rw [hcl32]; exact Nat.le_trans hsl hms) (fun cA kA comp g1 g2 g3 g4 => ?_)
  rw [hcl32]
  generalize hH1 : H.push ({ cls := cA, slots := Array.replicate N .null, vm := .none } : Cell) = H1
  have z1 : H1.size = H.size + 1 := by rw [← hH1, Array.size_push]
  have e1 : H1[H.size]? = some (arrV cA N (fun _ => .null)) := by rw [← hH1, Array.getElem?_push_size, ← arrV_new]
  have o1 : ∀ q : Nat, q < H.size → H1[q]? = H[q]? := fun q hq => by rw [← hH1, Array.getElem?_push, if_neg (Nat.ne_of_lt hq)]
  have hsym : (cS C).vm.Alike E.2.2.1.vm := hKK.1.symm
  have hcr : CR E (newm M 16 n) (M 0 0 + 1) (arrV cA N (fun _ => .null)) := by
    refine ⟨rfl, Or.inl ?_⟩
    rw [newm_t h0, newm_l h0]
    refine ⟨by decide, by decide, by omega, by omega, fun i i0 i1 => ?_, cA, ?_, ?_, ?_⟩
    · rw [newm_i h0 i0]; exact okx_mk (by decide) (Or.inl rfl)
    · exact arrOfT_moved hsym (fun n z => ⟨fun k h => (by cases h), kA, g2, comp, g3⟩)
    · exact va_RA.moved hsym (show va_RA (cS C) cA (.object "WaterTurns$World") from ⟨kA, comp, g2, g3, g4, g1⟩)
    · show _ = arrV cA (n).toNat _
      rw [show n.toNat = N by omega]
      refine congrArg (arrV cA N) (funext fun j => ?_)
      rw [newm_i h0 (by omega)]
      rfl
  have hH' := hH.push e1 z1 o1 hcr
  have k := kk _ _ ho (hE.tr hext) (okl_ext hext hl) (oks_c.mpr ⟨okx_mk (by omega) (Or.inr ⟨by omega, by rw [newm_n]; omega, by rw [newm_row h0, if_pos rfl]⟩), oks_ext hext hs.2⟩) H1 locs la hH' hL hla
  simp only [encs, List.map_cons] at k ⊢
  rw [enc_r (by omega), rf_pos (by omega), show E.1 + (M 0 0 + 1 - 1).toNat = H.size by rw [hH.1]; omega] at k
  exact k
end ROWS
