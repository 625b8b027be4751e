/-! text constants: the JDK's own methods over them -/
theorem enc_s {E : EnvT} {r : Int} (h : r < 0) : enc E 2 r = .ref (E.2.2.2.1 r) := by
  unfold enc rf
  rw [if_neg (by decide), if_pos (Or.inr rfl), if_neg (by omega), if_neg (by omega)]
theorem okx_2 {M : Mem} {x : Int} : okx M 2 x ↔ (x = 0 ∨ x = -1 ∨ x = -2 ∨ x = -3 ∨ x = -4 ∨ x = -11 ∨ x = -12) := by unfold okx; simp
theorem iand255 : ∀ n : Nat, n < 128 → iandv (n : Int) 255 = n := by decide +kernel
theorem sI_small (r : Int) : ∀ x ∈ sOf r, 0 ≤ x ∧ x < 128 := by
  unfold sOf
  split <;> decide +kernel
theorem sOf_at {r : Int} {k : Nat} (h : k < (sOf r).length) : 0 ≤ (sOf r).getD k 0 ∧ (sOf r).getD k 0 < 128 := by
  have e : (sOf r).getD k 0 = (sOf r)[k] := by rw [List.getD_eq_getElem?_getD, List.getElem?_eq_getElem h]; rfl
  rw [e]
  exact sI_small r _ (List.getElem_mem h)
theorem sLen_eq : ∀ i : Nat, i < 2 → sLen.getD i 0 = (sOf (-1 - i)).length ∧ (sOf (-1 - i)).length < 1000 := by decide +kernel
theorem sByt_eq1 : sB1 = sI1.map Int32.ofInt := by decide +kernel
theorem sByt_eq2 : sB2 = sI2.map Int32.ofInt := by decide +kernel
theorem sByt_eq (i : Nat) (hi : i < 2) (j : Nat) (hj : j < (sOf (-1 - i)).length) : (sByt.getD i []).getD j 0 = Int32.ofInt ((sOf (-1 - i)).getD j 0) := by
  have e : sByt.getD i [] = (sOf (-1 - i)).map Int32.ofInt := by
    rcases (show i = 0 ∨ i = 1 by omega) with rfl | rfl
    · rw [show sOf (-1 - ((0 : Nat) : Int)) = sI1 by unfold sOf; rw [if_pos (by decide)]]
      exact sByt_eq1
    · rw [show sOf (-1 - ((1 : Nat) : Int)) = sI2 by unfold sOf; rw [if_neg (by decide)]]
      exact sByt_eq2
  rw [e, List.getD_eq_getElem?_getD, List.getElem?_map, List.getD_eq_getElem?_getD, List.getElem?_eq_getElem hj]
  rfl
section ROWS
variable {E : EnvT} {C : Cx} {ρ : Type} {x0 : ρ} {Mi M M0 : Mem} {cc : ByteArray} {nL h mc ms cl sl : Nat} {own : String} {ls : List (Nat × Int × Int)} {st : List (Int × Int)} {o : Option ρ}
theorem r_brf {pc : Nat} {c : Prop} [Decidable c] {o1 : Option ρ} (hc : ¬ c) (k : Bk E C nL Mi x0 pc ls st M cl sl (if c then o1 else o)) : Bk E C nL Mi x0 pc ls st M cl sl o := by rw [if_neg hc] at k; exact k
theorem r_brt {pc : Nat} {c : Prop} [Decidable c] {o1 : Option ρ} (hc : c) (k : Bk E C nL Mi x0 pc ls st M cl sl (if c then o else o1)) : Bk E C nL Mi x0 pc ls st M cl sl o := by rw [if_pos hc] at k; exact k
theorem str_KS (hC : CxOK E C cc nL own h mc ms) : KS E (cS C) := hC.2.2.2.2.2.1.2.2.2.2.2.2.2
theorem str_ix {r : Int} (hr : r = -1 ∨ r = -2) : ∃ i : Nat, i < 2 ∧ r = -1 - i := by
  rcases hr with rfl | rfl
  · exact ⟨0, by decide, by decide⟩
  · exact ⟨1, by decide, by decide⟩
theorem old_at {H : Heap} {q : Nat} (hH : HR E M H) (h : ¬ E.1 ≤ q) : H[q]? = E.2.1[q]? := hH.2.2.1 q (by omega)
theorem r_ldcS1 (pc : Nat) (hC : CxOK E C cc nL yX6_init.cls h mc ms) (hd : decode cc pc = .ok (.ldc 54, 2)) (kk : Bk E C nL Mi x0 (pc + 2) ls ((2, -1) :: st) M cl sl o) : Bk E C nL Mi x0 pc ls st M cl sl o := by
  intro ho hE hl hs H locs la hH hL hla
  have k := kk ho hE hl (oks_c.mpr ⟨okx_2.mpr (by decide), hs⟩) H locs la hH hL hla
  have hKS := str_KS hC
  obtain ⟨hx, hb, hn, hown, -⟩ := hC
  simp only [encs, List.map_cons] at k ⊢
  rw [enc_s (by decide)] at k
  exact va_ldcS hx hb hown hKS.1 hd k
theorem r_ldcS2 (pc : Nat) (hC : CxOK E C cc nL yX12_init.cls h mc ms) (hd : decode cc pc = .ok (.ldc 187, 2)) (kk : Bk E C nL Mi x0 (pc + 2) ls ((2, -2) :: st) M cl sl o) : Bk E C nL Mi x0 pc ls st M cl sl o := by
  intro ho hE hl hs H locs la hH hL hla
  have k := kk ho hE hl (oks_c.mpr ⟨okx_2.mpr (by decide), hs⟩) H locs la hH hL hla
  have hKS := str_KS hC
  obtain ⟨hx, hb, hn, hown, -⟩ := hC
  simp only [encs, List.map_cons] at k ⊢
  rw [enc_s (by decide)] at k
  exact va_ldcS hx hb hown hKS.2.1 hd k
theorem sget {pc idx : Nat} {r : Int} {n d : String} {v : Value} (hC : CxOK E C cc nL own h mc ms) (hO : va_OF "java/lang/String" n d v (E.2.2.2.1 r) (fun q => E.1 ≤ q) (cS C) E.2.1) (hlk : Cond.fieldLink own idx "java/lang/String" n d ∈ Gw) (hd : decode cc pc = .ok (.getfield idx, 3)) {H : Heap} {locs : List Loc} {la : Array Slot} {rest : List Value} (hH : HR E M H) (hr : r < 0)
    (k : cxW C H locs cl sl (F0 (cM C) (pc + 3) la (v :: rest))) : cxW C H locs cl sl (F0 (cM C) pc la (enc E 2 r :: rest)) := by
  obtain ⟨hx, hb, hn, hown, hts, -⟩ := hC
  obtain ⟨cf, kf, fi, f, cell, h1, h2, h3, h4, h5, h6⟩ := hO
  rw [enc_s hr]
  exact W.getf hx hb hown (hts _ hlk) h1 h2 (by rw [old_at hH h6]; exact h3) h4 h5 rfl rfl hd k
theorem r_sgetv (pc : Nat) (hC : CxOK E C cc nL own h mc ms) {idx : Nat} {r : Int} (hr : r = -1 ∨ r = -2) (hlk : Cond.fieldLink own idx "java/lang/String" "value" "[B" ∈ Gw) (hd : decode cc pc = .ok (.getfield idx, 3)) (kk : Bk E C nL Mi x0 (pc + 3) ls ((2, r - 10) :: st) M cl sl o) : Bk E C nL Mi x0 pc ls ((2, r) :: st) M cl sl o := by
  intro ho hE hl hs H locs la hH hL hla
  rw [oks_c] at hs
  have k := kk ho hE hl (oks_c.mpr ⟨okx_2.mpr (by omega), hs.2⟩) H locs la hH hL hla
  obtain ⟨i, hi, rfl⟩ := str_ix hr
  have h2 := ((str_KS hC).2.2.1.1 i hi).2.2.1
  simp only [encs, List.map_cons] at k ⊢
  rw [enc_s (r := -1 - (i : Int) - 10) (by omega), show -1 - (i : Int) - 10 = -11 - i by omega] at k
  exact sget hC h2 hlk hd hH (by omega) k
theorem r_sgetc (pc : Nat) (hC : CxOK E C cc nL own h mc ms) {idx : Nat} {r : Int} (hr : r = -1 ∨ r = -2) (hlk : Cond.fieldLink own idx "java/lang/String" "coder" "B" ∈ Gw) (hd : decode cc pc = .ok (.getfield idx, 3)) (kk : Bk E C nL Mi x0 (pc + 3) ls ((0, 0) :: st) M cl sl o) : Bk E C nL Mi x0 pc ls ((2, r) :: st) M cl sl o := by
  intro ho hE hl hs H locs la hH hL hla
  rw [oks_c] at hs
  have k := kk ho hE hl (oks_c.mpr ⟨okx_0.mpr (r32c rfl), hs.2⟩) H locs la hH hL hla
  obtain ⟨i, hi, rfl⟩ := str_ix hr
  have h2 := ((str_KS hC).2.2.1.1 i hi).2.1
  simp only [encs, List.map_cons, enc_0] at k ⊢
  exact sget hC h2 hlk hd hH (by omega) k
theorem r_sgets (pc : Nat) (hC : CxOK E C cc nL own h mc ms) {idx : Nat} (hlk : Cond.fieldLink own idx "java/lang/String" "COMPACT_STRINGS" "Z" ∈ Gw) (hd : decode cc pc = .ok (.getstatic idx, 3)) (kk : Bk E C nL Mi x0 (pc + 3) ls ((0, 1) :: st) M cl sl o) : Bk E C nL Mi x0 pc ls st M cl sl o := by
  intro ho hE hl hs H locs la hH hL hla
  have k := kk ho hE hl (oks_c.mpr ⟨okx_0.mpr (r32c rfl), hs⟩) H locs la hH hL hla
  obtain ⟨cf, kf, fi, f, a, cell, h1, h2, h3, h4, h5, h6, h7, h8⟩ := (str_KS hC).2.2.2.1
  obtain ⟨hx, hb, hn, hown, hts, -⟩ := hC
  simp only [encs, List.map_cons, enc_0] at k ⊢
  exact W.gets hx hb hown (hts _ hlk) h1 h2 h3 h4 (by rw [old_at hH h8]; exact h5) (fun e => by rw [e] at h6; cases h6) h7 rfl hd k
theorem r_sgetf (pc : Nat) (hC : CxOK E C cc nL own h mc ms) {idx : Nat} (hlk : Cond.fieldLink own idx "jdk/internal/util/Preconditions" "SIOOBE_FORMATTER" "Ljava/util/function/BiFunction;" ∈ Gw) (hd : decode cc pc = .ok (.getstatic idx, 3)) (kk : ∀ x, Bk E C nL Mi x0 (pc + 3) ls ((2, x) :: st) M cl sl o) : Bk E C nL Mi x0 pc ls st M cl sl o := by
  intro ho hE hl hs H locs la hH hL hla
  have hKS := (str_KS hC).2.2.2.2
  obtain ⟨hx, hb, hn, hown, hts, -⟩ := hC
  rcases hKS with hz | hz
  · have k := kk 0 ho hE hl (oks_c.mpr ⟨okx_2.mpr (by decide), hs⟩) H locs la hH hL hla
    obtain ⟨cf, kf, fi, f, a, cell, h1, h2, h3, h4, h5, h6, h7, h8⟩ := hz
    exact W.gets hx hb hown (hts _ hlk) h1 h2 h3 h4 (by rw [old_at hH h8]; exact h5) (fun e => by rw [e] at h6; cases h6) h7 rfl hd k
  · have k := kk (-4) ho hE hl (oks_c.mpr ⟨okx_2.mpr (by decide), hs⟩) H locs la hH hL hla
    obtain ⟨cf, kf, fi, f, a, cell, h1, h2, h3, h4, h5, h6, h7, h8⟩ := hz
    simp only [encs, List.map_cons] at k ⊢
    rw [enc_s (by decide)] at k
    exact W.gets hx hb hown (hts _ hlk) h1 h2 h3 h4 (by rw [old_at hH h8]; exact h5) (fun e => by rw [e] at h6; cases h6) h7 rfl hd k
theorem sarr (hC : CxOK E C cc nL own h mc ms) {i : Nat} (hi : i < 2) {H : Heap} (hH : HR E M H) : ∃ cell : Cell, H[E.2.2.2.1 (-11 - i)]? = some cell ∧ (cS C).isArrayOf cell .byte ∧ cell.vm ≠ .unknown ∧ cell.slots.size.toInt32 = Int32.ofInt ((sOf (-1 - i)).length) ∧ (sOf (-1 - i)).length ≤ cell.slots.size ∧ ∀ j : Nat, j < (sOf (-1 - i)).length → cell.slots[j]? = some (.int (Int32.ofInt ((sOf (-1 - i)).getD j 0))) := by
  obtain ⟨cell, h1, h2, h3, h4, h5, h6, h7⟩ := ((str_KS hC).2.2.1.1 i hi).2.2.2
  have e := sLen_eq i hi
  rw [e.1] at h4 h5 h6
  refine ⟨cell, by rw [old_at hH h7]; exact h1, h2, h3, ?_, h4, fun j hj => ?_⟩
  · rw [h5]
    apply of32_of
    rw [Int32.toInt_ofNat_small (by omega)]
  · have h6j := h6 j hj
    dsimp only at h6j
    rw [h6j, sByt_eq i hi j hj]
theorem r_sal (pc : Nat) (hC : CxOK E C cc nL own h mc ms) {r : Int} (hr : r = -1 ∨ r = -2) (hd : decode cc pc = .ok (.arraylength, 1)) (kk : Bk E C nL Mi x0 (pc + 1) ls ((0, ((sOf r).length : Int)) :: st) M cl sl o) : Bk E C nL Mi x0 pc ls ((2, r - 10) :: st) M cl sl o := by
  intro ho hE hl hs H locs la hH hL hla
  rw [oks_c] at hs
  obtain ⟨i, hi, rfl⟩ := str_ix hr
  have e := sLen_eq i hi
  have k := kk ho hE hl (oks_c.mpr ⟨okx_0.mpr (by unfold r32; omega), hs.2⟩) H locs la hH hL hla
  obtain ⟨cell, c1, c2, c3, c4, c5, c6⟩ := sarr hC hi hH
  obtain ⟨hx, hb, hn, hown, hts, -⟩ := hC
  simp only [encs, List.map_cons, enc_0] at k ⊢
  rw [enc_s (r := -1 - (i : Int) - 10) (by omega), show -1 - (i : Int) - 10 = -11 - i by omega]
  exact W.alen hx hb c1 c2 c4 rfl rfl hd k
theorem r_sba (pc : Nat) (hC : CxOK E C cc nL own h mc ms) {r j : Int} (hr : r = -1 ∨ r = -2) (hj : 0 ≤ j ∧ j < (sOf r).length) (hd : decode cc pc = .ok (.baload, 1)) (kk : Bk E C nL Mi x0 (pc + 1) ls ((0, (sOf r).getD j.toNat 0) :: st) M cl sl o) : Bk E C nL Mi x0 pc ls ((0, j) :: (2, r - 10) :: st) M cl sl o := by
  intro ho hE hl hs H locs la hH hL hla
  rw [oks_c, oks_c] at hs
  have hsm := sOf_at (r := r) (k := j.toNat) (by omega)
  have k := kk ho hE hl (oks_c.mpr ⟨okx_0.mpr (by unfold r32; omega), hs.2.2⟩) H locs la hH hL hla
  obtain ⟨i, hi, rfl⟩ := str_ix hr
  obtain ⟨cell, c1, c2, c3, c4, c5, c6⟩ := sarr hC hi hH
  obtain ⟨hx, hb, hn, hown, hts, -⟩ := hC
  have hj32 := okx_0.mp hs.1
  simp only [encs, List.map_cons, enc_0] at k ⊢
  rw [enc_s (r := -1 - (i : Int) - 10) (by omega), show -1 - (i : Int) - 10 = -11 - i by omega]
  exact W.bald hx hb c1 c2 c3 (in32 hj.1 (by omega) hj32) (by rw [cl32 hj.1 hj32]; exact c6 _ (by omega)) rfl rfl hd k
theorem r_i2cK (pc : Nat) (hC : CxOK E C cc nL own h mc ms) {x : Int} (hx0 : 0 ≤ x ∧ x < 256) (hd : decode cc pc = .ok (.i2c, 1)) (kk : Bk E C nL Mi x0 (pc + 1) ls ((0, x) :: st) M cl sl o) : Bk E C nL Mi x0 pc ls ((0, x) :: st) M cl sl o := by
  intro ho hE hl hs H locs la hH hL hla
  have k := kk ho hE hl hs H locs la hH hL hla
  obtain ⟨hx, hb, hn, hown, hts, -⟩ := hC
  simp only [encs, List.map_cons, enc_0] at k ⊢
  refine lv_i2c hx hb hd ?_ k
  have e : Int32.ofInt x = nI x.toNat := by
    symm; apply of32_of; rw [nI_toInt (by omega)]; omega
  rw [e]
  exact (sb_byte x.toNat (by omega)).2.1
theorem r_nreturnP (pc : Nat) (hC : CxOK E C cc nL own h mc ms) {x r0 : Int} {ty : FieldType} (hq : RQ E C mc ms Mi (some ty) (some (0, r0)) M) (hn : narrow ty (.int (Int32.ofInt x)) = .int (Int32.ofInt x)) (hcl : cl ≤ mc) (hsl : sl ≤ ms) (hd : decode cc pc = .ok (.ireturn, 1)) : Bk E C nL Mi r0 pc ls [(0, x)] M cl sl (some x) := by
  intro ho hE hl hs H locs la hH hL hla
  cases ho
  rw [oks_c] at hs
  obtain ⟨hx, hb, -⟩ := hC
  obtain ⟨h1, h2, h3⟩ := hq
  unfold cxW
  rw [h3]
  simp only [encs, List.map_cons, List.map_nil, enc_0]
  refine W.widen hcl hsl ?_
  exact W.zret hx hb h1 hn (fun t ht hW => ⟨by simp only [Option.map_some, enc_0], by rw [ht]; exact hH, hE, fun q e => by cases e; exact hs.1⟩) hL hd h2
theorem n_char {x : Int} (h : 0 ≤ x ∧ x < 256) : narrow .char (.int (Int32.ofInt x)) = .int (Int32.ofInt x) := by
  have e : Int32.ofInt x = nI x.toNat := by
    symm; apply of32_of; rw [nI_toInt (by omega)]; omega
  rw [e]
  exact (pk_charN (by omega)).1
theorem r_callSN (pc : Nat) (hC : CxOK E C cc nL own h mc ms) {idx nL' n h' : Nat} {y : MethodName} {c : ByteArray} {ret : Option FieldType} {stk : List (Int × Int)} (av st : List (Int × Int)) (hstk : stk = av.reverse ++ st) (hv : SlOK own idx y c nL' ret n) (hav : av.length = n) (hh : h' + 1 ≤ h) (hst : catS st ≤ 8) (hcl : cl + 0 ≤ mc) (hsl : sl + 0 ≤ ms) (hd : decode cc pc = .ok (.invokestatic idx, 3)) (hM : MtV y c nL' ret h' 0 0 av M (some M))
    (kk : Bk E C nL Mi x0 (pc + 3) ls st M cl sl o) : Bk E C nL Mi x0 pc ls stk M cl sl o := by
  intro ho hE hl hs H locs la hH hL hla
  subst hstk
  obtain ⟨s1, s2⟩ := oks_ss hs
  have hM2 := hM C.2.1 E M rfl s1
  obtain ⟨m1, m3, m4⟩ := hv
  exact go_call hL (run_S hC m1 hh m3 m4 hav hst hcl hsl hd hM2 hH hla.1) (fun H' locs' hH' hE' hok hL' => kk ho hE hl s2 H' locs' la hH' hL' hla)
/-- a call on a text constant -/
theorem r_callT (pc : Nat) (hC : CxOK E C cc nL own h mc ms) {idx nL' n h' : Nat} {y : MethodName} {c : ByteArray} {ret : Option FieldType} {r : Int} {o1 : Option Int} {k : Int → Option ρ} {stk : List (Int × Int)} (avr st : List (Int × Int)) (hstk : stk = avr.reverse ++ (2, r) :: st) (hm : MnOK y c nL' ret n) (hy : y.cls = "java/lang/String") (hlk : Cond.methodLink own idx y ∈ Gw) (hin : Cond.instanceMethod y ∈ Gw) (hse : Cond.selects y.cls y y ∈ Gw) (hr : r = -1 ∨ r = -2) (hav : avr.length = n) (hh : h' + 1 ≤ h) (hst : catS st ≤ 8) (hcl : cl ≤ mc) (hsl : sl ≤ ms) (hd : decode cc pc = .ok (.invokevirtual idx, 3)) (hM : MtP y c nL' ret h' 0 0 ((2, r) :: avr) M 0 o1)
    (kk : ∀ v, Bk E C nL Mi x0 (pc + 3) ls ((0, v) :: st) M cl sl (k v)) : Bk E C nL Mi x0 pc ls stk M cl sl (callp o1 k) := by
  intro ho hE hl hs H locs la hH hL hla
  subst hstk
  cases o1 with
  | none => cases ho
  | some q =>
    obtain ⟨s1, s2, s3⟩ := oks_sp hs
    have hM2 := hM C.2.1 E q rfl s1
    have hr0 : r < 0 := by omega
    obtain ⟨i, hi, rfl⟩ := str_ix hr
    obtain ⟨cell, q1, q2, q3, q4⟩ := ((str_KS hC).2.2.1.1 i hi).1
    have e0 : encs E ((2, -1 - (i : Int)) :: avr) = .ref (E.2.2.2.1 (-1 - i)) :: encs E avr := by
      show enc E 2 (-1 - (i : Int)) :: encs E avr = _
      rw [enc_s hr0]
    have hpre := preP hC (av := (2, -1 - (i : Int)) :: avr) hH
    have hbl := blindP (E := E) (M := M) (av := (2, -1 - (i : Int)) :: avr)
    unfold Ct at hM2
    rw [e0] at hM2 hpre hbl
    refine go_call (mc' := 0) (ms' := 0) hL (va_runV (fixP hC) hM2 ⟨callB_mk hC hm hh hlk, hC.2.2.2.2.1 _ hin, hC.2.2.2.2.1 _ hse⟩ ⟨hbl, ⟨cell, by rw [old_at hH q4]; exact q1, q2, by rw [hy]; exact q3⟩, hpre⟩ rfl (by unfold encs; rw [List.length_map]; exact hav) hla.1
      (by show encs E (avr.reverse ++ (2, -1 - (i : Int)) :: st) = (encs E avr).reverse ++ .ref (E.2.2.2.1 (-1 - i)) :: encs E st
          rw [encs_app, encs_rev]; congr 1; show enc E 2 (-1 - (i : Int)) :: encs E st = _; rw [enc_s hr0])
      (lv_room (by rw [catS_enc]; exact hst)) hd ⟨Nat.le_trans hcl hC.2.2.2.2.2.2.2.2.1, Nat.le_trans hsl hC.2.2.2.2.2.2.2.2.2.1⟩) (fun H' locs' hH' hE' hok hL' => kk q ho hE hl (oks_c.mpr ⟨hok _ rfl, s2⟩) H' locs' la hH' hL' hla)
end ROWS

theorem dJ0_length_8abf5_0 : decode cJ0_length_8abf5 0 = .ok (.aload_n 0, 1) := by decide +kernel
theorem dJ0_length_8abf5_1 : decode cJ0_length_8abf5 1 = .ok (.getfield 9, 3) := by decide +kernel
theorem dJ0_length_8abf5_4 : decode cJ0_length_8abf5 4 = .ok (.arraylength, 1) := by decide +kernel
theorem dJ0_length_8abf5_5 : decode cJ0_length_8abf5 5 = .ok (.aload_n 0, 1) := by decide +kernel
theorem dJ0_length_8abf5_6 : decode cJ0_length_8abf5 6 = .ok (.invokevirtual 335, 3) := by decide +kernel
theorem dJ0_length_8abf5_9 : decode cJ0_length_8abf5 9 = .ok (.ishr, 1) := by decide +kernel
theorem dJ0_length_8abf5_10 : decode cJ0_length_8abf5 10 = .ok (.ireturn, 1) := by decide +kernel
theorem dJ0_charAt_5068e_0 : decode cJ0_charAt_5068e 0 = .ok (.aload_n 0, 1) := by decide +kernel
theorem dJ0_charAt_5068e_1 : decode cJ0_charAt_5068e 1 = .ok (.invokevirtual 492, 3) := by decide +kernel
theorem dJ0_charAt_5068e_4 : decode cJ0_charAt_5068e 4 = .ok (.ifCond .eq 12, 3) := by decide +kernel
theorem dJ0_charAt_5068e_7 : decode cJ0_charAt_5068e 7 = .ok (.aload_n 0, 1) := by decide +kernel
theorem dJ0_charAt_5068e_8 : decode cJ0_charAt_5068e 8 = .ok (.getfield 9, 3) := by decide +kernel
theorem dJ0_charAt_5068e_11 : decode cJ0_charAt_5068e 11 = .ok (.iload_n 1, 1) := by decide +kernel
theorem dJ0_charAt_5068e_12 : decode cJ0_charAt_5068e 12 = .ok (.invokestatic 495, 3) := by decide +kernel
theorem dJ0_charAt_5068e_15 : decode cJ0_charAt_5068e 15 = .ok (.ireturn, 1) := by decide +kernel
theorem dJ0_charAt_5068e_16 : decode cJ0_charAt_5068e 16 = .ok (.aload_n 0, 1) := by decide +kernel
theorem dJ0_charAt_5068e_17 : decode cJ0_charAt_5068e 17 = .ok (.getfield 9, 3) := by decide +kernel
theorem dJ0_charAt_5068e_20 : decode cJ0_charAt_5068e 20 = .ok (.iload_n 1, 1) := by decide +kernel
theorem dJ0_charAt_5068e_21 : decode cJ0_charAt_5068e 21 = .ok (.invokestatic 498, 3) := by decide +kernel
theorem dJ0_charAt_5068e_24 : decode cJ0_charAt_5068e 24 = .ok (.ireturn, 1) := by decide +kernel
theorem dJ0_coder_7d493_0 : decode cJ0_coder_7d493 0 = .ok (.getstatic 38, 3) := by decide +kernel
theorem dJ0_coder_7d493_3 : decode cJ0_coder_7d493 3 = .ok (.ifCond .eq 10, 3) := by decide +kernel
theorem dJ0_coder_7d493_6 : decode cJ0_coder_7d493 6 = .ok (.aload_n 0, 1) := by decide +kernel
theorem dJ0_coder_7d493_7 : decode cJ0_coder_7d493 7 = .ok (.getfield 15, 3) := by decide +kernel
theorem dJ0_coder_7d493_10 : decode cJ0_coder_7d493 10 = .ok (.goto 4, 3) := by decide +kernel
theorem dJ0_coder_7d493_13 : decode cJ0_coder_7d493 13 = .ok (.iconst 1, 1) := by decide +kernel
theorem dJ0_coder_7d493_14 : decode cJ0_coder_7d493 14 = .ok (.ireturn, 1) := by decide +kernel
theorem dJ0_isLatin1_aae02_0 : decode cJ0_isLatin1_aae02 0 = .ok (.getstatic 38, 3) := by decide +kernel
theorem dJ0_isLatin1_aae02_3 : decode cJ0_isLatin1_aae02 3 = .ok (.ifCond .eq 14, 3) := by decide +kernel
theorem dJ0_isLatin1_aae02_6 : decode cJ0_isLatin1_aae02 6 = .ok (.aload_n 0, 1) := by decide +kernel
theorem dJ0_isLatin1_aae02_7 : decode cJ0_isLatin1_aae02 7 = .ok (.getfield 15, 3) := by decide +kernel
theorem dJ0_isLatin1_aae02_10 : decode cJ0_isLatin1_aae02 10 = .ok (.ifCond .ne 7, 3) := by decide +kernel
theorem dJ0_isLatin1_aae02_13 : decode cJ0_isLatin1_aae02 13 = .ok (.iconst 1, 1) := by decide +kernel
theorem dJ0_isLatin1_aae02_14 : decode cJ0_isLatin1_aae02 14 = .ok (.goto 4, 3) := by decide +kernel
theorem dJ0_isLatin1_aae02_17 : decode cJ0_isLatin1_aae02 17 = .ok (.iconst 0, 1) := by decide +kernel
theorem dJ0_isLatin1_aae02_18 : decode cJ0_isLatin1_aae02 18 = .ok (.ireturn, 1) := by decide +kernel
theorem dJ0_checkIndex_df160_0 : decode cJ0_checkIndex_df160 0 = .ok (.iload_n 0, 1) := by decide +kernel
theorem dJ0_checkIndex_df160_1 : decode cJ0_checkIndex_df160 1 = .ok (.iload_n 1, 1) := by decide +kernel
theorem dJ0_checkIndex_df160_2 : decode cJ0_checkIndex_df160 2 = .ok (.getstatic 1053, 3) := by decide +kernel
theorem dJ0_checkIndex_df160_5 : decode cJ0_checkIndex_df160 5 = .ok (.invokestatic 1059, 3) := by decide +kernel
theorem dJ0_checkIndex_df160_8 : decode cJ0_checkIndex_df160 8 = .ok (.pop, 1) := by decide +kernel
theorem dJ0_checkIndex_df160_9 : decode cJ0_checkIndex_df160 9 = .ok (.return_, 1) := by decide +kernel
theorem dJ1_charAt_3b067_0 : decode cJ1_charAt_3b067 0 = .ok (.iload_n 1, 1) := by decide +kernel
theorem dJ1_charAt_3b067_1 : decode cJ1_charAt_3b067 1 = .ok (.aload_n 0, 1) := by decide +kernel
theorem dJ1_charAt_3b067_2 : decode cJ1_charAt_3b067 2 = .ok (.arraylength, 1) := by decide +kernel
theorem dJ1_charAt_3b067_3 : decode cJ1_charAt_3b067 3 = .ok (.invokestatic 9, 3) := by decide +kernel
theorem dJ1_charAt_3b067_6 : decode cJ1_charAt_3b067 6 = .ok (.aload_n 0, 1) := by decide +kernel
theorem dJ1_charAt_3b067_7 : decode cJ1_charAt_3b067 7 = .ok (.iload_n 1, 1) := by decide +kernel
theorem dJ1_charAt_3b067_8 : decode cJ1_charAt_3b067 8 = .ok (.baload, 1) := by decide +kernel
theorem dJ1_charAt_3b067_9 : decode cJ1_charAt_3b067 9 = .ok (.sipush 255, 3) := by decide +kernel
theorem dJ1_charAt_3b067_12 : decode cJ1_charAt_3b067 12 = .ok (.iand, 1) := by decide +kernel
theorem dJ1_charAt_3b067_13 : decode cJ1_charAt_3b067 13 = .ok (.i2c, 1) := by decide +kernel
theorem dJ1_charAt_3b067_14 : decode cJ1_charAt_3b067 14 = .ok (.ireturn, 1) := by decide +kernel
theorem dJ3_checkIndex_8e157_0 : decode cJ3_checkIndex_8e157 0 = .ok (.iload_n 0, 1) := by decide +kernel
theorem dJ3_checkIndex_8e157_1 : decode cJ3_checkIndex_8e157 1 = .ok (.ifCond .lt 8, 3) := by decide +kernel
theorem dJ3_checkIndex_8e157_4 : decode cJ3_checkIndex_8e157 4 = .ok (.iload_n 0, 1) := by decide +kernel
theorem dJ3_checkIndex_8e157_5 : decode cJ3_checkIndex_8e157 5 = .ok (.iload_n 1, 1) := by decide +kernel
theorem dJ3_checkIndex_8e157_6 : decode cJ3_checkIndex_8e157 6 = .ok (.if_icmp .lt 10, 3) := by decide +kernel
theorem dJ3_checkIndex_8e157_9 : decode cJ3_checkIndex_8e157 9 = .ok (.aload_n 2, 1) := by decide +kernel
theorem dJ3_checkIndex_8e157_10 : decode cJ3_checkIndex_8e157 10 = .ok (.iload_n 0, 1) := by decide +kernel
theorem dJ3_checkIndex_8e157_11 : decode cJ3_checkIndex_8e157 11 = .ok (.iload_n 1, 1) := by decide +kernel
theorem dJ3_checkIndex_8e157_12 : decode cJ3_checkIndex_8e157 12 = .ok (.invokestatic 95, 3) := by decide +kernel
theorem dJ3_checkIndex_8e157_15 : decode cJ3_checkIndex_8e157 15 = .ok (.athrow, 1) := by decide +kernel
theorem dJ3_checkIndex_8e157_16 : decode cJ3_checkIndex_8e157 16 = .ok (.iload_n 0, 1) := by decide +kernel
theorem dJ3_checkIndex_8e157_17 : decode cJ3_checkIndex_8e157 17 = .ok (.ireturn, 1) := by decide +kernel
theorem ts_val : Cond.fieldLink RJ0 9 "java/lang/String" "value" "[B" ∈ Gw := gw_9 74 rfl rfl
theorem ts_cod : Cond.fieldLink RJ0 15 "java/lang/String" "coder" "B" ∈ Gw := gw_9 75 rfl rfl
theorem ts_cmp : Cond.fieldLink RJ0 38 "java/lang/String" "COMPACT_STRINGS" "Z" ∈ Gw := gw_1 67 rfl rfl
theorem ts_fmt : Cond.fieldLink RJ0 1053 "jdk/internal/util/Preconditions" "SIOOBE_FORMATTER" "Ljava/util/function/BiFunction;" ∈ Gw := gw_1 83 rfl rfl
theorem mn_J0_length_8abf5 : MnOK yJ0_length_8abf5 cJ0_length_8abf5 1 (some .int) 0 := ⟨gw_1 62 rfl rfl, gw_1 4 rfl rfl, by decide, by decide, by decide +kernel, by decide⟩
theorem mn_J0_charAt_5068e : MnOK yJ0_charAt_5068e cJ0_charAt_5068e 2 (some .char) 1 := ⟨gw_1 72 rfl rfl, gw_1 4 rfl rfl, by decide, by decide, by decide +kernel, by decide⟩
theorem mn_J0_coder_7d493 : MnOK yJ0_coder_7d493 cJ0_coder_7d493 1 (some .byte) 0 := ⟨gw_1 66 rfl rfl, gw_1 4 rfl rfl, by decide, by decide, by decide +kernel, by decide⟩
theorem mn_J0_isLatin1_aae02 : MnOK yJ0_isLatin1_aae02 cJ0_isLatin1_aae02 1 (some .boolean) 0 := ⟨gw_1 76 rfl rfl, gw_1 4 rfl rfl, by decide, by decide, by decide +kernel, by decide⟩
theorem mn_J0_checkIndex_df160 : MnOK yJ0_checkIndex_df160 cJ0_checkIndex_df160 2 none 2 := ⟨gw_1 82 rfl rfl, gw_1 4 rfl rfl, by decide, by decide, by decide +kernel, by decide⟩
theorem mn_J1_charAt_3b067 : MnOK yJ1_charAt_3b067 cJ1_charAt_3b067 2 (some .char) 2 := ⟨gw_1 79 rfl rfl, gw_1 5 rfl rfl, by decide, by decide, by decide +kernel, by decide⟩
theorem mn_J3_checkIndex_8e157 : MnOK yJ3_checkIndex_8e157 cJ3_checkIndex_8e157 3 (some .int) 3 := ⟨gw_1 87 rfl rfl, gw_1 6 rfl rfl, by decide, by decide, by decide +kernel, by decide⟩
theorem im_J0_length_8abf5 : Cond.instanceMethod yJ0_length_8abf5 ∈ Gw := gw_1 60 rfl rfl
theorem se_J0_length_8abf5 : Cond.selects yJ0_length_8abf5.cls yJ0_length_8abf5 yJ0_length_8abf5 ∈ Gw := gw_1 61 rfl rfl
theorem im_J0_charAt_5068e : Cond.instanceMethod yJ0_charAt_5068e ∈ Gw := gw_1 70 rfl rfl
theorem se_J0_charAt_5068e : Cond.selects yJ0_charAt_5068e.cls yJ0_charAt_5068e yJ0_charAt_5068e ∈ Gw := gw_1 71 rfl rfl
theorem im_J0_coder_7d493 : Cond.instanceMethod yJ0_coder_7d493 ∈ Gw := gw_1 64 rfl rfl
theorem se_J0_coder_7d493 : Cond.selects yJ0_coder_7d493.cls yJ0_coder_7d493 yJ0_coder_7d493 ∈ Gw := gw_1 65 rfl rfl
theorem im_J0_isLatin1_aae02 : Cond.instanceMethod yJ0_isLatin1_aae02 ∈ Gw := gw_1 74 rfl rfl
theorem se_J0_isLatin1_aae02 : Cond.selects yJ0_isLatin1_aae02.cls yJ0_isLatin1_aae02 yJ0_isLatin1_aae02 ∈ Gw := gw_1 75 rfl rfl
theorem st_J0_checkIndex_df160 : Cond.static yJ0_checkIndex_df160 ∈ Gw := gw_1 81 rfl rfl
theorem st_J1_charAt_3b067 : Cond.static yJ1_charAt_3b067 ∈ Gw := gw_1 78 rfl rfl
theorem st_J3_checkIndex_8e157 : Cond.static yJ3_checkIndex_8e157 ∈ Gw := gw_1 86 rfl rfl
theorem ml_coder : Cond.methodLink RJ0 335 yJ0_coder_7d493 ∈ Gw := gw_1 63 rfl rfl
theorem ml_isl : Cond.methodLink RJ0 492 yJ0_isLatin1_aae02 ∈ Gw := gw_1 73 rfl rfl
theorem ml_lat : Cond.methodLink RJ0 495 yJ1_charAt_3b067 ∈ Gw := gw_1 77 rfl rfl
theorem ml_chk : Cond.methodLink RJ1 9 yJ0_checkIndex_df160 ∈ Gw := gw_1 80 rfl rfl
theorem ml_pre : Cond.methodLink RJ0 1059 yJ3_checkIndex_8e157 ∈ Gw := gw_1 85 rfl rfl
set_option maxRecDepth 100000 in
theorem t_coder (r : Int) (M : Mem) (hr : r = -1 ∨ r = -2) : MtP yJ0_coder_7d493 cJ0_coder_7d493 1 (some .byte) 1 0 0 [(2, r)] M 0 (some 0) := by
  refine mk_P (by decide +kernel) (Nat.le_of_ble_eq_true rfl) (fun E C r0 hC hq hin => ?_)
  refine r_eqls (ls' := [(0, 2, r)]) rfl ?_
  refine r_sgets 0 hC ts_cmp dJ0_coder_7d493_0 ?_
  refine r_brf (c := (1 : Int) = 0) (o1 := none) (by decide) ?_
  refine r_if_eq 3 hC (tgt := 13) (by decide) dJ0_coder_7d493_3 r_none ?_
  refine r_aload_n 6 hC 0 rfl (Or.inr rfl) rfl dJ0_coder_7d493_6 ?_
  refine r_sgetc 7 hC hr ts_cod dJ0_coder_7d493_7 ?_
  refine r_goto 10 hC (tgt := 14) (by decide) dJ0_coder_7d493_10 ?_
  exact r_nreturnP 14 hC hq (by decide) (by decide) (by decide) dJ0_coder_7d493_14
set_option maxRecDepth 100000 in
theorem t_isl (r : Int) (M : Mem) (hr : r = -1 ∨ r = -2) : MtP yJ0_isLatin1_aae02 cJ0_isLatin1_aae02 1 (some .boolean) 1 0 0 [(2, r)] M 0 (some 1) := by
  refine mk_P (by decide +kernel) (Nat.le_of_ble_eq_true rfl) (fun E C r0 hC hq hin => ?_)
  refine r_eqls (ls' := [(0, 2, r)]) rfl ?_
  refine r_sgets 0 hC ts_cmp dJ0_isLatin1_aae02_0 ?_
  refine r_brf (c := (1 : Int) = 0) (o1 := none) (by decide) ?_
  refine r_if_eq 3 hC (tgt := 17) (by decide) dJ0_isLatin1_aae02_3 r_none ?_
  refine r_aload_n 6 hC 0 rfl (Or.inr rfl) rfl dJ0_isLatin1_aae02_6 ?_
  refine r_sgetc 7 hC hr ts_cod dJ0_isLatin1_aae02_7 ?_
  refine r_brf (c := (0 : Int) ≠ 0) (o1 := none) (by decide) ?_
  refine r_if_ne 10 hC (tgt := 17) (by decide) dJ0_isLatin1_aae02_10 r_none ?_
  refine r_iconst 13 hC (r32c rfl) dJ0_isLatin1_aae02_13 ?_
  refine r_goto 14 hC (tgt := 18) (by decide) dJ0_isLatin1_aae02_14 ?_
  exact r_nreturnP 18 hC hq (by decide) (by decide) (by decide) dJ0_isLatin1_aae02_18
theorem ishr0 {x : Int} (h : 0 ≤ x ∧ x < 1000) : ishrv x 0 = x := by
  unfold ishrv
  have e : Int32.ofInt x = nI x.toNat := by
    symm; apply of32_of; rw [nI_toInt (by omega)]; omega
  rw [e, show Int32.ofInt 0 = 0 by decide, sc_shr0 (by omega), nI_toInt (by omega)]
  omega
set_option maxRecDepth 100000 in
theorem t_slen (r : Int) (M : Mem) (hr : r = -1 ∨ r = -2) : MtP yJ0_length_8abf5 cJ0_length_8abf5 1 (some .int) 2 0 0 [(2, r)] M 0 (some ((sOf r).length : Int)) := by
  refine mk_P (by decide +kernel) (Nat.le_of_ble_eq_true rfl) (fun E C r0 hC hq hin => ?_)
  refine r_eqls (ls' := [(0, 2, r)]) rfl ?_
  refine r_aload_n 0 hC 0 rfl (Or.inr rfl) rfl dJ0_length_8abf5_0 ?_
  refine r_sgetv 1 hC hr ts_val dJ0_length_8abf5_1 ?_
  refine r_sal 4 hC hr dJ0_length_8abf5_4 ?_
  refine r_aload_n 5 hC 0 rfl (Or.inr rfl) rfl dJ0_length_8abf5_5 ?_
  have hl : 0 ≤ ((sOf r).length : Int) ∧ ((sOf r).length : Int) < 1000 := by
    obtain ⟨i, hi, rfl⟩ := str_ix hr
    have := (sLen_eq i hi).2
    omega
  have e : (some ((sOf r).length : Int)) = callp (some 0) (fun v => some (ishrv ((sOf r).length : Int) v)) := by
    show _ = some (ishrv ((sOf r).length : Int) 0)
    rw [ishr0 hl]
  rw [e]
  refine r_callT 6 hC [] [(0, ((sOf r).length : Int))] rfl mn_J0_coder_7d493 rfl ml_coder im_J0_coder_7d493 se_J0_coder_7d493 hr rfl (by decide) (Nat.le_of_ble_eq_true rfl) (by decide) (by decide) dJ0_length_8abf5_6 (t_coder r M hr) (fun v => ?_)
  refine r_ishr 9 hC dJ0_length_8abf5_9 ?_
  exact r_ireturnP 10 hC hq (by decide) (by decide) dJ0_length_8abf5_10
set_option maxRecDepth 100000 in
theorem t_pre (i n x : Int) (M : Mem) (hi : 0 ≤ i ∧ i < n) : MtP yJ3_checkIndex_8e157 cJ3_checkIndex_8e157 3 (some .int) 1 0 0 [(0, i), (0, n), (2, x)] M 0 (some i) := by
  refine mk_P (by decide +kernel) (Nat.le_of_ble_eq_true rfl) (fun E C r0 hC hq hin => ?_)
  refine r_eqls (ls' := [(0, 0, i), (1, 0, n), (2, 2, x)]) rfl ?_
  refine r_iload_n 0 hC 0 rfl rfl dJ3_checkIndex_8e157_0 ?_
  refine r_brf (c := i < 0) (o1 := none) (by omega) ?_
  refine r_if_lt 1 hC (tgt := 9) (by decide) dJ3_checkIndex_8e157_1 r_none ?_
  refine r_iload_n 4 hC 0 rfl rfl dJ3_checkIndex_8e157_4 ?_
  refine r_iload_n 5 hC 1 rfl rfl dJ3_checkIndex_8e157_5 ?_
  refine r_brt (c := i < n) (o1 := none) hi.2 ?_
  refine r_icmp_lt 6 hC (tgt := 16) (by decide) dJ3_checkIndex_8e157_6 ?_ r_none
  refine r_iload_n 16 hC 0 rfl rfl dJ3_checkIndex_8e157_16 ?_
  exact r_ireturnP 17 hC hq (by decide) (by decide) dJ3_checkIndex_8e157_17
set_option maxRecDepth 100000 in
theorem t_chk (i n : Int) (M : Mem) (hi : 0 ≤ i ∧ i < n) : MtV yJ0_checkIndex_df160 cJ0_checkIndex_df160 2 none 2 0 0 [(0, i), (0, n)] M (some M) := by
  refine mk_V (by decide +kernel) (Nat.le_of_ble_eq_true rfl) (fun E C M0 hC hq hin => ?_)
  refine r_eqls (ls' := [(0, 0, i), (1, 0, n)]) rfl ?_
  refine r_iload_n 0 hC 0 rfl rfl dJ0_checkIndex_df160_0 ?_
  refine r_iload_n 1 hC 1 rfl rfl dJ0_checkIndex_df160_1 ?_
  refine r_sgetf 2 hC ts_fmt dJ0_checkIndex_df160_2 (fun x => ?_)
  have e : (some M) = callp (some i) (fun v => some M) := rfl
  rw [e]
  refine r_callSP 5 hC [(0, i), (0, n), (2, x)] [] rfl ⟨mn_J3_checkIndex_8e157, ml_pre, st_J3_checkIndex_8e157⟩ rfl (by decide) (Nat.le_of_ble_eq_true rfl) (by decide) (by decide) dJ0_checkIndex_df160_5 (t_pre i n x M hi) (fun v => ?_)
  refine r_pop 8 hC (by decide) dJ0_checkIndex_df160_8 ?_
  exact r_return 9 hC hq (by decide) (by decide) dJ0_checkIndex_df160_9
set_option maxRecDepth 100000 in
theorem t_lat (r i : Int) (M : Mem) (hr : r = -1 ∨ r = -2) (hi : 0 ≤ i ∧ i < (sOf r).length) : MtP yJ1_charAt_3b067 cJ1_charAt_3b067 2 (some .char) 3 0 0 [(2, r - 10), (0, i)] M 0 (some ((sOf r).getD i.toNat 0)) := by
  refine mk_P (by decide +kernel) (Nat.le_of_ble_eq_true rfl) (fun E C r0 hC hq hin => ?_)
  refine r_eqls (ls' := [(0, 2, r - 10), (1, 0, i)]) rfl ?_
  have hsm := sOf_at (r := r) (k := i.toNat) (by omega)
  refine r_iload_n 0 hC 1 rfl rfl dJ1_charAt_3b067_0 ?_
  refine r_aload_n 1 hC 0 rfl (Or.inr rfl) rfl dJ1_charAt_3b067_1 ?_
  refine r_sal 2 hC hr dJ1_charAt_3b067_2 ?_
  refine r_callSN 3 hC [(0, i), (0, ((sOf r).length : Int))] [] rfl ⟨mn_J0_checkIndex_df160, ml_chk, st_J0_checkIndex_df160⟩ rfl (by decide) (Nat.le_of_ble_eq_true rfl) (by decide) (by decide) dJ1_charAt_3b067_3 (t_chk i ((sOf r).length : Int) M hi) ?_
  refine r_aload_n 6 hC 0 rfl (Or.inr rfl) rfl dJ1_charAt_3b067_6 ?_
  refine r_iload_n 7 hC 1 rfl rfl dJ1_charAt_3b067_7 ?_
  refine r_sba 8 hC hr hi dJ1_charAt_3b067_8 ?_
  refine r_sipush 9 hC ⟨by decide +kernel, r32c rfl⟩ dJ1_charAt_3b067_9 ?_
  refine r_iand 12 hC dJ1_charAt_3b067_12 ?_
  have e2 : iandv ((sOf r).getD i.toNat 0) 255 = (sOf r).getD i.toNat 0 := by
    have := iand255 ((sOf r).getD i.toNat 0).toNat (by omega)
    rwa [show ((((sOf r).getD i.toNat 0).toNat : Nat) : Int) = (sOf r).getD i.toNat 0 by omega] at this
  rw [e2]
  refine r_i2cK 13 hC ⟨by omega, by omega⟩ dJ1_charAt_3b067_13 ?_
  exact r_nreturnP 14 hC hq (n_char ⟨by omega, by omega⟩) (by decide) (by decide) dJ1_charAt_3b067_14
set_option maxRecDepth 100000 in
theorem t_schr (r i : Int) (M : Mem) (hr : r = -1 ∨ r = -2) (hi : 0 ≤ i ∧ i < (sOf r).length) : MtP yJ0_charAt_5068e cJ0_charAt_5068e 2 (some .char) 4 0 0 [(2, r), (0, i)] M 0 (some ((sOf r).getD i.toNat 0)) := by
  refine mk_P (by decide +kernel) (Nat.le_of_ble_eq_true rfl) (fun E C r0 hC hq hin => ?_)
  refine r_eqls (ls' := [(0, 2, r), (1, 0, i)]) rfl ?_
  have hsm := sOf_at (r := r) (k := i.toNat) (by omega)
  refine r_aload_n 0 hC 0 rfl (Or.inr rfl) rfl dJ0_charAt_5068e_0 ?_
  have e : (some ((sOf r).getD i.toNat 0)) = callp (some 1) (fun v => if v = 0 then none else callp (some ((sOf r).getD i.toNat 0)) (fun w => if 0 ≤ w ∧ w < 256 then some w else none)) := by
    show _ = if (1 : Int) = 0 then none else (if 0 ≤ (sOf r).getD i.toNat 0 ∧ (sOf r).getD i.toNat 0 < 256 then some ((sOf r).getD i.toNat 0) else none)
    rw [if_neg (by decide), if_pos ⟨by omega, by omega⟩]
  rw [e]
  refine r_callT 1 hC [] [] rfl mn_J0_isLatin1_aae02 rfl ml_isl im_J0_isLatin1_aae02 se_J0_isLatin1_aae02 hr rfl (by decide) (Nat.le_of_ble_eq_true rfl) (by decide) (by decide) dJ0_charAt_5068e_1 (t_isl r M hr) (fun v => ?_)
  refine r_if_eq 4 hC (tgt := 16) (by decide) dJ0_charAt_5068e_4 r_none ?_
  refine r_aload_n 7 hC 0 rfl (Or.inr rfl) rfl dJ0_charAt_5068e_7 ?_
  refine r_sgetv 8 hC hr ts_val dJ0_charAt_5068e_8 ?_
  refine r_iload_n 11 hC 1 rfl rfl dJ0_charAt_5068e_11 ?_
  refine r_callSP 12 hC [(2, r - 10), (0, i)] [] rfl ⟨mn_J1_charAt_3b067, ml_lat, st_J1_charAt_3b067⟩ rfl (by decide) (Nat.le_of_ble_eq_true rfl) (by decide) (by decide) dJ0_charAt_5068e_12 (t_lat r i M hr hi) (fun w => ?_)
  intro ho2
  by_cases hw : 0 ≤ w ∧ w < 256
  · revert ho2
    rw [if_pos hw]
    exact r_nreturnP 15 hC hq (n_char hw) (by decide) (by decide) dJ0_charAt_5068e_15
  · rw [if_neg hw] at ho2; cases ho2
section ROWS
variable {E : EnvT} {C : Cx} {ρ : Type} {x0 : ρ} {Mi M M0 : Mem} {cc : ByteArray} {nL h mc ms cl sl : Nat} {own : String} {ls : List (Nat × Int × Int)} {st : List (Int × Int)} {o : Option ρ}
theorem r_slen (pc : Nat) (hC : CxOK E C cc nL own h mc ms) {r : Int} {idx : Nat} {k : Int → Option ρ} (hlk : Cond.methodLink own idx yJ0_length_8abf5 ∈ Gw) (hh : 6 ≤ h) (hst : catS st ≤ 8) (hcl : cl ≤ mc) (hsl : sl ≤ ms) (hd : decode cc pc = .ok (.invokevirtual idx, 3)) (kk : ∀ v, Bk E C nL Mi x0 (pc + 3) ls ((0, v) :: st) M cl sl (k v)) : Bk E C nL Mi x0 pc ls ((2, r) :: st) M cl sl (callp (s_len r) k) := by
  intro ho
  by_cases hr : r = -1 ∨ r = -2
  · revert ho
    rw [show s_len r = some ((sOf r).length : Int) by unfold s_len; rw [if_pos hr]]
    exact r_callT pc hC [] st rfl mn_J0_length_8abf5 rfl hlk im_J0_length_8abf5 se_J0_length_8abf5 hr rfl (Nat.le_trans (by decide) hh) hst hcl hsl hd (t_slen r M hr) kk
  · rw [show s_len r = none by unfold s_len; rw [if_neg hr]] at ho
    cases ho
theorem r_schr (pc : Nat) (hC : CxOK E C cc nL own h mc ms) {r i : Int} {idx : Nat} {k : Int → Option ρ} (hlk : Cond.methodLink own idx yJ0_charAt_5068e ∈ Gw) (hh : 6 ≤ h) (hst : catS st ≤ 8) (hcl : cl ≤ mc) (hsl : sl ≤ ms) (hd : decode cc pc = .ok (.invokevirtual idx, 3)) (kk : ∀ v, Bk E C nL Mi x0 (pc + 3) ls ((0, v) :: st) M cl sl (k v)) : Bk E C nL Mi x0 pc ls ((0, i) :: (2, r) :: st) M cl sl (callp (s_chr r i) k) := by
  intro ho
  by_cases hr : (r = -1 ∨ r = -2) ∧ 0 ≤ i ∧ i < (sOf r).length
  · revert ho
    rw [show s_chr r i = some ((sOf r).getD i.toNat 0) by unfold s_chr; rw [if_pos hr]]
    exact r_callT pc hC [(0, i)] st rfl mn_J0_charAt_5068e rfl hlk im_J0_charAt_5068e se_J0_charAt_5068e hr.1 rfl (Nat.le_trans (by decide) hh) hst hcl hsl hd (t_schr r i M hr.1 hr.2) kk
  · rw [show s_chr r i = none by unfold s_chr; rw [if_neg hr]] at ho
    cases ho
end ROWS
