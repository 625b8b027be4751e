/-! new T[n][m], System.arraycopy -/
theorem arrV_congr {cI : ClassId} {N : Nat} {f g : Nat → Value} (h : ∀ j, j < N → f j = g j) : arrV cI N f = arrV cI N g := by
  unfold arrV
  congr 1
  exact congrArg Array.ofFn (funext fun j => h j.val j.isLt)
theorem outer_arr (c : ClassId) (N h0 : Nat) : ∀ i : Nat, Jvm.Free.Multi.outerC c N h0 i = arrV c N (fun j => if j < i then .ref (h0 + 1 + j) else .null)
  | 0 => by
    show ({ cls := c, slots := Array.replicate N .null, vm := .none } : Cell) = _
    rw [arrV_new]
    refine congrArg (arrV c N) (funext fun j => ?_)
    simp
  | i + 1 => by
    show (Jvm.Free.Multi.outerC c N h0 i).setSlot i (.ref (h0 + 1 + i)) = _
    rw [outer_arr c N h0 i, arrV_store]
    refine congrArg (arrV c N) (funext fun j => ?_)
    by_cases e : j = i
    · subst e
      simp [updV]
    · by_cases h : j < i
      · simp [updV, e, h, Nat.lt_succ_of_lt h]
      · simp [updV, e, h, show ¬ j < i + 1 by omega]
theorem nm2_n {M : Mem} {t u n m : Int} : newm2 M t u n m 0 0 = M 0 0 + 1 + n := by unfold newm2; rw [if_pos ⟨rfl, rfl⟩]
theorem nm2_o {M : Mem} {t u n m : Int} (h0 : 0 ≤ M 0 0) (k : Int) : newm2 M t u n m (M 0 0 + 1) k = (if k = -2 then t else if k = -1 then n else if 0 ≤ k ∧ k < n then M 0 0 + 2 + k else 0) := by
  unfold newm2; rw [if_neg (by omega), if_pos rfl]
theorem nm2_i {M : Mem} {t u n m a : Int} (h0 : 0 ≤ M 0 0) (h1 : M 0 0 + 2 ≤ a) (h2 : a < M 0 0 + 2 + n) (k : Int) : newm2 M t u n m a k = (if k = -2 then u else if k = -1 then m else 0) := by
  unfold newm2; rw [if_neg (by omega), if_neg (by omega), if_pos ⟨h1, h2⟩]
theorem nm2_old {M : Mem} {t u n m a : Int} (h0 : 0 ≤ M 0 0) (h1 : 1 ≤ a) (h2 : a ≤ M 0 0) (k : Int) : newm2 M t u n m a k = M a k := by
  unfold newm2; rw [if_neg (by omega), if_neg (by omega), if_neg (by omega)]
theorem ext_new2 {M : Mem} {t u n m : Int} (h0 : 0 ≤ M 0 0) (hn : 0 ≤ n) : Ext M (newm2 M t u n m) :=
  ⟨by rw [nm2_n]; omega, fun a h1 h2 => ⟨nm2_old h0 h1 h2 _, nm2_old h0 h1 h2 _⟩⟩
theorem set_at {H : Heap} {a : Nat} {x : Cell} (h : a < H.size) : (H.setIfInBounds a x)[a]? = some x := by simp [h]
theorem set_ne {H : Heap} {a q : Nat} {x : Cell} (h : q ≠ a) : (H.setIfInBounds a x)[q]? = H[q]? := by simp [Array.getElem?_setIfInBounds, Ne.symm h]
theorem set_sz {H : Heap} {a : Nat} {x : Cell} : (H.setIfInBounds a x).size = H.size := by simp
section ROWS
variable {E : EnvT} {C : Cx} {ρ : Type} {x0 : ρ} {Mi M M0 : Mem} {cc : ByteArray} {nL h mc ms cl sl : Nat} {own : String} {ls : List (Nat × Int × Int)} {st : List (Int × Int)} {o : Option ρ}
theorem r_newg (pc : Nat) (hC : CxOK E C cc nL own h mc ms) {n k t u : Int} {N K idx : Nat} {ty : FieldType} {f : Int → Mem → Option ρ} (hn : n = (N : Int)) (hk : k = (K : Int)) (hN : N ≤ 1000) (hK : K ≤ 1000) (htt : (t = 14 ∧ u = 10 ∧ ty = .int) ∨ (t = 15 ∧ u = 11 ∧ ty = .long)) (hlk : Cond.classLink own idx ("[" ++ (FieldType.array ty).toString) ∈ Gw) (hac : Cond.arrayClass ty ∈ Gw) (hcl : cl + (1 + N) ≤ mc) (hsl : sl + (N + N * K) ≤ ms) (hd : decode cc pc = .ok (.multianewarray idx 2, 4))
    (kk : ∀ v M', Bk E C nL Mi x0 (pc + 4) ls ((t, v) :: st) M' (cl + 1 + N) (sl + N + N * K) (f v M')) : Bk E C nL Mi x0 pc ls ((0, k) :: (0, n) :: st) M cl sl (newg M t u n k f) := by
  intro ho hE hl hs H locs la hH hL hla
  rw [oks_c, oks_c] at hs
  obtain ⟨hx, hb, hn2, hown, hts, hKK, hfr, hlo, hmc, hms, -⟩ := hC
  have h0 := hH.2.1
  have hext : Ext M (newm2 M t u n k) := ext_new2 h0 (by omega)
  have hk32 := okx_0.mp hs.1
  have hn32 := okx_0.mp hs.2.1
  have cn : (Int32.ofInt n).toNatClampNeg = N := by rw [cl32 (by omega) hn32]; omega
  have ck : (Int32.ofInt k).toNatClampNeg = K := by rw [cl32 (by omega) hk32]; omega
  have hao : (Cond.arrayOver (.array ty)).before (cA C) (cS C) = true := by
    rcases htt with ⟨-, -, rfl⟩ | ⟨-, -, rfl⟩
    · exact hKK.2.2.2.2.2.1
    · exact hKK.2.2.2.2.2.2.1
  have h10 : 10 ≤ t ∧ t ≤ 16 ∧ 10 ≤ u ∧ u ≤ 16 ∧ ek t = u ∧ aT t = .array ty ∧ aT u = ty ∧ (u = 10 ∨ u = 11) := by
    rcases htt with ⟨rfl, rfl, rfl⟩ | ⟨rfl, rfl, rfl⟩ <;> decide
  have hb2 : K * componentBytes ty ≤ 536870912 := by
    have : componentBytes ty ≤ 8 := by rcases htt with ⟨-, -, rfl⟩ | ⟨-, -, rfl⟩ <;> decide
    calc K * componentBytes ty ≤ 1000 * 8 := Nat.mul_le_mul hK this
      _ ≤ 536870912 := by decide
  have hsy : (cS C).vm.Alike E.2.2.1.vm := hKK.1.symm
  simp only [encs, List.map_cons, enc_0]
  intro T hT X
  obtain ⟨vm₁, cA0, comp, hW, fA, fC, hO, hI, X', step⟩ := X.multianewarray2F hx hown (hts _ hlk) hao (hts _ hac) (g := F0 (cM C) pc la (.int (Int32.ofInt k) :: .int (Int32.ofInt n) :: encs E st)) rfl (by rw [hb]; exact hd) rfl (by rw [zero32, lt32 hn32 (by unfold r32; omega)]; omega) (by rw [zero32, lt32 hk32 (by unfold r32; omega)]; omega) (by rw [cn]; omega) (by rw [ck]; exact hb2) (by rw [ck]; omega) (by rcases htt with ⟨-, -, rfl⟩ | ⟨-, -, rfl⟩ <;> decide) (by rcases htt with ⟨-, -, rfl⟩ | ⟨-, -, rfl⟩ <;> decide) (by rw [cn]; exact Nat.le_trans hcl hmc) (by rw [cn, ck]; exact Nat.le_trans hsl hms)
  rw [cn, ck] at X' step
  generalize hF : Jvm.Free.Multi.fill (T.setVm vm₁) cA0 comp N K (defaultValue ty) N = F at X' step
  have hTh : (T.setVm vm₁).heap = H := hT
  obtain ⟨f1, f2, -, -⟩ := Jvm.Free.Multi.fill_facts (T.setVm vm₁) cA0 comp N K (defaultValue ty) N
  rw [hF, hTh] at f1 f2
  have hold : ∀ x : Nat, x < H.size → F.heap[x]? = H[x]? := fun x hx => by
    have := Jvm.Free.Multi.fill_old (T.setVm vm₁) cA0 comp N K (defaultValue ty) (a := x) (by rw [hTh]; exact hx) N
    rw [hF, hTh] at this
    exact this
  have hrow : ∀ j : Nat, j < N → F.heap[H.size + 1 + j]? = some (Jvm.Free.Multi.innerC comp K (defaultValue ty)) := fun j hj => by
    have := Jvm.Free.Multi.fill_inner (T.setVm vm₁) cA0 comp N K (defaultValue ty) N j hj
    rw [hF, hTh] at this
    exact this
  have hHR : HR E (newm2 M t u n k) F.heap := by
    obtain ⟨g1, g2, g3, g4⟩ := hH
    refine ⟨by rw [f1, nm2_n, g1]; omega, by rw [nm2_n]; omega, fun q hq => ?_, fun a a1 a2 => ?_⟩
    · rw [hold q (by omega)]; exact g3 q hq
    · rw [nm2_n] at a2
      by_cases ha : a ≤ M 0 0
      · obtain ⟨cell, c1, c2⟩ := g4 a a1 ha
        exact ⟨cell, by rw [hold _ (by omega)]; exact c1, CR_ext hext (fun q => nm2_old h0 a1 ha q) c2⟩
      · by_cases hb3 : a = M 0 0 + 1
        · subst hb3
          refine ⟨_, by rw [show E.1 + (M 0 0 + 1 - 1).toNat = H.size by rw [g1]; omega]; exact f2, ?_, Or.inl ?_⟩
          · rw [outer_arr]; rfl
          rw [nm2_o h0, nm2_o h0, if_pos rfl, if_neg (by decide), if_pos rfl]
          refine ⟨h10.1, h10.2.1, by omega, by omega, fun i i0 i1 => ?_, cA0, ?_, ?_, ?_⟩
          · rw [nm2_o h0, if_neg (by omega), if_neg (by omega), if_pos ⟨i0, i1⟩, h10.2.2.2.2.1]
            refine okx_mk h10.2.2.1 (Or.inr ⟨by omega, by rw [nm2_n]; omega, ?_⟩)
            rw [nm2_i h0 (by omega) (by omega), if_pos rfl]
          · rw [h10.2.2.2.2.2.1]
            refine arrOfT_moved hsy (fun N9 z9 => ?_)
            obtain ⟨-, k9, hk9, cm9, hkk9⟩ := (hO 0 0 0).1
            exact ⟨(fun q hq => by cases hq), k9, hk9, cm9, hkk9⟩
          · rw [h10.2.2.2.2.2.1]
            exact va_RA.moved hsy (show va_RA (cS C) cA0 (.array ty) from fA)
          · rw [outer_arr, show n.toNat = N by omega]
            refine arrV_congr (fun j hj => ?_)
            rw [if_pos hj, nm2_o h0, if_neg (by omega), if_neg (by omega), if_pos ⟨by omega, by omega⟩, h10.2.2.2.2.1, enc_r h10.2.2.1, rf_pos (by omega), show E.1 + (M 0 0 + 2 + (j : Int) - 1).toNat = H.size + 1 + j by rw [g1]; omega]
        · obtain ⟨j, hj⟩ : ∃ j : Nat, a = M 0 0 + 2 + j := ⟨(a - M 0 0 - 2).toNat, by omega⟩
          subst hj
          have hjN : j < N := by omega
          refine ⟨_, by rw [show E.1 + (M 0 0 + 2 + (j : Int) - 1).toNat = H.size + 1 + j by rw [g1]; omega]; exact hrow j hjN, rfl, Or.inl ?_⟩
          rw [nm2_i h0 (by omega) (by omega), nm2_i h0 (by omega) (by omega), if_pos rfl, if_neg (by decide), if_pos rfl]
          refine ⟨h10.2.2.1, h10.2.2.2.1, by omega, by omega, fun i i0 i1 => ?_, comp, ?_, ?_, ?_⟩
          · rw [nm2_i h0 (by omega) (by omega), if_neg (by omega), if_neg (by omega)]
            rcases h10.2.2.2.2.2.2.2 with e | e <;> rw [e]
            · exact okx_0.mpr (by unfold r32; omega)
            · exact okx_1.mpr (by unfold r64; omega)
          · rw [h10.2.2.2.2.2.2.1]
            refine arrOfT_moved hsy (fun N9 z9 => ?_)
            obtain ⟨-, k9, hk9, cm9, hkk9⟩ := (hI 0 .null).1
            exact ⟨(fun q hq => by cases hq), k9, hk9, cm9, hkk9⟩
          · rw [h10.2.2.2.2.2.2.1]
            refine va_RA.moved hsy ?_
            rcases htt with ⟨-, -, rfl⟩ | ⟨-, -, rfl⟩ <;> exact fC
          · show ({ cls := comp, slots := Array.replicate K (defaultValue ty), vm := .none } : Cell) = _
            rw [arrV_new, show k.toNat = K by omega]
            refine arrV_congr (fun i hi => ?_)
            rw [nm2_i h0 (by omega) (by omega), if_neg (by omega), if_neg (by omega)]
            rcases htt with ⟨-, rfl, rfl⟩ | ⟨-, rfl, rfl⟩
            · show Value.int 0 = enc E 0 0
              rw [enc_0]; rfl
            · show Value.long 0 = enc E 1 0
              rw [enc_1]; rfl
  have kv := kk _ _ ho (hE.tr hext) (okl_ext hext hl) (oks_c.mpr ⟨okx_mk h10.1 (Or.inr ⟨by omega, by rw [nm2_n]; omega, by rw [nm2_o h0, if_pos rfl]⟩), oks_ext hext hs.2.2⟩) F.heap locs la hHR hL hla
  obtain ⟨t9, a9, b9⟩ := kv F rfl X'
  refine ⟨t9, step t9 ?_, b9⟩
  have e9 : encs E ((t, M 0 0 + 1) :: st) = .ref T.heap.size :: encs E st := by
    show enc E t (M 0 0 + 1) :: encs E st = _
    rw [enc_r h10.1, rf_pos (by omega), show E.1 + (M 0 0 + 1 - 1).toNat = T.heap.size by rw [hT, hH.1]; omega]
  rw [e9] at a9
  exact a9
theorem cpy_row {M : Mem} {a i b j n x k : Int} (h : ¬ (x = b ∧ j ≤ k ∧ k < j + n)) : copym M a i b j n x k = M x k := by unfold copym; rw [if_neg h]
theorem r_copy (pc : Nat) (hC : CxOK E C cc nL own h mc ms) {a i b j n t : Int} {idx : Nat} {f : Mem → Option ρ} (ht : t = 10 ∨ t = 11) (hlk : Cond.methodLink own idx arraycopyName ∈ Gw) (hnat : Cond.native arraycopyName ∈ Gw) (hsta : Cond.static arraycopyName ∈ Gw) (hini : Cond.initialized "java/lang/System" ∈ Gw) (hh : 1 ≤ h) (hst : catS st ≤ 8) (hd : decode cc pc = .ok (.invokestatic idx, 3))
    (kk : ∀ M', Bk E C nL Mi x0 (pc + 3) ls st M' cl sl (f M')) : Bk E C nL Mi x0 pc ls ((0, n) :: (0, j) :: (t, b) :: (0, i) :: (t, a) :: st) M cl sl (acopy M a i b j n f) := by
  intro ho hE hl hs H locs la hH hL hla
  rw [oks_c, oks_c, oks_c, oks_c, oks_c] at hs
  obtain ⟨sn, sj, sb, si, sa, hs⟩ := hs
  unfold acopy at ho
  by_cases hz : a = 0 ∨ b = 0
  · rw [if_pos hz] at ho; cases ho
  rw [if_neg hz] at ho
  by_cases hi : 0 ≤ i ∧ 0 ≤ j ∧ 0 ≤ n ∧ i + n ≤ M a (-1) ∧ j + n ≤ M b (-1)
  · rw [if_pos hi] at ho
    obtain ⟨i0, j0, n0, i1, j1⟩ := hi
    have h10 : 10 ≤ t ∧ t ≤ 16 := by omega
    obtain ⟨a1, a2, a3⟩ := okx_ref sa h10.1 (fun e => hz (Or.inl e))
    obtain ⟨b1, b2, b3⟩ := okx_ref sb h10.1 (fun e => hz (Or.inr e))
    obtain ⟨c0, p1, p2, p3, p4, p5, p6⟩ := hH.arr a1 a2 a3 h10.1 h10.2
    obtain ⟨c1, q1, q2, q3, q4, q5, q6⟩ := hH.arr b1 b2 b3 h10.1 h10.2
    have p7 := hC_arr hC p5
    have q7 := hC_arr hC q5
    obtain ⟨hx, hb, hn2, hown, hts, hKK, hfr, hlo, hmc, hms, -⟩ := hC
    have hn32 := okx_0.mp sn
    have hi32 := okx_0.mp si
    have hj32 := okx_0.mp sj
    have cn := cl32 n0 hn32
    have ci := cl32 i0 hi32
    have cj := cl32 j0 hj32
    have z32 : r32 0 := by unfold r32; omega
    simp only [encs, List.map_cons, enc_0]
    rw [enc_r h10.1, enc_r h10.1, rf_pos a1, rf_pos b1]
    intro T hT X
    obtain ⟨-, k0, hk0, cm0, hkk0⟩ := p7 (M a (-1)).toNat (fun q => enc E (ek t) (M a q))
    obtain ⟨-, k1, hk1, cm1, hkk1⟩ := q7 (M b (-1)).toNat (fun q => enc E (ek t) (M b q))
    have hfits : ∀ x : Nat, (x : Int) < M a (-1) → fits (aT t) (enc E (ek t) (M a x)) = true := fun x hx => by
      have h4 := p4 x (by omega) hx
      rcases ht with rfl | rfl
      · show fits .int (enc E 0 (M a x)) = true
        rw [enc_0]; rfl
      · show fits .long (enc E 1 (M a x)) = true
        rw [enc_1]; rfl
    obtain ⟨vm', X', step⟩ := X.arraycopy hx hown (hts _ hlk) (hts _ hnat) (hts _ hsta) (hts _ hini) (src := E.1 + (a - 1).toNat) (dst := E.1 + (b - 1).toNat) (srcPos := Int32.ofInt i) (destPos := Int32.ofInt j) (n := Int32.ofInt n) (by rw [hT]; exact p1) (by rw [hT]; exact q1)
      (fun _ h => by cases h) (fun _ h => by cases h) (fun h => by cases h) (fun h => by cases h) hk0 hk1 hkk0 hkk1 (by rcases ht with rfl | rfl <;> decide)
      (by rw [zero32, lt32 hi32 z32]; omega) (by rw [zero32, lt32 hj32 z32]; omega) (by rw [zero32, lt32 hn32 z32]; omega)
      (by rw [toI32r hi32, toI32r hn32, arrV_size]; omega) (by rw [toI32r hj32, toI32r hn32, arrV_size]; omega)
      (fun vm₁ _ x hx => by
        rw [cn] at hx
        have e : (arrV c0 (M a (-1)).toNat (fun q => enc E (ek t) (M a q))).slots.getD ((Int32.ofInt i).toNatClampNeg + x) .null = enc E (ek t) (M a ((i.toNat + x : Nat) : Int)) := by
          rw [Array.getD_eq_getD_getElem?, ci, arrV_read _ _ (by omega)]
          rfl
        rw [e]
        refine ⟨hfits _ (by omega), ?_⟩
        rcases ht with rfl | rfl
        · show State.takes _ _ (enc E 0 _)
          rw [enc_0]; trivial
        · show State.takes _ _ (enc E 1 _)
          rw [enc_1]; trivial)
      (g := F0 (cM C) pc la (.int (Int32.ofInt n) :: .int (Int32.ofInt j) :: .ref (E.1 + (b - 1).toNat) :: .int (Int32.ofInt i) :: .ref (E.1 + (a - 1).toNat) :: encs E st)) rfl (by rw [hn2]; exact hla.1) (rest := encs E st) rfl (by rw [hb]; exact hd) (Nat.le_trans hh hfr)
      (by
        show 2 * 0 + _ + _ ≤ _
        rw [catS_enc]
        have e1 : nativeFrameWords "java/lang/System" "arraycopy" 5 ≤ 60 := by decide +kernel
        have e2 : C.2.2.2.1.locals = (cR C).locals := rfl
        omega)
    have e1 : copied (arrV c0 (M a (-1)).toNat (fun q => enc E (ek t) (M a q))) (arrV c1 (M b (-1)).toNat (fun q => enc E (ek t) (M b q))) (Int32.ofInt i) (Int32.ofInt j) (Int32.ofInt n) = arrV c1 (M b (-1)).toNat (fun q => enc E (ek t) (copym M a i b j n b q)) := by
      refine (va_copied (fun z : Int => enc E (ek t) z) c0 c1 (fun q : Nat => M a q) (fun q : Nat => M b q) (by rw [cn, ci]; omega)).trans ?_
      refine congrArg (arrV c1 (M b (-1)).toNat) (funext fun q => ?_)
      unfold va_cpy copym
      rw [cn, ci, cj]
      by_cases hq : j.toNat ≤ q ∧ q < j.toNat + n.toNat
      · rw [if_pos hq, if_pos ⟨rfl, by omega, by omega⟩]
        dsimp only
        rw [show ((i.toNat + (q - j.toNat) : Nat) : Int) = i + ((q : Int) - j) by omega]
      · rw [if_neg hq, if_neg (fun z => hq (by omega))]
    rw [e1] at X' step
    have hext : Ext M (copym M a i b j n) := ⟨by rw [cpy_row (by omega)]; exact Int.le_refl _, fun x x1 x2 => ⟨cpy_row (by omega), cpy_row (by omega)⟩⟩
    have hlt : E.1 + (b - 1).toNat < H.size := hH.addr b1 b2
    have hheap : ((T.setVm vm').setCell (E.1 + (b - 1).toNat) (arrV c1 (M b (-1)).toNat (fun q => enc E (ek t) (copym M a i b j n b q)))).heap = H.setIfInBounds (E.1 + (b - 1).toNat) (arrV c1 (M b (-1)).toNat (fun q => enc E (ek t) (copym M a i b j n b q))) := by rw [← hT]; rfl
    have hHR : HR E (copym M a i b j n) (H.setIfInBounds (E.1 + (b - 1).toNat) (arrV c1 (M b (-1)).toNat (fun q => enc E (ek t) (copym M a i b j n b q)))) := by
      refine hH.set b1 b2 hext (cpy_row (by omega)) (fun x k hx => cpy_row (fun z => hx z.1)) (set_at hlt) set_sz (fun q hq => set_ne hq) ⟨rfl, Or.inl ?_⟩
      rw [(hext.2 b b1 b2).1, (hext.2 b b1 b2).2, b3]
      refine ⟨h10.1, h10.2, q2, q3, fun x x0 x1 => okx_ext hext ?_, c1, q5, q6, rfl⟩
      unfold copym
      by_cases hq : b = b ∧ j ≤ x ∧ x < j + n
      · rw [if_pos hq]; exact p4 _ (by omega) (by omega)
      · rw [if_neg hq]; exact q4 x x0 x1
    obtain ⟨t9, a9, b9⟩ := kk _ ho (hE.tr hext) (okl_ext hext hl) (oks_ext hext hs) _ _ la hHR (fun q hq => by
      rcases List.mem_append.mp hq with h1 | h1
      · exact hL q h1
      · obtain ⟨z, -, hz⟩ := List.mem_map.mp h1
        rw [← hz]
        exact Nat.le_add_right _ _) hla _ hheap X'
    exact ⟨t9, step t9 a9, b9⟩
  · rw [if_neg hi] at ho; cases ho
end ROWS
