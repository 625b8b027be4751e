/-! ends of methods, calls, contracts -/
def MemQ (E : EnvT) (Mi : Mem) (rv : Option (Int × Int)) (M0 : Mem) : Array Value → State → Outcome → State → Prop := fun _ _ o t => o = .returned (rv.map fun q => enc E q.1 q.2) ∧ HR E M0 t.heap ∧ Ext Mi M0 ∧ ∀ q, rv = some q → okx M0 q.1 q.2
def RQ (E : EnvT) (C : Cx) (mc ms : Nat) (Mi : Mem) (ret : Option FieldType) (rv : Option (Int × Int)) (M0 : Mem) : Prop := (cMeth C).sig.returnType = ret ∧ (cMeth C).locks = false ∧ C.2.2.2.2.2.2.2.2.2.2 = MQ C.2.2.2.2.2.2.2.1 (MemQ E Mi rv M0) (cA C) (cS C) mc ms (fun q => E.1 ≤ q)
def largs : Nat → List (Int × Int) → List (Nat × Int × Int)
  | _, [] => []
  | i, (kd, x) :: t => (i, kd, x) :: largs (if kd = 1 then i + 2 else i + 1) t
theorem largs_enc {E : EnvT} : ∀ (av : List (Int × Int)) (i : Nat), lv_args i (encs E av) = encl E (largs i av)
  | [], _ => rfl
  | (kd, x) :: t, i => by
    show (i, enc E kd x) :: lv_args (if (enc E kd x).category = 2 then i + 2 else i + 1) (encs E t) = (i, enc E kd x) :: encl E (largs (if kd = 1 then i + 2 else i + 1) t)
    have e : (if (enc E kd x).category = 2 then i + 2 else i + 1) = (if kd = 1 then i + 2 else i + 1) := by
      by_cases h : kd = 1
      · subst h; rw [if_pos enc_cat2, if_pos rfl]
      · rw [if_neg (by rw [enc_cat h]; decide), if_neg h]
    rw [e, largs_enc t]
theorem okl_largs {M : Mem} : ∀ (av : List (Int × Int)) (i : Nat), oks M av → okl M (largs i av)
  | [], _, _ => fun q hq => by cases hq
  | (kd, x) :: t, i, h => by
    rw [oks_c] at h
    exact okl_c.mpr ⟨h.1, okl_largs t _ h.2⟩
def catS : List (Int × Int) → Nat
  | [] => 0
  | (kd, _) :: t => (if kd = 1 then 2 else 1) + catS t
theorem catS_enc {E : EnvT} : ∀ (st : List (Int × Int)), ((encs E st).map fun v => v.category).sum = catS st
  | [] => rfl
  | (kd, x) :: t => by
    show (enc E kd x).category + ((encs E t).map fun v => v.category).sum = (if kd = 1 then 2 else 1) + catS t
    rw [catS_enc t]
    by_cases h : kd = 1
    · subst h; rw [enc_cat2, if_pos rfl]
    · rw [enc_cat h, if_neg h]
theorem lgsl_len {E : EnvT} : ∀ (st : List (Int × Int)), (lg_sl (encs E st)).length = catS st
  | [] => rfl
  | (kd, x) :: t => by
    show (lg_sl (enc E kd x :: encs E t)).length = _
    unfold lg_sl
    rw [List.flatMap_cons, List.length_append]
    show _ + (lg_sl (encs E t)).length = _
    rw [lgsl_len t]
    by_cases h : kd = 1
    · subst h; rw [if_pos enc_cat2]; simp [catS]
    · rw [if_neg (by rw [enc_cat h]; decide)]; simp [catS, h]
/-- a contract over my memory -/
def Ct (l : Launch) (E : EnvT) (y : MethodName) (c : ByteArray) (nL : Nat) (ret : Option FieldType) (h mc ms : Nat) (av : List (Int × Int)) (M M' : Mem) (rv : Option (Int × Int)) : Prop :=
  Met l y (.code y c nL ret :: Gw) { frames := h, cells := mc, slots := ms, locals := 100 * h } (va_Pc (encs E av) (fun U => HR E M U.heap ∧ KK E U)) (MemQ E M rv M') mc ms (fun q => E.1 ≤ q)
theorem ofWF {l : Launch} {y : MethodName} {ws ws' : List Cond} {rm : Room} {Pc : Array Value → State → Prop} {Qc : Array Value → State → Outcome → State → Prop} {mc ms : Nat} {free : Addr → Prop} {cc : ByteArray} {maxL : Nat} {ret : Option FieldType}
    (hy : plainFor y = true) (hw : ws = Cond.code y cc maxL ret :: ws')
    (body : ∀ p e s m args below meth c s₁, BodyLoose p l y (headSpec ws rm) cc maxL ret e s m args below meth c s₁ → c.maxLocals = maxL → Pc args s →
      W p l e (headSpec ws rm).room s m args below meth c s.heap [] 0 0 (MQ below Qc args s mc ms free) (entryFrame m args maxL)) : Met l y ws rm Pc Qc mc ms free := by
  refine MetFree.of_bodySF (code := cc) (maxLocals := maxL) (ret := ret) hy ?_ ?_
  · intro args s m h hn
    obtain ⟨meth, c, h1, h2, h3, h4, h5, h6, -, -⟩ := Cond.code_spec hn (atoms_spec (ws := ws) h _ (by rw [hw]; exact List.mem_cons_self))
    exact ⟨meth, c, h1, h2, h3, h4, h5, h6⟩
  · intro p e s m args below meth c s₁ B hml hP _
    have hh0 : s₁.heap = s.heap := by rw [B.state]; rfl
    obtain ⟨t, a1, o, b1, b2, b3⟩ := body p e s m args below meth c s₁ B hml hP s₁ hh0 (Stand.of_body B)
    exact ⟨t, o, a1, b1, b2, ⟨b3.1, b3.2⟩⟩
theorem mk_Ct {l : Launch} {E : EnvT} {y : MethodName} {c : ByteArray} {nL : Nat} {ret : Option FieldType} {h mc ms : Nat} {av : List (Int × Int)} {M M' : Mem} {rv : Option (Int × Int)} {ρ : Type} {x0 : ρ} {o : Option ρ} (hy : plainFor y = true) (hav : oks M av) (hlen : catS av ≤ nL) (ho : o = some x0)
    (body : ∀ C : Cx, CxOK E C c nL y.cls h mc ms → RQ E C mc ms M ret rv M' → (cMeth C).name = y.name → Bk E C nL M x0 0 (largs 0 av) [] M 0 0 o) : Ct l E y c nL ret h mc ms av M M' rv := by
  refine ofWF (cc := c) (maxL := nL) (ret := ret) hy rfl ?_
  intro p e s m args below meth cd s₁ B hml hv
  obtain ⟨rfl, hH, hK⟩ := hv
  have hts := atoms_spec (ws := .code y c nL ret :: Gw) B.pre
  have hown : s.vm.findClass y.cls = some m.cls := findClass_of_methodNamed B.named
  have hE : E.1 ≤ s.heap.size := by rw [hH.1]; exact Nat.le_add_right _ _
  have k := body (p, l, e, { frames := h, cells := mc, slots := ms, locals := 100 * h }, s, m, (encs E av).toArray, below, meth, cd, MQ below (MemQ E M rv M') (encs E av).toArray s mc ms (fun q => E.1 ≤ q))
    ⟨B.exec, B.bytes, hml, hown, fun w hw => hts w (List.mem_cons_of_mem _ hw), hK, Nat.le_refl _, Nat.le_refl _, Nat.le_refl _, Nat.le_refl _, hE⟩ ⟨B.returns, B.notSynchronized, rfl⟩ (name_of_methodNamed B.named B.method).1
  have hl := lv_entry (encs E av) (n := nL) (by rw [lgsl_len]; exact hlen)
  rw [largs_enc] at hl
  rw [lg_entry_eq]
  exact k ho Ext.rf (okl_largs av 0 hav) (fun q hq => by cases hq) s.heap [] _ hH (fun q hq => by cases hq) hl
section ROWS
variable {E : EnvT} {C : Cx} {ρ : Type} {x0 : ρ} {Mi M M0 : Mem} {cc : ByteArray} {nL h mc ms cl sl : Nat} {own : String} {ls : List (Nat × Int × Int)} {st : List (Int × Int)} {o : Option ρ}
theorem r_ireturn (pc : Nat) (hC : CxOK E C cc nL own h mc ms) {x r0 : Int} (hq : RQ E C mc ms Mi (some .int) (some (0, r0)) M0) (hcl : cl ≤ mc) (hsl : sl ≤ ms) (hd : decode cc pc = .ok (.ireturn, 1)) : Bk E C nL Mi (r0, M0) pc ls [(0, x)] M cl sl (some (x, M)) := by
  intro ho hE hl hs H locs la hH hL hla
  cases ho
  rw [oks_c] at hs
  obtain ⟨hx, hb, -⟩ := hC
  obtain ⟨h1, h2, h3⟩ := hq
  unfold cxW
  rw [h3]
  simp only [encs, List.map_cons, List.map_nil, enc_0]
  refine W.widen hcl hsl ?_
  exact W.iret hx hb h1 (fun t ht hW => ⟨by simp only [Option.map_some, enc_0], by rw [ht]; exact hH, hE, fun q e => by cases e; exact hs.1⟩) hL hd h2
theorem r_ireturnP (pc : Nat) (hC : CxOK E C cc nL own h mc ms) {x r0 : Int} (hq : RQ E C mc ms Mi (some .int) (some (0, r0)) M) (hcl : cl ≤ mc) (hsl : sl ≤ ms) (hd : decode cc pc = .ok (.ireturn, 1)) : Bk E C nL Mi r0 pc ls [(0, x)] M cl sl (some x) := by
  intro ho hE hl hs H locs la hH hL hla
  cases ho
  rw [oks_c] at hs
  obtain ⟨hx, hb, -⟩ := hC
  obtain ⟨h1, h2, h3⟩ := hq
  unfold cxW
  rw [h3]
  simp only [encs, List.map_cons, List.map_nil, enc_0]
  refine W.widen hcl hsl ?_
  exact W.iret hx hb h1 (fun t ht hW => ⟨by simp only [Option.map_some, enc_0], by rw [ht]; exact hH, hE, fun q e => by cases e; exact hs.1⟩) hL hd h2
theorem nz (x : Int) (h : x = 0 ∨ x = 1) : narrow .boolean (.int (Int32.ofInt x)) = .int (Int32.ofInt x) := by
  rcases h with rfl | rfl <;> decide
theorem r_zreturn (pc : Nat) (hC : CxOK E C cc nL own h mc ms) {x r0 : Int} (hq : RQ E C mc ms Mi (some .boolean) (some (0, r0)) M0) (hcl : cl ≤ mc) (hsl : sl ≤ ms) (hd : decode cc pc = .ok (.ireturn, 1)) : Bk E C nL Mi (r0, M0) pc ls [(0, x)] M cl sl (retzm x M) := by
  intro ho hE hl hs H locs la hH hL hla
  unfold retzm at ho
  by_cases hz : x = 0 ∨ x = 1
  · rw [if_pos hz] at ho
    cases ho
    rw [oks_c] at hs
    obtain ⟨hx, hb, -⟩ := hC
    obtain ⟨h1, h2, h3⟩ := hq
    unfold cxW
    rw [h3]
    simp only [encs, List.map_cons, List.map_nil, enc_0]
    refine W.widen hcl hsl ?_
    exact W.zret hx hb h1 (nz _ hz) (fun t ht hW => ⟨by simp only [Option.map_some, enc_0], by rw [ht]; exact hH, hE, fun q e => by cases e; exact hs.1⟩) hL hd h2
  · rw [if_neg hz] at ho; cases ho
theorem r_zreturnP (pc : Nat) (hC : CxOK E C cc nL own h mc ms) {x r0 : Int} (hq : RQ E C mc ms Mi (some .boolean) (some (0, r0)) M) (hcl : cl ≤ mc) (hsl : sl ≤ ms) (hd : decode cc pc = .ok (.ireturn, 1)) : Bk E C nL Mi r0 pc ls [(0, x)] M cl sl (retz x) := by
  intro ho hE hl hs H locs la hH hL hla
  unfold retz at ho
  by_cases hz : x = 0 ∨ x = 1
  · rw [if_pos hz] at ho
    cases ho
    rw [oks_c] at hs
    obtain ⟨hx, hb, -⟩ := hC
    obtain ⟨h1, h2, h3⟩ := hq
    unfold cxW
    rw [h3]
    simp only [encs, List.map_cons, List.map_nil, enc_0]
    refine W.widen hcl hsl ?_
    exact W.zret hx hb h1 (nz _ hz) (fun t ht hW => ⟨by simp only [Option.map_some, enc_0], by rw [ht]; exact hH, hE, fun q e => by cases e; exact hs.1⟩) hL hd h2
  · rw [if_neg hz] at ho; cases ho
theorem r_lreturn (pc : Nat) (hC : CxOK E C cc nL own h mc ms) {x r0 : Int} (hq : RQ E C mc ms Mi (some .long) (some (1, r0)) M0) (hcl : cl ≤ mc) (hsl : sl ≤ ms) (hd : decode cc pc = .ok (.lreturn, 1)) : Bk E C nL Mi (r0, M0) pc ls [(1, x)] M cl sl (some (x, M)) := by
  intro ho hE hl hs H locs la hH hL hla
  cases ho
  rw [oks_c] at hs
  obtain ⟨hx, hb, -⟩ := hC
  obtain ⟨h1, h2, h3⟩ := hq
  unfold cxW
  rw [h3]
  simp only [encs, List.map_cons, List.map_nil, enc_1]
  refine W.widen hcl hsl ?_
  exact W.lret hx hb h1 (fun t ht hW => ⟨by simp only [Option.map_some, enc_1], by rw [ht]; exact hH, hE, fun q e => by cases e; exact hs.1⟩) hL hd h2
theorem r_lreturnP (pc : Nat) (hC : CxOK E C cc nL own h mc ms) {x r0 : Int} (hq : RQ E C mc ms Mi (some .long) (some (1, r0)) M) (hcl : cl ≤ mc) (hsl : sl ≤ ms) (hd : decode cc pc = .ok (.lreturn, 1)) : Bk E C nL Mi r0 pc ls [(1, x)] M cl sl (some x) := by
  intro ho hE hl hs H locs la hH hL hla
  cases ho
  rw [oks_c] at hs
  obtain ⟨hx, hb, -⟩ := hC
  obtain ⟨h1, h2, h3⟩ := hq
  unfold cxW
  rw [h3]
  simp only [encs, List.map_cons, List.map_nil, enc_1]
  refine W.widen hcl hsl ?_
  exact W.lret hx hb h1 (fun t ht hW => ⟨by simp only [Option.map_some, enc_1], by rw [ht]; exact hH, hE, fun q e => by cases e; exact hs.1⟩) hL hd h2
theorem r_areturn (pc : Nat) (hC : CxOK E C cc nL own h mc ms) {kd x r0 : Int} {R : String} (hk : 10 ≤ kd) (hq : RQ E C mc ms Mi (some (.object R)) (some (kd, r0)) M0) (hcl : cl ≤ mc) (hsl : sl ≤ ms) (hd : decode cc pc = .ok (.areturn, 1)) : Bk E C nL Mi (r0, M0) pc ls [(kd, x)] M cl sl (some (x, M)) := by
  intro ho hE hl hs H locs la hH hL hla
  cases ho
  rw [oks_c] at hs
  obtain ⟨hx, hb, -⟩ := hC
  obtain ⟨h1, h2, h3⟩ := hq
  unfold cxW
  rw [h3]
  simp only [encs, List.map_cons, List.map_nil]
  refine W.widen hcl hsl ?_
  exact W.aret hx hb h1 (Or.inl ⟨_, rfl⟩) (enc_ref (Or.inl hk)) (fun t ht hW => ⟨rfl, by rw [ht]; exact hH, hE, fun q e => by cases e; exact hs.1⟩) hL hd h2
theorem r_return (pc : Nat) (hC : CxOK E C cc nL own h mc ms) (hq : RQ E C mc ms Mi none none M0) (hcl : cl ≤ mc) (hsl : sl ≤ ms) (hd : decode cc pc = .ok (.return_, 1)) : Bk E C nL Mi M0 pc ls [] M cl sl (some M) := by
  intro ho hE hl hs H locs la hH hL hla
  cases ho
  obtain ⟨hx, hb, -⟩ := hC
  obtain ⟨h1, h2, h3⟩ := hq
  unfold cxW
  rw [h3]
  refine W.widen hcl hsl ?_
  exact W.vret hx hb h1 (fun t ht hW => ⟨rfl, by rw [ht]; exact hH, hE, fun q e => by cases e⟩) hL hd h2
/-! calls -/
theorem blindP {av : List (Int × Int)} : FrameBlind (va_Pc (encs E av) (fun U => HR E M U.heap ∧ KK E U)) := fun a U g mk q => ⟨q.1, q.2.1, KK.same (u := U) rfl q.2.2⟩
theorem preP (hC : CxOK E C cc nL own h mc ms) {av : List (Int × Int)} {H : Heap} (hH : HR E M H) : ∀ U : State, U.heap = H → (cS C).WarmedH U.vm → va_Pc (encs E av) (fun U => HR E M U.heap ∧ KK E U) (encs E av).toArray U := fun U hU hW => ⟨rfl, by rw [hU]; exact hH, KK.warm hW hC.2.2.2.2.2.1⟩
/-- what comes behind a call -/
theorem go_call {pc : Nat} {M' : Mem} {rv : Option (Int × Int)} {st0 : List Value} {a : Array Value} {mc' ms' : Nat} {H : Heap} {locs : List Loc} {la : Array Slot} (hL : ∀ q ∈ locs, E.1 ≤ q.base)
    (hr : va_Run C.1 C.2.1 C.2.2.1 C.2.2.2.1 C.2.2.2.2.1 C.2.2.2.2.2.1 C.2.2.2.2.2.2.1 C.2.2.2.2.2.2.2.1 C.2.2.2.2.2.2.2.2.1 C.2.2.2.2.2.2.2.2.2.1 H locs cl sl mc' ms' (F0 (cM C) pc la st0) (encs E st) (MemQ E M rv M' a) (fun q => E.1 ≤ q))
    (kk : ∀ (H' : Heap) (locs' : List Loc), HR E M' H' → Ext M M' → (∀ q, rv = some q → okx M' q.1 q.2) → (∀ q ∈ locs', E.1 ≤ q.base) → cxW C H' locs' (cl + mc') (sl + ms') (F0 (cM C) (pc + 3) la ((rv.map fun q => enc E q.1 q.2).toList ++ encs E st))) : cxW C H locs cl sl (F0 (cM C) pc la st0) := by
  intro T hT X
  obtain ⟨v, st₀, t, T', L, h0, X', hL2, e1, e2, ⟨hv, hH', hE', hok⟩, go⟩ := hr T hT X
  cases hv
  obtain ⟨t2, a1, b1⟩ := kk T'.heap (locs ++ L) (by rw [e1]; exact hH') hE' hok (fun q hq => by
    rcases List.mem_append.mp hq with h1 | h1
    · exact hL q h1
    · exact hL2 q h1) T' rfl X'
  exact ⟨t2, go t2 a1, b1⟩
def MnOK (y : MethodName) (c : ByteArray) (nL : Nat) (ret : Option FieldType) (n : Nat) : Prop := Cond.code y c nL ret ∈ Gw ∧ Cond.initialized y.cls ∈ Gw ∧ y.cls ≠ "java/lang/invoke/MethodHandle" ∧ y.cls ≠ "java/lang/invoke/VarHandle" ∧ (parseMethodDescriptor y.desc).map (fun d => d.parameters.length) = some n ∧ nL ≤ 81
theorem callB_mk (hC : CxOK E C cc nL own h mc ms) {y : MethodName} {c : ByteArray} {nL' n h' mc' ms' idx : Nat} {ret : Option FieldType} (hm : MnOK y c nL' ret n) (hh : h' + 1 ≤ h) (hlk : Cond.methodLink own idx y ∈ Gw) : CallB (cR C) (cS C) (cA C) own idx y c nL' ret (.code y c nL' ret :: Gw) { frames := h', cells := mc', slots := ms', locals := 100 * h' } mc' ms' n := by
  obtain ⟨hx, hb, hn, hown, hts, hKK, hfr, hlo, -⟩ := hC
  obtain ⟨m1, m2, m3, m4, m5, m6⟩ := hm
  refine callB_of (Ts := Gw) n hts (fun w hw => ?_) rfl rfl rfl (hts _ m2) (hts _ hlk) ⟨m3, m4, m5⟩ ⟨?_, ?_⟩
  · have h2 : w ∈ Gw := by
      rcases List.mem_cons.mp hw with e | e
      · rw [e]; exact m1
      · exact e
    exact ⟨h2, good_of_word (List.mem_filter.mp h2).2⟩
  · exact Nat.le_trans hh hfr
  · refine Nat.le_trans ?_ hlo
    show 8 + (nL' + 11) + 100 * h' ≤ 100 * h
    omega
theorem fixP (hC : CxOK E C cc nL own h mc ms) : CallFix C.1 (cM C) (cCode C) cc nL (cS C) (cA C) Gw own := ⟨hC.1, hC.2.1, hC.2.2.1, hC.2.2.2.1, hC.2.2.2.2.1⟩
theorem encs_app {a b : List (Int × Int)} : encs E (a ++ b) = encs E a ++ encs E b := by unfold encs; exact List.map_append
theorem encs_rev {a : List (Int × Int)} : encs E a.reverse = (encs E a).reverse := by unfold encs; exact List.map_reverse
/-- a call of a method of an object, on a receiver that is there -/
theorem run_V (hC : CxOK E C cc nL own h mc ms) {pc idx ci N nL' n h' mc' ms' : Nat} {y : MethodName} {c : ByteArray} {ret : Option FieldType} {T : u_T} {r : Int} {avr : List (Int × Int)} {M' : Mem} {rv : Option (Int × Int)} {H : Heap} {locs : List Loc} {la : Array Slot}
    (hm : MnOK y c nL' ret n) (hci : vwCl[ci]? = some (y.cls, T, N)) (hh : h' + 1 ≤ h) (hlk : Cond.methodLink own idx y ∈ Gw) (hin : Cond.instanceMethod y ∈ Gw) (hse : Cond.selects y.cls y y ∈ Gw) (hav : avr.length = n) (hst : catS st ≤ 8) (hcl : cl + mc' ≤ mc) (hsl : sl + ms' ≤ ms) (hd : decode cc pc = .ok (.invokevirtual idx, 3))
    (hM : Ct C.2.1 E y c nL' ret h' mc' ms' ((20 + (ci : Int), r) :: avr) M M' rv) (hH : HR E M H) (hr1 : 1 ≤ r) (hr2 : r ≤ M 0 0) (hr3 : M r (-2) = 20 + ci) (hla : la.size = nL) :
    va_Run C.1 C.2.1 C.2.2.1 C.2.2.2.1 C.2.2.2.2.1 C.2.2.2.2.2.1 C.2.2.2.2.2.2.1 C.2.2.2.2.2.2.2.1 C.2.2.2.2.2.2.2.2.1 C.2.2.2.2.2.2.2.2.2.1 H locs cl sl mc' ms' (F0 (cM C) pc la (encs E (avr.reverse ++ (20 + (ci : Int), r) :: st))) (encs E st) (MemQ E M rv M' (encs E ((20 + (ci : Int), r) :: avr)).toArray) (fun q => E.1 ≤ q) := by
  have htag : (10 : Int) ≤ 20 + (ci : Int) := by omega
  have e0 : encs E ((20 + (ci : Int), r) :: avr) = .ref (E.1 + (r - 1).toNat) :: encs E avr := by
    show enc E (20 + (ci : Int)) r :: encs E avr = _
    rw [enc_r htag, rf_pos hr1]
  obtain ⟨cell, q1, q2, q3, q4, q5⟩ := hH.obj hr1 hr2 hr3
  have hKK := hC.2.2.2.2.2.1
  obtain ⟨hS, hfc, -⟩ := hKK.2.1 ci _ hci
  have hpre := preP hC (av := (20 + (ci : Int), r) :: avr) hH
  have hbl := blindP (E := E) (M := M) (av := (20 + (ci : Int), r) :: avr)
  unfold Ct at hM
  rw [e0] at hM hpre hbl ⊢
  exact va_runV (fixP hC) hM ⟨callB_mk hC hm hh hlk, hC.2.2.2.2.1 _ hin, hC.2.2.2.2.1 _ hse⟩ ⟨hbl, ⟨cell, q1, by rw [q2]; rfl, by rw [q3]; exact hfc⟩, hpre⟩ rfl (by unfold encs; rw [List.length_map]; exact hav) hla
    (by show encs E (avr.reverse ++ (20 + (ci : Int), r) :: st) = (encs E avr).reverse ++ .ref (E.1 + (r - 1).toNat) :: encs E st
        rw [encs_app, encs_rev]; congr 1; show enc E (20 + (ci : Int)) r :: encs E st = _; rw [enc_r htag, rf_pos hr1])
    (lv_room (by rw [catS_enc]; exact hst)) hd ⟨Nat.le_trans hcl hC.2.2.2.2.2.2.2.2.1, Nat.le_trans hsl hC.2.2.2.2.2.2.2.2.2.1⟩
/-- a static call -/
theorem run_S (hC : CxOK E C cc nL own h mc ms) {pc idx nL' n h' mc' ms' : Nat} {y : MethodName} {c : ByteArray} {ret : Option FieldType} {av : List (Int × Int)} {M' : Mem} {rv : Option (Int × Int)} {H : Heap} {locs : List Loc} {la : Array Slot}
    (hm : MnOK y c nL' ret n) (hh : h' + 1 ≤ h) (hlk : Cond.methodLink own idx y ∈ Gw) (hin : Cond.static y ∈ Gw) (hav : av.length = n) (hst : catS st ≤ 8) (hcl : cl + mc' ≤ mc) (hsl : sl + ms' ≤ ms) (hd : decode cc pc = .ok (.invokestatic idx, 3))
    (hM : Ct C.2.1 E y c nL' ret h' mc' ms' av M M' rv) (hH : HR E M H) (hla : la.size = nL) :
    va_Run C.1 C.2.1 C.2.2.1 C.2.2.2.1 C.2.2.2.2.1 C.2.2.2.2.2.1 C.2.2.2.2.2.2.1 C.2.2.2.2.2.2.2.1 C.2.2.2.2.2.2.2.2.1 C.2.2.2.2.2.2.2.2.2.1 H locs cl sl mc' ms' (F0 (cM C) pc la (encs E (av.reverse ++ st))) (encs E st) (MemQ E M rv M' (encs E av).toArray) (fun q => E.1 ≤ q) := by
  exact va_runS (fixP hC) hM ⟨callB_mk hC hm hh hlk, hC.2.2.2.2.1 _ hin⟩ ⟨blindP, preP hC hH⟩ rfl (by unfold encs; rw [List.length_map]; exact hav) hla
    (by show encs E (av.reverse ++ st) = _; rw [encs_app, encs_rev]) (lv_room (by rw [catS_enc]; exact hst)) hd ⟨Nat.le_trans hcl hC.2.2.2.2.2.2.2.2.1, Nat.le_trans hsl hC.2.2.2.2.2.2.2.2.2.1⟩
/-- a constructor -/
theorem run_I (hC : CxOK E C cc nL own h mc ms) {pc idx nL' h' mc' ms' : Nat} {y : MethodName} {c : ByteArray} {kd r : Int} {M' : Mem} {rv : Option (Int × Int)} {H : Heap} {locs : List Loc} {la : Array Slot}
    (hm : MnOK y c nL' none 0) (hh : h' + 1 ≤ h) (hlk : Cond.methodLink own idx y ∈ Gw) (hy : y.name = "<init>") (hin : Cond.instanceMethod y ∈ Gw) (hst : catS st ≤ 8) (hcl : cl + mc' ≤ mc) (hsl : sl + ms' ≤ ms) (hd : decode cc pc = .ok (.invokespecial idx, 3))
    (hM : Ct C.2.1 E y c nL' none h' mc' ms' [(kd, r)] M M' rv) (hH : HR E M H) (hk : 10 ≤ kd) (hr1 : 1 ≤ r) (hla : la.size = nL) :
    va_Run C.1 C.2.1 C.2.2.1 C.2.2.2.1 C.2.2.2.2.1 C.2.2.2.2.2.1 C.2.2.2.2.2.2.1 C.2.2.2.2.2.2.2.1 C.2.2.2.2.2.2.2.2.1 C.2.2.2.2.2.2.2.2.2.1 H locs cl sl mc' ms' (F0 (cM C) pc la (encs E ((kd, r) :: st))) (encs E st) (MemQ E M rv M' (encs E [(kd, r)]).toArray) (fun q => E.1 ≤ q) := by
  have e0 : encs E [(kd, r)] = [.ref (E.1 + (r - 1).toNat)] := by
    show [enc E kd r] = _
    rw [enc_r hk, rf_pos hr1]
  have hpre := preP hC (av := [(kd, r)]) hH
  have hbl := blindP (E := E) (M := M) (av := [(kd, r)])
  unfold Ct at hM
  rw [e0] at hM hpre hbl ⊢
  exact va_runI (As := []) (fixP hC) hM ⟨callB_mk hC hm hh hlk, hy, hC.2.2.2.2.1 _ hin⟩ ⟨hbl, hpre⟩ rfl rfl hla
    (by show enc E kd r :: encs E st = _; rw [enc_r hk, rf_pos hr1]; rfl)
    (lv_room (by rw [catS_enc]; exact hst)) hd ⟨Nat.le_trans hcl hC.2.2.2.2.2.2.2.2.1, Nat.le_trans hsl hC.2.2.2.2.2.2.2.2.2.1⟩
/-- a nest mate's constructor -/
theorem run_IN (hC : CxOK E C cc nL own h mc ms) {pc idx nL' h' mc' ms' : Nat} {y : MethodName} {c : ByteArray} {kd r : Int} {M' : Mem} {rv : Option (Int × Int)} {H : Heap} {locs : List Loc} {la : Array Slot}
    (hm : MnOK y c nL' none 0) (hh : h' + 1 ≤ h) (hlk : (own, idx, y) ∈ nestL) (hy : y.name = "<init>") (hin : Cond.instanceMethod y ∈ Gw) (hst : catS st ≤ 8) (hcl : cl + mc' ≤ mc) (hsl : sl + ms' ≤ ms) (hd : decode cc pc = .ok (.invokespecial idx, 3))
    (hM : Ct C.2.1 E y c nL' none h' mc' ms' [(kd, r)] M M' rv) (hH : HR E M H) (hk : 10 ≤ kd) (hr1 : 1 ≤ r) (hla : la.size = nL) :
    va_Run C.1 C.2.1 C.2.2.1 C.2.2.2.1 C.2.2.2.2.1 C.2.2.2.2.2.1 C.2.2.2.2.2.2.1 C.2.2.2.2.2.2.2.1 C.2.2.2.2.2.2.2.2.1 C.2.2.2.2.2.2.2.2.2.1 H locs cl sl mc' ms' (F0 (cM C) pc la (encs E ((kd, r) :: st))) (encs E st) (MemQ E M rv M' (encs E [(kd, r)]).toArray) (fun q => E.1 ≤ q) := by
  have e0 : encs E [(kd, r)] = [.ref (E.1 + (r - 1).toNat)] := by
    show [enc E kd r] = _
    rw [enc_r hk, rf_pos hr1]
  have hpre := preP hC (av := [(kd, r)]) hH
  have hbl := blindP (E := E) (M := M) (av := [(kd, r)])
  have hcb : va_CN (cR C) (cS C) (cA C) own idx y "WaterTurns" c nL' none (.code y c nL' none :: Gw) { frames := h', cells := mc', slots := ms', locals := 100 * h' } mc' ms' 0 := by
    have hts := hC.2.2.2.2.1
    obtain ⟨m1, m2, m3, m4, m5, m6⟩ := hm
    refine va_cnB (Ts := Gw) 0 hts (fun w hw => ?_) rfl rfl rfl (hC.2.2.2.2.2.1.2.2.2.1 _ hlk) (hts _ m2) ⟨m3, m4, m5⟩ ⟨?_, ?_⟩
    · have h2 : w ∈ Gw := by
        rcases List.mem_cons.mp hw with e | e
        · rw [e]; exact m1
        · exact e
      exact ⟨h2, good_of_word (List.mem_filter.mp h2).2⟩
    · exact Nat.le_trans hh hC.2.2.2.2.2.2.1
    · refine Nat.le_trans ?_ hC.2.2.2.2.2.2.2.1
      show 8 + (nL' + 11) + 100 * h' ≤ 100 * h
      omega
  unfold Ct at hM
  rw [e0] at hM hpre hbl ⊢
  exact va_runIN (As := []) (fixP hC) hM ⟨hcb, hy, hC.2.2.2.2.1 _ hin⟩ ⟨hbl, hpre⟩ rfl rfl hla
    (by show enc E kd r :: encs E st = _; rw [enc_r hk, rf_pos hr1]; rfl)
    (lv_room (by rw [catS_enc]; exact hst)) hd ⟨Nat.le_trans hcl hC.2.2.2.2.2.2.2.2.1, Nat.le_trans hsl hC.2.2.2.2.2.2.2.2.2.1⟩
end ROWS
