def nn {ρ : Type} (r : Int) (o : Option ρ) : Option ρ := if r = 0 then none else o
def MtI (y : MethodName) (c : ByteArray) (nL : Nat) (ret : Option FieldType) (h mc ms : Nat) (av : List (Int × Int)) (M : Mem) (rk : Int) (o : Option (Int × Mem)) : Prop := ∀ (l : Launch) (E : EnvT) (r : Int) (M' : Mem), o = some (r, M') → oks M av → Ct l E y c nL ret h mc ms av M M' (some (rk, r))
def MtP (y : MethodName) (c : ByteArray) (nL : Nat) (ret : Option FieldType) (h mc ms : Nat) (av : List (Int × Int)) (M : Mem) (rk : Int) (o : Option Int) : Prop := ∀ (l : Launch) (E : EnvT) (r : Int), o = some r → oks M av → Ct l E y c nL ret h mc ms av M M (some (rk, r))
def MtV (y : MethodName) (c : ByteArray) (nL : Nat) (ret : Option FieldType) (h mc ms : Nat) (av : List (Int × Int)) (M : Mem) (o : Option Mem) : Prop := ∀ (l : Launch) (E : EnvT) (M' : Mem), o = some M' → oks M av → Ct l E y c nL ret h mc ms av M M' none
def VlOK (own : String) (idx : Nat) (t : Int) (y : MethodName) (c : ByteArray) (nL : Nat) (ret : Option FieldType) (n ci : Nat) : Prop := t = 20 + ci ∧ MnOK y c nL ret n ∧ (∃ T N, vwCl[ci]? = some (y.cls, T, N)) ∧ Cond.methodLink own idx y ∈ Gw ∧ Cond.instanceMethod y ∈ Gw ∧ Cond.selects y.cls y y ∈ Gw
def SlOK (own : String) (idx : Nat) (y : MethodName) (c : ByteArray) (nL : Nat) (ret : Option FieldType) (n : Nat) : Prop := MnOK y c nL ret n ∧ Cond.methodLink own idx y ∈ Gw ∧ Cond.static y ∈ Gw
def IlOK (own : String) (idx : Nat) (y : MethodName) (c : ByteArray) (nL : Nat) : Prop := MnOK y c nL none 0 ∧ (Cond.methodLink own idx y ∈ Gw ∨ (own, idx, y) ∈ nestL) ∧ y.name = "<init>" ∧ Cond.instanceMethod y ∈ Gw
section ROWS
variable {E : EnvT} {C : Cx} {ρ : Type} {x0 : ρ} {Mi M M0 : Mem} {cc : ByteArray} {nL h mc ms cl sl : Nat} {own : String} {ls : List (Nat × Int × Int)} {o : Option ρ}
theorem r_nn {st : List (Int × Int)} {pc : Nat} {r : Int} (kk : r ≠ 0 → Bk E C nL Mi x0 pc ls st M cl sl o) : Bk E C nL Mi x0 pc ls st M cl sl (nn r o) := by
  intro ho
  unfold nn at ho
  by_cases hr : r = 0
  · rw [if_pos hr] at ho; cases ho
  · rw [if_neg hr] at ho; exact kk hr ho
theorem mk_I {y : MethodName} {c : ByteArray} {nL : Nat} {ret : Option FieldType} {h mc ms : Nat} {av : List (Int × Int)} {M : Mem} {rk : Int} {o : Option (Int × Mem)} (hy : plainFor y = true) (hlen : catS av ≤ nL) (body : ∀ (E : EnvT) (C : Cx) (r : Int) (M' : Mem), CxOK E C c nL y.cls h mc ms → RQ E C mc ms M ret (some (rk, r)) M' → (cMeth C).name = y.name → Bk E C nL M (r, M') 0 (largs 0 av) [] M 0 0 o) : MtI y c nL ret h mc ms av M rk o :=
  fun l E r M' ho hav => mk_Ct hy hav hlen ho (fun C h1 h2 h3 => body E C r M' h1 h2 h3)
theorem mk_P {y : MethodName} {c : ByteArray} {nL : Nat} {ret : Option FieldType} {h mc ms : Nat} {av : List (Int × Int)} {M : Mem} {rk : Int} {o : Option Int} (hy : plainFor y = true) (hlen : catS av ≤ nL) (body : ∀ (E : EnvT) (C : Cx) (r : Int), CxOK E C c nL y.cls h mc ms → RQ E C mc ms M ret (some (rk, r)) M → (cMeth C).name = y.name → Bk E C nL M r 0 (largs 0 av) [] M 0 0 o) : MtP y c nL ret h mc ms av M rk o :=
  fun l E r ho hav => mk_Ct hy hav hlen ho (fun C h1 h2 h3 => body E C r h1 h2 h3)
theorem mk_V {y : MethodName} {c : ByteArray} {nL : Nat} {ret : Option FieldType} {h mc ms : Nat} {av : List (Int × Int)} {M : Mem} {o : Option Mem} (hy : plainFor y = true) (hlen : catS av ≤ nL) (body : ∀ (E : EnvT) (C : Cx) (M' : Mem), CxOK E C c nL y.cls h mc ms → RQ E C mc ms M ret none M' → (cMeth C).name = y.name → Bk E C nL M M' 0 (largs 0 av) [] M 0 0 o) : MtV y c nL ret h mc ms av M o :=
  fun l E M' ho hav => mk_Ct hy hav hlen ho (fun C h1 h2 h3 => body E C M' h1 h2 h3)
theorem oks_sp {st avr : List (Int × Int)} {t r : Int} (hs : oks M (avr.reverse ++ (t, r) :: st)) : oks M ((t, r) :: avr) ∧ oks M st ∧ okx M t r := by
  have h1 : okx M t r := hs (t, r) (List.mem_append_right _ List.mem_cons_self)
  exact ⟨oks_c.mpr ⟨h1, fun q hq => hs q (List.mem_append_left _ (List.mem_reverse.mpr hq))⟩, fun q hq => hs q (List.mem_append_right _ (List.mem_cons_of_mem _ hq)), h1⟩
theorem oks_ss {st av : List (Int × Int)} (hs : oks M (av.reverse ++ st)) : oks M av ∧ oks M st :=
  ⟨fun q hq => hs q (List.mem_append_left _ (List.mem_reverse.mpr hq)), fun q hq => hs q (List.mem_append_right _ hq)⟩
theorem r_callVI (pc : Nat) (hC : CxOK E C cc nL own h mc ms) {idx nL' n ci h' mc' ms' : Nat} {y : MethodName} {c : ByteArray} {ret : Option FieldType} {t r rk : Int} {o1 : Option (Int × Mem)} {k : Int → Mem → Option ρ} {stk : List (Int × Int)} (avr st : List (Int × Int)) (hstk : stk = avr.reverse ++ (t, r) :: st) (hv : VlOK own idx t y c nL' ret n ci) (hav : avr.length = n) (hr : r ≠ 0) (hh : h' + 1 ≤ h) (hst : catS st ≤ 8) (hcl : cl + mc' ≤ mc) (hsl : sl + ms' ≤ ms) (hd : decode cc pc = .ok (.invokevirtual idx, 3)) (hM : MtI y c nL' ret h' mc' ms' ((t, r) :: avr) M rk o1)
    (kk : ∀ v M', Bk E C nL Mi x0 (pc + 3) ls ((rk, v) :: st) M' (cl + mc') (sl + ms') (k v M')) : Bk E C nL Mi x0 pc ls stk M cl sl (call o1 k) := by
  intro ho hE hl hs H locs la hH hL hla
  subst hstk
  cases o1 with
  | none => cases ho
  | some q =>
    obtain ⟨s1, s2, s3⟩ := oks_sp hs
    have hM2 := hM C.2.1 E q.1 q.2 rfl s1
    obtain ⟨rfl, m1, ⟨T, N, m2⟩, m3, m4, m5⟩ := hv
    obtain ⟨r1, r2, r3⟩ := okx_ref s3 (by omega) hr
    exact go_call hL (run_V hC m1 m2 hh m3 m4 m5 hav hst hcl hsl hd hM2 hH r1 r2 r3 hla.1) (fun H' locs' hH' hE' hok hL' => kk q.1 q.2 ho (hE.tr hE') (okl_ext hE' hl) (oks_c.mpr ⟨hok _ rfl, oks_ext hE' s2⟩) H' locs' la hH' hL' hla)
theorem r_callSI (pc : Nat) (hC : CxOK E C cc nL own h mc ms) {idx nL' n h' mc' ms' : Nat} {y : MethodName} {c : ByteArray} {ret : Option FieldType} {rk : Int} {o1 : Option (Int × Mem)} {k : Int → Mem → Option ρ} {stk : List (Int × Int)} (av st : List (Int × Int)) (hstk : stk = av.reverse ++ st) (hv : SlOK own idx y c nL' ret n) (hav : av.length = n) (hh : h' + 1 ≤ h) (hst : catS st ≤ 8) (hcl : cl + mc' ≤ mc) (hsl : sl + ms' ≤ ms) (hd : decode cc pc = .ok (.invokestatic idx, 3)) (hM : MtI y c nL' ret h' mc' ms' av M rk o1)
    (kk : ∀ v M', Bk E C nL Mi x0 (pc + 3) ls ((rk, v) :: st) M' (cl + mc') (sl + ms') (k v M')) : Bk E C nL Mi x0 pc ls stk M cl sl (call o1 k) := by
  intro ho hE hl hs H locs la hH hL hla
  subst hstk
  cases o1 with
  | none => cases ho
  | some q =>
    obtain ⟨s1, s2⟩ := oks_ss hs
    have hM2 := hM C.2.1 E q.1 q.2 rfl s1
    obtain ⟨m1, m3, m4⟩ := hv
    exact go_call hL (run_S hC m1 hh m3 m4 hav hst hcl hsl hd hM2 hH hla.1) (fun H' locs' hH' hE' hok hL' => kk q.1 q.2 ho (hE.tr hE') (okl_ext hE' hl) (oks_c.mpr ⟨hok _ rfl, oks_ext hE' s2⟩) H' locs' la hH' hL' hla)
theorem r_callVP (pc : Nat) (hC : CxOK E C cc nL own h mc ms) {idx nL' n ci h' mc' ms' : Nat} {y : MethodName} {c : ByteArray} {ret : Option FieldType} {t r rk : Int} {o1 : Option Int} {k : Int → Option ρ} {stk : List (Int × Int)} (avr st : List (Int × Int)) (hstk : stk = avr.reverse ++ (t, r) :: st) (hv : VlOK own idx t y c nL' ret n ci) (hav : avr.length = n) (hr : r ≠ 0) (hh : h' + 1 ≤ h) (hst : catS st ≤ 8) (hcl : cl + mc' ≤ mc) (hsl : sl + ms' ≤ ms) (hd : decode cc pc = .ok (.invokevirtual idx, 3)) (hM : MtP y c nL' ret h' mc' ms' ((t, r) :: avr) M rk o1)
    (kk : ∀ v, Bk E C nL Mi x0 (pc + 3) ls ((rk, v) :: st) M (cl + mc') (sl + ms') (k v)) : Bk E C nL Mi x0 pc ls stk M cl sl (callp o1 k) := by
  intro ho hE hl hs H locs la hH hL hla
  subst hstk
  cases o1 with
  | none => cases ho
  | some q =>
    obtain ⟨s1, s2, s3⟩ := oks_sp hs
    have hM2 := hM C.2.1 E q rfl s1
    obtain ⟨rfl, m1, ⟨T, N, m2⟩, m3, m4, m5⟩ := hv
    obtain ⟨r1, r2, r3⟩ := okx_ref s3 (by omega) hr
    exact go_call hL (run_V hC m1 m2 hh m3 m4 m5 hav hst hcl hsl hd hM2 hH r1 r2 r3 hla.1) (fun H' locs' hH' hE' hok hL' => kk q ho hE hl (oks_c.mpr ⟨hok _ rfl, s2⟩) H' locs' la hH' hL' hla)
theorem r_callSP (pc : Nat) (hC : CxOK E C cc nL own h mc ms) {idx nL' n h' mc' ms' : Nat} {y : MethodName} {c : ByteArray} {ret : Option FieldType} {rk : Int} {o1 : Option Int} {k : Int → Option ρ} {stk : List (Int × Int)} (av st : List (Int × Int)) (hstk : stk = av.reverse ++ st) (hv : SlOK own idx y c nL' ret n) (hav : av.length = n) (hh : h' + 1 ≤ h) (hst : catS st ≤ 8) (hcl : cl + mc' ≤ mc) (hsl : sl + ms' ≤ ms) (hd : decode cc pc = .ok (.invokestatic idx, 3)) (hM : MtP y c nL' ret h' mc' ms' av M rk o1)
    (kk : ∀ v, Bk E C nL Mi x0 (pc + 3) ls ((rk, v) :: st) M (cl + mc') (sl + ms') (k v)) : Bk E C nL Mi x0 pc ls stk M cl sl (callp o1 k) := by
  intro ho hE hl hs H locs la hH hL hla
  subst hstk
  cases o1 with
  | none => cases ho
  | some q =>
    obtain ⟨s1, s2⟩ := oks_ss hs
    have hM2 := hM C.2.1 E q rfl s1
    obtain ⟨m1, m3, m4⟩ := hv
    exact go_call hL (run_S hC m1 hh m3 m4 hav hst hcl hsl hd hM2 hH hla.1) (fun H' locs' hH' hE' hok hL' => kk q ho hE hl (oks_c.mpr ⟨hok _ rfl, s2⟩) H' locs' la hH' hL' hla)
theorem r_callVV (pc : Nat) (hC : CxOK E C cc nL own h mc ms) {idx nL' n ci h' mc' ms' : Nat} {y : MethodName} {c : ByteArray} {ret : Option FieldType} {t r : Int} {o1 : Option Mem} {k : Mem → Option ρ} {stk : List (Int × Int)} (avr st : List (Int × Int)) (hstk : stk = avr.reverse ++ (t, r) :: st) (hv : VlOK own idx t y c nL' ret n ci) (hav : avr.length = n) (hr : r ≠ 0) (hh : h' + 1 ≤ h) (hst : catS st ≤ 8) (hcl : cl + mc' ≤ mc) (hsl : sl + ms' ≤ ms) (hd : decode cc pc = .ok (.invokevirtual idx, 3)) (hM : MtV y c nL' ret h' mc' ms' ((t, r) :: avr) M o1)
    (kk : ∀ M', Bk E C nL Mi x0 (pc + 3) ls st M' (cl + mc') (sl + ms') (k M')) : Bk E C nL Mi x0 pc ls stk M cl sl (callv o1 k) := by
  intro ho hE hl hs H locs la hH hL hla
  subst hstk
  cases o1 with
  | none => cases ho
  | some q =>
    obtain ⟨s1, s2, s3⟩ := oks_sp hs
    have hM2 := hM C.2.1 E q rfl s1
    obtain ⟨rfl, m1, ⟨T, N, m2⟩, m3, m4, m5⟩ := hv
    obtain ⟨r1, r2, r3⟩ := okx_ref s3 (by omega) hr
    exact go_call hL (run_V hC m1 m2 hh m3 m4 m5 hav hst hcl hsl hd hM2 hH r1 r2 r3 hla.1) (fun H' locs' hH' hE' hok hL' => kk q ho (hE.tr hE') (okl_ext hE' hl) (oks_ext hE' s2) H' locs' la hH' hL' hla)
theorem r_callSV (pc : Nat) (hC : CxOK E C cc nL own h mc ms) {idx nL' n h' mc' ms' : Nat} {y : MethodName} {c : ByteArray} {ret : Option FieldType} {o1 : Option Mem} {k : Mem → Option ρ} {stk : List (Int × Int)} (av st : List (Int × Int)) (hstk : stk = av.reverse ++ st) (hv : SlOK own idx y c nL' ret n) (hav : av.length = n) (hh : h' + 1 ≤ h) (hst : catS st ≤ 8) (hcl : cl + mc' ≤ mc) (hsl : sl + ms' ≤ ms) (hd : decode cc pc = .ok (.invokestatic idx, 3)) (hM : MtV y c nL' ret h' mc' ms' av M o1)
    (kk : ∀ M', Bk E C nL Mi x0 (pc + 3) ls st M' (cl + mc') (sl + ms') (k M')) : Bk E C nL Mi x0 pc ls stk M cl sl (callv o1 k) := by
  intro ho hE hl hs H locs la hH hL hla
  subst hstk
  cases o1 with
  | none => cases ho
  | some q =>
    obtain ⟨s1, s2⟩ := oks_ss hs
    have hM2 := hM C.2.1 E q rfl s1
    obtain ⟨m1, m3, m4⟩ := hv
    exact go_call hL (run_S hC m1 hh m3 m4 hav hst hcl hsl hd hM2 hH hla.1) (fun H' locs' hH' hE' hok hL' => kk q ho (hE.tr hE') (okl_ext hE' hl) (oks_ext hE' s2) H' locs' la hH' hL' hla)
theorem r_ctor (pc : Nat) (hC : CxOK E C cc nL own h mc ms) {idx nL' h' mc' ms' : Nat} {y : MethodName} {c : ByteArray} {t r : Int} {o1 : Option Mem} {k : Mem → Option ρ} {st : List (Int × Int)} (hv : IlOK own idx y c nL') (ht : 10 ≤ t) (hr : r ≠ 0) (hh : h' + 1 ≤ h) (hst : catS st ≤ 8) (hcl : cl + mc' ≤ mc) (hsl : sl + ms' ≤ ms) (hd : decode cc pc = .ok (.invokespecial idx, 3)) (hM : MtV y c nL' none h' mc' ms' [(t, r)] M o1)
    (kk : ∀ M', Bk E C nL Mi x0 (pc + 3) ls st M' (cl + mc') (sl + ms') (k M')) : Bk E C nL Mi x0 pc ls ((t, r) :: st) M cl sl (callv o1 k) := by
  intro ho hE hl hs H locs la hH hL hla
  cases o1 with
  | none => cases ho
  | some q =>
    rw [oks_c] at hs
    have hM2 := hM C.2.1 E q rfl (oks_c.mpr ⟨hs.1, fun q hq => by cases hq⟩)
    obtain ⟨r1, r2, r3⟩ := okx_ref hs.1 ht hr
    obtain ⟨m1, m2, m3, m4⟩ := hv
    rcases m2 with m2 | m2
    · exact go_call hL (run_I hC m1 hh m2 m3 m4 hst hcl hsl hd hM2 hH ht r1 hla.1) (fun H' locs' hH' hE' hok hL' => kk q ho (hE.tr hE') (okl_ext hE' hl) (oks_ext hE' hs.2) H' locs' la hH' hL' hla)
    · exact go_call hL (run_IN hC m1 hh m2 m3 m4 hst hcl hsl hd hM2 hH ht r1 hla.1) (fun H' locs' hH' hE' hok hL' => kk q ho (hE.tr hE') (okl_ext hE' hl) (oks_ext hE' hs.2) H' locs' la hH' hL' hla)
theorem r_objinit (pc : Nat) (hC : CxOK E C cc nL own h mc ms) {idx : Nat} {t r : Int} {st : List (Int × Int)} (hlk : Cond.methodLink own idx objectInit ∈ Gw) (hin : Cond.instanceMethod objectInit ∈ Gw) (hco : Cond.code objectInit ⟨#[0xb1]⟩ 1 none ∈ Gw) (ht : 10 ≤ t) (hr : r ≠ 0) (hh : 1 ≤ h) (hst : catS st ≤ 8) (hd : decode cc pc = .ok (.invokespecial idx, 3))
    (kk : Bk E C nL Mi x0 (pc + 3) ls st M cl sl o) : Bk E C nL Mi x0 pc ls ((t, r) :: st) M cl sl o := by
  intro ho hE hl hs H locs la hH hL hla
  rw [oks_c] at hs
  obtain ⟨r1, r2, r3⟩ := okx_ref hs.1 ht hr
  have k := kk ho hE hl hs.2 H locs la hH hL hla
  obtain ⟨hx, hb, hn, hown, hts, hKK, hfr, hlo, -⟩ := hC
  show cxW C H locs cl sl (F0 (cM C) pc la (enc E t r :: encs E st))
  rw [enc_r ht, rf_pos r1]
  refine W.objInit hx hb hown (hts _ hlk) (hts _ hin) (hts _ hco) rfl (by rw [hn]; exact hla.1) rfl hd (Nat.le_trans hh hfr) ?_ k
  show 2 * 0 + _ + 12 ≤ _
  rw [catS_enc]
  have : 100 * h ≤ (cR C).locals := hlo
  have h3 : C.2.2.2.1.locals = (cR C).locals := rfl
  omega
end ROWS
