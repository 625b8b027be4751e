/-! fields, arrays, new cells -/
def tyK (ty : FieldType) (kd : Int) : Prop := (ty = .int ∧ kd = 0) ∨ (ty = .long ∧ kd = 1) ∨ (ty = .boolean ∧ kd = 3) ∨ (10 ≤ kd ∧ ((∃ n, ty = .object n) ∨ ∃ t, ty = .array t))
def ClOK (ci : Nat) (R : String) (T : u_T) (N : Nat) (ty : Nat → FieldType) : Prop := vwCl[ci]? = some (R, T, N) ∧ fN ci = N ∧ (∀ w ∈ u_ws R T N, w ∈ Gw) ∧ (∀ k, k < N → parseFieldDescriptor (T k).2.2.1 = some (ty k)) ∧ (∀ k, k < N → tyK (ty k) (fk ci k))
def FdOK (ci k : Nat) (t ki : Int) (R nm ds : String) (fin : Bool) (kd : Int) : Prop := t = 20 + ci ∧ ki = k ∧ ∃ T N ty, ClOK ci R T N ty ∧ k < N ∧ T k = (R, nm, ds, fin) ∧ fk ci k = kd
theorem fit_ok {E : EnvT} {M : Mem} {ty : FieldType} {kd x : Int} (h : tyK ty kd) (ho : okx M kd x) : narrow ty (enc E kd x) = enc E kd x ∧ fits ty (enc E kd x) = true := by
  rcases h with ⟨rfl, rfl⟩ | ⟨rfl, rfl⟩ | ⟨rfl, rfl⟩ | ⟨hk, hty⟩
  · rw [enc_0]; exact ⟨rfl, rfl⟩
  · rw [enc_1]; exact ⟨rfl, rfl⟩
  · rw [enc_3]
    rcases okx_3.mp ho with rfl | rfl <;> exact ⟨by decide, by decide⟩
  · rcases enc_ref (E := E) (x := x) (Or.inl hk) with e | ⟨a, e⟩ <;> rw [e] <;> rcases hty with ⟨n, rfl⟩ | ⟨t, rfl⟩ <;> exact ⟨rfl, rfl⟩
theorem dfl_ok {E : EnvT} {ty : FieldType} {kd : Int} (h : tyK ty kd) : defaultValue ty = enc E kd 0 := by
  rcases h with ⟨rfl, rfl⟩ | ⟨rfl, rfl⟩ | ⟨rfl, rfl⟩ | ⟨hk, hty⟩
  · rw [enc_0]; rfl
  · rw [enc_1]; rfl
  · rw [enc_3]; rfl
  · rw [enc_r hk]
    rcases hty with ⟨n, rfl⟩ | ⟨t, rfl⟩ <;> simp [defaultValue, rf]
theorem ok_0 {M : Mem} {ty : FieldType} {kd : Int} (h : tyK ty kd) : okx M kd 0 := by
  rcases h with ⟨rfl, rfl⟩ | ⟨rfl, rfl⟩ | ⟨rfl, rfl⟩ | ⟨hk, hty⟩
  · exact okx_0.mpr (by unfold r32; omega)
  · exact okx_1.mpr (by unfold r64; omega)
  · exact okx_3.mpr (Or.inl rfl)
  · exact okx_mk hk (Or.inl rfl)
theorem locs_c {b a k : Nat} {locs : List Loc} (h : ∀ q ∈ locs, b ≤ q.base) (ha : b ≤ a) : ∀ q ∈ locs ++ [⟨a, k⟩], b ≤ q.base := by
  intro q hq
  rcases List.mem_append.mp hq with h1 | h1
  · exact h q h1
  · rw [List.mem_singleton] at h1; subst h1; exact ha
section ROWS
variable {E : EnvT} {C : Cx} {ρ : Type} {x0 : ρ} {Mi M : Mem} {cc : ByteArray} {nL h mc ms cl sl : Nat} {own : String} {ls : List (Nat × Int × Int)} {st : List (Int × Int)} {o : Option ρ}
theorem get_core (hC : CxOK E C cc nL own h mc ms) {pc ci k idx : Nat} {t ki kd r : Int} {R nm ds : String} {fin : Bool} (hF : FdOK ci k t ki R nm ds fin kd) (hlk : Cond.fieldLink own idx R nm ds ∈ Gw) (hd : decode cc pc = .ok (.getfield idx, 3)) {H : Heap} {locs : List Loc} {la : Array Slot} {rest : List Value} (hH : HR E M H) (ht : okx M t r) (hr : r ≠ 0)
    (kk : okx M kd (M r ki) → cxW C H locs cl sl (F0 (cM C) (pc + 3) la (enc E kd (M r ki) :: rest))) : cxW C H locs cl sl (F0 (cM C) pc la (enc E t r :: rest)) := by
  obtain ⟨hx, hb, hn, hown, hts, hKK, -⟩ := hC
  obtain ⟨rfl, rfl, T, N, ty, ⟨c1, c2, c3, c4, c5⟩, hk, hT, hfk⟩ := hF
  have htag : (10 : Int) ≤ 20 + (ci : Int) := by omega
  obtain ⟨r1, r2, r3⟩ := okx_ref ht htag hr
  obtain ⟨cell, q1, q2, q3, q4, q5⟩ := hH.obj r1 r2 r3
  obtain ⟨hS, hfc, kC, hkC, hkind⟩ := hKK.2.1 ci _ c1
  obtain ⟨cf, kf, fi, f, hi, hsl⟩ := hS k hk
  have hst := (u_facts hfc hkC (u_lays hts c3 hk) hi).1
  obtain ⟨q6, q7⟩ := q5 k (by rw [c2]; exact hk)
  rw [hfk] at q6 q7
  dsimp only at hi
  rw [hT] at hi
  rw [enc_r htag, rf_pos r1]
  refine W.getf hx hb hown (hts _ hlk) hi hst q1 (by rw [q2]; exact fun h => by cases h) (v := enc E kd (M r k)) (by rw [hsl]; exact q7) rfl rfl hd (kk q6)
theorem r_get (pc : Nat) (hC : CxOK E C cc nL own h mc ms) {ci k idx : Nat} {t ki kd r : Int} {R nm ds : String} {fin : Bool} {f : Int → Option ρ} (hF : FdOK ci k t ki R nm ds fin kd) (hlk : Cond.fieldLink own idx R nm ds ∈ Gw) (hd : decode cc pc = .ok (.getfield idx, 3))
    (kk : ∀ v, Bk E C nL Mi x0 (pc + 3) ls ((kd, v) :: st) M cl sl (f v)) : Bk E C nL Mi x0 pc ls ((t, r) :: st) M cl sl (getf M r ki f) := by
  intro ho hE hl hs H locs la hH hL hla
  rw [oks_c] at hs
  unfold getf at ho
  by_cases hr : r = 0
  · rw [if_pos hr] at ho; cases ho
  rw [if_neg hr] at ho
  exact get_core hC hF hlk hd hH hs.1 hr (fun q => kk _ ho hE hl (oks_c.mpr ⟨q, hs.2⟩) H locs la hH hL hla)
theorem r_getz (pc : Nat) (hC : CxOK E C cc nL own h mc ms) {ci k idx : Nat} {t ki r : Int} {R nm ds : String} {fin : Bool} {f : Int → Option ρ} (hF : FdOK ci k t ki R nm ds fin 3) (hlk : Cond.fieldLink own idx R nm ds ∈ Gw) (hd : decode cc pc = .ok (.getfield idx, 3))
    (kk : ∀ v, Bk E C nL Mi x0 (pc + 3) ls ((0, v) :: st) M cl sl (f v)) : Bk E C nL Mi x0 pc ls ((t, r) :: st) M cl sl (getf M r ki f) := by
  intro ho hE hl hs H locs la hH hL hla
  rw [oks_c] at hs
  unfold getf at ho
  by_cases hr : r = 0
  · rw [if_pos hr] at ho; cases ho
  rw [if_neg hr] at ho
  refine get_core hC hF hlk hd hH hs.1 hr (fun q => ?_)
  have q3 : r32 (M r ki) := by
    unfold r32
    rcases okx_3.mp q with e | e <;> rw [e] <;> decide
  have k := kk _ ho hE hl (oks_c.mpr ⟨okx_0.mpr q3, hs.2⟩) H locs la hH hL hla
  simp only [encs, List.map_cons, enc_0] at k ⊢
  rw [enc_3]
  exact k
theorem put_core (hC : CxOK E C cc nL own h mc ms) {pc ci k idx : Nat} {t ki kd r x : Int} {R nm ds : String} (hF : FdOK ci k t ki R nm ds false kd) (hlk : Cond.fieldLink own idx R nm ds ∈ Gw) (hd : decode cc pc = .ok (.putfield idx, 3)) {H : Heap} {locs : List Loc} {la : Array Slot} {rest : List Value} (hH : HR E M H) (hL : ∀ q ∈ locs, E.1 ≤ q.base) (ht : okx M t r) (hr : r ≠ 0) (hv : okx M kd x)
    (kk : ∀ (H' : Heap) (locs' : List Loc), HR E (upd2 M r ki x) H' → (∀ q ∈ locs', E.1 ≤ q.base) → cxW C H' locs' cl sl (F0 (cM C) (pc + 3) la rest)) : cxW C H locs cl sl (F0 (cM C) pc la (enc E kd x :: enc E t r :: rest)) := by
  obtain ⟨hx, hb, hn, hown, hts, hKK, -⟩ := hC
  obtain ⟨rfl, rfl, T, N, ty, ⟨c1, c2, c3, c4, c5⟩, hk, hT, hfk⟩ := hF
  have htag : (10 : Int) ≤ 20 + (ci : Int) := by omega
  obtain ⟨r1, r2, r3⟩ := okx_ref ht htag hr
  obtain ⟨cell, q1, q2, q3, q4, q5⟩ := hH.obj r1 r2 r3
  obtain ⟨hS, hfc, kC, hkC, hkind⟩ := hKK.2.1 ci _ c1
  obtain ⟨cf, kf, fi, f, hi, hsl⟩ := hS k hk
  have hst := (u_facts hfc hkC (u_lays hts c3 hk) hi).1
  have q6 := q5 k (by rw [c2]; exact hk)
  have hlay := hts _ (c3 _ (u_in_lay hk))
  unfold u_lay at hlay
  dsimp only at hi
  rw [hT] at hlay hi
  rw [if_neg (fun h => Bool.noConfusion h)] at hlay
  have c4k := c4 k hk
  rw [hT] at c4k
  have c5k := c5 k hk
  rw [hfk] at c5k
  obtain ⟨f1, f2⟩ := fit_ok (E := E) c5k hv
  have h6 := u_store hfc hkC hkind hlay hi c4k f1 f2
  rw [enc_r htag, rf_pos r1]
  refine W.putK hx hb (f := f) ⟨hown, hts _ hlk, ⟨_, _, _, hi⟩, hst⟩ (by rw [q3]; exact h6) q1 q2 (by rw [hsl]; exact k2_hasslot q6.2) rfl rfl hd (fun H' e1 e2 e3 => ?_)
  rw [hsl] at e1 ⊢
  refine kk H' _ (hH.fput (cell := cell) r1 r2 r3 (by rw [c2]; exact hk) (hKK.2.2.1 ci) (by rw [hfk]; exact hv) q1 (by rw [hfk]; exact e1) e2 e3) (locs_c hL (Nat.le_add_right _ _))
theorem r_put (pc : Nat) (hC : CxOK E C cc nL own h mc ms) {ci k idx : Nat} {t ki kd r x : Int} {R nm ds : String} {f : Mem → Option ρ} (hF : FdOK ci k t ki R nm ds false kd) (hlk : Cond.fieldLink own idx R nm ds ∈ Gw) (hd : decode cc pc = .ok (.putfield idx, 3))
    (kk : ∀ M', Bk E C nL Mi x0 (pc + 3) ls st M' cl sl (f M')) : Bk E C nL Mi x0 pc ls ((kd, x) :: (t, r) :: st) M cl sl (putf M r ki x f) := by
  intro ho hE hl hs H locs la hH hL hla
  rw [oks_c, oks_c] at hs
  unfold putf at ho
  by_cases hr : r = 0
  · rw [if_pos hr] at ho; cases ho
  rw [if_neg hr] at ho
  have hext : Ext M (upd2 M r ki x) := by
    obtain ⟨e1, e2, -⟩ := hF
    exact ext_upd (okx_ref hs.2.1 (by omega) hr).1 (by omega)
  exact put_core hC hF hlk hd hH hL hs.2.1 hr hs.1 (fun H' locs' hH' hL' => kk _ ho (hE.tr hext) (okl_ext hext hl) (oks_ext hext hs.2.2) H' locs' la hH' hL' hla)
theorem r_putz (pc : Nat) (hC : CxOK E C cc nL own h mc ms) {ci k idx : Nat} {t ki r x : Int} {R nm ds : String} {f : Mem → Option ρ} (hF : FdOK ci k t ki R nm ds false 3) (hlk : Cond.fieldLink own idx R nm ds ∈ Gw) (hd : decode cc pc = .ok (.putfield idx, 3))
    (kk : ∀ M', Bk E C nL Mi x0 (pc + 3) ls st M' cl sl (f M')) : Bk E C nL Mi x0 pc ls ((0, x) :: (t, r) :: st) M cl sl (putz M r ki x f) := by
  intro ho hE hl hs H locs la hH hL hla
  rw [oks_c, oks_c] at hs
  unfold putz at ho
  by_cases hr : r = 0
  · rw [if_pos hr] at ho; cases ho
  rw [if_neg hr] at ho
  by_cases hz : x = 0 ∨ x = 1
  · rw [if_pos hz] at ho
    have hext : Ext M (upd2 M r ki x) := by
      obtain ⟨e1, e2, -⟩ := hF
      exact ext_upd (okx_ref hs.2.1 (by omega) hr).1 (by omega)
    simp only [encs, List.map_cons, enc_0]
    rw [← enc_3 (E := E)]
    exact put_core hC hF hlk hd hH hL hs.2.1 hr (okx_3.mpr hz) (fun H' locs' hH' hL' => kk _ ho (hE.tr hext) (okl_ext hext hl) (oks_ext hext hs.2.2) H' locs' la hH' hL' hla)
  · rw [if_neg hz] at ho; cases ho
/-- a final field, in its class's own constructor -/
theorem r_putF (pc : Nat) (hC : CxOK E C cc nL own h mc ms) {ci k idx : Nat} {t ki kd r x : Int} {nm ds : String} {f : Mem → Option ρ} (hin : (cMeth C).name = "<init>") (hF : FdOK ci k t ki own nm ds true kd) (hlk : Cond.fieldLink own idx own nm ds ∈ Gw) (hd : decode cc pc = .ok (.putfield idx, 3))
    (kk : ∀ M', Bk E C nL Mi x0 (pc + 3) ls st M' cl sl (f M')) : Bk E C nL Mi x0 pc ls ((kd, x) :: (t, r) :: st) M cl sl (putf M r ki x f) := by
  intro ho hE hl hs H locs la hH hL hla
  rw [oks_c, oks_c] at hs
  unfold putf at ho
  by_cases hr : r = 0
  · rw [if_pos hr] at ho; cases ho
  rw [if_neg hr] at ho
  have hext : Ext M (upd2 M r ki x) := by
    obtain ⟨e1, e2, -⟩ := hF
    exact ext_upd (okx_ref hs.2.1 (by omega) hr).1 (by omega)
  obtain ⟨hx, hb, hn, hown, hts, hKK, -⟩ := hC
  obtain ⟨rfl, rfl, T, N, ty, ⟨c1, c2, c3, c4, c5⟩, hk, hT, hfk⟩ := hF
  have htag : (10 : Int) ≤ 20 + (ci : Int) := by omega
  obtain ⟨r1, r2, r3⟩ := okx_ref hs.2.1 htag hr
  obtain ⟨cell, q1, q2, q3, q4, q5⟩ := hH.obj r1 r2 r3
  obtain ⟨hS, hfc, kC, hkC, hkind⟩ := hKK.2.1 ci _ c1
  obtain ⟨cf, kf, fi, f0, hi, hsl⟩ := hS k hk
  have hst := (u_facts hfc hkC (u_lays hts c3 hk) hi).1
  have q6 := q5 k (by rw [c2]; exact hk)
  have hlay := hts _ (c3 _ (u_in_lay hk))
  unfold u_lay at hlay
  have hul := u_lays hts c3 hk
  dsimp only at hi
  rw [hT] at hlay hi hul
  rw [if_pos rfl] at hlay
  have c4k := c4 k hk
  rw [hT] at c4k
  have c5k := c5 k hk
  rw [hfk] at c5k
  obtain ⟨f1, f2⟩ := fit_ok (E := E) c5k hs.1
  have h8 := u_fits hfc hkC hkind hul hi c4k f1 f2
  have hdecl : (cM C).cls = cf := laid_decl hown hlay hi
  simp only [encs, List.map_cons]
  rw [enc_r htag, rf_pos r1]
  refine W.putFinK hx hb hown (hts _ hlk) hi hst hdecl hin (by rw [q3]; exact h8) q1 q2 (by rw [hsl]; exact k2_hasslot q6.2) rfl rfl hd (fun H' e1 e2 e3 => ?_)
  rw [hsl] at e1 ⊢
  exact kk _ ho (hE.tr hext) (okl_ext hext hl) (oks_ext hext hs.2.2) H' _ la (hH.fput (cell := cell) r1 r2 r3 (by rw [c2]; exact hk) (hKK.2.2.1 ci) (by rw [hfk]; exact hs.1) q1 (by rw [hfk]; exact e1) e2 e3) (locs_c hL (Nat.le_add_right _ _)) hla
end ROWS
