/-! water: pure, class, reference -/
theorem t_jv {ρ : Type} {K : Int → Option ρ} {b : (Int → Option ρ) → Option ρ} {Q : ρ → Prop} (x : Int) (hk : Tot (K x) Q) (hb : ∀ j : Int → Option ρ, Tot (j x) Q → Tot (b j) Q) : Tot (jn K b) Q := hb K hk
theorem t_jvm {ρ : Type} {K : Int → Mem → Option ρ} {b : (Int → Mem → Option ρ) → Option ρ} {Q : ρ → Prop} (P : Int → Mem → Prop) (hk : ∀ x N, P x N → Tot (K x N) Q) (hb : ∀ j : Int → Mem → Option ρ, (∀ x N, P x N → Tot (j x N) Q) → Tot (b j) Q) : Tot (jn K b) Q := hb K hk
def rtG (w : Int → Int) (h m f : Int) : Int := lvW w h m (fc w f 0)
def opM (w : Int → Int) (f : Int) : Int := sumZ (gO w f) (endT w)
def slM (w : Int → Int) (f : Int) : Int := sumZ (gS w f) (endT w)
def thM (w : Int → Int) (r : Int) : Int := sumZ (gT w r) (endT w)
def stM (w : Int → Int) (r : Int) : Int := sumZ (gP w r) (endT w)
def gtG (w : Int → Int) (h m f : Int) : Int := rtG w h m f * opM w f
theorem rt_le {w : Int → Int} (hn : WFn w) (hr : WFr w) (hf : WFf w) {h : Int} (h0 : 0 ≤ h) (h1 : h ≤ 999) (m : Int) {f : Int} (f0 : 0 ≤ f) (f1 : f < w 5) : 0 ≤ rtG w h m f ∧ rtG w h m f ≤ 61855446859776 := by
  unfold WFn at hn
  have q := hf f f0 f1
  have L := litre_le hr (by omega) (by omega)
  have HL := mul_le (x := h) (y := litre w) (a := 999) (b := 61917364224) h0 h1 (by omega) L.2
  have := flow_le hr (by omega) (by omega) h0 m 10 (fc w f 0) q.1 (by omega) q.2.1
  unfold rtG; omega
theorem op_le {w : Int → Int} (hn : WFn w) (hf : WFf w) (ho : WFo w) (f : Int) : 0 ≤ opM w f ∧ opM w f ≤ slM w f ∧ slM w f ≤ endT w ∧ endT w ≤ 1440 := by
  have e := endT_le hn hf ho
  unfold WFn at hn
  have b1 := sum01 (g := gO w f) (fun k => i01) e.1
  have b2 := sum01 (g := gS w f) (fun k => i01) e.1
  have b3 := sumZ_le (g := fun k => gS w f k - gO w f k) (n := endT w) (lo := 0) (hi := 1) (fun k _ _ => by simp only [gS, gO]; grind) e.1 (Int.le_refl _)
  rw [sumZ_sub _ _ e.1] at b3
  unfold opM slM
  omega
theorem th_le {w : Int → Int} (hn : WFn w) (hf : WFf w) (ho : WFo w) (r : Int) : 0 ≤ thM w r ∧ thM w r ≤ 1440 ∧ 0 ≤ stM w r ∧ stM w r ≤ 1440 := by
  have e := endT_le hn hf ho
  unfold WFn at hn
  have b1 := sum01 (g := gT w r) (fun k => i01) e.1
  have b2 := sum01 (g := gP w r) (fun k => i01) e.1
  unfold thM stM; omega
theorem gt_le {w : Int → Int} (hn : WFn w) (hr : WFr w) (hf : WFf w) (ho : WFo w) {h : Int} (h0 : 0 ≤ h) (h1 : h ≤ 999) (m : Int) {f : Int} (f0 : 0 ≤ f) (f1 : f < w 5) : 0 ≤ gtG w h m f ∧ gtG w h m f ≤ 89071843478077440 := by
  have a := rt_le hn hr hf h0 h1 m f0 f1
  have b := op_le hn hf ho f
  have := mul_le (x := rtG w h m f) (y := opM w f) (a := 61855446859776) (b := 1440) a.1 a.2 b.1 (by omega)
  unfold gtG; omega
/-! class -/
theorem rateOf_e {M : Mem} {v : Int} {w : Int → Int} (hc : CI M v w) (hn : WFn w) (hf : WFf w) {h m : Int} (fl : FL M w h m (w 3)) {f : Int} (f0 : 0 ≤ f) (f1 : f < w 5) : f_X5_rateOf 55 v f M = some (rtG w h m f) := by
  have hn' := hn
  unfold WFn at hn'
  obtain ⟨a, b, c, d, e⟩ := ci_p hc
  obtain ⟨r1, r2, r3, r4, r5, r6, r7⟩ := ci_f hc hn f0 f1
  have q := hf f f0 f1
  have s0 := r5 0 (by omega) (by omega)
  have x := (fl (fc w f 0) q.1 q.2.1).2.2
  have a4 : M 55 3 = 65 := hc.2.2.2.2.1.1.2.2.2.1
  have c9 : M 65 (-1) = 10 := hc.2.2.2.2.1.2.2.2.2.2.2.2.2.2.2.1
  rw [← t_eq]
  simp only [f_X5_rateOf, t_getf, t_geti, t_some, a4, r1, r2, r3, r4, s0, c9, x]
  exact ⟨by decide, e, r6, f0, by omega, r7, by decide, by omega, by decide, q.1, by omega, rfl⟩
theorem gets_e {M : Mem} {v : Int} {w : Int → Int} (hc : CI M v w) (hn : WFn w) (hr : WFr w) (hf : WFf w) (ho : WFo w) {h m : Int} (h0 : 0 ≤ h) (h1 : h ≤ 999) (fl : FL M w h m (w 3)) (sm : SM M w (endT w)) {f : Int} (f0 : 0 ≤ f) (f1 : f < w 5) : f_X5_gets 55 v f M = some (gtG w h m f) := by
  have hn' := hn
  unfold WFn at hn'
  have b := gt_le hn hr hf ho h0 h1 m f0 f1
  have x : M 69 f = opM w f := (sm.1 f f0 f1).2
  have a8 : M 55 7 = 69 := (ci_55 hc).1.2.2.2.2.2.2.2.1
  have g4 : M 69 (-1) = 10 := (ci_55 hc).2.1.2.2.2.1
  unfold gtG at b
  rw [← t_eq]
  simp only [f_X5_gets, t_callp, rateOf_e hc hn hf fl f0 f1, t_getf, t_geti, t_some, a8, g4, x]
  refine ⟨by decide, by decide, f0, by omega, ?_⟩
  rw [w64_s (by omega) (by omega)]; rfl
theorem waterIn_e {M : Mem} {v : Int} {w : Int → Int} (hc : CI M v w) (hn : WFn w) (hr : WFr w) (hf : WFf w) (ho : WFo w) {h m : Int} (h0 : 0 ≤ h) (h1 : h ≤ 999) (fl : FL M w h m (w 3)) (sm : SM M w (endT w)) (set : Int) : f_X5_waterIn 55 v set M = some (sumZ (fun f => if bt set f then gtG w h m f else 0) (w 5)) := by
  have hn' := hn
  unfold WFn at hn'
  obtain ⟨a, b, c, d, e⟩ := ci_p hc
  obtain ⟨g1, g2, g3, g4, g5, g6, g7⟩ := ci_n hc
  rw [← t_eq]
  unfold f_X5_waterIn
  refine lpII (fun x p => 0 ≤ p ∧ p ≤ w 5 ∧ x = sumZ (fun f => if bt set f then gtG w h m f else 0) p) (fun _ p => (w 5 - p).toNat) ?_ (by unfold KF; omega) ⟨by omega, by omega, rfl⟩
  rintro n x p ⟨i0, i1, i2⟩ ih
  unfold f_X5_waterIn_L5
  rw [t_getf, g5, t_ite]
  refine ⟨e, fun c => by rw [t_some, i2, show p = w 5 by omega], fun c => ?_⟩
  have gl := gt_le hn hr hf ho h0 h1 m i0 (show p < w 5 by omega)
  have hs := sumZ_s (fun f => if bt set f then gtG w h m f else 0) i0
  have sb := sumZ_le (g := fun f => if bt set f then gtG w h m f else 0) (n := w 5) (lo := 0) (hi := 89071843478077440) (fun k a b => by
    have := gt_le hn hr hf ho h0 h1 m a b
    split <;> omega) i0 i1
  have gb : 0 ≤ (if bt set p then gtG w h m p else 0) ∧ (if bt set p then gtG w h m p else 0) ≤ 89071843478077440 := by split <;> omega
  refine t_jv (if bt set p then gtG w h m p else 0) ?_ (fun j hj => ?_)
  · rw [t_letv, w64_s (by omega) (by omega), w32_s (by omega) (by omega)]
    exact ih _ _ (by omega) ⟨by omega, by omega, by rw [hs, i2]⟩
  · rw [t_ite, gets_e hc hn hr hf ho h0 h1 fl sm i0 (by omega), t_callp, t_some]
    refine ⟨fun c2 => ?_, fun c2 => ?_⟩
    · rw [if_neg c2] at hj; exact hj
    · rw [if_pos (Classical.not_not.mp c2)] at hj; exact hj
def alW (w : Int → Int) (h m : Int) : Int := sumZ (fun f => gtG w h m f) (w 5)
theorem al_le {w : Int → Int} (hn : WFn w) (hr : WFr w) (hf : WFf w) (ho : WFo w) {h : Int} (h0 : 0 ≤ h) (h1 : h ≤ 999) (m : Int) : 0 ≤ alW w h m ∧ alW w h m ≤ 890718434780774400 := by
  have hn' := hn
  unfold WFn at hn'
  have := sumZ_le (g := fun f => gtG w h m f) (n := w 5) (lo := 0) (hi := 89071843478077440) (fun k a b => gt_le hn hr hf ho h0 h1 m a b) (p := w 5) (by omega) (Int.le_refl _)
  unfold alW; omega
theorem allWater_e {M : Mem} {v : Int} {w : Int → Int} (hc : CI M v w) (hn : WFn w) (hr : WFr w) (hf : WFf w) (ho : WFo w) {h m : Int} (h0 : 0 ≤ h) (h1 : h ≤ 999) (fl : FL M w h m (w 3)) (sm : SM M w (endT w)) : f_X5_allWater 55 v M = some (alW w h m) := by
  have hn' := hn
  unfold WFn at hn'
  have e : alW w h m = sumZ (fun f => if bt (-1) f then gtG w h m f else 0) (w 5) := sumZ_congr (fun k k0 k1 => by rw [if_pos (bt_m1 k0 (by omega))])
  rw [e]
  unfold f_X5_allWater
  rw [waterIn_e hc hn hr hf ho h0 h1 fl sm]; rfl
def losW (w : Int → Int) (r : Int) : Int := (caW w (w 0) (-1) r - lvW w (w 0) (-1) r) * thM w r
def spiW (w : Int → Int) (r : Int) : Int := (cmW w (w 0) (-1) r - caW w (w 0) (-1) r) * thM w r + cmW w (w 0) (-1) r * stM w r
theorem los_le {w : Int → Int} (hn : WFn w) (hr : WFr w) (hf : WFf w) (ho : WFo w) {r : Int} (r0 : 0 ≤ r) (r1 : r < w 3) : (0 ≤ losW w r ∧ losW w r ≤ 89071843478077440) ∧ (0 ≤ (cmW w (w 0) (-1) r - caW w (w 0) (-1) r) * thM w r ∧ (cmW w (w 0) (-1) r - caW w (w 0) (-1) r) * thM w r ≤ 89071843478077440) ∧ (0 ≤ cmW w (w 0) (-1) r * stM w r ∧ cmW w (w 0) (-1) r * stM w r ≤ 89071843478077440) ∧ cmW w (w 0) (-1) r ≤ 61855446859776 := by
  have t := th_le hn hf ho r
  unfold WFn at hn
  have L := litre_le hr (by omega) (by omega)
  have HL := mul_le (x := w 0) (y := litre w) (a := 999) (b := 61917364224) (by omega) (by omega) (by omega) L.2
  have q := flow_le hr (by omega) (by omega) (h := w 0) (by omega) (-1) 10 r r0 (by omega) r1
  have a1 := mul_le (x := caW w (w 0) (-1) r - lvW w (w 0) (-1) r) (y := thM w r) (a := 61855446859776) (b := 1440) (by omega) (by omega) (by omega) (by omega)
  have a2 := mul_le (x := cmW w (w 0) (-1) r - caW w (w 0) (-1) r) (y := thM w r) (a := 61855446859776) (b := 1440) (by omega) (by omega) (by omega) (by omega)
  have a3 := mul_le (x := cmW w (w 0) (-1) r) (y := stM w r) (a := 61855446859776) (b := 1440) (by omega) (by omega) (by omega) (by omega)
  unfold losW
  omega
theorem losesAt_e {M : Mem} {v : Int} {w : Int → Int} (hc : CI M v w) (hn : WFn w) (hr : WFr w) (hf : WFf w) (ho : WFo w) (sw : SWP M w) {r : Int} (r0 : 0 ≤ r) (r1 : r < w 3) : f_X5_losesAt 55 r M = some (losW w r) := by
  have hn' := hn
  unfold WFn at hn'
  have b := los_le hn hr hf ho r0 r1
  have q := flow_le hr (by omega) (by omega) (h := w 0) (by omega) (-1) 10 r r0 (by omega) r1
  have x := sw.1 r r0 r1
  have y : M 66 r = thM w r := (sw.2.1.2 r r0 r1).1
  obtain ⟨⟨a1, a2, a3, a4, a5, a6, a7, a8, a9, a10, a11, a12⟩, _, ⟨_, _, _, _, _, _, c7, c8, c9, c10, c11, _⟩⟩ := hc.2.2.2.2.1
  unfold losW at b
  rw [← t_eq]
  simp only [f_X5_losesAt, t_getf, t_geti, t_some, a3, a4, a5, c8, c9, c10, x.2.1, x.2.2, y]
  rw [w64_s (x := caW w (w 0) (-1) r - lvW w (w 0) (-1) r) (by omega) (by omega), w64_s (by omega) (by omega)]
  exact ⟨by decide, by decide, r0, by omega, by decide, by decide, r0, by omega, by decide, by decide, r0, by omega, rfl⟩
theorem spillsAt_e {M : Mem} {v : Int} {w : Int → Int} (hc : CI M v w) (hn : WFn w) (hr : WFr w) (hf : WFf w) (ho : WFo w) (sw : SWP M w) {r : Int} (r0 : 0 ≤ r) (r1 : r < w 3) : f_X5_spillsAt 55 r M = some (spiW w r) := by
  have hn' := hn
  unfold WFn at hn'
  have b := los_le hn hr hf ho r0 r1
  have q := flow_le hr (by omega) (by omega) (h := w 0) (by omega) (-1) 10 r r0 (by omega) r1
  have x := sw.1 r r0 r1
  have y : M 66 r = thM w r := (sw.2.1.2 r r0 r1).1
  have z : M 67 r = stM w r := (sw.2.1.2 r r0 r1).2
  obtain ⟨⟨a1, a2, a3, a4, a5, a6, a7, a8, a9, a10, a11, a12⟩, _, ⟨_, _, _, _, _, _, c7, c8, c9, c10, c11, _⟩⟩ := hc.2.2.2.2.1
  rw [← t_eq]
  simp only [f_X5_spillsAt, t_getf, t_geti, t_some, a2, a3, a5, a6, c7, c8, c10, c11, x.1, x.2.1, y, z]
  rw [w64_s (x := cmW w (w 0) (-1) r - caW w (w 0) (-1) r) (by omega) (by omega), w64_s (x := (cmW w (w 0) (-1) r - caW w (w 0) (-1) r) * thM w r) (by omega) (by omega), w64_s (x := cmW w (w 0) (-1) r * stM w r) (by omega) (by omega), w64_s (by omega) (by omega)]
  exact ⟨by decide, by decide, r0, by omega, by decide, by decide, r0, by omega, by decide, by decide, r0, by omega, by decide, by decide, r0, by omega, by decide, by decide, r0, by omega, rfl⟩
/-! reference -/
def RI (M : Mem) (w : Int → Int) (m : Int) : Prop := LR M ∧ M 120 = w ∧ M 119 34 = m
theorem ri_k {M N : Mem} {w : Int → Int} {m : Int} (h : RI M w m) (k : ∀ a j, ¬ SR a j → N a j = M a j) : RI N w m :=
  ⟨lr_s h.1 k, by rw [w_q k]; exact h.2.1, by rw [k _ _ (by unfold SR; omega)]; exact h.2.2⟩
theorem rateR_e {M : Mem} {w : Int → Int} {m : Int} {Q : Int × Mem → Prop} (h : RI M w m) (hwf : WF w) {f : Int} (f0 : 0 ≤ f) (f1 : f < w 5) (hq : ∀ M', (∀ a j, ¬ SR a j → M' a j = M a j) → Q (rtG w (w 0) m f, M')) : Tot (f_X12_rateOf 119 f M) Q :=
  rateOfR_e h.1 h.2.1 hwf.1 hwf.2.1 hwf.2.2.1 h.2.2 f0 f1 (fun M' k => hq M' (sr_w k))
theorem minR_e {M : Mem} {w : Int → Int} {m : Int} {Q : Int × Mem → Prop} (h : RI M w m) (hwf : WF w) {f x : Int} (f0 : 0 ≤ f) (f1 : f < w 5) (hq : ∀ M', (∀ a j, ¬ SR a j → M' a j = M a j) → Q (minsW w f x, M')) : Tot (f_X12_minutesOf 119 f x M) Q :=
  minutesOf_e h.1 h.2.1 hwf f0 f1 (fun M' k => hq M' (sr_s k))
theorem waterInR_e {M : Mem} {w : Int → Int} {m : Int} {Q : Int × Mem → Prop} (h : RI M w m) (hwf : WF w) {f : Int} (f0 : 0 ≤ f) (f1 : f < w 5) (hq : ∀ M', (∀ a j, ¬ SR a j → M' a j = M a j) → Q (gtG w (w 0) m f, M')) : Tot (f_X12_waterIn 119 f M) Q := by
  have hwf' := hwf
  obtain ⟨hn, hr, hf, ho, hl, hw⟩ := hwf
  have hn' := hn
  unfold WFn at hn'
  have b := gt_le hn hr hf ho (h := w 0) (by omega) (by omega) m f0 f1
  unfold f_X12_waterIn
  rw [t_call]
  refine rateR_e h hwf' f0 f1 (fun M1 k1 => ?_)
  rw [t_call]
  refine minR_e (ri_k h k1) hwf' f0 f1 (fun M2 k2 => ?_)
  rw [t_some]
  have e : rtG w (w 0) m f * minsW w f 1 = gtG w (w 0) m f := rfl
  rw [e, w64_s (by omega) (by omega)]
  exact hq M2 (fun a j ha => by rw [k2 a j ha, k1 a j ha])
theorem litR_e {M : Mem} {w : Int → Int} {m : Int} (h : RI M w m) (hwf : WF w) : f_X12_litre 119 M = some (litre w) := by
  have := litreR_e h.1 (by rw [h.2.1]; exact hwf.1) (by rw [h.2.1]; exact hwf.2.1)
  rw [h.2.1] at this; exact this
theorem ofF_e {M : Mem} {w : Int → Int} {m : Int} (h : RI M w m) (hn : WFn w) {f k : Int} (f0 : 0 ≤ f) (f1 : f < w 5) (k0 : 0 ≤ k) (k1 : k < 4) : f_X12_ofField 119 f k M = some (fc w f k) := by
  unfold WFn at hn
  have := ofField_e h.1 (r := f) (k := k) f0 (by omega) k0 k1
  rw [h.2.1] at this; exact this
theorem ri_at {M : Mem} {w : Int → Int} {m : Int} (h : RI M w m) : M 119 0 = 120 ∧ M 120 (-1) = 3840 ∧ ∀ k, M 120 k = w k := ⟨h.1.1.1, h.1.2.1, fun k => by rw [h.2.1]⟩
