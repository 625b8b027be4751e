/-! the best of some; mending; off -/
def bestF (g : Int → Int) (p : Int) : Int × Int := foldZ (fun r x => if x.1 < g r then (g r, r) else x) (0, -1) p
theorem bestF_s {g : Int → Int} {p : Int} (h : 0 ≤ p) : bestF g (p + 1) = if (bestF g p).1 < g p then (g p, p) else bestF g p := foldZ_s _ _ h
theorem bestF_i {g : Int → Int} {n B : Int} (hB : 0 ≤ B) (hg : ∀ k, 0 ≤ k → k < n → g k ≤ B) {p : Int} (h0 : 0 ≤ p) (h1 : p ≤ n) : 0 ≤ (bestF g p).1 ∧ (bestF g p).1 ≤ B ∧ -1 ≤ (bestF g p).2 := by
  have := foldZ_inv (f := fun r (x : Int × Int) => if x.1 < g r then (g r, r) else x) (a := (0, -1)) (fun _ x => 0 ≤ x.1 ∧ x.1 ≤ B ∧ -1 ≤ x.2) ⟨by simp, by simpa using hB, by simp⟩ (n := n) (fun k x hk hk1 hx => by
    have := hg k hk hk1
    split
    · exact ⟨by simp only; omega, by simp only; omega, by simp only; omega⟩
    · exact hx) h0 h1
  exact this
def bestA (w : Int → Int) (x : Int × Int) : Ans := if x.2 = -1 then (-1, 6, none) else (x.2, 0, some (x.1, litre w))
theorem frC_s (N : Mem) (n d : Int) : upd2 (frC N n d) 1 12 0 = frC N n d := by
  funext a k
  unfold frC
  simp only [upd2_at]
  split
  · rfl
  · rfl
theorem frR_s (N : Mem) (n d : Int) : upd2 (frR N n d) 119 2 0 = frR N n d := by
  funext a k
  unfold frR
  simp only [upd2_at]
  split
  · rfl
  · rfl
theorem tellBest_e {M N : Mem} {v : Int} {w : Int → Int} (hK : ∀ a k, ¬ SC a k → N a k = M a k) (hc : CI N v w) (hwf : WF w) {b g : Int} (g0 : 0 ≤ g) (g1 : g < 9223372036854775808) : Tot (call (f_X11_tellBest 1 b g N) (fun v M' => some (v, M'))) (AC (bestA w (g, b)) M) := by
  have L := wf_l hwf
  obtain ⟨a, _, c, d, e⟩ := ci_p hc
  obtain ⟨_, _, _, _, _, _, g7⟩ := ci_n hc
  rw [t_call]
  unfold f_X11_tellBest bestA
  rw [t_ite]
  refine ⟨fun h1 => ?_, fun h1 => ?_⟩
  · rw [t_getf, a, t_getf, c, t_getf, g7, tf_e N g0 g1 L.1 L.2.1, t_call, t_some, answer_e, t_call, t_some, t_some, t_some, frC_s, if_neg h1]
    exact ⟨by decide, by decide, e, ac_fr hK b g _⟩
  · rw [refuse_e, t_call, t_some, t_some, t_some, if_pos (by simpa using h1)]
    exact ac_st hK _ _
theorem tellBestR_e {M N : Mem} {w : Int → Int} {m : Int} (hK : ∀ a k, ¬ SR a k → N a k = M a k) (h : RI N w m) (hwf : WF w) {b g : Int} (g0 : 0 ≤ g) (g1 : g < 9223372036854775808) : Tot (if b ≠ (-1) then (callp (f_X12_litre 119 N) (fun v22 => call (f_X12_tellsBy 119 g v22 N) (fun v23 M24 => jn (fun (q25 : Int) (M26 : Mem) => some (q25, M26)) (fun j101 => if v23 = 0 then (j101 (-1) M24) else (call (f_X12_gives 119 b M24) (fun v27 M28 => j101 v27 M28)))))) else (call (f_X12_refuse 119 6 N) (fun v29 M30 => some (v29, M30)))) (AR (bestA w (g, b)) M) := by
  have L := wf_l hwf
  unfold bestA
  rw [t_ite]
  refine ⟨fun h1 => ?_, fun h1 => ?_⟩
  · rw [litR_e h hwf, t_callp, t_some, tb_e N g0 g1 L.1 L.2.1, t_call, t_some, t_jn, t_ite]
    refine ⟨fun h2 => by simp at h2, fun _ => ?_⟩
    rw [gives_e, t_call, t_some, t_some, frR_s, if_neg h1]
    exact ar_fr hK b g _
  · rw [if_pos (by simpa using h1)]; exact zRr hK 6
theorem allWaterR_e {M : Mem} {w : Int → Int} {m : Int} {Q : Int × Mem → Prop} (h : RI M w m) (hwf : WF w) (hq : ∀ M', (∀ a j, ¬ SR a j → M' a j = M a j) → Q (alW w (w 0) m, M')) : Tot (f_X12_allWater 119 M) Q := by
  have L := wf_l hwf
  unfold f_X12_allWater
  refine lpIIM (fun x p N => 0 ≤ p ∧ p ≤ w 5 ∧ x = sumZ (fun f => gtG w (w 0) m f) p ∧ ∀ a j, ¬ SR a j → N a j = M a j) (fun _ p _ => (w 5 - p).toNat) ?_ (by unfold KF; omega) ⟨by omega, by omega, rfl, kr M⟩
  rintro n x p N ⟨i0, i1, i2, i3⟩ ih
  have hN := ri_k h i3
  obtain ⟨a, b, ww⟩ := ri_at hN
  unfold f_X12_allWater_L4
  rw [t_getf, a, t_geti, b, ww, t_ite]
  refine ⟨by decide, by decide, by decide, by decide, fun h1 => ?_, fun h1 => ?_⟩
  · rw [t_some, i2, show p = w 5 by omega]; exact hq N i3
  · have bg := gt_le hwf.1 hwf.2.1 hwf.2.2.1 hwf.2.2.2.1 (h := w 0) (by omega) (by omega) m i0 (show p < w 5 by omega)
    have sb := sumZ_le (g := fun f => gtG w (w 0) m f) (n := w 5) (lo := 0) (hi := 89071843478077440) (fun k a b => gt_le hwf.1 hwf.2.1 hwf.2.2.1 hwf.2.2.2.1 (h := w 0) (by omega) (by omega) m a b) i0 i1
    rw [t_call]
    refine waterInR_e hN hwf i0 (by omega) (fun M2 k2 => ?_)
    try dsimp only
    rw [t_letv, w64_s (by omega) (by omega), w32_s (by omega) (by omega)]
    exact ih _ _ _ (by omega) ⟨by omega, by omega, by rw [sumZ_s _ i0, i2], sr_t i3 k2⟩
def mendG (w : Int → Int) (r : Int) : Int := alW w (w 0) r - alW w (w 0) (-1)
theorem mend_le {w : Int → Int} (hwf : WF w) (r : Int) : -890718434780774400 ≤ mendG w r ∧ mendG w r ≤ 890718434780774400 := by
  have L := wf_l hwf
  have a := al_le hwf.1 hwf.2.1 hwf.2.2.1 hwf.2.2.2.1 (h := w 0) (by omega) (by omega) r
  have b := al_le hwf.1 hwf.2.1 hwf.2.2.1 hwf.2.2.2.1 (h := w 0) (by omega) (by omega) (-1)
  unfold mendG; omega
def mendingS (w : Int → Int) : Ans := bestA w (bestF (mendG w) (w 3))
theorem sm_k {M N : Mem} {w : Int → Int} {t : Int} (h : SM M w t) (k : ∀ a j, 66 ≤ a → a ≤ 69 → N a j = M a j) : SM N w t :=
  ⟨fun f f0 f1 => by rw [k _ _ (by omega) (by omega), k _ _ (by omega) (by omega)]; exact h.1 f f0 f1, fun r r0 r1 => by rw [k _ _ (by omega) (by omega), k _ _ (by omega) (by omega)]; exact h.2 r r0 r1⟩
theorem c_mending {M : Mem} {v : Int} {w : Int → Int} (hc : CI M v w) (hwf : WF w) : Tot (f_X11_mending 1 M) (AC (mendingS w) M) := by
  have L := wf_l hwf
  have ab := al_le hwf.1 hwf.2.1 hwf.2.2.1 hwf.2.2.2.1 (h := w 0) (by omega) (by omega) (-1)
  unfold f_X11_mending mendingS
  rw [t_call]
  refine sweptWorld_e hc hwf (fun M' k1 k2 k3 => ?_)
  try dsimp only
  obtain ⟨a, b, c, d, e⟩ := ci_p k2
  rw [t_getf, a, t_getf, c, t_nn, allWater_e k2 hwf.1 hwf.2.1 hwf.2.2.1 hwf.2.2.2.1 L.2.2.1 L.2.2.2.1 k3.1 k3.2.1, t_callp, t_some]
  refine ⟨by decide, by decide, by decide, ?_⟩
  refine lpIIIM (fun x y p N => 0 ≤ p ∧ p ≤ w 3 ∧ (x, y) = bestF (mendG w) p ∧ (∀ a k, ¬ SC a k → N a k = M a k) ∧ CI N v w ∧ SM N w (endT w)) (fun _ _ p _ => (w 3 - p).toNat) ?_ (by unfold KF; omega) ⟨by omega, by omega, rfl, k1, k2, k3.2.1⟩
  rintro n x y p N ⟨i0, i1, i2, i3, i4, i5⟩ ih
  have bi := bestF_i (g := mendG w) (n := w 3) (B := 890718434780774400) (by decide) (fun k _ _ => (mend_le hwf k).2) i0 i1
  rw [← i2] at bi
  obtain ⟨a', b', c', d', e'⟩ := ci_p i4
  obtain ⟨g1, g2, g3, g4, g5, g6, g7⟩ := ci_n i4
  unfold f_X11_mending_L26
  rw [t_getf, a', t_getf, c', t_getf, g3, t_ite]
  refine ⟨by decide, by decide, e', fun h1 => ?_, fun h1 => ?_⟩
  · have hp : p = w 3 := by omega
    subst hp
    rw [← i2]
    exact tellBest_e i3 i4 hwf bi.1 (by omega)
  · have p48 : N 48 0 = w 0 := i4.2.2.2.2.2.2.1.1
    rw [t_getf, a', t_getf, c', t_getf, a', t_getf, d', t_getf, p48, t_nn, t_callv]
    refine ⟨by decide, by decide, by decide, by decide, by decide, by decide, flow_e i4 hwf.1 hwf.2.1 (m := p) L.2.2.1 L.2.2.2.1 (fun R kR fR cR => ?_)⟩
    obtain ⟨a2, b2, c2, d2, e2⟩ := ci_p cR
    have sR : SM R w (endT w) := sm_k i5 (fun a j h1 h2 => kR a j (by unfold SCf; omega))
    have ml := mend_le hwf p
    have eg : alW w (w 0) p - alW w (w 0) (-1) = mendG w p := rfl
    have bs := bestF_s (g := mendG w) i0
    rw [← i2] at bs
    have kk : ∀ a k, ¬ SC a k → R a k = M a k := fun a k ha => by rw [kR a k (by unfold SC at ha; unfold SCf; omega), i3 a k ha]
    rw [t_getf, a2, t_getf, c2, allWater_e cR hwf.1 hwf.2.1 hwf.2.2.1 hwf.2.2.2.1 L.2.2.1 L.2.2.2.1 fR sR, t_callp, t_some, t_letv, eg, w64_s (by omega) (by omega), t_jn, t_ite, w32_s (by omega) (by omega)]
    refine ⟨by decide, by decide, fun h2 => ih _ _ _ _ (by omega) ⟨by omega, by omega, ?_, kk, cR, sR⟩, fun h2 => ih _ _ _ _ (by omega) ⟨by omega, by omega, ?_, kk, cR, sR⟩⟩
    · rw [bs, if_neg (by simp only; omega)]
    · rw [bs, if_pos (by simp only; omega)]
theorem r_mending {M : Mem} {w : Int → Int} (h : RI M w (-1)) (hwf : WF w) : Tot (f_X12_mending 119 M) (AR (mendingS w) M) := by
  have L := wf_l hwf
  have ab := al_le hwf.1 hwf.2.1 hwf.2.2.1 hwf.2.2.2.1 (h := w 0) (by omega) (by omega) (-1)
  unfold f_X12_mending mendingS
  rw [t_call]
  refine allWaterR_e h hwf (fun M1 k1 => ?_)
  try dsimp only
  refine lpIIIM (fun x y p N => 0 ≤ p ∧ p ≤ w 3 ∧ (x, y) = bestF (mendG w) p ∧ ∀ a k, ¬ SR a k → N a k = M a k) (fun _ _ p _ => (w 3 - p).toNat) ?_ (by unfold KF; omega) ⟨by omega, by omega, rfl, k1⟩
  rintro n x y p N ⟨i0, i1, i2, i3⟩ ih
  have bi := bestF_i (g := mendG w) (n := w 3) (B := 890718434780774400) (by decide) (fun k _ _ => (mend_le hwf k).2) i0 i1
  rw [← i2] at bi
  have hN := ri_k h i3
  obtain ⟨a, b, ww⟩ := ri_at hN
  unfold f_X12_mending_L13
  rw [t_getf, a, t_geti, b, ww, t_ite]
  refine ⟨by decide, by decide, by decide, by decide, fun h1 => ?_, fun h1 => ?_⟩
  · have hp : p = w 3 := by omega
    subst hp
    rw [← i2]
    exact tellBestR_e i3 hN hwf bi.1 (by omega)
  · have hP : RI (upd2 N 119 34 p) w p := ⟨lr_keep hN.1 (fun a k h1 h2 => by rw [upd2_at, if_neg (by omega)]), by rw [upd2_o (by decide)]; exact hN.2.1, by rw [upd2_at, if_pos ⟨rfl, rfl⟩]⟩
    rw [t_putf, t_call]
    refine ⟨by decide, allWaterR_e hP hwf (fun M2 k2 => ?_)⟩
    try dsimp only
    have ml := mend_le hwf p
    have eg : alW w (w 0) p - alW w (w 0) (-1) = mendG w p := rfl
    have bs := bestF_s (g := mendG w) i0
    rw [← i2] at bs
    have kk : ∀ a k, ¬ SR a k → upd2 M2 119 34 (-1) a k = M a k := fun a k ha => by
      rw [upd2_at]
      by_cases hh : a = 119 ∧ k = 34
      · rw [if_pos hh, hh.1, hh.2]; exact h.2.2.symm
      · rw [if_neg hh, k2 a k ha, upd2_at, if_neg hh, i3 a k ha]
    rw [t_letv, t_putf, eg, w64_s (by omega) (by omega), t_jn, t_ite, w32_s (by omega) (by omega)]
    refine ⟨by decide, fun h2 => ih _ _ _ _ (by omega) ⟨by omega, by omega, ?_, kk⟩, fun h2 => ih _ _ _ _ (by omega) ⟨by omega, by omega, ?_, kk⟩⟩
    · rw [bs, if_pos (by simp only; omega)]
    · rw [bs, if_neg (by simp only; omega)]
/-! off -/
def offT (w : Int → Int) (f : Int) : Int := (edge w (plc w f + 1) - edge w (plc w f)) * allSh w - w 1 * fc w f 1
def offF (w : Int → Int) (p : Int) : Int := foldZ (fun f x => if x < (if 0 ≤ offT w f then offT w f else -offT w f) then (if 0 ≤ offT w f then offT w f else -offT w f) else x) 0 p
theorem offF_s {w : Int → Int} {p : Int} (h : 0 ≤ p) : offF w (p + 1) = if offF w p < (if 0 ≤ offT w p then offT w p else -offT w p) then (if 0 ≤ offT w p then offT w p else -offT w p) else offF w p := foldZ_s _ _ h
theorem off_le {w : Int → Int} (hwf : WF w) {f : Int} (f0 : 0 ≤ f) (f1 : f < w 5) : (0 ≤ (edge w (plc w f + 1) - edge w (plc w f)) * allSh w ∧ (edge w (plc w f + 1) - edge w (plc w f)) * allSh w ≤ 1425600) ∧ (0 ≤ w 1 * fc w f 1 ∧ w 1 * fc w f 1 ≤ 142560) ∧ -142560 ≤ offT w f ∧ offT w f ≤ 1425600 := by
  obtain ⟨hn, hr, hf, ho, hl, hw⟩ := hwf
  have hn' := hn
  unfold WFn at hn'
  obtain ⟨p0, p1, p2⟩ := plc_of ho f0 f1
  have e1 := edge_le hn hf ho (k := plc w f) p0 (by omega)
  have e2 := edge_le hn hf ho (k := plc w f + 1) (by omega) (by omega)
  have e3 := edge_mono hn hf ho (j := plc w f) (k := plc w f + 1) p0 (by omega) (by omega)
  have a := allSh_le hn hf
  have q := hf f f0 f1
  have m1 := mul_le (x := edge w (plc w f + 1) - edge w (plc w f)) (y := allSh w) (a := 1440) (b := 990) (by omega) (by omega) (by omega) (by omega)
  have m2 := mul_le (x := w 1) (y := fc w f 1) (a := 1440) (b := 99) (by omega) (by omega) (by omega) (by omega)
  unfold offT; omega
theorem offF_i {w : Int → Int} (hwf : WF w) {p : Int} (h0 : 0 ≤ p) (h1 : p ≤ w 5) : 0 ≤ offF w p ∧ offF w p ≤ 1425600 := by
  refine foldZ_inv (fun _ (x : Int) => 0 ≤ x ∧ x ≤ 1425600) ⟨by omega, by omega⟩ (n := w 5) (fun k x hk hk1 hx => ?_) h0 h1
  have := off_le hwf hk hk1
  obtain ⟨y, ey⟩ : ∃ y, y = if 0 ≤ offT w k then offT w k else -offT w k := ⟨_, rfl⟩
  have hy : 0 ≤ y ∧ y ≤ 1425600 := by rw [ey]; split <;> omega
  simp only [← ey]
  split <;> omega
theorem abs_e {x : Int} (M : Mem) (h0 : -2147483647 ≤ x) (h1 : x ≤ 2147483647) : f_J9_abs_0f7a4 x M = some (if 0 ≤ x then x else -x) := by
  unfold f_J9_abs_0f7a4 jn
  dsimp only
  by_cases h : 0 ≤ x
  · rw [if_pos h, if_pos h]
  · rw [if_neg h, if_neg h, w32_s (by omega) (by omega)]
def offS (w : Int → Int) : Ans := if w 5 = 0 then (0, 6, none) else (1, 0, some (offF w (w 5), allSh w))
theorem c_off {M : Mem} {v : Int} {w : Int → Int} (hc : CI M v w) (hwf : WF w) : Tot (f_X11_off 1 M) (AC (offS w) M) := by
  have L := wf_l hwf
  have hwf' := hwf
  obtain ⟨hn, hr, hf, ho, hl, hw⟩ := hwf
  have hn' := hn
  unfold WFn at hn'
  obtain ⟨a, b, c, d, e⟩ := ci_p hc
  obtain ⟨g1, g2, g3, g4, g5, g6, g7⟩ := ci_n hc
  have as := allSh_le hn hf
  unfold f_X11_off offS
  rw [t_getf, a, t_getf, c, t_getf, g5, t_ite]
  refine ⟨by decide, by decide, e, fun h1 => ?_, fun h1 => by rw [if_pos (by simpa using h1)]; exact zC (kc M) (by decide)⟩
  rw [if_neg h1, t_call]
  refine laidSlots_e hc hn hf ho hl (fun M' k1 k2 k3 hc' => ?_)
  try dsimp only
  obtain ⟨a', b', c', d', e'⟩ := ci_p hc'
  obtain ⟨x1, x2, x3, x4, x5, x6, x7⟩ := ci_n hc'
  obtain ⟨_, ⟨b1, b2, b3, _⟩, ⟨c1, c2, c3, _⟩⟩ := hc'.2.2.2.2.1
  refine lpII (fun x p => 0 ≤ p ∧ p ≤ w 5 ∧ x = offF w p) (fun _ p => (w 5 - p).toNat) ?_ (by unfold KF; omega) ⟨by omega, by omega, rfl⟩
  rintro n x p ⟨i0, i1, i2⟩ ih
  have oi := offF_i hwf' i0 i1
  unfold f_X11_off_L32
  rw [t_getf, x5, t_ite]
  refine ⟨e, fun h2 => ?_, fun h2 => ?_⟩
  · rw [t_getf, x6, i2, show p = w 5 by omega]
    rw [show p = w 5 by omega] at oi
    exact ⟨e, zCf (sc_s k1) oi.1 (by omega) (by omega) (by omega)⟩
  · obtain ⟨r1, r2, r3, r4, r5, r6, r7⟩ := ci_f hc' hn i0 (show p < w 5 by omega)
    have s1 := r5 1 (by omega) (by omega)
    obtain ⟨p0, p1, p2⟩ := plc_of ho i0 (show p < w 5 by omega)
    have q := (k3 _ p0 p1).2.1
    rw [p2] at q
    have ol := off_le hwf' i0 (show p < w 5 by omega)
    have eo : (edge w (plc w p + 1) - edge w (plc w p)) * allSh w - w 1 * fc w p 1 = offT w p := rfl
    rw [t_getf, b2, t_geti, c2, q, t_getf, x6, t_letv, t_getf, x1, t_getf, r1, t_geti, r2, r3, t_geti, r4, s1, w32_s (x := (edge w (plc w p + 1) - edge w (plc w p)) * allSh w) (by omega) (by omega), w32_s (x := w 1 * fc w p 1) (by omega) (by omega), eo, w32_s (x := offT w p) (by omega) (by omega), abs_e M' (by omega) (by omega), t_callp, t_some, max_e, t_callp, t_some, w32_s (by omega) (by omega), i2, ← offF_s i0]
    exact ⟨by decide, by decide, i0, by omega, e, e, e, r6, i0, by omega, r7, by decide, by omega, ih _ _ (by omega) ⟨by omega, by omega, rfl⟩⟩
theorem r_off {M : Mem} {w : Int → Int} (h : RI M w (-1)) (hwf : WF w) : Tot (f_X12_off 119 M) (AR (offS w) M) := by
  have L := wf_l hwf
  have hwf' := hwf
  obtain ⟨hn, hr, hf, ho, hl, hw⟩ := hwf
  have hn' := hn
  unfold WFn at hn'
  obtain ⟨a, b, ww⟩ := ri_at h
  have as := allSh_le hn hf
  have ash := allShares_e h.1 (by rw [h.2.1]; exact hn) (by rw [h.2.1]; exact hf)
  rw [h.2.1] at ash
  unfold f_X12_off offS
  rw [t_getf, a, t_geti, b, ww, t_ite]
  refine ⟨by decide, by decide, by decide, by decide, fun h1 => ?_, fun h1 => by rw [if_pos (by simpa using h1)]; exact zR (kr M) (by decide)⟩
  rw [if_neg h1, ash, t_callp, t_some]
  refine lpII (fun x p => 0 ≤ p ∧ p ≤ w 5 ∧ x = offF w p) (fun _ p => (w 5 - p).toNat) ?_ (by unfold KF; omega) ⟨by omega, by omega, rfl⟩
  rintro n x p ⟨i0, i1, i2⟩ ih
  have oi := offF_i hwf' i0 i1
  unfold f_X12_off_L25
  rw [t_getf, a, t_geti, b, ww, t_ite]
  refine ⟨by decide, by decide, by decide, by decide, fun h2 => ?_, fun h2 => ?_⟩
  · rw [i2, show p = w 5 by omega]
    rw [show p = w 5 by omega] at oi
    exact zRf (kr M) oi.1 (by omega) (by omega) (by omega)
  · obtain ⟨p0, p1, p2⟩ := plc_of ho i0 (show p < w 5 by omega)
    have tm := turnManyR_e h.1 (by rw [h.2.1]; exact hn) (by rw [h.2.1]; exact hf) (by rw [h.2.1]; exact ho) (k := plc w p) p0 (by rw [h.2.1]; exact p1)
    rw [h.2.1, p2] at tm
    have ol := off_le hwf' i0 (show p < w 5 by omega)
    have eo : (edge w (plc w p + 1) - edge w (plc w p)) * allSh w - w 1 * fc w p 1 = offT w p := rfl
    rw [tm, t_callp, t_some, t_getf, a, t_geti, b, ww, ofF_e h hn i0 (by omega) (by omega) (by omega), t_callp, t_some, w32_s (x := (edge w (plc w p + 1) - edge w (plc w p)) * allSh w) (by omega) (by omega), w32_s (x := w 1 * fc w p 1) (by omega) (by omega), eo, w32_s (x := offT w p) (by omega) (by omega), abs_e M (by omega) (by omega), t_callp, t_some, max_e, t_callp, t_some, w32_s (by omega) (by omega), i2, ← offF_s i0]
    exact ⟨by decide, by decide, by decide, by decide, ih _ _ (by omega) ⟨by omega, by omega, rfl⟩⟩
