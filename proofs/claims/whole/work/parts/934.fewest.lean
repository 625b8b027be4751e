/-! fewest, neediest, richest -/
def dryN (w : Int → Int) (p : Int) : Int := sumZ (fun f => if dryW w f then 1 else 0) p
theorem dryN_s {w : Int → Int} {p : Int} (h : 0 ≤ p) : dryN w (p + 1) = dryN w p + if dryW w p then 1 else 0 := sumZ_s _ h
theorem dry_pos {w : Int → Int} {p : Int} (h0 : 0 ≤ p) (h1 : p < w 5) (hd : dryW w p) : 0 < dryN w (w 5) := by
  have := sumZ_lt (g := fun _ => 0) (f := fun f => if dryW w f then 1 else 0) (n := w 5) (k0 := p) (fun k _ _ => i01.1) h0 h1 (by simp only [if_pos hd]; decide)
  rw [sumZ_z (g := fun _ => 0) (fun _ _ _ => rfl)] at this
  unfold dryN; omega
theorem dry_none {w : Int → Int} (h : dryN w (w 5) = 0) {p : Int} (h0 : 0 ≤ p) (h1 : p < w 5) : ¬ dryW w p := fun hd => by
  have := dry_pos h0 h1 hd; omega
def lackZ (w : Int → Int) (p : Int) : Int := sumZ (fun f => shG w (w 0) f) p
def sparZ (w : Int → Int) (p : Int) : Int := sumZ (fun f => spareW w f) p
def fewestS (w : Int → Int) : Ans := if 0 < dryN w (w 5) then (-1, 7, none) else if sparZ w (w 5) < lackZ w (w 5) then (-1, 6, none) else (lackZ w (w 5), 0, none)
theorem zZ_le {w : Int → Int} (hwf : WF w) {p : Int} (p0 : 0 ≤ p) (p1 : p ≤ w 5) : -1 * p ≤ lackZ w p ∧ lackZ w p ≤ 999999 * p ∧ 0 * p ≤ sparZ w p ∧ sparZ w p ≤ 1440 * p := by
  have L := wf_l hwf
  have a := sumZ_le (g := fun f => shG w (w 0) f) (n := w 5) (lo := -1) (hi := 999999) (fun k a b => sh_le hwf L.2.2.1 L.2.2.2.1 a b) p0 p1
  have b := sumZ_le (g := fun f => spareW w f) (n := w 5) (lo := 0) (hi := 1440) (fun k a b => spare_le hwf a b) p0 p1
  exact ⟨a.1, a.2, b.1, b.2⟩
theorem c_fewest {M : Mem} {v : Int} {w : Int → Int} (hc : CI M v w) (hwf : WF w) : Tot (f_X11_fewest 1 M) (AC (fewestS w) M) := by
  have L := wf_l hwf
  unfold f_X11_fewest
  rw [t_call]
  refine sweptWorld_e hc hwf (fun M' k1 k2 k3 => ?_)
  try dsimp only
  obtain ⟨a, b, c, d, e⟩ := ci_p k2
  obtain ⟨g1, g2, g3, g4, g5, g6, g7⟩ := ci_n k2
  refine lpIII (fun x y p => 0 ≤ p ∧ p ≤ w 5 ∧ x = lackZ w p ∧ y = sparZ w p ∧ dryN w p = 0) (fun _ _ p => (w 5 - p).toNat) ?_ (by unfold KF; omega) ⟨by omega, by omega, rfl, rfl, rfl⟩
  rintro n x y p ⟨i0, i1, i2, i3, i4⟩ ih
  have bz := zZ_le hwf i0 i1
  unfold f_X11_fewest_L12
  rw [t_getf, a, t_getf, c, t_getf, g5, t_ite]
  refine ⟨by decide, by decide, e, fun h1 => ?_, fun h1 => ?_⟩
  · have hp : p = w 5 := by omega
    subst hp
    unfold fewestS
    rw [if_neg (by omega), t_jn, t_ite, i2, i3]
    exact ⟨fun h2 => by rw [if_pos h2]; exact zCr k1 6, fun h2 => by rw [if_neg h2]; exact zCa k1 _⟩
  · have sd := sh_dry hwf i0 (show p < w 5 by omega)
    have bs := sh_le hwf L.2.2.1 L.2.2.2.1 i0 (show p < w 5 by omega)
    have bp := spare_le hwf i0 (show p < w 5 by omega)
    rw [t_getf, a, t_getf, c, t_nn, shortOf_e k2 hwf L.2.2.1 L.2.2.2.1 k3.1 k3.2.1 i0 (by omega), t_callp, t_some, t_ite]
    refine ⟨by decide, by decide, by decide, fun h2 => ?_, fun h2 => ?_⟩
    · rw [t_letv, t_getf, a, t_getf, c, spareOf_e k2 hwf k3 i0 (by omega), t_callp, t_some, t_letv, w32_s (x := x + shG w (w 0) p) (by omega) (by omega), w32_s (x := y + spareW w p) (by omega) (by omega), w32_s (by omega) (by omega)]
      exact ⟨by decide, by decide, ih _ _ _ (by omega) ⟨by omega, by omega, by rw [i2]; exact (sumZ_s _ i0).symm, by rw [i3]; exact (sumZ_s _ i0).symm, by rw [dryN_s i0, i4, if_neg (fun hd => h2 (sd.mpr hd))]; rfl⟩⟩
    · unfold fewestS
      rw [if_pos (dry_pos i0 (by omega) (sd.mp (by simpa using h2)))]; exact zCr k1 7
theorem anyDry_e {M : Mem} {w : Int → Int} {Q : Int × Mem → Prop} (h : RI M w (-1)) (hwf : WF w) (hq : ∀ M', (∀ a j, ¬ SR a j → M' a j = M a j) → Q (if 0 < dryN w (w 5) then 1 else 0, M')) : Tot (f_X12_anyDry 119 M) Q := by
  have L := wf_l hwf
  unfold f_X12_anyDry
  refine lpIM (fun p N => 0 ≤ p ∧ p ≤ w 5 ∧ dryN w p = 0 ∧ ∀ a j, ¬ SR a j → N a j = M a j) (fun p _ => (w 5 - p).toNat) ?_ (by unfold KF; omega) ⟨by omega, by omega, rfl, kr M⟩
  rintro n p N ⟨i0, i1, i2, i3⟩ ih
  have hN := ri_k h i3
  obtain ⟨a, b, ww⟩ := ri_at hN
  unfold f_X12_anyDry_L2
  rw [t_getf, a, t_geti, b, ww, t_ite]
  refine ⟨by decide, by decide, by decide, by decide, fun h1 => ?_, fun h1 => ?_⟩
  · have r := hq N i3
    rw [show p = w 5 by omega] at i2
    rw [if_neg (by omega)] at r
    rw [t_retzm]; exact ⟨.inl rfl, r⟩
  · rw [t_call]
    refine isDry_e hN hwf i0 (by omega) (fun M2 k2 => ?_)
    try dsimp only
    rw [t_ite, i10]
    refine ⟨fun h2 => ?_, fun h2 => ?_⟩
    · rw [w32_s (by omega) (by omega)]
      exact ih _ _ (by omega) ⟨by omega, by omega, by rw [dryN_s i0, i2, if_neg h2]; rfl, sr_t i3 k2⟩
    · have r := hq M2 (sr_t i3 k2)
      rw [if_pos (dry_pos i0 (by omega) (Classical.not_not.mp h2))] at r
      rw [t_retzm]; exact ⟨.inr rfl, r⟩
theorem dryN_le (w : Int → Int) {p : Int} (h : 0 ≤ p) : 0 ≤ dryN w p := (sum01 (g := fun f => if dryW w f then 1 else 0) (fun _ => i01) h).1
theorem r_fewest {M : Mem} {w : Int → Int} (h : RI M w (-1)) (hwf : WF w) : Tot (f_X12_fewest 119 M) (AR (fewestS w) M) := by
  have L := wf_l hwf
  have dn := dryN_le w L.2.2.2.2.2.2.1
  unfold f_X12_fewest fewestS
  rw [t_call]
  refine anyDry_e h hwf (fun M1 k1 => ?_)
  try dsimp only
  rw [t_ite, i10]
  refine ⟨fun h1 => ?_, fun h1 => by rw [if_pos (Classical.not_not.mp h1)]; exact zRr k1 7⟩
  rw [if_neg h1]
  have hd : dryN w (w 5) = 0 := by omega
  refine lpIIIM (fun x y p N => 0 ≤ p ∧ p ≤ w 5 ∧ x = lackZ w p ∧ y = sparZ w p ∧ ∀ a j, ¬ SR a j → N a j = M a j) (fun _ _ p _ => (w 5 - p).toNat) ?_ (by unfold KF; omega) ⟨by omega, by omega, rfl, rfl, k1⟩
  rintro n x y p N ⟨i0, i1, i2, i3, i4⟩ ih
  have hN := ri_k h i4
  obtain ⟨a, b, ww⟩ := ri_at hN
  have bz := zZ_le hwf i0 i1
  unfold f_X12_fewest_L20
  rw [t_getf, a, t_geti, b, ww, t_ite]
  refine ⟨by decide, by decide, by decide, by decide, fun h2 => ?_, fun h2 => ?_⟩
  · have hp : p = w 5 := by omega
    subst hp
    rw [t_jn, t_ite, i2, i3]
    exact ⟨fun h3 => by rw [if_neg (by omega)]; exact zRa i4 _, fun h3 => by rw [if_pos (by omega)]; exact zRr i4 6⟩
  · have bs := sh_le hwf L.2.2.1 L.2.2.2.1 i0 (show p < w 5 by omega)
    have bp := spare_le hwf i0 (show p < w 5 by omega)
    rw [t_call]
    refine lackingOf_e hN hwf i0 (by omega) (dry_none hd i0 (by omega)) (fun M2 k2 => ?_)
    try dsimp only
    rw [t_letv, t_call]
    refine spareOfR_e (ri_k hN k2) hwf i0 (by omega) (fun M3 k3 => ?_)
    try dsimp only
    rw [t_letv, w32_s (x := x + shG w (w 0) p) (by omega) (by omega), w32_s (x := y + spareW w p) (by omega) (by omega), w32_s (by omega) (by omega)]
    exact ih _ _ _ _ (by omega) ⟨by omega, by omega, by rw [i2]; exact (sumZ_s _ i0).symm, by rw [i3]; exact (sumZ_s _ i0).symm, sr_t i4 (sr_t k2 k3)⟩
/-- the neediest so far: how much, who -/
def needF (w : Int → Int) (p : Int) : Int × Int := foldZ (fun f x => if x.1 < shG w (w 0) f then (shG w (w 0) f, f) else x) (0, -1) p
theorem needF_s {w : Int → Int} {p : Int} (h : 0 ≤ p) : needF w (p + 1) = if (needF w p).1 < shG w (w 0) p then (shG w (w 0) p, p) else needF w p := foldZ_s _ _ h
theorem needF_i {w : Int → Int} {p : Int} (h0 : 0 ≤ p) (h1 : p ≤ w 5) : -1 ≤ (needF w p).2 ∧ (needF w p).2 < w 5 + 1 ∧ ((needF w p).2 = -1 ∨ (needF w p).2 < w 5) ∧ (needF w p).1 = if (needF w p).2 = -1 then 0 else shG w (w 0) (needF w p).2 := by
  have := foldZ_inv (f := fun f (x : Int × Int) => if x.1 < shG w (w 0) f then (shG w (w 0) f, f) else x) (a := (0, -1)) (fun q x => 0 ≤ q ∧ -1 ≤ x.2 ∧ (x.2 = -1 ∨ x.2 < w 5) ∧ x.1 = if x.2 = -1 then 0 else shG w (w 0) x.2) ⟨by omega, by simp, .inl rfl, by simp⟩ (n := w 5) (fun k x hk hk1 hx => by
    split
    · exact ⟨by omega, by simp only; omega, .inr hk1, by simp only; rw [if_neg (by omega)]⟩
    · exact ⟨by omega, hx.2⟩) h0 h1
  unfold needF
  exact ⟨this.2.1, by have := this.2.2.1; omega, this.2.2.1, this.2.2.2⟩
def orN (x : Int) : Ans := if x = -1 then (-1, 6, none) else (x, 0, none)
def neediestS (w : Int → Int) : Ans := if 0 < dryN w (w 5) then (-1, 7, none) else orN (needF w (w 5)).2
theorem zCo {M N : Mem} (hK : ∀ a k, ¬ SC a k → N a k = M a k) (x : Int) : Tot (call (f_X11_answerOrNone 1 x N) (fun v M' => some (v, M'))) (AC (orN x) M) := by
  rw [answerOrNone_e, t_call, t_some, t_some]
  unfold orN
  by_cases h : x = -1
  · rw [if_pos h, if_pos h, h]; exact ac_st hK _ _
  · rw [if_neg h, if_neg h]; exact ac_st hK _ _
theorem zRo {M N : Mem} (hK : ∀ a k, ¬ SR a k → N a k = M a k) (x : Int) : Tot (call (f_X12_orNone 119 x N) (fun v M' => some (v, M'))) (AR (orN x) M) := by
  rw [orNone_e, t_call, t_some, t_some]
  unfold orN
  by_cases h : x = -1
  · rw [if_pos h, if_pos h, h]; exact ar_st hK _ _
  · rw [if_neg h, if_neg h]; exact ar_st hK _ _
theorem c_neediest {M : Mem} {v : Int} {w : Int → Int} (hc : CI M v w) (hwf : WF w) : Tot (f_X11_neediest 1 M) (AC (neediestS w) M) := by
  have L := wf_l hwf
  unfold f_X11_neediest
  rw [t_call]
  refine sweptWorld_e hc hwf (fun M' k1 k2 k3 => ?_)
  try dsimp only
  obtain ⟨a, b, c, d, e⟩ := ci_p k2
  obtain ⟨g1, g2, g3, g4, g5, g6, g7⟩ := ci_n k2
  refine lpIII (fun x y p => 0 ≤ p ∧ p ≤ w 5 ∧ (x, y) = needF w p ∧ dryN w p = 0) (fun _ _ p => (w 5 - p).toNat) ?_ (by unfold KF; omega) ⟨by omega, by omega, rfl, rfl⟩
  rintro n x y p ⟨i0, i1, i2, i4⟩ ih
  unfold f_X11_neediest_L12
  rw [t_getf, a, t_getf, c, t_getf, g5, t_ite]
  refine ⟨by decide, by decide, e, fun h1 => ?_, fun h1 => ?_⟩
  · have hp : p = w 5 := by omega
    subst hp
    unfold neediestS
    rw [if_neg (by omega), ← i2]
    exact zCo k1 _
  · have sd := sh_dry hwf i0 (show p < w 5 by omega)
    have ns := needF_s (w := w) i0
    rw [← i2] at ns
    rw [t_getf, a, t_getf, c, t_nn, shortOf_e k2 hwf L.2.2.1 L.2.2.2.1 k3.1 k3.2.1 i0 (by omega), t_callp, t_some, t_ite]
    refine ⟨by decide, by decide, by decide, fun h2 => ?_, fun h2 => ?_⟩
    · rw [t_jn, t_ite, w32_s (by omega) (by omega)]
      have hdn : dryN w (p + 1) = 0 := by rw [dryN_s i0, i4, if_neg (fun hd => h2 (sd.mpr hd))]; rfl
      refine ⟨fun h3 => ih _ _ _ (by omega) ⟨by omega, by omega, ?_, hdn⟩, fun h3 => ih _ _ _ (by omega) ⟨by omega, by omega, ?_, hdn⟩⟩
      · rw [ns, if_neg (by simp only; omega)]
      · rw [ns, if_pos (by simp only; omega)]
    · unfold neediestS
      rw [if_pos (dry_pos i0 (by omega) (sd.mp (by simpa using h2)))]; exact zCr k1 7
theorem r_neediest {M : Mem} {w : Int → Int} (h : RI M w (-1)) (hwf : WF w) : Tot (f_X12_neediest 119 M) (AR (neediestS w) M) := by
  have L := wf_l hwf
  have dn := dryN_le w L.2.2.2.2.2.2.1
  unfold f_X12_neediest neediestS
  rw [t_call]
  refine anyDry_e h hwf (fun M1 k1 => ?_)
  try dsimp only
  rw [t_ite, i10]
  refine ⟨fun h1 => ?_, fun h1 => by rw [if_pos (Classical.not_not.mp h1)]; exact zRr k1 7⟩
  rw [if_neg h1]
  have hd : dryN w (w 5) = 0 := by omega
  refine lpIIM (fun y p N => 0 ≤ p ∧ p ≤ w 5 ∧ y = (needF w p).2 ∧ ∀ a j, ¬ SR a j → N a j = M a j) (fun _ p _ => (w 5 - p).toNat) ?_ (by unfold KF; omega) ⟨by omega, by omega, rfl, k1⟩
  rintro n y p N ⟨i0, i1, i2, i4⟩ ih
  have hN := ri_k h i4
  obtain ⟨a, b, ww⟩ := ri_at hN
  have ni := needF_i (w := w) i0 i1
  unfold f_X12_neediest_L18
  rw [t_getf, a, t_geti, b, ww, t_ite]
  refine ⟨by decide, by decide, by decide, by decide, fun h2 => ?_, fun h2 => ?_⟩
  · have hp : p = w 5 := by omega
    subst hp
    rw [i2]; exact zRo i4 _
  · have ns := needF_s (w := w) i0
    rw [t_call]
    refine lackingOf_e hN hwf i0 (by omega) (dry_none hd i0 (by omega)) (fun M2 k2 => ?_)
    try dsimp only
    refine t_jvm (fun x R => x = (needF w p).1 ∧ ∀ a j, ¬ SR a j → R a j = M a j) (fun x R hx => ?_) (fun j hj => ?_)
    · rw [w32_s (by omega) (by omega)]
      refine t_jv (needF w (p + 1)).2 (ih _ _ _ (by omega) ⟨by omega, by omega, rfl, hx.2⟩) (fun j hj => ?_)
      rw [t_ite, hx.1]
      refine ⟨fun h3 => ?_, fun h3 => ?_⟩
      · rw [ns, if_neg (by omega), ← i2] at hj; exact hj
      · rw [ns, if_pos (by omega)] at hj; exact hj
    · rw [t_ite]
      refine ⟨fun h3 => ?_, fun h3 => ?_⟩
      · rw [i2] at h3 ⊢
        rw [if_neg h3] at ni
        rw [t_call]
        exact lackingOf_e (ri_k hN k2) hwf (by omega) (by omega) (dry_none hd (by omega) (by omega)) (fun M3 k3 => hj _ _ ⟨ni.2.2.2.symm, sr_t i4 (sr_t k2 k3)⟩)
      · rw [i2] at h3
        rw [if_pos (by simpa using h3)] at ni
        exact hj _ _ ⟨ni.2.2.2.symm, sr_t i4 k2⟩
/-- the richest (poorest) so far -/
def richF (w : Int → Int) (is : Int) (p : Int) : Int := foldZ (fun f b => if b = -1 ∨ (if is = 0 then gtG w (w 0) (-1) f * fc w b 1 < gtG w (w 0) (-1) b * fc w f 1 else gtG w (w 0) (-1) b * fc w f 1 < gtG w (w 0) (-1) f * fc w b 1) then f else b) (-1) p
theorem richF_s {w : Int → Int} {is p : Int} (h : 0 ≤ p) : richF w is (p + 1) = if richF w is p = -1 ∨ (if is = 0 then gtG w (w 0) (-1) p * fc w (richF w is p) 1 < gtG w (w 0) (-1) (richF w is p) * fc w p 1 else gtG w (w 0) (-1) (richF w is p) * fc w p 1 < gtG w (w 0) (-1) p * fc w (richF w is p) 1) then p else richF w is p := foldZ_s _ _ h
theorem richF_i {w : Int → Int} {is p : Int} (h0 : 0 ≤ p) (h1 : p ≤ w 5) : -1 ≤ richF w is p ∧ (richF w is p = -1 ∨ richF w is p < w 5) := by
  refine foldZ_inv (fun _ (b : Int) => -1 ≤ b ∧ (b = -1 ∨ b < w 5)) ⟨by omega, .inl rfl⟩ (n := w 5) (fun k x hk hk1 hx => ?_) h0 h1
  have key : ∀ (c : Prop) [Decidable c], -1 ≤ (if c then k else x) ∧ ((if c then k else x) = -1 ∨ (if c then k else x) < w 5) := fun c _ => by
    by_cases hc : c
    · rw [if_pos hc]; exact ⟨by omega, .inr hk1⟩
    · rw [if_neg hc]; exact hx
  exact key _
theorem worth_le {w : Int → Int} (hwf : WF w) {a b : Int} (a0 : 0 ≤ a) (a1 : a < w 5) (b0 : 0 ≤ b) (b1 : b < w 5) : 0 ≤ gtG w (w 0) (-1) a * fc w b 1 ∧ gtG w (w 0) (-1) a * fc w b 1 ≤ 8818112504329666560 := by
  have L := wf_l hwf
  have g := gt_le hwf.1 hwf.2.1 hwf.2.2.1 hwf.2.2.2.1 (h := w 0) (by omega) (by omega) (-1) a0 a1
  have q := hwf.2.2.1 b b0 b1
  have := mul_le (x := gtG w (w 0) (-1) a) (y := fc w b 1) (a := 89071843478077440) (b := 99) g.1 g.2 (by omega) (by omega)
  omega
theorem compareWorth_e {M : Mem} {v : Int} {w : Int → Int} (hc : CI M v w) (hwf : WF w) (sw : SWP M w) {a b : Int} (a0 : 0 ≤ a) (a1 : a < w 5) (b0 : 0 ≤ b) (b1 : b < w 5) : f_X5_compareWorth 55 v a b M = some (if gtG w (w 0) (-1) a * fc w b 1 < gtG w (w 0) (-1) b * fc w a 1 then -1 else if gtG w (w 0) (-1) a * fc w b 1 = gtG w (w 0) (-1) b * fc w a 1 then 0 else 1) := by
  have L := wf_l hwf
  obtain ⟨_, _, _, _, e⟩ := ci_p hc
  obtain ⟨r1, r2, r3, r4, r5, r6, r7⟩ := ci_f hc hwf.1 a0 a1
  obtain ⟨_, _, s3, s4, s5, _, s7⟩ := ci_f hc hwf.1 b0 b1
  have x1 := r5 1 (by omega) (by omega)
  have y1 := s5 1 (by omega) (by omega)
  have w1 := worth_le hwf a0 a1 b0 b1
  have w2 := worth_le hwf b0 b1 a0 a1
  rw [← t_eq]
  simp only [f_X5_compareWorth, t_callp, gets_e hc hwf.1 hwf.2.1 hwf.2.2.1 hwf.2.2.2.1 L.2.2.1 L.2.2.2.1 sw.1 sw.2.1 a0 a1, gets_e hc hwf.1 hwf.2.1 hwf.2.2.1 hwf.2.2.2.1 L.2.2.1 L.2.2.2.1 sw.1 sw.2.1 b0 b1, t_some, t_getf, t_geti, r1, r2, r3, r4, s3, s4, x1, y1, cmp_e]
  rw [w64_s (by omega) (by omega), w64_s (by omega) (by omega)]
  exact ⟨e, r6, b0, by omega, s7, by decide, by omega, e, r6, a0, by omega, r7, by decide, by omega, rfl⟩
def richestS (w : Int → Int) (is : Int) : Ans := orN (richF w is (w 5))
theorem c_richest {M : Mem} {v : Int} {w : Int → Int} (hc : CI M v w) (hwf : WF w) (is : Int) : Tot (f_X11_richest 1 is M) (AC (richestS w is) M) := by
  have L := wf_l hwf
  unfold f_X11_richest richestS
  rw [t_call]
  refine sweptWorld_e hc hwf (fun M' k1 k2 k3 => ?_)
  try dsimp only
  obtain ⟨a, b, c, d, e⟩ := ci_p k2
  obtain ⟨g1, g2, g3, g4, g5, g6, g7⟩ := ci_n k2
  refine lpII (fun x p => 0 ≤ p ∧ p ≤ w 5 ∧ x = richF w is p) (fun _ p => (w 5 - p).toNat) ?_ (by unfold KF; omega) ⟨by omega, by omega, rfl⟩
  rintro n x p ⟨i0, i1, i2⟩ ih
  have ri := richF_i (w := w) (is := is) i0 i1
  rw [← i2] at ri
  unfold f_X11_richest_L10
  rw [t_getf, a, t_getf, c, t_getf, g5, t_ite]
  refine ⟨by decide, by decide, e, fun h1 => by rw [i2, show p = w 5 by omega]; exact zCo k1 _, fun h1 => ?_⟩
  have rs := richF_s (w := w) (is := is) i0
  rw [← i2] at rs
  rw [w32_s (x := p + 1) (by omega) (by omega)]
  refine t_jq (fun j => ∀ q : Int, (x ≠ -1 → q = if gtG w (w 0) (-1) p * fc w x 1 < gtG w (w 0) (-1) x * fc w p 1 then -1 else if gtG w (w 0) (-1) p * fc w x 1 = gtG w (w 0) (-1) x * fc w p 1 then 0 else 1) → Tot (j q) (AC (orN (richF w is (w 5))) M)) (fun q hq => ?_) (fun j hj => ?_)
  · refine t_jv (richF w is (p + 1)) (ih _ _ (by omega) ⟨by omega, by omega, rfl⟩) (fun j hj => ?_)
    rw [t_jn, t_ite, t_ite, t_ite, t_ite]
    refine ⟨fun h2 => ?_, fun h2 => ⟨fun h3 => ⟨fun h4 => ?_, fun h4 => ?_⟩, fun h3 => ⟨fun h4 => ?_, fun h4 => ?_⟩⟩⟩
    · rw [rs, if_pos (.inl h2)] at hj; exact hj
    · have e1 := hq h2
      rw [rs, if_neg (fun hh => by
        rcases hh with hh | hh
        · exact h2 hh
        · rw [if_pos h3] at hh; rw [if_pos hh] at e1; omega)] at hj; exact hj
    · have e1 := hq h2
      rw [rs, if_pos (.inr (by
        rw [if_pos h3]
        by_cases c1 : gtG w (w 0) (-1) p * fc w x 1 < gtG w (w 0) (-1) x * fc w p 1
        · exact c1
        · rw [if_neg c1] at e1; split at e1 <;> omega))] at hj; exact hj
    · have e1 := hq h2
      rw [rs, if_neg (fun hh => by
        rcases hh with hh | hh
        · exact h2 hh
        · rw [if_neg h3] at hh; rw [if_neg (by omega), if_neg (by omega)] at e1; omega)] at hj; exact hj
    · have e1 := hq h2
      rw [rs, if_pos (.inr (by
        rw [if_neg h3]
        split at e1
        · omega
        · split at e1 <;> omega))] at hj; exact hj
  · rw [t_ite]
    refine ⟨fun h2 => ?_, fun h2 => hj 0 (fun h3 => absurd h3 h2)⟩
    rw [t_getf, a, t_getf, c, t_nn, compareWorth_e k2 hwf k3 i0 (by omega) (by omega) (by omega), t_callp, t_some]
    exact ⟨by decide, by decide, by decide, hj _ (fun _ => rfl)⟩
theorem r_richest {M : Mem} {w : Int → Int} (h : RI M w (-1)) (hwf : WF w) (is : Int) : Tot (f_X12_richest 119 is M) (AR (richestS w is) M) := by
  have L := wf_l hwf
  unfold f_X12_richest richestS
  refine lpIIM (fun x p N => 0 ≤ p ∧ p ≤ w 5 ∧ x = richF w is p ∧ ∀ a j, ¬ SR a j → N a j = M a j) (fun _ p _ => (w 5 - p).toNat) ?_ (by unfold KF; omega) ⟨by omega, by omega, rfl, kr M⟩
  rintro n x p N ⟨i0, i1, i2, i3⟩ ih
  have hN := ri_k h i3
  obtain ⟨a, b, ww⟩ := ri_at hN
  have ri := richF_i (w := w) (is := is) i0 i1
  rw [← i2] at ri
  have rs := richF_s (w := w) (is := is) i0
  rw [← i2] at rs
  unfold f_X12_richest_L4
  rw [t_getf, a, t_geti, b, ww, t_ite]
  refine ⟨by decide, by decide, by decide, by decide, fun h1 => by rw [i2, show p = w 5 by omega]; exact zRo i3 _, fun h1 => ?_⟩
  rw [w32_s (by omega) (by omega)]
  refine t_jvm (fun y R => y = richF w is (p + 1) ∧ ∀ a j, ¬ SR a j → R a j = M a j) (fun y R hy => ih _ _ _ (by omega) ⟨by omega, by omega, hy.1, hy.2⟩) (fun j hj => ?_)
  rw [t_jn, t_ite]
  refine ⟨fun h2 => hj _ _ ⟨by rw [rs, if_pos (.inl h2)], i3⟩, fun h2 => ?_⟩
  rw [t_call]
  refine waterInR_e hN hwf i0 (by omega) (fun M1 k1 => ?_)
  try dsimp only
  have h1' := ri_k hN k1
  have w1 := worth_le hwf i0 (show p < w 5 by omega) (show 0 ≤ x by omega) (show x < w 5 by omega)
  have w2 := worth_le hwf (show 0 ≤ x by omega) (show x < w 5 by omega) i0 (show p < w 5 by omega)
  rw [ofF_e h1' hwf.1 (by omega) (by omega) (by omega) (by omega), t_callp, t_some, t_letv, w64_s (by omega) (by omega), t_call]
  refine waterInR_e h1' hwf (by omega) (by omega) (fun M2 k2 => ?_)
  try dsimp only
  have h2' := ri_k h1' k2
  have kk := sr_t i3 (sr_t k1 k2)
  rw [ofF_e h2' hwf.1 i0 (by omega) (by omega) (by omega), t_callp, t_some, t_letv, w64_s (by omega) (by omega), t_ite, t_ite, t_ite]
  refine ⟨fun h3 => ⟨fun h4 => hj _ _ ⟨?_, kk⟩, fun h4 => hj _ _ ⟨?_, kk⟩⟩, fun h3 => ⟨fun h4 => hj _ _ ⟨?_, kk⟩, fun h4 => hj _ _ ⟨?_, kk⟩⟩⟩
  · rw [rs, if_pos (.inr (by rw [if_pos h3]; exact h4))]
  · rw [rs, if_neg (fun hh => by rcases hh with hh | hh; exact h2 hh; rw [if_pos h3] at hh; exact h4 hh)]
  · rw [rs, if_pos (.inr (by rw [if_neg h3]; exact h4))]
  · rw [rs, if_neg (fun hh => by rcases hh with hh | hh; exact h2 hh; rw [if_neg h3] at hh; exact h4 hh)]
