/-! odds: the reference -/
def wkW (w : Int → Int) : Int → Int := fun j => if 3200 ≤ j ∧ j < 3470 then w (j - 3200) else w j
theorem wk_o {w : Int → Int} {j : Int} (h : j < 3200 ∨ 3470 ≤ j) : wkW w j = w j := by unfold wkW; rw [if_neg (by omega)]
theorem wk_eq (w : Int → Int) : EqL w (wkW w) := fun j hj => wk_o (by omega)
theorem r_odds {M : Mem} {w r : Int → Int} {L : (Int → Int) → Int → LfS} {Q : Int × Mem → Prop} (hL : LvL (wkW w) L) (h : RI M w (-1)) (hg : GW w) (hr : ∀ k, 0 ≤ k → k < 60 → (0 ≤ r k ∧ r k ≤ 98) ∧ M 134 k = r k) (f lit sd n : Int) (h1 : ¬ (0 ≤ f ∧ f < w 5 ∧ 0 ≤ lit ∧ lit ≤ 9999 ∧ 1 ≤ n ∧ n ≤ 10 ∧ 0 ≤ sd ∧ sd ≤ 10000 - n) → Q (0, upd2 M 119 2 1)) (h2 : (0 ≤ f ∧ f < w 5 ∧ 0 ≤ lit ∧ lit ≤ 9999 ∧ 1 ≤ n ∧ n ≤ 10 ∧ 0 ≤ sd ∧ sd ≤ 10000 - n) → w 9 = -1 → Q (0, upd2 M 119 2 6)) (h3 : (0 ≤ f ∧ f < w 5 ∧ 0 ≤ lit ∧ lit ≤ 9999 ∧ 1 ≤ n ∧ n ≤ 10 ∧ 0 ≤ sd ∧ sd ≤ 10000 - n) → w 9 ≠ -1 → ∀ N, (∀ a j, ¬ SRl a j → N a j = M a j) → RI N (wkW w) (-1) → (∀ k, 0 ≤ k → k < 60 → N 134 k = (odZ L f lit sd r n).2 k) → Q (1, frR N (odZ L f lit sd r n).1 n)) : Tot (f_X12_odds 119 f lit sd n M) Q := by
  obtain ⟨a, b, ww⟩ := ri_at h
  have hn := hg.1.1
  unfold WFn at hn
  have z1 : ¬ (0 ≤ f ∧ f < w 5 ∧ 0 ≤ lit ∧ lit ≤ 9999 ∧ 1 ≤ n ∧ n ≤ 10 ∧ 0 ≤ sd ∧ sd ≤ 10000 - n) → Tot (call (f_X12_is 119 1 M) (fun v2 M3 => retzm v2 M3)) Q := fun hh => by
    rw [is_e, t_call, t_some, t_retzm]; simp only [if_neg (show ¬ (1 : Int) = 0 by decide)]; exact ⟨.inl trivial, h1 hh⟩
  unfold f_X12_odds
  rw [isFR h, t_callp, t_some, t_jn, t_ite, i10]
  refine ⟨fun c1 => z1 (by omega), fun c1 => ?_⟩
  rw [isFrom_e, t_callp, t_some, t_ite, i10]
  refine ⟨fun c2 => z1 (by omega), fun c2 => ?_⟩
  rw [isFrom_e, t_callp, t_some, t_ite, i10]
  refine ⟨fun c3 => z1 (by omega), fun c3 => ?_⟩
  rw [isFrom_e, t_callp, t_some, t_ite, i10]
  refine ⟨fun c4 => z1 (by omega), fun c4 => ?_⟩
  rw [w32_s (x := sd + n) (by omega) (by omega), w32_s (by omega) (by omega), t_ite]
  refine ⟨fun c5 => ?_, fun c5 => z1 (by omega)⟩
  have hh : 0 ≤ f ∧ f < w 5 ∧ 0 ≤ lit ∧ lit ≤ 9999 ∧ 1 ≤ n ∧ n ≤ 10 ∧ 0 ≤ sd ∧ sd ≤ 10000 - n := by omega
  rw [t_getf, a, t_geti, b, ww, t_ite]
  refine ⟨by decide, by decide, by decide, by decide, fun h9 => ?_, fun h9 => ?_⟩
  rotate_left
  · rw [is_e, t_call, t_some, t_retzm]; simp only [if_neg (show ¬ (6 : Int) = 0 by decide)]; exact ⟨.inl trivial, h2 hh (by simpa using h9)⟩
  have H := h3 hh h9
  clear z1 h1 h2 h3 c1 c2 c3 c4 c5
  refine lpIM (fun p N => 0 ≤ p ∧ p ≤ 270 ∧ ∀ a j, N a j = if a = 120 ∧ 3200 ≤ j ∧ j < 3200 + p then w (j - 3200) else M a j) (fun p _ => (270 - p).toNat) ?_ (by unfold KF; omega) ⟨by omega, by omega, fun a j => by rw [if_neg (by omega)]⟩
  rintro fu0 p N ⟨u0, u1, u2⟩ ih0
  unfold f_X12_odds_L84
  rw [t_ite]
  refine ⟨fun c0 => ?_, fun c0 => ?_⟩
  rotate_left
  · rw [t_getf, u2 119 0, if_neg (by omega), a, t_getf, u2 119 0, if_neg (by omega), a, t_geti, u2 120 (-1), if_neg (by omega), b, u2 120 p, if_neg (by omega), ww, w32_s (x := 3200 + p) (by omega) (by omega), t_seti, u2 120 (-1), if_neg (by omega), b, w32_s (by omega) (by omega)]
    refine ⟨by decide, by decide, by decide, u0, by omega, by decide, by omega, by omega, ih0 _ _ (by omega) ⟨by omega, by omega, fun a j => ?_⟩⟩
    rw [upd2_at, u2]
    by_cases c1 : a = 120 ∧ j = 3200 + p
    · rw [if_pos c1, if_pos (by omega), c1.2, show 3200 + p - 3200 = p by omega]
    · rw [if_neg c1]
      by_cases c2 : a = 120 ∧ 3200 ≤ j ∧ j < 3200 + p
      · rw [if_pos c2, if_pos (by omega)]
      · rw [if_neg c2, if_neg (by omega)]
  have e120 : N 120 = wkW w := by
    funext j
    rw [u2, ww]
    unfold wkW
    by_cases c1 : 3200 ≤ j ∧ j < 3470
    · rw [if_pos (by omega), if_pos c1]
    · rw [if_neg (by omega), if_neg c1]
  have fr0 : ∀ a j, a ≠ 120 → N a j = M a j := fun a j ha => by rw [u2, if_neg (by omega)]
  clear ih0 u2
  have g1 : GW (wkW w) := gw_lt hg (wk_eq w)
  have hn1 := g1.1.1
  unfold WFn at hn1
  have e5 : wkW w 5 = w 5 := wk_o (by omega)
  have e9 : wkW w 9 ≠ -1 := by rw [wk_o (by omega)]; exact h9
  have r0 : RI N (wkW w) (-1) := ri_l h e120 (wk_o (by omega)) (fun a j ha => fr0 a j (by unfold SRl at ha; omega))
  have oi := fun k k0 k1 => odZ_i (w := wkW w) hL g1 (f := f) (lit := lit) (sd := sd) (n := n) (r := r) (by omega) (by omega) (fun k a b => (hr k a b).1) (k := k) k0 k1
  refine lpIIM (fun y k X => 0 ≤ k ∧ k ≤ n ∧ y = (odZ L f lit sd r k).1 ∧ (∀ a j, ¬ SRl a j → X a j = M a j) ∧ RI X (wkW w) (-1) ∧ ∀ j, 0 ≤ j → j < 60 → X 134 j = (odZ L f lit sd r k).2 j) (fun _ k _ => (n - k).toNat) ?_ (by unfold KF; omega) ⟨by omega, by omega, rfl, fun a j ha => fr0 a j (by unfold SRl at ha; omega), r0, fun j ja jb => by rw [fr0 _ _ (by decide)]; exact (hr j ja jb).2⟩
  rintro fu y k X ⟨i0, i1, i2, i3, i4, i5⟩ ih
  have ok := oi k i0 i1
  unfold f_X12_odds_L122
  rw [t_ite]
  refine ⟨fun c1 => ?_, fun c1 => ?_⟩
  · have hk : k = n := by omega
    subst hk
    rw [i2, tb_e X ok.1.1 (by omega) (by omega) (by omega), t_call, t_some, t_retzm]
    exact ⟨.inr rfl, H X i3 i4 i5⟩
  · rw [t_callv, w32_s (x := sd + k) (by omega) (by omega)]
    refine lives_e i4 g1 e9 (by omega) (by omega) (r := (odZ L f lit sd r k).2) (fun j ja jb => ⟨ok.2 j ja jb, i5 j ja jb⟩) (fun Y en => ?_)
    have li := itS_i (w := wkW w) (r := (odZ L f lit sd r k).2) (x := sd + k) g1 (by omega) (by omega) ok.2 100000
    have lh := itS_h (w := wkW w) (r := (odZ L f lit sd r k).2) (x := sd + k) g1 (by omega) (by omega) ok.2 100000
    have os := odZ_s (L := L) (f := f) (lit := lit) (sd := sd) (r := r) i0
    rw [hL] at en li lh
    obtain ⟨s, es⟩ : ∃ s, s = L (odZ L f lit sd r k).2 (sd + k) := ⟨_, rfl⟩
    rw [← es] at en li os lh
    obtain ⟨f1, f2, ⟨f3, f4⟩, ⟨f5, f6, f7, f8⟩, f9⟩ := en
    obtain ⟨a2, b2, ww2⟩ := ri_at f2
    have ea : s.1 (258 + f) = ac s.1 f := rfl
    rw [t_getf, a2, w32_s (x := 258 + f) (by omega) (by omega), t_geti, b2, ww2, ea]
    refine ⟨by decide, by decide, by omega, by omega, t_jv (if lit ≤ ac s.1 f then 1 else 0) ?_ (fun j hj => ?_)⟩
    rotate_left
    · rw [t_ite]
      exact ⟨fun hz => by rw [if_neg (by omega)] at hj; exact hj, fun hz => by rw [if_pos (by omega)] at hj; exact hj⟩
    have b01 := i01 (c := lit ≤ ac s.1 f)
    rw [t_letv, w32_s (by omega) (by omega), w32_s (by omega) (by omega)]
    refine lpIM (fun p Z => 0 ≤ p ∧ p ≤ 270 ∧ ∀ a j, Z a j = if a = 120 ∧ 0 ≤ j ∧ j < p then wkW w j else Y a j) (fun p _ => (270 - p).toNat) ?_ (by unfold KF; omega) ⟨by omega, by omega, fun a j => by rw [if_neg (by omega)]⟩
    rintro fu2 p Z ⟨u0, u1, u2⟩ ih2
    unfold f_X12_odds_L164
    rw [t_ite]
    refine ⟨fun c3 => ?_, fun c3 => ?_⟩
    · have z120 : Z 120 = wkW w := by
        funext j
        rw [u2]
        by_cases c4 : 0 ≤ j ∧ j < 270
        · rw [if_pos (by omega)]
        · rw [if_neg (by omega), ww2]; exact lh j (by omega)
      have fz : ∀ a j, a ≠ 120 → Z a j = Y a j := fun a j ha => by rw [u2, if_neg (by omega)]
      have frZ : ∀ a j, ¬ SRl a j → Z a j = M a j := fun a j ha => by rw [fz a j (by unfold SRl at ha; omega), f1 a j ha, i3 a j ha]
      exact ih _ _ _ (by omega) ⟨by omega, by omega, by rw [os, i2], frZ, ri_l h z120 (wk_o (by omega)) frZ, fun j ja jb => by rw [fz _ _ (by decide), os]; exact f9 j ja jb⟩
    · have e1 : s.1 (3200 + p) = wkW w p := by
        rw [lh _ (by omega)]
        unfold wkW
        rw [if_pos (by omega), if_neg (by omega), show 3200 + p - 3200 = p by omega]
      rw [t_getf, u2 119 0, if_neg (by omega), a2, t_getf, u2 119 0, if_neg (by omega), a2, w32_s (x := 3200 + p) (by omega) (by omega), t_geti, u2 120 (-1), if_neg (by omega), b2, u2 120 (3200 + p), if_neg (by omega), ww2, e1, t_seti, u2 120 (-1), if_neg (by omega), b2, w32_s (by omega) (by omega)]
      refine ⟨by decide, by decide, by decide, by omega, by omega, by decide, u0, by omega, ih2 _ _ (by omega) ⟨by omega, by omega, fun a j => ?_⟩⟩
      rw [upd2_at, u2]
      by_cases c1 : a = 120 ∧ j = p
      · rw [if_pos c1, if_pos (by omega), c1.2]
      · rw [if_neg c1]
        by_cases c2 : a = 120 ∧ 0 ≤ j ∧ j < p
        · rw [if_pos c2, if_pos (by omega)]
        · rw [if_neg c2, if_neg (by omega)]
