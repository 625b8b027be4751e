/-! the reference lives: all -/
theorem lives_e {M : Mem} {w r : Int → Int} {x : Int} {Q : Mem → Prop} (h : RI M w (-1)) (hg : GW w) (h9 : w 9 ≠ -1) (x0 : 0 ≤ x) (x1 : x ≤ 9999) (hr : ∀ k, 0 ≤ k → k < 60 → (0 ≤ r k ∧ r k ≤ 98) ∧ M 134 k = r k) (hq : ∀ M', EncR M M' w (itS (ini w r x) 100000) → Q M') : Tot (f_X12_lives 119 x M) Q := by
  have LIi := itS_i (w := w) (r := r) hg x0 x1 (fun k a b => (hr k a b).1)
  have w9 := hg.2.2.2.1
  unfold f_X12_lives
  rw [t_putf, t_putf]
  refine ⟨by decide, by decide, ?_⟩
  obtain ⟨N0, e0⟩ : ∃ X, X = upd2 (upd2 M 119 36 x) 119 37 0 := ⟨_, rfl⟩
  have k0 : ∀ a j, ¬ (a = 119 ∧ (j = 36 ∨ j = 37)) → N0 a j = M a j := fun a j hh => by rw [e0, upd2_at, if_neg (by omega), upd2_at, if_neg (by omega)]
  have v36 : N0 119 36 = x := by rw [e0, upd2_at, if_neg (by decide), upd2_at, if_pos ⟨rfl, rfl⟩]
  have v37 : N0 119 37 = 0 := by rw [e0, upd2_at, if_pos ⟨rfl, rfl⟩]
  rw [← e0]
  have p39 : M 119 39 = 135 := h.1.1.2.2.2.2.2.2.2.2.2.2.2.2.2.2.2.1
  have l135 : M 135 (-1) = 4 := h.1.2.2.2.2.2.2.2.2.2.2.2.2.2.2.2.2.1
  refine lpIM (fun p N => 0 ≤ p ∧ p ≤ 4 ∧ (∀ a j, ¬ (a = 135 ∧ 0 ≤ j) → N a j = N0 a j) ∧ ∀ k, 0 ≤ k → k < p → N 135 k = 0) (fun p _ => (4 - p).toNat) ?_ (by unfold KF; omega) ⟨by omega, by omega, fun _ _ _ => rfl, fun k a b => by omega⟩
  rintro fu0 p N ⟨u0, u1, u2, u3⟩ ih0
  unfold f_X12_lives_L12
  rw [t_ite]
  refine ⟨fun c0 => ?_, fun c0 => ?_⟩
  rotate_left
  · rw [t_getf, u2 _ _ (by omega), k0 _ _ (by omega), p39, t_seti, u2 _ _ (by omega), k0 _ _ (by omega), l135, w32_s (by omega) (by omega)]
    refine ⟨by decide, by decide, u0, by omega, ih0 _ _ (by omega) ⟨by omega, by omega, fun a j ha => by rw [upd2_at, if_neg (by omega), u2 a j ha], fun k a b => ?_⟩⟩
    rw [upd2_at]
    by_cases ek : k = p
    · rw [if_pos ⟨rfl, ek⟩]
    · rw [if_neg (fun hh => ek hh.2)]; exact u3 k a (by omega)
  have en0 : EncR M N w (itS (ini w r x) 0) := by
    have fr : ∀ a j, ¬ SRl a j → N a j = M a j := fun a j ha => by rw [u2 a j (by unfold SRl at ha; omega), k0 a j (by unfold SRl at ha; omega)]
    have e120 : N 120 = w := by rw [← h.2.1]; exact funext fun j => by rw [u2 _ _ (by omega), k0 _ _ (by omega)]
    refine ⟨fr, ri_l h e120 rfl fr, ⟨by rw [u2 _ _ (by omega)]; exact v36, by rw [u2 _ _ (by omega)]; exact v37⟩, ⟨?_, u3 1 (by omega) (by omega), u3 2 (by omega) (by omega), u3 3 (by omega) (by omega)⟩, fun k a b => by rw [u2 _ _ (by omega), k0 _ _ (by omega)]; exact (hr k a b).2⟩
    rw [u3 0 (by omega) (by omega)]
    show (0 : Int) = w 6 - w 6
    omega
  clear ih0 u2 u3 k0 v36 v37 e0 p39 l135
  obtain ⟨s0, es0⟩ : ∃ s, s = ini w r x := ⟨_, rfl⟩
  rw [← es0] at en0 LIi hq
  have fin : ∀ (i : Nat) (X : Mem), i ≤ 100000 → finS (itS s0 i) → EncR M X w (itS s0 i) → Q X := fun i X hi hf he => by
    have := itS_f hf (100000 - i)
    rw [show i + (100000 - i) = 100000 by omega] at this
    exact hq X (by rw [this]; exact he)
  have st0 : (0 : Int) < w 9 → stp w 0 0 ≠ 25 := fun hh h25 => by
    have := d_25 (hg.2.2.2.2 0 (by omega) hh) h25
    omega
  refine lpIM (fun l X => ∃ i : Nat, (itS s0 i).2.2.1 = l ∧ EncR M X w (itS s0 i) ∧ (itS s0 i).2.2.2.2.2.2.1 = 0 ∧ (i : Int) ≤ 170 * (itS s0 i).2.2.2.1 ∧ (l < (itS s0 i).1 9 → stp (itS s0 i).1 l 0 ≠ 25)) (fun _ X => (301 - X 119 37).toNat) ?_ (by rw [en0.2.2.1.2, es0]; show (301 - (0 : Int)).toNat < KF; unfold KF; omega) ⟨0, by rw [es0]; rfl, en0, by rw [es0]; rfl, by rw [es0]; show (0 : Int) ≤ 170 * 0; omega, by rw [es0]; exact st0⟩
  clear en0 st0
  rintro fu l X ⟨i, el, en, hc, hi, h25⟩ ih
  have li := LIi i
  have hs' : lifeS (itS s0 i) = itS s0 (i + 1) := rfl
  have fin0 := fin i X
  obtain ⟨s, es⟩ : ∃ s, s = itS s0 i := ⟨_, rfl⟩
  rw [← es] at el en hc hi h25 li hs' fin0
  obtain ⟨w1, r1, l1, d1, m1, h1, c1, y1⟩ := s
  simp only at el hc hi h25
  subst el hc
  obtain ⟨⟨g1, g2, g3, g4⟩, hl, hdn', hm, hh, hcu, hy, hrr⟩ := li
  simp only at g1 g2 g3 g4 hl hdn' hm hh hcu hy hrr
  have en' := en
  obtain ⟨f1, f2, ⟨f3, f4⟩, ⟨f5, f6, f7, f8⟩, f9⟩ := en
  simp only at f2 f3 f4 f5 f6 f7 f8 f9
  obtain ⟨a, b, ww⟩ := ri_at f2
  have w9' := g1.2.2.2.1
  have hn1 := g1.1.1
  unfold WFn at hn1
  have hn0 := hg.1.1
  unfold WFn at hn0
  have p38 : X 119 38 = 134 := f2.1.1.2.2.2.2.2.2.2.2.2.2.2.2.2.2.1
  have l134 : X 134 (-1) = 80 := f2.1.2.2.2.2.2.2.2.2.2.2.2.2.2.2.2.1
  have p39 : X 119 39 = 135 := f2.1.1.2.2.2.2.2.2.2.2.2.2.2.2.2.2.2.1
  have l135 : X 135 (-1) = 4 := f2.1.2.2.2.2.2.2.2.2.2.2.2.2.2.2.2.2.1
  unfold f_X12_lives_L32
  rw [t_getf, a, t_geti, b, ww, t_ite, t_some]
  refine ⟨by decide, by decide, by decide, by decide, fun c => fin0 (by omega) (.inl c) en', fun c => ?_⟩
  have n25 := h25 (by omega)
  have dk := g1.2.2.2.2 l1 hl.1 (by omega)
  clear fin0 h25
  simp only [lifeS] at hs'
  rw [if_neg (by omega), if_neg n25] at hs'
  rw [t_getf, f4, t_ite]
  refine ⟨by decide, fun c2 => ?_, fun c2 => ?_⟩
  rotate_left
  · rw [if_pos (by omega)] at hs'
    rw [t_getf, p39, t_seti, l135, t_some]
    refine ⟨by decide, by decide, by decide, by decide, fin (i + 1) _ (by omega) ?_ ?_⟩
    · rw [← hs']; exact .inr (show (1 : Int) ≠ 0 by decide)
    · rw [← hs']
      have kO : ∀ a j, ¬ (a = 135 ∧ j = 3) → upd2 X 135 3 1 a j = X a j := fun a j hh => by rw [upd2_at, if_neg hh]
      exact ⟨fun a j ha => by rw [kO a j (by unfold SRl at ha; omega)]; exact f1 a j ha, ri_l f2 (by rw [upd2_o (by decide)]; exact f2.2.1) rfl (fun a j ha => kO a j (by unfold SRl at ha; omega)), ⟨by rw [kO _ _ (by decide)]; exact f3, by rw [kO _ _ (by decide)]; exact f4⟩, ⟨by rw [kO _ _ (by decide)]; exact f5, by rw [kO _ _ (by decide)]; exact f6, by rw [kO _ _ (by decide)]; exact f7, by rw [upd2_at, if_pos ⟨rfl, rfl⟩]⟩, fun k a b => by rw [kO _ _ (by omega)]; exact f9 k a b⟩
  rw [if_neg c2] at hs'
  rw [t_letv, w32_s (x := 6 * l1) (by omega) (by omega), w32_s (x := 270 + 6 * l1) (by omega) (by omega), t_getf, f4, t_putf, w32_s (x := d1 + 1) (by omega) (by omega)]
  refine ⟨by decide, by decide, ?_⟩
  obtain ⟨N1, e1⟩ : ∃ Y, Y = upd2 X 119 37 (d1 + 1) := ⟨_, rfl⟩
  have k1 : ∀ a j, ¬ (a = 119 ∧ j = 37) → N1 a j = X a j := fun a j hh => by rw [e1, upd2_at, if_neg hh]
  have v37 : N1 119 37 = d1 + 1 := by rw [e1, upd2_at, if_pos ⟨rfl, rfl⟩]
  have r1' : RI N1 w1 (-1) := ri_l f2 (by rw [e1, upd2_o (by decide)]; exact f2.2.1) rfl (fun a j ha => k1 a j (by unfold SRl at ha; omega))
  obtain ⟨a1, b1, ww1⟩ := ri_at r1'
  rw [← e1, t_getf, a1, t_geti, b1, ww1, stp_0 w1 l1, t_ite, t_some]
  refine ⟨by decide, by decide, by omega, by omega, fun c26 => ?_, fun c26 => ?_⟩
  rotate_left
  · rw [if_pos (by simpa using c26)] at hs'
    refine fin (i + 1) _ (by omega) (by rw [← hs']; exact .inl (Int.le_refl _)) ?_
    rw [← hs']
    exact ⟨fun a j ha => by rw [k1 a j (by unfold SRl at ha; omega)]; exact f1 a j ha, r1', ⟨by rw [k1 _ _ (by decide)]; exact f3, v37⟩, ⟨by rw [k1 _ _ (by decide)]; exact f5, by rw [k1 _ _ (by decide)]; exact f6, by rw [k1 _ _ (by decide)]; exact f7, by rw [k1 _ _ (by decide)]; exact f8⟩, fun k a b => by rw [k1 _ _ (by omega)]; exact f9 k a b⟩
  rw [if_neg c26] at hs'
  have ao := act_ok g1 (x := y1) hy.1 hy.2 hl.1 (show l1 < w1 9 by omega)
  have am := act_m g1 (x := y1) hl.1 (show l1 < w1 9 by omega)
  have a6 := act_6 g1 (x := y1) hl.1 (show l1 < w1 9 by omega)
  rw [t_getf, k1 _ _ (by decide), p39, t_geti, k1 _ _ (by decide), l135, k1 _ _ (by decide), f6, t_call]
  refine ⟨by decide, by decide, by decide, by decide, does_e r1' g1 hy.1 hy.2 hl.1 (by omega) (by rw [k1 _ _ (by decide)]; exact f3) (by rw [k1 _ _ (by decide), f7]; omega) (by rw [k1 _ _ (by decide), f5]; omega) (fun N2 z1 z2 z3 z4 z5 => ?_)⟩
  try dsimp only
  rw [k1 _ _ (by decide), f7] at z3
  rw [k1 _ _ (by decide), f5] at z4
  obtain ⟨⟨g1', sv', sd'⟩, ay, a01, ah⟩ := ao
  refine t_jv (1 - (actW w1 y1 l1).1) ?_ (fun j2 hj2 => ?_)
  rotate_left
  · rw [t_ite]
    refine ⟨fun hz => by rw [hz] at hj2; exact hj2, fun hz => ?_⟩
    rw [show (actW w1 y1 l1).1 = 1 by omega] at hj2; exact hj2
  have n2 : ∀ a j, ¬ SRl a j → N2 a j = X a j := fun a j ha => by rw [z5 a j (fun hs => ha (.inl hs)) (by unfold SRl at ha; omega) (by unfold SRl at ha; omega) (by unfold SRl at ha; omega), k1 a j (by unfold SRl at ha; omega)]
  have o135 : N2 135 (-1) = 4 := by rw [n2 _ _ (by unfold SRl SR; omega)]; exact l135
  obtain ⟨w2, ew2⟩ : ∃ Y, Y = (actW w1 y1 l1).2.1 := ⟨_, rfl⟩
  rw [← ew2] at z1 z4 hs' g1' sv' sd' am a6
  have w9'' := g1'.2.2.2.1
  have hn2 := g1'.1.1
  unfold WFn at hn2
  have e99 : w2 9 = w1 9 := sd'.1
  have st0 : ∀ q, 0 ≤ q → q < 6 → stp w2 l1 q = stp w1 l1 q := fun q q0 q1 => sd_stp sd' hl.1 (by omega) q0 q1
  rw [t_seti, o135, w32_s (by omega) (by omega)]
  refine ⟨by decide, by decide, by decide, ?_⟩
  obtain ⟨N3, e3⟩ : ∃ Y, Y = upd2 N2 135 1 (m1 + (1 - (actW w1 y1 l1).1)) := ⟨_, rfl⟩
  have k3 : ∀ a j, ¬ (a = 135 ∧ j = 1) → N3 a j = N2 a j := fun a j hh => by rw [e3, upd2_at, if_neg hh]
  have r3 : RI N3 w2 (-1) := ri_l f2 (by rw [e3, upd2_o (by decide)]; exact z1) am (fun a j ha => by rw [k3 a j (by unfold SRl at ha; omega), n2 a j ha])
  obtain ⟨a3, b3, ww3⟩ := ri_at r3
  have s1 : w2 (270 + 6 * l1 + 1) = stp w1 l1 1 := st0 1 (by omega) (by omega)
  have s4 : w2 (270 + 6 * l1 + 4) = stp w1 l1 4 := st0 4 (by omega) (by omega)
  have q38 : N3 119 38 = 134 := r3.1.1.2.2.2.2.2.2.2.2.2.2.2.2.2.2.1
  have q134 : N3 134 (-1) = 80 := r3.1.2.2.2.2.2.2.2.2.2.2.2.2.2.2.2.1
  have v134 : ∀ k, N3 134 k = X 134 k := fun k => by rw [k3 _ _ (by omega), z5 _ _ (by unfold SR; omega) (by decide) (by omega) (by omega), k1 _ _ (by omega)]
  rw [← e3, t_getf, a3, t_geti, b3, ww3, stp_0 w2 l1, st0 0 (by omega) (by omega)]
  refine ⟨by decide, by decide, by omega, by omega, t_jq (fun j => ∀ N4 : Mem, (∀ a j, ¬ (a = 134 ∧ 0 ≤ j) → N4 a j = N3 a j) → (∀ k, 0 ≤ k → k < 60 → N4 134 k = (if stp w1 l1 0 = 24 then upd1 r1 l1 (stp w1 l1 1 - 1) else r1) k) → Tot (j N4) Q) (fun N4 y1' y3' => ?_) (fun j hj => ?_)⟩
  rotate_left
  · rw [t_ite]
    refine ⟨fun c24 => hj N3 (fun _ _ _ => rfl) (fun k ka kb => by rw [if_neg c24, v134]; exact f9 k ka kb), fun c24 => ?_⟩
    have c24 : stp w1 l1 0 = 24 := by simpa using c24
    have d24 := d_24 dk c24
    rw [t_getf, q38, t_getf, a3, w32_s (x := 270 + 6 * l1 + 1) (by omega) (by omega), t_geti, b3, ww3, s1, t_seti, q134, w32_s (by omega) (by omega)]
    refine ⟨by decide, by decide, by decide, by omega, by omega, by decide, hl.1, by omega, hj _ (fun a j ha => by rw [upd2_at, if_neg (by omega)]) (fun k ka kb => ?_)⟩
    rw [if_pos c24, upd2_at, upd1_at]
    by_cases ek : k = l1
    · rw [if_pos ⟨rfl, ek⟩, if_pos ek]
    · rw [if_neg (fun hh => ek hh.2), if_neg ek, v134]; exact f9 k ka kb
  have r4 : RI N4 w2 (-1) := ⟨lr_keep1 r3.1 (fun a j x1 x2 => y1' a j (by omega)), by rw [← r3.2.1]; exact funext fun j => y1' 120 j (by omega), by rw [y1' _ _ (by omega)]; exact r3.2.2⟩
  obtain ⟨a4, b4, ww4⟩ := ri_at r4
  have enc' : EncR M N4 w (itS s0 (i + 1)) := by
    rw [← hs']
    refine ⟨fun a j ha => ?_, r4, ⟨?_, ?_⟩, ⟨?_, ?_, ?_, ?_⟩, y3'⟩
    · rw [y1' a j (by unfold SRl at ha; omega), k3 a j (by unfold SRl at ha; omega), n2 a j ha]; exact f1 a j ha
    · rw [y1' _ _ (by omega), k3 _ _ (by decide)]; exact z2
    · rw [y1' _ _ (by omega), k3 _ _ (by decide), z5 _ _ (by unfold SR; omega) (by decide) (by decide) (by decide)]; exact v37
    · rw [y1' _ _ (by omega), k3 _ _ (by decide), z4]; simp only; omega
    · rw [y1' _ _ (by omega), e3, upd2_at, if_pos ⟨rfl, rfl⟩]
    · rw [y1' _ _ (by omega), k3 _ _ (by decide), z3]
    · rw [y1' _ _ (by omega), k3 _ _ (by decide), z5 _ _ (by unfold SR; omega) (by decide) (by decide) (by decide), k1 _ _ (by decide)]; exact f8
  rw [t_getf, a4, t_geti, b4, ww4, stp_0 w2 l1, st0 0 (by omega) (by omega)]
  refine ⟨by decide, by decide, by omega, by omega, t_jv (if 2300 ≤ stp w1 l1 0 ∧ hldW w2 l1 = false then stp w1 l1 4 + 1 else l1 + 1) ?_ (fun j hj => ?_)⟩
  · have el' : (if 2300 ≤ stp w1 l1 0 ∧ hldW w2 l1 = false then stp w1 l1 4 + 1 else l1 + 1) = (itS s0 (i + 1)).2.2.1 := by rw [← hs']
    have ed' : (itS s0 (i + 1)).2.2.2.1 = d1 + 1 := by rw [← hs']
    rw [t_call, el']
    refine behindEnds_e LIi enc' (by rw [← hs']) (fun i' N5 x1 x2 x3 x4 x5 => ?_)
    try dsimp only
    rw [ed'] at x4
    have v5 := x2.2.2.1.2
    rw [x4] at v5
    exact ih _ _ (by rw [v5, f4]; omega) ⟨i', rfl, x2, x3, by rw [x4]; omega, x5⟩
  · rw [t_jn, t_ite, w32_s (x := l1 + 1) (by omega) (by omega)]
    refine ⟨fun c23 => by rw [if_neg (fun hh => by omega)] at hj; exact hj, fun c23 => ?_⟩
    have dw := d_w dk (by omega)
    have hst := st0 0 (by omega) (by omega)
    rw [holdsR_e r4 g1' hl.1 (by omega) (by rw [hst]; omega), t_callp, t_some, t_ite, n10]
    refine ⟨fun c3 => by rw [if_neg (fun hh => by rw [c3] at hh; exact absurd hh.2 (by decide))] at hj; exact hj, fun c3 => ?_⟩
    rw [t_getf, a4, w32_s (x := 270 + 6 * l1 + 4) (by omega) (by omega), t_geti, b4, ww4, s4, w32_s (by omega) (by omega)]
    refine ⟨by decide, by decide, by omega, by omega, ?_⟩
    rw [if_pos ⟨by omega, by simpa using c3⟩] at hj; exact hj
