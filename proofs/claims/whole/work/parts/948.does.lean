/-! the reference lives: one step -/
def SRl (a j : Int) : Prop := SR a j ∨ a = 120 ∨ (a = 119 ∧ (j = 36 ∨ j = 37)) ∨ ((a = 134 ∨ a = 135) ∧ 0 ≤ j)
theorem lr_keep1 {M N : Mem} (h : LR M) (e : ∀ a k, (119 ≤ a ∧ a ≤ 136) → (k = -1 ∨ a = 119 ∧ (k < 2 ∨ 5 ≤ k ∧ k < 10 ∨ k = 21 ∨ k = 22 ∨ k = 25 ∨ 27 ≤ k ∧ k < 30 ∨ k = 35 ∨ 38 ≤ k ∧ k < 41)) → N a k = M a k) : LR N := by
  obtain ⟨⟨a1, a2, a3, a4, a5, a6, a7, a8, a9, a10, a11, a12, a13, a14, a15, a16, a17⟩, ⟨c1, c2, c3, c4, c5, c6, c7, c8, c9, c10, c11, c12, c13, c14, c15, c16, c17⟩⟩ := h
  refine ⟨⟨?_, ?_, ?_, ?_, ?_, ?_, ?_, ?_, ?_, ?_, ?_, ?_, ?_, ?_, ?_, ?_, ?_⟩, ⟨?_, ?_, ?_, ?_, ?_, ?_, ?_, ?_, ?_, ?_, ?_, ?_, ?_, ?_, ?_, ?_, ?_⟩⟩ <;> rw [e _ _ (by omega) (by omega)] <;> assumption
theorem ri_l {M N : Mem} {w w' : Int → Int} (h : RI M w (-1)) (e : N 120 = w') (e1 : w' (-1) = w (-1)) (k : ∀ a j, ¬ SRl a j → N a j = M a j) : RI N w' (-1) := by
  refine ⟨lr_keep1 h.1 (fun a j h1 h2 => ?_), e, by rw [k _ _ (by unfold SRl SR; omega)]; exact h.2.2⟩
  by_cases c : a = 120
  · subst c
    rw [show j = -1 by omega, e, e1, h.2.1]
  · exact k a j (by unfold SRl SR; omega)
theorem act_m {w : Int → Int} (h : GW w) {x k : Int} (k0 : 0 ≤ k) (k1 : k < w 9) : (actW w x k).2.1 (-1) = w (-1) := by
  have L := wf_l h.1
  have dk := h.2.2.2.2 k k0 k1
  have hn := h.1.1
  unfold WFn at hn
  have u : ∀ i y, i = 0 ∨ i = 7 → upd1 w i y (-1) = w (-1) := fun i y hi => by rw [upd1_at, if_neg (by omega)]
  have l8 : ∀ a b m, 0 ≤ a → a < 10 → 0 ≤ b → b < 10 → w 8 < 12 → lendO w a b m (-1) = w (-1) := fun a b m a0 a1 b0 b1 h8 => lendO_o a0 a1 b0 b1 (by omega) h8 (by omega)
  unfold actW
  split
  · simp only; exact u 7 _ (.inr rfl)
  split
  · simp only; exact u 7 _ (.inr rfl)
  split
  · split
    · rfl
    · simp only; exact swapO_o (by omega) (by omega)
  split
  · rename_i c
    have df := d_ff dk (.inr (.inl c))
    split
    · rfl
    · simp only; exact l8 _ _ _ (by omega) (by omega) (by omega) (by omega) (by omega)
  split
  · rename_i c
    have df := d_ff dk (.inr (.inr c))
    split
    · rfl
    · simp only; exact l8 _ _ _ (by omega) (by omega) (by omega) (by omega) (by omega)
  split
  · simp only; exact u 0 _ (.inl rfl)
  split
  · split
    · simp only; exact u 0 _ (.inl rfl)
    · rfl
  split
  · split
    · rfl
    · simp only; unfold passO; rw [upd1_at, if_neg (by decide), upd1_at, if_neg (by decide), passP_o (by omega)]
  · rfl
theorem stp_0 (w : Int → Int) (k : Int) : w (270 + 6 * k) = stp w k 0 := by unfold stp; rw [Int.add_zero]
theorem does_e {M : Mem} {w : Int → Int} {Q : Int × Mem → Prop} (h : RI M w (-1)) (hg : GW w) {x k : Int} (x0 : 0 ≤ x) (x1 : x < 65536) (k0 : 0 ≤ k) (k1 : k < w 9) (hx : M 119 36 = x) (hh : 0 ≤ M 135 2 ∧ M 135 2 ≤ 300) (hp : 0 ≤ M 135 0 ∧ M 135 0 ≤ 300) (hq : ∀ M', M' 120 = (actW w x k).2.1 → M' 119 36 = (actW w x k).2.2.1 → M' 135 2 = M 135 2 + (actW w x k).2.2.2 → M' 135 0 = M 135 0 + ((actW w x k).2.1 6 - w 6) → (∀ a j, ¬ SR a j → a ≠ 120 → ¬ (a = 119 ∧ j = 36) → ¬ (a = 135 ∧ (j = 0 ∨ j = 2)) → M' a j = M a j) → Q ((actW w x k).1, M')) : Tot (f_X12_does 119 (270 + 6 * k) M) Q := by
  have hwf := hg.1
  have L := wf_l hwf
  have hn := hwf.1
  unfold WFn at hn
  have w9 := hg.2.2.2.1
  have dk := hg.2.2.2.2 k k0 k1
  obtain ⟨a, b, ww⟩ := ri_at h
  have p39 : M 119 39 = 135 := h.1.1.2.2.2.2.2.2.2.2.2.2.2.2.2.2.2.1
  have l135 : M 135 (-1) = 4 := h.1.2.2.2.2.2.2.2.2.2.2.2.2.2.2.2.2.1
  have e1 : w (270 + 6 * k + 1) = stp w k 1 := rfl
  have e2 : w (270 + 6 * k + 2) = stp w k 2 := rfl
  have e3 : w (270 + 6 * k + 3) = stp w k 3 := rfl
  unfold f_X12_does
  rw [t_getf, a, w32_s (x := 270 + 6 * k + 1) (by omega) (by omega), t_geti, b, ww, e1, t_getf, a, w32_s (x := 270 + 6 * k + 2) (by omega) (by omega), t_geti, b, ww, e2, t_getf, a, t_geti, b, ww, stp_0 w k]
  refine ⟨by decide, by decide, by omega, by omega, by decide, by decide, by omega, by omega, by decide, by decide, by omega, by omega, ?_⟩
  have keep : ∀ ok, actW w x k = (ok, w, x, 0) → Q (ok, M) := fun ok ea => by
    have q := hq M (by rw [ea]; exact h.2.1) (by rw [ea]; exact hx) (by rw [ea]; simp only; omega) (by rw [ea]; simp only; omega) (fun _ _ _ _ _ _ => rfl)
    rw [ea] at q; exact q
  have one : ∀ (M' : Mem) (w' : Int → Int), actW w x k = (1, w', x, 0) → w' 6 = w 6 → M' 120 = w' → (∀ a j, a ≠ 120 → M' a j = M a j) → Q (1, M') := fun M' w' ea h6 hw' hf => by
    have q := hq M' (by rw [ea]; exact hw') (by rw [ea, hf _ _ (by decide)]; exact hx) (by rw [ea, hf _ _ (by decide)]; simp only; omega) (by rw [ea, hf _ _ (by decide)]; simp only; omega) (fun a j _ ha _ _ => hf a j ha)
    rw [ea] at q; exact q
  by_cases c1 : stp w k 0 = 10
  · have ea : actW w x k = (1, upd1 w 7 (clW (w 7) (stp w k 1) 1), x, 0) := by unfold actW; rw [if_pos c1]
    rw [c1, if_pos rfl, t_getf, a, t_geti, b, ww, t_seti, b, t_retzm]
    refine ⟨by decide, by decide, by decide, by decide, by decide, by decide, by decide, .inr rfl, one _ _ ea (by rw [upd1_at, if_neg (by decide)]) ?_ (fun a j ha => by rw [upd2_at, if_neg (by omega)])⟩
    rw [upd2_120, h.2.1]; unfold clW; rw [if_neg (by decide)]
  by_cases c2 : stp w k 0 = 16
  · have ea : actW w x k = (1, upd1 w 7 (clW (w 7) (stp w k 1) 0), x, 0) := by unfold actW; rw [if_neg c1, if_pos c2]
    rw [c2, if_neg (by decide), if_pos rfl, t_getf, a, t_geti, b, ww, t_seti, b, t_retzm]
    refine ⟨by decide, by decide, by decide, by decide, by decide, by decide, by decide, .inr rfl, one _ _ ea (by rw [upd1_at, if_neg (by decide)]) ?_ (fun a j ha => by rw [upd2_at, if_neg (by omega)])⟩
    rw [upd2_120, h.2.1]; unfold clW; rw [if_pos rfl]
  by_cases c3 : stp w k 0 = 17
  · have df := d_ff dk (.inl c3)
    have ea : actW w x k = if stp w k 1 = stp w k 2 ∨ 0 < w 8 then (0, w, x, 0) else (1, swapO w (stp w k 1) (stp w k 2), x, 0) := by unfold actW; rw [if_neg c1, if_neg c2, if_pos c3]
    rw [c3, if_neg (by decide), if_neg (by decide), if_pos rfl, t_jn, t_ite, t_retzm, t_getf, a, t_geti, b, ww, t_ite, t_retzm]
    refine ⟨fun h1 => ⟨.inl rfl, keep 0 (by rw [ea, if_pos (.inl h1)])⟩, fun h1 => ⟨by decide, by decide, by decide, by decide, fun h2 => ?_, fun h2 => ⟨.inl rfl, keep 0 (by rw [ea, if_pos (.inr (by omega))])⟩⟩⟩
    obtain ⟨p0, p1, p2⟩ := plc_of hwf.2.2.2.1 df.1 df.2.1
    obtain ⟨q0, q1, q2⟩ := plc_of hwf.2.2.2.1 df.2.2.1 df.2.2.2
    have hne : plc w (stp w k 1) ≠ plc w (stp w k 2) := fun q => h1 (by rw [← p2, ← q2, q])
    have sw := swaps_e (M := M) (Q := fun Z => Z 120 = swapO w (stp w k 1) (stp w k 2) ∧ ∀ a j, a ≠ 120 → Z a j = M a j) h.1 (by rw [h.2.1]; exact hwf.1) (by rw [h.2.1]; exact hwf.2.2.2.1) p0 (by rw [h.2.1]; exact p1) q0 (by rw [h.2.1]; exact q1) hne (fun Z z1 z2 => by
      rw [h.2.1, p2, q2] at z1
      exact ⟨z1, z2⟩)
    rw [h.2.1, p2, q2] at sw
    rw [t_callv]
    refine t_mono sw (fun Z hZ => ?_)
    rw [t_retzm]
    exact ⟨.inr rfl, one Z _ (by rw [ea, if_neg (by omega)]) (swapO_o (by omega) (by omega)) hZ.1 hZ.2⟩
  have loan : ∀ m : Int, 1 ≤ m → stp w k 1 ≠ stp w k 2 → (0 ≤ stp w k 1 ∧ stp w k 1 < w 5 ∧ 0 ≤ stp w k 2 ∧ stp w k 2 < w 5) → w 8 ≠ 12 → (leftK w (plc w (stp w k 1)) < m → actW w x k = (0, w, x, 0)) → (m ≤ leftK w (plc w (stp w k 1)) → actW w x k = (1, lendO w (stp w k 1) (stp w k 2) m, x, 0)) → Tot (callp (f_X12_ownLeft 119 (stp w k 1) M) (fun v21 => if m ≤ v21 then (callv (f_X12_lends 119 (stp w k 1) (stp w k 2) m M) (fun M22 => retzm 1 M22)) else (retzm 0 M))) Q := fun m m0 hne df h8 h0 h1 => by
    obtain ⟨p0, p1, p2⟩ := plc_of hwf.2.2.2.1 df.1 df.2.1
    have ol := ownLeft_e h.1 (by rw [h.2.1]; exact hwf.1) (by rw [h.2.1]; exact hwf.2.2.1) (by rw [h.2.1]; exact hwf.2.2.2.1) (by rw [h.2.1]; exact hwf.2.2.2.2.1) (k := plc w (stp w k 1)) p0 (by rw [h.2.1]; exact p1)
    rw [h.2.1, p2] at ol
    have l1 : leftK w (plc w (stp w k 1)) ≤ 1440 := by
      have := edge_le hwf.1 hwf.2.2.1 hwf.2.2.2.1 (k := plc w (stp w k 1)) p0 (by omega)
      have := edge_le hwf.1 hwf.2.2.1 hwf.2.2.2.1 (k := plc w (stp w k 1) + 1) (by omega) (by omega)
      unfold leftK; have := lentBy_le hwf.2.2.2.2.1 (od w (plc w (stp w k 1))) (p := w 8) (by omega) (by omega); unfold lentBy; omega
    rw [ol, t_callp, t_some, t_ite, t_callv, t_retzm]
    refine ⟨fun h2 => ?_, fun h2 => ⟨.inl rfl, keep 0 (h0 (by omega))⟩⟩
    refine lends_e h.1 (by rw [h.2.1]; exact hwf.1) (by rw [h.2.1]; exact hwf.2.2.2.2.2) df.1 (by omega) df.2.2.1 (by omega) hne m0 (by omega) (by rw [h.2.1]; omega) (fun M' z1 z2 => ?_)
    rw [h.2.1] at z1
    rw [t_retzm]
    exact ⟨.inr rfl, one M' _ (h1 h2) (lendO_o df.1 (by omega) df.2.2.1 (by omega) (by omega) (by omega) (by omega)) z1 z2⟩
  by_cases c4 : stp w k 0 = 18
  · have df := d_ff dk (.inr (.inl c4))
    have d3 := d_18 dk c4
    have ea : actW w x k = if stp w k 1 = stp w k 2 ∨ w 8 = 12 ∨ leftK w (plc w (stp w k 1)) < stp w k 3 then (0, w, x, 0) else (1, lendO w (stp w k 1) (stp w k 2) (stp w k 3), x, 0) := by unfold actW; rw [if_neg c1, if_neg c2, if_neg c3, if_pos c4]
    rw [c4, if_neg (by decide), if_neg (by decide), if_neg (by decide), if_pos rfl, t_jn, t_ite, t_retzm, t_getf, a, t_geti, b, ww, t_ite, t_retzm]
    refine ⟨fun h1 => ⟨.inl rfl, keep 0 (by rw [ea, if_pos (.inl h1)])⟩, fun h1 => ⟨by decide, by decide, by decide, by decide, fun h2 => ?_, fun h2 => ⟨.inl rfl, keep 0 (by rw [ea, if_pos (.inr (.inl (by simpa using h2)))])⟩⟩⟩
    rw [t_getf, a, t_geti, b, ww, stp_0 w k, c4]
    refine ⟨by decide, by decide, by omega, by omega, t_jv (stp w k 3) ?_ (fun j hj => ?_)⟩
    · rw [t_jn, t_ite]
      exact ⟨fun hz => by omega, fun _ => loan _ d3.1 h1 df h2 (fun hl => by rw [ea, if_pos (.inr (.inr hl))]) (fun hl => by rw [ea, if_neg (by omega)])⟩
    · rw [t_ite]
      refine ⟨fun hz => absurd rfl hz, fun _ => ?_⟩
      rw [t_getf, a, w32_s (x := 270 + 6 * k + 3) (by omega) (by omega), t_geti, b, ww, e3]
      exact ⟨by decide, by decide, by omega, by omega, hj⟩
  by_cases c5 : stp w k 0 = 19
  · have df := d_ff dk (.inr (.inr c5))
    have ea : actW w x k = if stp w k 1 = stp w k 2 ∨ w 8 = 12 ∨ pyW w (stp w k 1) (stp w k 2) < 1 then (0, w, x, 0) else (1, lendO w (stp w k 1) (stp w k 2) (pyW w (stp w k 1) (stp w k 2)), x, 0) := by unfold actW; rw [if_neg c1, if_neg c2, if_neg c3, if_neg c4, if_pos c5]
    rw [c5, if_neg (by decide), if_neg (by decide), if_neg (by decide), if_neg (by decide), if_pos rfl, t_jn, t_ite, t_retzm, t_getf, a, t_geti, b, ww, t_ite, t_retzm]
    refine ⟨fun h1 => ⟨.inl rfl, keep 0 (by rw [ea, if_pos (.inl h1)])⟩, fun h1 => ⟨by decide, by decide, by decide, by decide, fun h2 => ?_, fun h2 => ⟨.inl rfl, keep 0 (by rw [ea, if_pos (.inr (.inl (by simpa using h2)))])⟩⟩⟩
    have p0' : 0 ≤ pyW w (stp w k 1) (stp w k 2) ∧ pyW w (stp w k 1) (stp w k 2) ≤ leftK w (plc w (stp w k 1)) := by
      obtain ⟨p0, p1, p2⟩ := plc_of hwf.2.2.2.1 df.1 df.2.1
      have l0 := hwf.2.2.2.2.1.2 _ p0 p1
      have o0 := (hwf.2.2.2.2.2.1 (stp w k 1) (stp w k 2) df.1 (by omega) df.2.2.1 (by omega)).1
      unfold pyW; split <;> omega
    rw [t_getf, a, t_geti, b, ww, stp_0 w k, c5]
    refine ⟨by decide, by decide, by omega, by omega, t_jv (pyW w (stp w k 1) (stp w k 2)) ?_ (fun j hj => ?_)⟩
    · rw [t_jn, t_ite, t_retzm]
      exact ⟨fun hz => ⟨.inl rfl, keep 0 (by rw [ea, if_pos (.inr (.inr (by omega)))])⟩, fun hz => loan _ (by omega) h1 df h2 (fun hl => by omega) (fun hl => by rw [ea, if_neg (by omega)])⟩
    · obtain ⟨p0, p1, p2⟩ := plc_of hwf.2.2.2.1 df.1 df.2.1
      have ol := ownLeft_e h.1 (by rw [h.2.1]; exact hwf.1) (by rw [h.2.1]; exact hwf.2.2.1) (by rw [h.2.1]; exact hwf.2.2.2.1) (by rw [h.2.1]; exact hwf.2.2.2.2.1) (k := plc w (stp w k 1)) p0 (by rw [h.2.1]; exact p1)
      rw [h.2.1, p2] at ol
      have eo : w (158 + 10 * stp w k 1 + stp w k 2) = ow w (stp w k 1) (stp w k 2) := rfl
      rw [t_ite]
      refine ⟨fun _ => ?_, fun hz => absurd (by decide) hz⟩
      rw [t_getf, a, w32_s (x := 10 * stp w k 1) (by omega) (by omega), w32_s (x := 158 + 10 * stp w k 1) (by omega) (by omega), w32_s (x := 158 + 10 * stp w k 1 + stp w k 2) (by omega) (by omega), t_geti, b, ww, eo, ol, t_callp, t_some, min_e, t_callp, t_some]
      exact ⟨by decide, by decide, by omega, by omega, hj⟩
  by_cases c6 : stp w k 0 = 20
  · have ea : actW w x k = (1, upd1 w 0 (stp w k 1), x, 0) := by unfold actW; rw [if_neg c1, if_neg c2, if_neg c3, if_neg c4, if_neg c5, if_pos c6]
    rw [c6, if_neg (by decide), if_neg (by decide), if_neg (by decide), if_neg (by decide), if_neg (by decide), if_pos rfl, t_getf, a, t_seti, b, t_retzm]
    exact ⟨by decide, by decide, by decide, by decide, .inr rfl, one _ _ ea (by rw [upd1_at, if_neg (by decide)]) (by rw [upd2_120, h.2.1]) (fun a j ha => by rw [upd2_at, if_neg (by omega)])⟩
  by_cases c7 : stp w k 0 = 21
  · have df := d_21 dk c7
    have dr := dr_le (x := x)
    have ea : actW w x k = if drN x / 8 % 16 < stp w k 1 then (1, upd1 w 0 (w 0 / 2), drN x, 1) else (1, w, drN x, 0) := by unfold actW; rw [if_neg c1, if_neg c2, if_neg c3, if_neg c4, if_neg c5, if_neg c6, if_pos c7]
    rw [c7, if_neg (by decide), if_neg (by decide), if_neg (by decide), if_neg (by decide), if_neg (by decide), if_neg (by decide), if_pos rfl, t_call]
    unfold f_X12_draw
    rw [t_getf, hx, w32_s (x := x * 2753) (by omega) (by omega), w32_s (x := x * 2753 + 10559) (by omega) (by omega), t_iremc, irem_p (by omega) (by decide) (by omega), show (x * 2753 + 10559) % 65536 = drN x from rfl, t_putf]
    refine ⟨by decide, by decide, by decide, ?_⟩
    have u5 : upd2 M 119 36 (drN x) 119 36 = drN x := by rw [upd2_at, if_pos ⟨rfl, rfl⟩]
    have u1 : ∀ a j, ¬ (a = 119 ∧ j = 36) → upd2 M 119 36 (drN x) a j = M a j := fun a j h => by rw [upd2_at, if_neg h]
    rw [t_getf, u5, t_idivc, idiv_p (by omega) (by decide) (by omega), t_iremc, irem_p (by omega) (by decide) (by omega), t_some]
    refine ⟨by decide, by decide, by decide, ?_⟩
    try dsimp only
    rw [t_ite, t_retzm]
    refine ⟨fun h1 => ?_, fun h1 => ⟨.inr rfl, ?_⟩⟩
    · rw [if_pos h1] at ea
      rw [t_getf, u1 _ _ (by decide), a, t_geti, u1 _ _ (by decide), b, u1 _ _ (by decide), ww, t_idivc, idiv_p (by omega) (by decide) (by omega), t_seti, u1 _ _ (by decide), b]
      refine ⟨by decide, by decide, by decide, by decide, by decide, by decide, by decide, by decide, ?_⟩
      obtain ⟨N1, en⟩ : ∃ X, X = upd2 (upd2 M 119 36 (drN x)) 120 0 (w 0 / 2) := ⟨_, rfl⟩
      have n1 : ∀ a j, ¬ (a = 119 ∧ j = 36) → a ≠ 120 → N1 a j = M a j := fun a j h1 h2 => by rw [en, upd2_at, if_neg (by omega), u1 _ _ h1]
      rw [← en, t_getf, n1 _ _ (by decide) (by decide), p39, t_geti, n1 _ _ (by decide) (by decide), l135, n1 _ _ (by decide) (by decide), t_seti, n1 _ _ (by decide) (by decide), l135, w32_s (by omega) (by omega), t_retzm]
      refine ⟨by decide, by decide, by decide, by decide, by decide, by decide, by decide, .inr rfl, ?_⟩
      have q := hq (upd2 N1 135 2 (M 135 2 + 1)) (by rw [ea, upd2_o (by decide), en, upd2_120, upd2_o (by decide), h.2.1]) (by rw [ea, upd2_at, if_neg (by decide), en, upd2_at, if_neg (by decide)]; exact u5) (by rw [ea, upd2_at, if_pos ⟨rfl, rfl⟩]) (by rw [ea, upd2_at, if_neg (by decide), n1 _ _ (by decide) (by decide)]; simp only; rw [upd1_at, if_neg (by decide)]; omega) (fun a j ha hb hc' hd' => by rw [upd2_at, if_neg (by omega), n1 a j hc' hb])
      rw [ea] at q; exact q
    · rw [if_neg h1] at ea
      have q := hq (upd2 M 119 36 (drN x)) (by rw [ea, upd2_o (by decide), h.2.1]) (by rw [ea]; exact u5) (by rw [ea, u1 _ _ (by decide)]; simp only; omega) (by rw [ea, u1 _ _ (by decide)]; simp only; omega) (fun a j ha hb hc' hd' => u1 a j hc')
      rw [ea] at q; exact q
  by_cases c8 : stp w k 0 = 22
  · have ea : actW w x k = if w 6 = 99 then (0, w, x, 0) else (1, passO w, x, 0) := by unfold actW; rw [if_neg c1, if_neg c2, if_neg c3, if_neg c4, if_neg c5, if_neg c6, if_neg c7, if_pos c8]
    rw [c8, if_neg (by decide), if_neg (by decide), if_neg (by decide), if_neg (by decide), if_neg (by decide), if_neg (by decide), if_neg (by decide), if_pos rfl, t_getf, a, t_geti, b, ww, t_ite, t_retzm]
    refine ⟨by decide, by decide, by decide, by decide, fun h1 => ?_, fun h1 => ⟨.inl rfl, keep 0 (by rw [ea, if_pos (by simpa using h1)])⟩⟩
    rw [if_neg h1] at ea
    rw [t_callv]
    refine passes_e h hwf hg.2.1 (by omega) (fun M' z1 z2 => ?_)
    have n1 : ∀ a j, ¬ SR a j → a ≠ 120 → M' a j = M a j := z2
    rw [t_getf, n1 _ _ (by unfold SR; omega) (by decide), p39, t_geti, n1 _ _ (by unfold SR; omega) (by decide), l135, n1 _ _ (by unfold SR; omega) (by decide), t_seti, n1 _ _ (by unfold SR; omega) (by decide), l135, w32_s (by omega) (by omega), t_retzm]
    refine ⟨by decide, by decide, by decide, by decide, by decide, by decide, by decide, .inr rfl, ?_⟩
    have q := hq (upd2 M' 135 0 (M 135 0 + 1)) (by rw [ea, upd2_o (by decide)]; exact z1) (by rw [ea, upd2_at, if_neg (by decide), n1 _ _ (by unfold SR; omega) (by decide)]; exact hx) (by rw [ea, upd2_at, if_neg (by decide), n1 _ _ (by unfold SR; omega) (by decide)]; simp only; omega) (by rw [ea, upd2_at, if_pos ⟨rfl, rfl⟩]; simp only; rw [passO_6]; omega) (fun a j ha hb hc' hd' => by rw [upd2_at, if_neg (by omega), n1 a j ha hb])
    rw [ea] at q; exact q
  · have ea : actW w x k = (1, w, x, 0) := by unfold actW; rw [if_neg c1, if_neg c2, if_neg c3, if_neg c4, if_neg c5, if_neg c6, if_neg c7, if_neg c8]
    rw [if_neg c1, if_neg c2, if_neg c3, if_neg c4, if_neg c5, if_neg c6, if_neg c7, if_neg c8, t_retzm]
    exact ⟨.inr rfl, keep 1 ea⟩
