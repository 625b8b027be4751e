/-! swapping: class, reference -/
theorem changePlaces_e {M : Mem} {v : Int} {w : Int → Int} {Q : Int × Mem → Prop} (h : CI M v w) (hn : WFn w) (x y : Int) (h7 : w 8 > 0 → Q (7, M)) (hq : w 8 = 0 → ∀ M', (∀ a k, ¬ SW a k → M' a k = M a k) → (∀ a k, M' a k = if a = 49 ∧ 0 ≤ k ∧ k < w 5 then swp x y (M 49 k) else M a k) → CI M' v (swapO w x y) → Q (0, M')) : Tot (f_X10_changePlaces 13 x y M) Q := by
  have hn' := hn
  unfold WFn at hn'
  obtain ⟨a, b, c, d, e⟩ := ci_p h
  have e8 : M 48 3 = w 8 := h.2.2.2.2.2.2.1.2.2.2
  unfold f_X10_changePlaces
  rw [t_getf, d, t_getf, e8, t_ite, t_some]
  refine ⟨by decide, by decide, fun c8 => ?_, fun c8 => h7 (by omega)⟩
  have z8 : w 8 = 0 := by omega
  have hq := hq z8
  have hls := h.2.2.2.1
  have hrs := h.2.2.2.2.2.2
  have b5 : M v 5 = w 5 := h.2.2.2.2.2.1.1.2.2.2.2.1
  have hv := h.1
  refine lpIM (fun p N => 0 ≤ p ∧ p ≤ w 5 ∧ ∀ a k, N a k = if a = 49 ∧ 0 ≤ k ∧ k < p then swp x y (M 49 k) else M a k) (fun p _ => (w 5 - p).toNat) ?_ (by unfold KF; omega) ⟨by omega, by omega, fun a k => by rw [if_neg (by omega)]⟩
  rintro n p N ⟨i0, i1, i2⟩ ih
  have n1 : N 13 0 = v := by rw [i2, if_neg (by omega)]; exact c
  have n2 : N v 5 = w 5 := by rw [i2, if_neg (by omega)]; exact b5
  have n3 : N 13 2 = 48 := by rw [i2, if_neg (by omega)]; exact d
  have n4 : N 48 4 = 49 := by rw [i2, if_neg (by omega)]; exact hls.1.1
  have n5 : N 49 (-1) = 10 := by rw [i2, if_neg (by omega)]; exact hls.2.1
  have n6 : N 49 p = M 49 p := by rw [i2, if_neg (by omega)]
  unfold f_X10_changePlaces_L15
  rw [t_getf, n1, t_getf, n2, t_ite]
  refine ⟨by decide, e, fun c1 => ?_, fun c1 => ?_⟩
  · have hp : p = w 5 := by omega
    rw [t_some]
    have kN : ∀ a k, a ≠ 49 → N a k = M a k := fun a k ha => by rw [i2, if_neg (by omega)]
    refine hq N (fun a k hk => kN a k (by unfold SW at hk; omega)) (fun a k => by rw [i2, hp]) (ci_w hn h (swapO_v (by omega)) (fun a k hk => kN a k (by unfold SW at hk; omega)) ?_ ?_)
    · obtain ⟨⟨a1, a2, a3, a4, a5, a6⟩, ⟨b1, b2, b3, b4, b5, b6⟩⟩ := hls
      refine ⟨⟨?_, ?_, ?_, ?_, ?_, ?_⟩, ⟨?_, ?_, ?_, ?_, ?_, ?_⟩⟩ <;> rw [i2, if_neg (by omega)] <;> assumption
    · obtain ⟨⟨a1, a2, a3, a4⟩, bb, cc, dd, gg⟩ := hrs
      have o : ∀ j, j < 112 ∨ 122 ≤ j → swapO w x y j = w j := fun j hj => swapO_o hj (by omega)
      refine ⟨⟨?_, ?_, ?_, ?_⟩, fun k h1 h2 => ?_, fun i h1 h2 => ?_, fun i j h1 h2 h3 h4 => ?_, fun f h1 h2 => ?_⟩
      · rw [kN _ _ (by omega), o _ (by omega)]; exact a1
      · rw [kN _ _ (by omega), o _ (by omega)]; exact a2
      · rw [kN _ _ (by omega), o _ (by omega)]; exact a3
      · rw [kN _ _ (by omega), o _ (by omega)]; exact a4
      · rw [o 5 (by omega)] at h2
        rw [swapO_od h1 h2, ← bb k h1 h2]
        show N 49 k = _
        rw [i2, if_pos (by omega)]; rfl
      · rw [o 8 (by omega)] at h2; omega
      · unfold ow; rw [kN _ _ (by omega), o _ (by omega)]; exact dd i j h1 h2 h3 h4
      · unfold ac; rw [kN _ _ (by omega), o _ (by omega)]; exact gg f h1 h2
  · simp (disch := omega) only [t_ite, t_callp, t_call, t_callv, t_jn, t_retz, t_retzm, t_some, t_getf, t_putf, t_putz, t_seti, t_setz, t_geti, t_alen, t_nn, t_letv, t_idivc, t_iremc, t_ldivc, t_lremc, t_acopy, upd2_at, i10, i11, n10, n3, n4, n5, n6, w32_s]
    refine ⟨by decide, by decide, by decide, i0, by omega, by decide, by decide, fun c2 => ⟨fun c3 => ⟨by decide, i0, by omega, ih _ _ (by omega) ⟨by omega, by omega, fun a k => ?_⟩⟩, fun c3 => ⟨by decide, i0, by omega, ih _ _ (by omega) ⟨by omega, by omega, fun a k => ?_⟩⟩⟩, fun c2 => ⟨by decide, i0, by omega, ih _ _ (by omega) ⟨by omega, by omega, fun a k => ?_⟩⟩⟩
    · rw [upd2_at, i2]; unfold swp; grind
    · rw [upd2_at, i2]; unfold swp; grind
    · rw [upd2_at, i2]; unfold swp; grind
theorem swaps_e {M : Mem} {Q : Mem → Prop} (h : LR M) (hn : WFn (M 120)) (ho : WFo (M 120)) {i k : Int} (h0 : 0 ≤ i) (h1 : i < M 120 5) (h2 : 0 ≤ k) (h3 : k < M 120 5) (hik : i ≠ k) (hq : ∀ M', M' 120 = swapO (M 120) (od (M 120) i) (od (M 120) k) → (∀ a j, a ≠ 120 → M' a j = M a j) → Q M') : Tot (f_X12_swaps 119 (od (M 120) i) (od (M 120) k) M) Q := by
  have hn' := hn
  unfold WFn at hn'
  obtain ⟨a, b⟩ := lr_a h
  unfold f_X12_swaps
  rw [placeOf_e h hn ho h0 h1, t_callp, t_some, placeOf_e h hn ho h2 h3, t_callp, t_some]
  simp (disch := omega) only [t_ite, t_callp, t_call, t_callv, t_jn, t_retz, t_retzm, t_some, t_getf, t_putf, t_putz, t_seti, t_setz, t_geti, t_alen, t_nn, t_letv, t_idivc, t_iremc, t_ldivc, t_lremc, t_acopy, upd2_at, i10, i11, n10, a, b, w32_s]
  refine ⟨by decide, by decide, by omega, by omega, by decide, ?_⟩
  simp [a, b]
  refine ⟨by omega, by omega, hq _ (funext fun j => ?_) (fun a j ha => ?_)⟩
  · simp only [upd2_at]
    have q1 := ho.2.2.1
    unfold swapO swp od
    by_cases hj : 112 ≤ j ∧ j < 112 + M 120 5
    · have p1 := q1 (j - 112) i (by omega) (by omega) h0 h1
      have p2 := q1 (j - 112) k (by omega) (by omega) h2 h3
      unfold od at p1 p2
      rw [show 112 + (j - 112) = j by omega] at p1 p2
      rw [if_pos hj]
      grind
    · rw [if_neg hj, if_neg (by omega), if_neg (by omega)]
  · simp only [upd2_at]
    rw [if_neg (by omega), if_neg (by omega)]
