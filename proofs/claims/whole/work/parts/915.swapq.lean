/-! swap: both sides -/
def swapW (w : Int → Int) (x y : Int) : Int × Int × (Int → Int) := if 0 ≤ x ∧ x < w 5 ∧ 0 ≤ y ∧ y < w 5 ∧ x ≠ y then (if w 8 > 0 then (0, 7, w) else (1, 0, swapO w x y)) else (0, 1, w)
theorem c_swap {M : Mem} {v : Int} {w : Int → Int} (h : CI M v w) (hn : WFn w) (x y : Int) : Tot (f_X11_swap 1 x y M) (fun q => q.1 = (swapW w x y).1 ∧ ChC M q.2 v (swapW w x y).2.2 (swapW w x y).2.1) := by
  have hn' := hn
  unfold WFn at hn'
  obtain ⟨a, b, c, d, e⟩ := ci_p h
  simp only [f_X11_swap, isCouple_e h, t_ite, t_callp, t_call, t_callv, t_jn, t_retz, t_retzm, t_some, t_getf, t_putf, t_putz, t_seti, t_setz, t_geti, t_alen, t_nn, t_letv, t_idivc, t_iremc, t_ldivc, t_lremc, t_acopy, upd2_at, i10, i11, n10, a, settle_e]
  refine ⟨fun h1 => ⟨by simp, ?_⟩, fun h1 => ⟨by decide, by decide, ?_⟩⟩
  · rw [show swapW w x y = (0, 1, w) by unfold swapW; rw [if_neg h1]]
    exact ⟨by simp, chc_st (by omega) (by omega) h (fun _ _ _ => rfl) 1⟩
  · have h2 : 0 ≤ x ∧ x < w 5 ∧ 0 ≤ y ∧ y < w 5 ∧ x ≠ y := by simpa using h1
    refine changePlaces_e h hn x y (fun h8 => ?_) (fun h8 M' k1 _ k2 => ?_)
    · rw [show swapW w x y = (0, 7, w) by unfold swapW; rw [if_pos h2, if_pos h8]]
      exact ⟨by simp, by simp, chc_st (by omega) (by omega) h (fun _ _ _ => rfl) 7⟩
    · rw [show swapW w x y = (1, 0, swapO w x y) by unfold swapW; rw [if_pos h2, if_neg (by omega)]]
      refine ⟨by simp, by simp, chc_st (w' := swapO w x y) ?_ ?_ k2 k1 0⟩
      · rw [swapO_o (by omega) (by omega)]; omega
      · rw [swapO_o (by omega) (by omega)]; omega
theorem r_swap {M : Mem} (h : LR M) (hn : WFn (M 120)) (ho : WFo (M 120)) (x y : Int) : Tot (f_X12_swap 119 x y M) (fun q => q.1 = (swapW (M 120) x y).1 ∧ ChR M q.2 (swapW (M 120) x y).2.2 (swapW (M 120) x y).2.1) := by
  have hn' := hn
  unfold WFn at hn'
  obtain ⟨a, b⟩ := lr_a h
  simp only [f_X12_swap, isFieldR_e h, t_ite, t_callp, t_call, t_callv, t_jn, t_retz, t_retzm, t_some, t_getf, t_putf, t_putz, t_seti, t_setz, t_geti, t_alen, t_nn, t_letv, t_idivc, t_iremc, t_ldivc, t_lremc, t_acopy, upd2_at, i10, i11, n10, a, b, is_e]
  refine ⟨fun h1 => ⟨by simp, ?_⟩, fun h1 => ⟨fun h2 => ⟨by simp, ?_⟩, fun h2 => ⟨fun h3 => ⟨by decide, by decide, by decide, by decide, fun h4 => ?_, fun h4 => ⟨by simp, ?_⟩⟩, fun h3 => ⟨by simp, ?_⟩⟩⟩⟩
  · rw [show swapW (M 120) x y = (0, 1, M 120) by unfold swapW; rw [if_neg (by omega)]]; exact ⟨by simp, chr_st rfl (fun _ _ _ _ => rfl) 1⟩
  · rw [show swapW (M 120) x y = (0, 1, M 120) by unfold swapW; rw [if_neg (by omega)]]; exact ⟨by simp, chr_st rfl (fun _ _ _ _ => rfl) 1⟩
  · rw [show swapW (M 120) x y = (1, 0, swapO (M 120) x y) by unfold swapW; rw [if_pos (by omega), if_neg (by omega)]]
    obtain ⟨p0, p1, p2⟩ := plc_of ho (f := x) (by omega) (by omega)
    obtain ⟨q0, q1, q2⟩ := plc_of ho (f := y) (by omega) (by omega)
    have hne : plc (M 120) x ≠ plc (M 120) y := fun q => h3 (by rw [← p2, ← q2, q])
    have := swaps_e (Q := fun q => q 120 = swapO (M 120) x y ∧ ∀ a j, a ≠ 120 → q a j = M a j) h hn ho p0 p1 q0 q1 hne (fun M' k1 k2 => by
      rw [p2, q2] at k1
      exact ⟨k1, k2⟩)
    rw [p2, q2] at this
    exact t_mono this (fun q hq => ⟨by simp, by simp, chr_st hq.1 (fun a j _ ha => hq.2 a j ha) 0⟩)
  · rw [show swapW (M 120) x y = (0, 7, M 120) by unfold swapW; rw [if_pos (by omega), if_pos (by omega)]]; exact ⟨by simp, chr_st rfl (fun _ _ _ _ => rfl) 7⟩
  · rw [show swapW (M 120) x y = (0, 1, M 120) by unfold swapW; rw [if_neg (by omega)]]; exact ⟨by simp, chr_st rfl (fun _ _ _ _ => rfl) 1⟩
