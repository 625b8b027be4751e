/-! lending: the reference; both sides -/
theorem lends_e {M : Mem} {Q : Mem → Prop} (h : LR M) (hn : WFn (M 120)) (hw : WFw (M 120)) {f t m : Int} (hf0 : 0 ≤ f) (hf1 : f < 10) (ht0 : 0 ≤ t) (ht1 : t < 10) (hft : f ≠ t) (hm0 : 1 ≤ m) (hm1 : m ≤ 1440) (h8 : M 120 8 < 12) (hq : ∀ M', M' 120 = lendO (M 120) f t m → (∀ a j, a ≠ 120 → M' a j = M a j) → Q M') : Tot (f_X12_lends 119 f t m M) Q := by
  have hn' := hn
  unfold WFn at hn'
  obtain ⟨a, b⟩ := lr_a h
  obtain ⟨w, ew⟩ : ∃ w, w = M 120 := ⟨_, rfl⟩
  rw [← ew] at hn hw hn' h8 hq
  have b1 := ow_le hw hn hf0 hf1 ht0 ht1
  have b2 := ow_le hw hn ht0 ht1 hf0 hf1
  have pd : paidW w f t m = if m < ow w f t then m else ow w f t := by unfold paidW; split <;> split <;> omega
  have pl : 0 ≤ paidW w f t m ∧ paidW w f t m ≤ m ∧ paidW w f t m ≤ ow w f t := by rw [pd]; split <;> omega
  unfold f_X12_lends
  rw [t_getf, a, t_geti, b, ← ew, t_letv, w32_s (x := 3 * w 8) (by omega) (by omega), w32_s (x := 122 + 3 * w 8) (by omega) (by omega), t_getf, a, t_seti, b]
  refine ⟨by decide, by decide, by decide, by decide, by decide, by decide, by omega, by omega, ?_⟩
  obtain ⟨N1, e1⟩ : ∃ N, N = upd2 M 120 (122 + 3 * w 8) f := ⟨_, rfl⟩
  have k1 : ∀ a k, a ≠ 120 ∨ k < 0 → N1 a k = M a k := fun a k hk => by rw [e1, upd2_at, if_neg (by omega)]
  have v1 : ∀ k, k ≠ 122 + 3 * w 8 → N1 120 k = w k := fun k hk => by rw [e1, upd2_at, if_neg (by omega), ← ew]
  rw [← e1, t_getf, k1 _ _ (by omega), a, t_seti, k1 _ _ (by omega), b, w32_s (x := 122 + 3 * w 8 + 1) (by omega) (by omega)]
  refine ⟨by decide, by decide, by omega, by omega, ?_⟩
  obtain ⟨N2, e2⟩ : ∃ N, N = upd2 N1 120 (122 + 3 * w 8 + 1) t := ⟨_, rfl⟩
  have k2 : ∀ a k, a ≠ 120 ∨ k < 0 → N2 a k = M a k := fun a k hk => by rw [e2, upd2_at, if_neg (by omega), k1 _ _ hk]
  have v2 : ∀ k, k < 122 ∨ 158 ≤ k → N2 120 k = w k := fun k hk => by rw [e2, upd2_at, if_neg (by omega), v1 _ (by omega)]
  rw [← e2, t_getf, k2 _ _ (by omega), a, t_seti, k2 _ _ (by omega), b, w32_s (x := 122 + 3 * w 8 + 2) (by omega) (by omega)]
  refine ⟨by decide, by decide, by omega, by omega, ?_⟩
  obtain ⟨N3, e3⟩ : ∃ N, N = upd2 N2 120 (122 + 3 * w 8 + 2) m := ⟨_, rfl⟩
  have k3 : ∀ a k, a ≠ 120 ∨ k < 0 → N3 a k = M a k := fun a k hk => by rw [e3, upd2_at, if_neg (by omega), k2 _ _ hk]
  have v3 : ∀ k, k < 122 ∨ 158 ≤ k → N3 120 k = w k := fun k hk => by rw [e3, upd2_at, if_neg (by omega), v2 _ (by omega)]
  rw [← e3, t_getf, k3 _ _ (by omega), a, t_geti, k3 _ _ (by omega), b, v3 _ (by omega), t_seti, k3 _ _ (by omega), b, w32_s (x := w 8 + 1) (by omega) (by omega)]
  refine ⟨by decide, by decide, by omega, by omega, by decide, by omega, by omega, ?_⟩
  obtain ⟨N4, e4⟩ : ∃ N, N = upd2 N3 120 8 (w 8 + 1) := ⟨_, rfl⟩
  have k4 : ∀ a k, a ≠ 120 ∨ k < 0 → N4 a k = M a k := fun a k hk => by rw [e4, upd2_at, if_neg (by omega), k3 _ _ hk]
  have v4 : ∀ k, 158 ≤ k → N4 120 k = w k := fun k hk => by rw [e4, upd2_at, if_neg (by omega), v3 _ (by omega)]
  have o1 : N4 120 (158 + 10 * f + t) = ow w f t := v4 _ (by omega)
  have o2 : N4 120 (158 + 10 * t + f) = ow w t f := v4 _ (by omega)
  rw [← e4, t_letv, w32_s (x := 10 * f) (by omega) (by omega), w32_s (x := 158 + 10 * f) (by omega) (by omega), w32_s (x := 158 + 10 * f + t) (by omega) (by omega), t_getf, k4 _ _ (by omega), a, t_geti, k4 _ _ (by omega), b, o1, min_e, t_callp, t_some, ← pd, t_getf, k4 _ _ (by omega), a, t_geti, k4 _ _ (by omega), b, o1, t_seti, k4 _ _ (by omega), b, w32_s (x := ow w f t - paidW w f t m) (by omega) (by omega)]
  refine ⟨by decide, by decide, by omega, by omega, by decide, by decide, by omega, by omega, by decide, by omega, by omega, ?_⟩
  obtain ⟨N5, e5⟩ : ∃ N, N = upd2 N4 120 (158 + 10 * f + t) (ow w f t - paidW w f t m) := ⟨_, rfl⟩
  have k5 : ∀ a k, a ≠ 120 ∨ k < 0 → N5 a k = M a k := fun a k hk => by rw [e5, upd2_at, if_neg (by omega), k4 _ _ hk]
  have o3 : N5 120 (158 + 10 * t + f) = ow w t f := by rw [e5, upd2_at, if_neg (by omega), o2]
  rw [← e5, t_getf, k5 _ _ (by omega), a, w32_s (x := 10 * t) (by omega) (by omega), w32_s (x := 158 + 10 * t) (by omega) (by omega), w32_s (x := 158 + 10 * t + f) (by omega) (by omega), t_geti, k5 _ _ (by omega), b, o3, t_seti, k5 _ _ (by omega), b, w32_s (x := m - paidW w f t m) (by omega) (by omega), w32_s (by omega) (by omega), t_some]
  refine ⟨by decide, by decide, by omega, by omega, by decide, by omega, by omega, ?_⟩
  refine hq _ (funext fun j => ?_) (fun x j hx => by rw [upd2_at, if_neg (by omega), k5 _ _ (by omega)])
  rw [upd2_at, e5, upd2_at, e4, upd2_at, e3, upd2_at, e2, upd2_at, e1, upd2_at, ← ew]
  unfold lendO
  simp
/-- makeLoan -/
theorem makeLoan_e {M : Mem} {v : Int} {w : Int → Int} {Q : Int × Mem → Prop} (h : CI M v w) (hn : WFn w) (hf : WFf w) (ho : WFo w) (hl : WFl w) (hw : WFw w) {f t m : Int} (hf0 : 0 ≤ f) (hf1 : f < w 5) (ht0 : 0 ≤ t) (ht1 : t < w 5) (hft : f ≠ t) (hm0 : 1 ≤ m) (h4 : w 8 = 12 → Q (4, M)) (h7 : w 8 < 12 → leftK w (plc w f) < m → ∀ M', (∀ a k, ¬ SC a k → M' a k = M a k) → CI M' v w → Q (7, M')) (hq : w 8 < 12 → m ≤ leftK w (plc w f) → ∀ M', (∀ a k, ¬ SW a k → M' a k = M a k) → CI M' v (lendO w f t m) → Q (0, M')) : Tot (f_X10_makeLoan 13 f t m 56 M) Q := by
  have hn' := hn
  unfold WFn at hn'
  obtain ⟨a, b, c, d, e⟩ := ci_p h
  have e8 : M 48 3 = w 8 := h.2.2.2.2.2.2.1.2.2.2
  obtain ⟨p0, p1, p2⟩ := plc_of ho hf0 hf1
  unfold f_X10_makeLoan
  rw [t_getf, d, t_getf, e8, t_ite, t_nn, t_callv, t_some]
  refine ⟨by decide, by decide, fun c8 => ⟨by decide, lay_e h hn hf ho hl (fun M' k1 k2 k3 => ?_)⟩, fun c8 => h4 (by omega)⟩
  have hc : CI M' v w := ci_s hn h (sc_s k1)
  obtain ⟨a', b', c', d', e'⟩ := ci_p hc
  obtain ⟨_, ⟨b1, b2, b3, b4, b5, b6⟩, ⟨c1, c2, c3, c4, c5, c6, _⟩⟩ := hc.2.2.2.2.1
  have q := (k3 _ p0 p1).2.2
  rw [p2] at q
  have q5 : leftK w (plc w f) ≤ 1440 := by
    have := edge_le hn hf ho (k := plc w f) p0 (by omega)
    have := edge_le hn hf ho (k := plc w f + 1) (by omega) (by omega)
    unfold leftK; have := lentBy_le hl (od w (plc w f)) (p := w 8) (by omega) (by omega); unfold lentBy; omega
  rw [t_getf, b3, t_geti, c3, q, t_ite, t_some]
  refine ⟨by decide, by decide, by omega, by omega, fun c9 => ?_, fun c9 => h7 c8 (by omega) M' (sc_s k1) hc⟩
  rw [t_getf, d', t_nn, t_callv]
  refine ⟨by decide, by decide, addLoan_e hc hn hw hf0 (by omega) ht0 (by omega) hft hm0 (by omega) c8 (fun M2 k4 hc2 => ?_)⟩
  rw [t_some]
  exact hq c8 c9 M2 (fun x k hk => by rw [k4 x k hk, k1 x k (by unfold SW SC at hk; unfold SCs; omega)]) hc2
def lendW (w : Int → Int) (f t m : Int) : Int × Int × (Int → Int) := if 0 ≤ f ∧ f < w 5 ∧ 0 ≤ t ∧ t < w 5 ∧ f ≠ t ∧ 1 ≤ m ∧ m ≤ 999 then (if w 8 = 12 then (-1, 4, w) else if leftK w (plc w f) < m then (-1, 7, w) else (ow (lendO w f t m) t f, 0, lendO w f t m)) else (-1, 1, w)
theorem c_lend {M : Mem} {v : Int} {w : Int → Int} (h : CI M v w) (hwf : WF w) (f t m : Int) : Tot (f_X11_lend 1 f t m M) (fun q => q.1 = (lendW w f t m).1 ∧ ChC M q.2 v (lendW w f t m).2.2 (lendW w f t m).2.1) := by
  obtain ⟨hn, hr, hf, ho, hl, hw⟩ := hwf
  have hn' := hn
  unfold WFn at hn'
  obtain ⟨a, b, c, d, e⟩ := ci_p h
  have e1 : M 55 0 = 56 := h.2.2.2.2.1.1.1
  have z1 : Tot (call (f_X11_refuse 1 1 M) (fun v2 M3 => some (v2, M3))) (fun q => q.1 = -1 ∧ ChC M q.2 v w 1) := by
    rw [refuse_e, t_call, t_some, t_some]
    exact ⟨rfl, chc_st (by omega) (by omega) h (fun _ _ _ => rfl) 1⟩
  unfold f_X11_lend
  rw [isCouple_e h, t_callp, t_some, t_jn, t_ite, i10]
  refine ⟨fun h1 => ?_, fun h1 => ?_⟩
  · rw [show lendW w f t m = (-1, 1, w) by unfold lendW; rw [if_neg (by omega)]]; exact z1
  rw [isWithin_e, t_callp, t_some, t_ite, n10]
  refine ⟨fun h2 => ?_, fun h2 => ?_⟩
  rotate_left
  · rw [show lendW w f t m = (-1, 1, w) by unfold lendW; rw [if_neg (by omega)]]; exact z1
  have hc : 0 ≤ f ∧ f < w 5 ∧ 0 ≤ t ∧ t < w 5 ∧ f ≠ t ∧ 1 ≤ m ∧ m ≤ 999 := by omega
  rw [t_getf, a, t_getf, b, t_getf, e1, t_nn, t_call]
  refine ⟨by decide, by decide, by decide, by decide, makeLoan_e h hn hf ho hl hw hc.1 hc.2.1 hc.2.2.1 hc.2.2.2.1 hc.2.2.2.2.1 hc.2.2.2.2.2.1 (fun h8 => ?_) (fun h8 h9 M' k1 k2 => ?_) (fun h8 h9 M' k1 k2 => ?_)⟩
  · rw [show lendW w f t m = (-1, 4, w) by unfold lendW; rw [if_pos hc, if_pos h8]]
    simp only [t_ite, t_callp, t_call, t_callv, t_jn, t_retz, t_retzm, t_some, t_getf, t_putf, t_putz, t_seti, t_setz, t_geti, t_alen, t_nn, t_letv, t_idivc, t_iremc, t_ldivc, t_lremc, t_acopy, upd2_at, i10, i11, n10, refuse_e]
    simp
    exact chc_st (by omega) (by omega) h (fun _ _ _ => rfl) 4
  · rw [show lendW w f t m = (-1, 7, w) by unfold lendW; rw [if_pos hc, if_neg (by omega), if_pos h9]]
    simp only [t_ite, t_callp, t_call, t_callv, t_jn, t_retz, t_retzm, t_some, t_getf, t_putf, t_putz, t_seti, t_setz, t_geti, t_alen, t_nn, t_letv, t_idivc, t_iremc, t_ldivc, t_lremc, t_acopy, upd2_at, i10, i11, n10, refuse_e]
    simp
    exact chc_st (by omega) (by omega) k2 (fun x k hk => k1 x k (fun hs => hk (.inl hs))) 7
  · rw [show lendW w f t m = (ow (lendO w f t m) t f, 0, lendO w f t m) by unfold lendW; rw [if_pos hc, if_neg (by omega), if_neg (by omega)]]
    obtain ⟨a', b', c', d', e'⟩ := ci_p k2
    have o : ∀ j, j < 8 → lendO w f t m j = w j := fun j hj => lendO_o hc.1 (by omega) hc.2.2.1 (by omega) (by omega) h8 (.inl hj)
    simp only [t_ite, t_callp, t_call, t_callv, t_jn, t_retz, t_retzm, t_some, t_getf, t_putf, t_putz, t_seti, t_setz, t_geti, t_alen, t_nn, t_letv, t_idivc, t_iremc, t_ldivc, t_lremc, t_acopy, upd2_at, i10, i11, n10, a', d', debt_e k2 hc.2.2.1 (show t < 10 by omega) hc.1 (show f < 10 by omega), answer_e]
    refine ⟨fun hx => absurd rfl hx, fun _ => ⟨by decide, by decide, by decide, trivial, ?_⟩⟩
    exact chc_st (by rw [o _ (by omega)]; omega) (by rw [o _ (by omega)]; omega) k2 k1 0
theorem r_lend {M : Mem} (h : LR M) (hwf : WF (M 120)) (f t m : Int) : Tot (f_X12_lend 119 f t m M) (fun q => q.1 = (lendW (M 120) f t m).1 ∧ ChR M q.2 (lendW (M 120) f t m).2.2 (lendW (M 120) f t m).2.1) := by
  obtain ⟨hn, hr, hf, ho, hl, hw⟩ := hwf
  have hn' := hn
  unfold WFn at hn'
  obtain ⟨a, b⟩ := lr_a h
  obtain ⟨w, ew⟩ : ∃ w, w = M 120 := ⟨_, rfl⟩
  rw [← ew] at hn'
  have z1 : ¬ (0 ≤ f ∧ f < w 5 ∧ 0 ≤ t ∧ t < w 5 ∧ f ≠ t ∧ 1 ≤ m ∧ m ≤ 999) → AR (-1, 1, none) M (-1, upd2 M 119 2 1) → (-1 : Int) = (lendW w f t m).1 ∧ ChR M (upd2 M 119 2 1) (lendW w f t m).2.2 (lendW w f t m).2.1 := fun hh _ => by
    rw [show lendW w f t m = (-1, 1, w) by unfold lendW; rw [if_neg hh]]
    exact ⟨rfl, chr_st ew.symm (fun _ _ _ _ => rfl) 1⟩
  have z0 := ar_st (kr M) (-1) 1
  rw [← ew]
  simp only [f_X12_lend, isFieldR_e h, isFrom_e, t_ite, t_callp, t_call, t_callv, t_jn, t_retz, t_retzm, t_some, t_getf, t_putf, t_putz, t_seti, t_setz, t_geti, t_alen, t_nn, t_letv, t_idivc, t_iremc, t_ldivc, t_lremc, t_acopy, upd2_at, i10, i11, n10, a, b, refuseR_e, ← ew]
  refine ⟨fun h1 => z1 (by omega) z0, fun h1 => ⟨fun h2 => z1 (by omega) z0, fun h2 => ⟨fun h3 => z1 (by omega) z0, fun h3 => ⟨fun h4 => ⟨by decide, by decide, by decide, by decide, fun h5 => ?_, fun h5 => ?_⟩, fun h4 => z1 (by omega) z0⟩⟩⟩⟩
  · have hc : 0 ≤ f ∧ f < w 5 ∧ 0 ≤ t ∧ t < w 5 ∧ f ≠ t ∧ 1 ≤ m ∧ m ≤ 999 := by omega
    have ho' : WFo w := by rw [ew]; exact ho
    obtain ⟨p0, p1, p2⟩ := plc_of ho' hc.1 hc.2.1
    have q := ownLeft_e h hn hf ho hl (k := plc w f) p0 (by rw [← ew]; exact p1)
    rw [← ew, p2] at q
    rw [q, t_some]
    refine ⟨fun h6 => ?_, fun h6 => ?_⟩
    · rw [show lendW w f t m = (ow (lendO w f t m) t f, 0, lendO w f t m) by unfold lendW; rw [if_pos hc, if_neg (by omega), if_neg (by omega)]]
      refine lends_e h hn hw hc.1 (by omega) hc.2.2.1 (by omega) hc.2.2.2.2.1 hc.2.2.2.2.2.1 (by omega) (by rw [← ew]; omega) (fun M' k1 k2 => ?_)
      rw [k2 119 0 (by decide), a, show M' 120 (-1) = 3840 by rw [k1, lendO_o hc.1 (by omega) hc.2.2.1 (by omega) (by rw [← ew]; omega) (by rw [← ew]; omega) (by omega)]; exact b, w32_s (x := 10 * t) (by omega) (by omega), w32_s (x := 158 + 10 * t) (by omega) (by omega), w32_s (by omega) (by omega), gives_e, t_some, k1, ← ew]
      refine ⟨by decide, by decide, by omega, by omega, rfl, chr_st (by rw [k1, ← ew]) (fun x j _ hx => k2 x j hx) 0⟩
    · rw [show lendW w f t m = (-1, 7, w) by unfold lendW; rw [if_pos hc, if_neg (by omega), if_pos (by omega)]]
      exact ⟨rfl, chr_st ew.symm (fun _ _ _ _ => rfl) 7⟩
  · have hc : 0 ≤ f ∧ f < w 5 ∧ 0 ≤ t ∧ t < w 5 ∧ f ≠ t ∧ 1 ≤ m ∧ m ≤ 999 := by omega
    rw [show lendW w f t m = (-1, 4, w) by unfold lendW; rw [if_pos hc, if_pos (by simpa using h5)]]
    exact ⟨rfl, chr_st ew.symm (fun _ _ _ _ => rfl) 4⟩
