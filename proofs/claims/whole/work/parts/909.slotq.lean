/-! questions about slots -/
def plc (w : Int → Int) (f : Int) : Int := foldZ (fun k x => if od w k = f then k else x) 0 (w 5)
theorem plc_e {w : Int → Int} (ho : WFo w) {k : Int} (h0 : 0 ≤ k) (h1 : k < w 5) : plc w (od w k) = k := by
  have := foldZ_inv (f := fun j (x : Int) => if od w j = od w k then j else x) (a := 0) (fun p (x : Int) => k < p → x = k) (fun h => by omega) (n := w 5) (fun j x hj hj1 hx => by
    intro hk
    by_cases e : od w j = od w k
    · simp only [if_pos e]; exact ho.2.2.1 j k hj hj1 h0 h1 e
    · simp only [if_neg e]
      refine hx ?_
      by_cases hjk : j = k
      · subst hjk; exact absurd rfl e
      · omega) (p := w 5) (by omega) (Int.le_refl _)
  exact this h1
theorem plc_of {w : Int → Int} (ho : WFo w) {f : Int} (h0 : 0 ≤ f) (h1 : f < w 5) : 0 ≤ plc w f ∧ plc w f < w 5 ∧ od w (plc w f) = f := by
  obtain ⟨k, k0, k1, k2⟩ := ho.2.1 f h0 h1
  rw [← k2, plc_e ho k0 k1]; exact ⟨k0, k1, rfl⟩
theorem laidSlots_e {M : Mem} {v : Int} {w : Int → Int} {Q : Int × Mem → Prop} (h : CI M v w) (hn : WFn w) (hf : WFf w) (ho : WFo w) (hl : WFl w) (hq : ∀ M', (∀ a j, ¬ SCs a j → M' a j = M a j) → HC M' (slotsW w) → LaidK M' w (w 5) → CI M' v w → Q (56, M')) : Tot (f_X11_laidSlots 1 M) Q := by
  obtain ⟨a, b, c, d, e⟩ := ci_p h
  have e1 : M 55 0 = 56 := h.2.2.2.2.1.1.1
  simp only [f_X11_laidSlots, t_ite, t_callp, t_call, t_callv, t_jn, t_retz, t_retzm, t_some, t_getf, t_putf, t_putz, t_seti, t_setz, t_geti, t_alen, t_nn, t_letv, t_idivc, t_iremc, t_ldivc, t_lremc, t_acopy, upd2_at, i10, i11, n10, a, b, e1]
  refine ⟨by decide, by decide, by decide, by decide, lay_e h hn hf ho hl (fun M' k1 k2 k3 => ?_)⟩
  have hc : CI M' v w := ci_s hn h (fun a j ha => k1 a j (by unfold SC at ha; unfold SCs; omega))
  obtain ⟨_, b', _, _, _⟩ := ci_p hc
  have e1' : M' 55 0 = 56 := hc.2.2.2.2.1.1.1
  rw [b', e1']
  exact ⟨by decide, by decide, hq M' k1 k2 k3 hc⟩
theorem sc_s {M N : Mem} (h : ∀ a j, ¬ SCs a j → N a j = M a j) : ∀ a k, ¬ SC a k → N a k = M a k := fun a k ha => h a k (by unfold SC at ha; unfold SCs; omega)
theorem sr_s {M N : Mem} (h : ∀ a j, ¬ SRs a j → N a j = M a j) : ∀ a k, ¬ SR a k → N a k = M a k := fun a k ha => h a k (by unfold SR at ha; unfold SRs; omega)
def turnQ (w : Int → Int) (f x : Int) : Ans := if 0 ≤ f ∧ f < w 5 ∧ 0 ≤ x ∧ x ≤ 1 then (if x = 0 then edge w (plc w f) else edge w (plc w f + 1) - edge w (plc w f), 0, none) else (-1, 1, none)
theorem c_turn {M : Mem} {v : Int} {w : Int → Int} (h : CI M v w) (hn : WFn w) (hf : WFf w) (ho : WFo w) (hl : WFl w) (f x : Int) : Tot (f_X11_turn 1 f x M) (AC (turnQ w f x) M) := by
  have hn' := hn
  unfold WFn at hn'
  have s0 := ac_st (kc M)
  simp only [f_X11_turn, isField_e h, isWithin_e, t_ite, t_callp, t_call, t_callv, t_jn, t_retz, t_retzm, t_some, t_getf, t_putf, t_putz, t_seti, t_setz, t_geti, t_alen, t_nn, t_letv, t_idivc, t_iremc, t_ldivc, t_lremc, t_acopy, upd2_at, i10, i11, n10, refuse_e]
  unfold turnQ
  refine ⟨fun h1 => by rw [if_neg (by omega)]; exact s0 _ _, fun h1 => ⟨fun h2 => ?_, fun h2 => by rw [if_neg (by omega)]; exact s0 _ _⟩⟩
  rw [if_pos (by omega)]
  obtain ⟨p0, p1, p2⟩ := plc_of ho (f := f) (by omega) (by omega)
  refine laidSlots_e h hn hf ho hl (fun M' k1 k2 k3 hc => ?_)
  have s1 := ac_st (sc_s k1)
  obtain ⟨_, ⟨b1, b2, b3, b4, b5, b6⟩, ⟨c1, c2, c3, _⟩⟩ := hc.2.2.2.2.1
  have q := k3 _ p0 p1
  rw [p2] at q
  simp only [t_ite, t_callp, t_call, t_callv, t_jn, t_retz, t_retzm, t_some, t_getf, t_putf, t_putz, t_seti, t_setz, t_geti, t_alen, t_nn, t_letv, t_idivc, t_iremc, t_ldivc, t_lremc, t_acopy, upd2_at, i10, i11, n10, b1, b2, c1, c2, q.1, q.2.1, answer_e]
  refine ⟨fun hx => ⟨by decide, by decide, by omega, by omega, ?_⟩, fun hx => ⟨by decide, by decide, by omega, by omega, ?_⟩⟩
  · rw [if_neg (by omega)]; exact s1 _ _
  · rw [if_pos (by omega)]; exact s1 _ _
theorem r_turn {M : Mem} (h : LR M) (hn : WFn (M 120)) (hf : WFf (M 120)) (ho : WFo (M 120)) (f x : Int) : Tot (f_X12_turn 119 f x M) (AR (turnQ (M 120) f x) M) := by
  have s0 := ar_st (kr M)
  simp only [f_X12_turn, isFieldR_e h, t_ite, t_callp, t_call, t_callv, t_jn, t_retz, t_retzm, t_some, t_getf, t_putf, t_putz, t_seti, t_setz, t_geti, t_alen, t_nn, t_letv, t_idivc, t_iremc, t_ldivc, t_lremc, t_acopy, upd2_at, i10, i11, n10, refuseR_e, gives_e]
  unfold turnQ
  refine ⟨fun h1 => by rw [if_neg (by omega)]; exact s0 _ _, fun h1 => ⟨fun h2 => by rw [if_neg (by omega)]; exact s0 _ _, fun h2 => ⟨fun h3 => ?_, fun h3 => by rw [if_neg (by omega)]; exact s0 _ _⟩⟩⟩
  rw [if_pos (by omega)]
  obtain ⟨p0, p1, p2⟩ := plc_of ho (f := f) (by omega) (by omega)
  have e1 := placeOf_e h hn ho p0 p1
  have e2 := turnManyR_e h hn hf ho p0 p1
  rw [p2] at e1 e2
  rw [e1, e2, t_some, t_some, beginOf_e h hn hf ho p0 (by omega) (by omega), t_some]
  refine ⟨fun hx => ?_, fun hx => ?_⟩
  · rw [if_neg (by omega)]; exact s0 _ _
  · rw [if_pos (by omega)]; exact s0 _ _
def slotsQ (w : Int → Int) : Ans := ((slotsW w).length, 0, none)
theorem c_slots {M : Mem} {v : Int} {w : Int → Int} (h : CI M v w) (hn : WFn w) (hf : WFf w) (ho : WFo w) (hl : WFl w) : Tot (f_X11_slots 1 M) (AC (slotsQ w) M) := by
  unfold f_X11_slots
  rw [t_call]
  refine laidSlots_e h hn hf ho hl (fun M' k1 k2 k3 hc => ?_)
  have s1 := ac_st (sc_s k1)
  simp only [t_ite, t_callp, t_call, t_callv, t_jn, t_retz, t_retzm, t_some, t_getf, t_putf, t_putz, t_seti, t_setz, t_geti, t_alen, t_nn, t_letv, t_idivc, t_iremc, t_ldivc, t_lremc, t_acopy, upd2_at, i10, i11, n10, k2.1, answer_e]
  exact ⟨by decide, s1 _ _⟩
theorem r_slots {M : Mem} (h : LR M) (hn : WFn (M 120)) (hf : WFf (M 120)) (ho : WFo (M 120)) (hl : WFl (M 120)) : Tot (f_X12_slots 119 M) (AR (slotsQ (M 120)) M) := by
  unfold f_X12_slots
  rw [t_callv]
  refine laysSlots_e h hn hf ho hl (fun M' k1 k2 => ?_)
  have s1 := ar_st (sr_s k1)
  simp only [t_ite, t_callp, t_call, t_callv, t_jn, t_retz, t_retzm, t_some, t_getf, t_putf, t_putz, t_seti, t_setz, t_geti, t_alen, t_nn, t_letv, t_idivc, t_iremc, t_ldivc, t_lremc, t_acopy, upd2_at, i10, i11, n10, k2.1, gives_e]
  exact ⟨by decide, s1 _ _⟩
def slotQ (w : Int → Int) (k x : Int) : Ans := if 0 ≤ x ∧ x ≤ 2 then (if 0 ≤ k ∧ k < (slotsW w).length then (if x = 0 then ((slotsW w).getD k.toNat (0, 0, 0)).1 else if x = 1 then ((slotsW w).getD k.toNat (0, 0, 0)).2.1 else ((slotsW w).getD k.toNat (0, 0, 0)).2.2, 0, none) else (-1, 6, none)) else (-1, 1, none)
theorem hc_at {M : Mem} {L : List Slo} (h : HC M L) {k : Int} (h0 : 0 ≤ k) (h1 : k < L.length) : M 60 k = (L.getD k.toNat (0, 0, 0)).1 ∧ M 61 k = (L.getD k.toNat (0, 0, 0)).2.1 ∧ M 62 k = (L.getD k.toNat (0, 0, 0)).2.2 := by
  have hk : k.toNat < L.length := by omega
  have := h.2 k.toNat L[k.toNat] (List.getElem?_eq_getElem hk)
  rw [Int.toNat_of_nonneg h0] at this
  simpa [List.getD, List.getElem?_eq_getElem hk] using this
theorem hs_at {M : Mem} {L : List Slo} (h : HS M L) {k : Int} (h0 : 0 ≤ k) (h1 : k < L.length) : M 130 k = (L.getD k.toNat (0, 0, 0)).1 ∧ M 131 k = (L.getD k.toNat (0, 0, 0)).2.1 ∧ M 132 k = (L.getD k.toNat (0, 0, 0)).2.2 := by
  have hk : k.toNat < L.length := by omega
  have := h.2 k.toNat L[k.toNat] (List.getElem?_eq_getElem hk)
  rw [Int.toNat_of_nonneg h0] at this
  simpa [List.getD, List.getElem?_eq_getElem hk] using this
theorem slotsW_len {w : Int → Int} (hn : WFn w) (ho : WFo w) : (slotsW w).length ≤ 22 := slots_len hn ho (by unfold WFn at hn; omega) (Int.le_refl _)
theorem c_slot {M : Mem} {v : Int} {w : Int → Int} (h : CI M v w) (hn : WFn w) (hf : WFf w) (ho : WFo w) (hl : WFl w) (k x : Int) : Tot (f_X11_slot 1 k x M) (AC (slotQ w k x) M) := by
  have s0 := ac_st (kc M)
  have sl := slotsW_len hn ho
  unfold f_X11_slot slotQ
  rw [t_callp, isWithin_e, t_some, t_ite, n10, t_call, t_call, refuse_e, t_some, t_some]
  refine ⟨fun h1 => ?_, fun h1 => by rw [if_neg h1]; exact s0 _ _⟩
  rw [if_pos h1]
  refine laidSlots_e h hn hf ho hl (fun M' k1 k2 k3 hc => ?_)
  have s1 := ac_st (sc_s k1)
  obtain ⟨_, ⟨b1, b2, b3, b4, b5, b6⟩, ⟨c1, c2, c3, c4, c5, c6, _⟩⟩ := hc.2.2.2.2.1
  simp (disch := omega) only [t_ite, t_callp, t_call, t_callv, t_jn, t_retz, t_retzm, t_some, t_getf, t_putf, t_putz, t_seti, t_setz, t_geti, t_alen, t_nn, t_letv, t_idivc, t_iremc, t_ldivc, t_lremc, t_acopy, upd2_at, i10, i11, n10, isWithin_e, k2.1, b4, b5, b6, c4, c5, c6, answer_e, refuse_e, w32_s]
  refine ⟨by decide, fun h2 => ?_, fun h2 => by rw [if_neg (by omega)]; exact s1 _ _⟩
  have q := hc_at k2 (k := k) (by omega) (by omega)
  rw [if_pos (by omega), q.1, q.2.1, q.2.2]
  refine ⟨fun g1 => ⟨fun g2 => ⟨by decide, by decide, by omega, by omega, ?_⟩, fun g2 => ⟨by decide, by decide, by omega, by omega, ?_⟩⟩, fun g1 => ⟨by decide, by decide, by omega, by omega, ?_⟩⟩
  · rw [if_neg (by omega), if_neg (by omega)]; exact s1 _ _
  · rw [if_neg (by omega), if_pos (by omega)]; exact s1 _ _
  · rw [if_pos (by omega)]; exact s1 _ _
theorem r_slot {M : Mem} (h : LR M) (hn : WFn (M 120)) (hf : WFf (M 120)) (ho : WFo (M 120)) (hl : WFl (M 120)) (k x : Int) : Tot (f_X12_slot 119 k x M) (AR (slotQ (M 120) k x) M) := by
  have s0 := ar_st (kr M)
  have sl := slotsW_len hn ho
  unfold f_X12_slot slotQ
  simp only [t_jn, t_ite, t_call, refuseR_e, t_some, t_callv]
  refine ⟨fun h1 => by rw [if_neg (by omega)]; exact s0 _ _, fun h1 => ⟨fun h2 => ?_, fun h2 => by rw [if_neg (by omega)]; exact s0 _ _⟩⟩
  rw [if_pos (by omega)]
  refine laysSlots_e h hn hf ho hl (fun M' k1 k2 => ?_)
  have s1 := ar_st (sr_s k1)
  have hc : LR M' := lr_s h (sr_s k1)
  obtain ⟨⟨a1, a2, a3, a4, a5, a6, a7, a8, a9, a10, a11, a12, a13, a14, a15, a16, a17⟩, ⟨c1, c2, c3, c4, c5, c6, c7, c8, c9, c10, c11, c12, c13, c14, c15, c16, c17⟩⟩ := hc
  simp only [t_ite, t_callp, t_call, t_callv, t_jn, t_retz, t_retzm, t_some, t_getf, t_putf, t_putz, t_seti, t_setz, t_geti, t_alen, t_nn, t_letv, t_idivc, t_iremc, t_ldivc, t_lremc, t_acopy, upd2_at, i10, i11, n10, k2.1, a11, a12, a13, c11, c12, c13, gives_e]
  refine ⟨fun h3 => by rw [if_neg (by omega)]; exact s1 _ _, fun h3 => ⟨by decide, fun h4 => ?_, fun h4 => by rw [if_neg (by omega)]; exact s1 _ _⟩⟩
  have q := hs_at k2 (k := k) (by omega) (by omega)
  rw [if_pos (by omega), q.1, q.2.1, q.2.2]
  refine ⟨fun g1 => ⟨fun g2 => ⟨by decide, by decide, by omega, by omega, ?_⟩, fun g2 => ⟨by decide, by decide, by omega, by omega, ?_⟩⟩, fun g1 => ⟨by decide, by decide, by omega, by omega, ?_⟩⟩
  · rw [if_neg (by omega), if_neg (by omega)]; exact s1 _ _
  · rw [if_neg (by omega), if_pos (by omega)]; exact s1 _ _
  · rw [if_pos (by omega)]; exact s1 _ _
