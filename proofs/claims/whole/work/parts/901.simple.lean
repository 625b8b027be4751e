/-! questions that only look -/
theorem ci_p {M : Mem} {v : Int} {w : Int → Int} (h : CI M v w) : M 1 2 = 13 ∧ M 1 3 = 55 ∧ M 13 0 = v ∧ M 13 2 = 48 ∧ v ≠ 0 := by
  obtain ⟨h1, ⟨a, b, c, d⟩, _⟩ := h
  exact ⟨a, b, c, d, by omega⟩
theorem isReach_e {M : Mem} {v : Int} {w : Int → Int} (h : CI M v w) (r : Int) : f_X11_isReach 1 r M = some (if 0 ≤ r ∧ r < w 3 then 1 else 0) := by
  obtain ⟨a, b, c, d, e⟩ := ci_p h
  have e3 : M v 3 = w 3 := h.2.2.2.2.2.1.1.2.2.1
  simp only [f_X11_isReach, jn, retz, getf, a, c, e3]; grind
theorem isOwner_e {M : Mem} {v : Int} {w : Int → Int} (h : CI M v w) (r : Int) : f_X11_isOwner 1 r M = some (if 0 ≤ r ∧ r < w 4 then 1 else 0) := by
  obtain ⟨a, b, c, d, e⟩ := ci_p h
  have e3 : M v 4 = w 4 := h.2.2.2.2.2.1.1.2.2.2.1
  simp only [f_X11_isOwner, jn, retz, getf, a, c, e3]; grind
theorem isField_e {M : Mem} {v : Int} {w : Int → Int} (h : CI M v w) (r : Int) : f_X11_isField 1 r M = some (if 0 ≤ r ∧ r < w 5 then 1 else 0) := by
  obtain ⟨a, b, c, d, e⟩ := ci_p h
  have e3 : M v 5 = w 5 := h.2.2.2.2.2.1.1.2.2.2.2.1
  simp only [f_X11_isField, jn, retz, getf, a, c, e3]; grind
theorem isMinute_e {M : Mem} {v : Int} {w : Int → Int} (h : CI M v w) (r : Int) : f_X11_isMinute 1 r M = some (if 0 ≤ r ∧ r < w 1 then 1 else 0) := by
  obtain ⟨a, b, c, d, e⟩ := ci_p h
  have e3 : M v 1 = w 1 := h.2.2.2.2.2.1.1.1
  simp only [f_X11_isMinute, jn, retz, getf, a, c, e3]; grind
theorem isCouple_e {M : Mem} {v : Int} {w : Int → Int} (h : CI M v w) (x y : Int) : f_X11_isCouple 1 x y M = some (if 0 ≤ x ∧ x < w 5 ∧ 0 ≤ y ∧ y < w 5 ∧ x ≠ y then 1 else 0) := by
  simp only [f_X11_isCouple, jn, retz, isField_e h, callp]; grind
theorem lr_a {N : Mem} (h : LR N) : N 119 0 = 120 ∧ N 120 (-1) = 3840 := ⟨h.1.1, h.2.1⟩
theorem isReachR_e {N : Mem} (h : LR N) (r : Int) : f_X12_isReach 119 r N = some (if 0 ≤ r ∧ r < N 120 3 then 1 else 0) := by
  obtain ⟨a, b⟩ := lr_a h
  simp only [f_X12_isReach, jn, retz, getf, geti, a, b]; grind
theorem isFieldR_e {N : Mem} (h : LR N) (r : Int) : f_X12_isField 119 r N = some (if 0 ≤ r ∧ r < N 120 5 then 1 else 0) := by
  obtain ⟨a, b⟩ := lr_a h
  simp only [f_X12_isField, jn, retz, getf, geti, a, b]; grind
theorem ofReach_e {N : Mem} (h : LR N) {r k : Int} (h0 : 0 ≤ r) (h1 : r < 10) (h2 : 0 ≤ k) (h3 : k < 6) : f_X12_ofReach 119 r k N = some (rc (N 120) r k) := by
  obtain ⟨a, b⟩ := lr_a h
  simp (disch := omega) only [f_X12_ofReach, getf, geti, a, b, w32_s, rc]; grind
theorem ofField_e {N : Mem} (h : LR N) {r k : Int} (h0 : 0 ≤ r) (h1 : r < 10) (h2 : 0 ≤ k) (h3 : k < 4) : f_X12_ofField 119 r k N = some (fc (N 120) r k) := by
  obtain ⟨a, b⟩ := lr_a h
  simp (disch := omega) only [f_X12_ofField, getf, geti, a, b, w32_s, fc]; grind
theorem kc (M : Mem) : ∀ a k, ¬ SC a k → M a k = M a k := fun _ _ _ => rfl
theorem kr (M : Mem) : ∀ a k, ¬ SR a k → M a k = M a k := fun _ _ _ => rfl
def toldS (w : Int → Int) (x : Int) : Ans := if 0 ≤ x ∧ x ≤ 8 then (w x, 0, none) else (-1, 1, none)
theorem c_told {M : Mem} {v : Int} {w : Int → Int} (h : CI M v w) (x : Int) : Tot (f_X11_told 1 x M) (AC (toldS w x) M) := by
  obtain ⟨a, b, c, d, e⟩ := ci_p h
  obtain ⟨_, _, _, _, _, ⟨⟨b1, b2, b3, b4, b5, b6, b7⟩, _⟩, ⟨⟨d1, d2, d3, d4⟩, _⟩⟩ := h
  simp only [f_X11_told, t_ite, t_callp, t_call, t_callv, t_jn, t_retz, t_retzm, t_some, t_getf, t_putf, t_putz, t_seti, t_setz, t_geti, t_alen, t_nn, t_letv, t_idivc, t_iremc, t_ldivc, t_lremc, t_acopy, upd2_at, i10, i11, n10, a, c, d, answer_e, refuse_e]
  unfold toldS
  refine ⟨by decide, by decide, by decide, by decide, ?_⟩
  have s0 := ac_st (kc M)
  refine ⟨fun hx => ?_, fun h0 => ⟨fun hx => ?_, fun h1 => ⟨fun hx => ?_, fun h2 => ⟨fun hx => ?_, fun h3 => ⟨fun hx => ?_, fun h4 => ⟨fun hx => ?_, fun h5 => ⟨fun hx => ?_, fun h6 => ⟨fun hx => ?_, fun h7 => ⟨fun hx => ?_, fun h8 => ?_⟩⟩⟩⟩⟩⟩⟩⟩⟩
  all_goals first | (rw [if_neg (by omega)]; exact s0 _ _) | (subst hx; rw [if_pos (by omega)]; simp only [b1, b2, b3, b4, b5, d1, d2, d3, d4]; exact ⟨by omega, s0 _ _⟩)
theorem r_told {M : Mem} (h : LR M) (x : Int) : Tot (f_X12_told 119 x M) (AR (toldS (M 120) x) M) := by
  obtain ⟨a, b⟩ := lr_a h
  simp only [f_X12_told, t_ite, t_callp, t_call, t_callv, t_jn, t_retz, t_retzm, t_some, t_getf, t_putf, t_putz, t_seti, t_setz, t_geti, t_alen, t_nn, t_letv, t_idivc, t_iremc, t_ldivc, t_lremc, t_acopy, upd2_at, i10, i11, n10, a, b, gives_e, refuseR_e]
  unfold toldS
  have s0 := ar_st (kr M)
  grind
def reachS (w : Int → Int) (r x : Int) : Ans := if 0 ≤ r ∧ r < w 3 ∧ 0 ≤ x ∧ x ≤ 5 then (rc w r x, if rc w r x = -1 then 6 else 0, none) else (-1, 1, none)
def fieldS (w : Int → Int) (r x : Int) : Ans := if 0 ≤ r ∧ r < w 5 ∧ 0 ≤ x ∧ x ≤ 3 then (fc w r x, if fc w r x = -1 then 6 else 0, none) else (-1, 1, none)
theorem c_reach {M : Mem} {v : Int} {w : Int → Int} (h : CI M v w) (hn : w 3 ≤ 10) (r x : Int) : Tot (f_X11_reach 1 r x M) (AC (reachS w r x) M) := by
  have h' := h
  obtain ⟨a, b, c, d, e⟩ := ci_p h
  obtain ⟨hv, _, ⟨⟨l1, l2, l3, l4, l5⟩, ⟨m1, m2, _⟩, lr⟩, _, _, ⟨_, rr, ff⟩, _⟩ := h
  have s0 := ac_st (kc M)
  simp only [f_X11_reach, isReach_e h', isWithin_e, t_ite, t_callp, t_call, t_callv, t_jn, t_retz, t_retzm, t_some, t_getf, t_putf, t_putz, t_seti, t_setz, t_geti, t_alen, t_nn, t_letv, t_idivc, t_iremc, t_ldivc, t_lremc, t_acopy, upd2_at, i10, i11, n10, a, c, l1, answerOrNone_e, refuse_e]
  unfold reachS
  refine ⟨fun h1 => ?_, fun h1 => ⟨fun h2 => ⟨by decide, by decide, by omega, by omega, by omega, by omega, ?_⟩, fun h2 => ?_⟩⟩
  · rw [if_neg (by omega)]; exact s0 _ _
  · have q := lr r (by omega) (by omega)
    rw [if_pos (by omega), q.1, q.2.1, rr r x (by omega) (by omega) (by omega) (by omega)]
    exact ⟨by omega, by omega, by omega, s0 _ _⟩
  · rw [if_neg (by omega)]; exact s0 _ _
theorem c_field {M : Mem} {v : Int} {w : Int → Int} (h : CI M v w) (hn : w 5 ≤ 10) (r x : Int) : Tot (f_X11_field 1 r x M) (AC (fieldS w r x) M) := by
  have h' := h
  obtain ⟨a, b, c, d, e⟩ := ci_p h
  obtain ⟨hv, _, ⟨⟨l1, l2, l3, l4, l5⟩, ⟨m1, m2, _⟩, lr⟩, _, _, ⟨_, rr, ff⟩, _⟩ := h
  have s0 := ac_st (kc M)
  simp only [f_X11_field, isField_e h', isWithin_e, t_ite, t_callp, t_call, t_callv, t_jn, t_retz, t_retzm, t_some, t_getf, t_putf, t_putz, t_seti, t_setz, t_geti, t_alen, t_nn, t_letv, t_idivc, t_iremc, t_ldivc, t_lremc, t_acopy, upd2_at, i10, i11, n10, a, c, l2, answerOrNone_e, refuse_e]
  unfold fieldS
  refine ⟨fun h1 => ?_, fun h1 => ⟨fun h2 => ⟨by decide, by decide, by omega, by omega, by omega, by omega, ?_⟩, fun h2 => ?_⟩⟩
  · rw [if_neg (by omega)]; exact s0 _ _
  · have q := lr r (by omega) (by omega)
    rw [if_pos (by omega), q.2.2.1, q.2.2.2, ff r x (by omega) (by omega) (by omega) (by omega)]
    exact ⟨by omega, by omega, by omega, s0 _ _⟩
  · rw [if_neg (by omega)]; exact s0 _ _
theorem r_reach {M : Mem} (h : LR M) (hn : M 120 3 ≤ 10) (r x : Int) : Tot (f_X12_reach 119 r x M) (AR (reachS (M 120) r x) M) := by
  have s0 := ar_st (kr M)
  simp only [f_X12_reach, isReachR_e h, t_ite, t_callp, t_call, t_callv, t_jn, t_retz, t_retzm, t_some, t_getf, t_putf, t_putz, t_seti, t_setz, t_geti, t_alen, t_nn, t_letv, t_idivc, t_iremc, t_ldivc, t_lremc, t_acopy, upd2_at, i10, i11, n10, refuseR_e, orNone_e]
  unfold reachS
  refine ⟨fun h1 => ?_, fun h1 => ⟨fun h2 => ?_, fun h2 => ⟨fun h3 => ?_, fun h3 => ?_⟩⟩⟩
  · rw [if_neg (by omega)]; exact s0 _ _
  · rw [if_neg (by omega)]; exact s0 _ _
  · rw [if_neg (by omega)]; exact s0 _ _
  · rw [if_pos (by omega), ofReach_e h (by omega) (by omega) (by omega) (by omega), t_some]
    exact s0 _ _
theorem r_field {M : Mem} (h : LR M) (hn : M 120 5 ≤ 10) (r x : Int) : Tot (f_X12_field 119 r x M) (AR (fieldS (M 120) r x) M) := by
  have s0 := ar_st (kr M)
  simp only [f_X12_field, isFieldR_e h, t_ite, t_callp, t_call, t_callv, t_jn, t_retz, t_retzm, t_some, t_getf, t_putf, t_putz, t_seti, t_setz, t_geti, t_alen, t_nn, t_letv, t_idivc, t_iremc, t_ldivc, t_lremc, t_acopy, upd2_at, i10, i11, n10, refuseR_e, orNone_e]
  unfold fieldS
  refine ⟨fun h1 => ?_, fun h1 => ⟨fun h2 => ?_, fun h2 => ⟨fun h3 => ?_, fun h3 => ?_⟩⟩⟩
  · rw [if_neg (by omega)]; exact s0 _ _
  · rw [if_neg (by omega)]; exact s0 _ _
  · rw [if_neg (by omega)]; exact s0 _ _
  · rw [if_pos (by omega), ofField_e h (by omega) (by omega) (by omega) (by omega), t_some]
    exact s0 _ _
def orderS (w : Int → Int) (k : Int) : Ans := if k < 0 then (-1, 1, none) else if k < w 5 then (od w k, 0, none) else (-1, 6, none)
theorem c_order {M : Mem} {v : Int} {w : Int → Int} (h : CI M v w) (hn : w 5 ≤ 10) (k : Int) : Tot (f_X11_order 1 k M) (AC (orderS w k) M) := by
  obtain ⟨a, b, c, d, e⟩ := ci_p h
  obtain ⟨hv, _, _, ⟨⟨l1, _⟩, ⟨m1, _⟩⟩, _, ⟨⟨b1, b2, b3, b4, b5, b6, b7⟩, _⟩, ⟨_, oo, _⟩⟩ := h
  have s0 := ac_st (kc M)
  simp only [f_X11_order, t_ite, t_callp, t_call, t_callv, t_jn, t_retz, t_retzm, t_some, t_getf, t_putf, t_putz, t_seti, t_setz, t_geti, t_alen, t_nn, t_letv, t_idivc, t_iremc, t_ldivc, t_lremc, t_acopy, upd2_at, i10, i11, n10, a, c, d, l1, b5, answer_e, refuse_e]
  unfold orderS
  refine ⟨fun h1 => ⟨by decide, by decide, by omega, fun h2 => ?_, fun h2 => ⟨by decide, by decide, by decide, by decide, by omega, ?_⟩⟩, fun h1 => ?_⟩
  · rw [if_neg (by omega), if_neg (by omega)]; exact s0 _ _
  · have q := oo k (by omega) (by omega)
    rw [if_neg (by omega), if_pos (by omega)]
    simp only [show (48 : Int) + 1 = 49 from rfl] at m1 q ⊢
    rw [m1, q]; exact ⟨by omega, s0 _ _⟩
  · rw [if_pos (by omega)]; exact s0 _ _
theorem r_order {M : Mem} (h : LR M) (hn : M 120 5 ≤ 10) (k : Int) (hk : r32 k) : Tot (f_X12_order 119 k M) (AR (orderS (M 120) k) M) := by
  obtain ⟨a, b⟩ := lr_a h
  have s0 := ar_st (kr M)
  unfold r32 at hk
  simp only [f_X12_order, t_ite, t_callp, t_call, t_callv, t_jn, t_retz, t_retzm, t_some, t_getf, t_putf, t_putz, t_seti, t_setz, t_geti, t_alen, t_nn, t_letv, t_idivc, t_iremc, t_ldivc, t_lremc, t_acopy, upd2_at, i10, i11, n10, a, b, gives_e, refuseR_e]
  unfold orderS
  refine ⟨fun h1 => ⟨by decide, by decide, by decide, by decide, fun h2 => ⟨by decide, by decide, ?_⟩, fun h2 => ?_⟩, fun h1 => ?_⟩
  · rw [w32_s (by omega) (by omega), if_neg (by omega), if_pos (by omega)]
    exact ⟨by omega, by omega, s0 _ _⟩
  · rw [if_neg (by omega), if_neg (by omega)]; exact s0 _ _
  · rw [if_pos (by omega)]; exact s0 _ _
