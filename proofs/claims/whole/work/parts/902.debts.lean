/-! debts, accounts, who lets by -/
abbrev bt (v r : Int) : Prop := iandv (ishrv v r) 1 = 1
abbrev shutW (w : Int → Int) (r m : Int) : Prop := rc w r 4 ≠ -1 ∧ rc w r 4 ≤ (w 2 + m) % 1440 ∧ (w 2 + m) % 1440 < rc w r 5
abbrev letsW (w : Int → Int) (r m : Int) : Prop := ¬ bt (w 7) r ∧ ¬ shutW w r m
theorem sumZ_sub (g f : Int → Int) {n : Int} (h : 0 ≤ n) : sumZ (fun k => g k - f k) n = sumZ g n - sumZ f n := by
  have := foldZ_inv (f := fun k (x : Int) => x + (g k - f k)) (a := 0) (fun p (x : Int) => 0 ≤ p ∧ x = sumZ g p - sumZ f p) ⟨by omega, by simp [sumZ_0]⟩ (n := n) (fun k x hk hk1 hx => ⟨by omega, by rw [hx.2, sumZ_s _ hk, sumZ_s _ hk]; omega⟩) h (Int.le_refl _)
  exact this.2
theorem sumZ_z {g : Int → Int} {n : Int} (h : ∀ k, 0 ≤ k → k < n → g k = 0) : sumZ g n = 0 := by
  by_cases hn : 0 ≤ n
  · have := sumZ_le (g := g) (n := n) (lo := 0) (hi := 0) (fun k h0 h1 => by rw [h k h0 h1]; omega) hn (Int.le_refl _)
    omega
  · unfold sumZ foldZ; rw [show n.toNat = 0 by omega]; rfl
theorem debt_e {M : Mem} {v : Int} {w : Int → Int} (h : CI M v w) {x y : Int} (h0 : 0 ≤ x) (h1 : x < 10) (h2 : 0 ≤ y) (h3 : y < 10) : f_X4_debt 48 x y M = some (ow w x y) := by
  obtain ⟨hv, _, _, ⟨⟨l1, l2, l3, l4, l5, l6⟩, ⟨m1, m2, m3, m4, m5, m6⟩⟩, _, _, ⟨_, _, _, oo, _⟩⟩ := h
  have q := oo x y h0 h1 h2 h3
  simp only [show (48 : Int) + 5 = 53 from rfl] at l5 m5 q
  rw [← t_eq]
  simp (disch := omega) only [f_X4_debt, t_ite, t_callp, t_call, t_callv, t_jn, t_retz, t_retzm, t_some, t_getf, t_putf, t_putz, t_seti, t_setz, t_geti, t_alen, t_nn, t_letv, t_idivc, t_iremc, t_ldivc, t_lremc, t_acopy, upd2_at, i10, i11, n10, l5, m5, w32_s, q]
  refine ⟨by decide, by decide, by omega, by omega, trivial⟩
def owedS (w : Int → Int) (x y : Int) : Ans := if 0 ≤ x ∧ x < w 5 ∧ 0 ≤ y ∧ y < w 5 ∧ x ≠ y then (ow w x y, 0, none) else (-1, 1, none)
theorem c_owed {M : Mem} {v : Int} {w : Int → Int} (h : CI M v w) (hn : w 5 ≤ 10) (x y : Int) : Tot (f_X11_owed 1 x y M) (AC (owedS w x y) M) := by
  obtain ⟨a, b, c, d, e⟩ := ci_p h
  have s0 := ac_st (kc M)
  simp only [f_X11_owed, isCouple_e h, t_ite, t_callp, t_call, t_callv, t_jn, t_retz, t_retzm, t_some, t_getf, t_putf, t_putz, t_seti, t_setz, t_geti, t_alen, t_nn, t_letv, t_idivc, t_iremc, t_ldivc, t_lremc, t_acopy, upd2_at, i10, i11, n10, a, d, answer_e, refuse_e]
  unfold owedS
  refine ⟨fun h1 => ?_, fun h1 => ⟨by decide, by decide, by decide, ?_⟩⟩
  · rw [if_neg h1]; exact s0 _ _
  · have h2 : 0 ≤ x ∧ x < w 5 ∧ 0 ≤ y ∧ y < w 5 ∧ x ≠ y := by simpa using h1
    rw [if_pos h2, debt_e h (by omega) (by omega) (by omega) (by omega), t_some]
    exact s0 _ _
theorem r_owed {M : Mem} (h : LR M) (hn : M 120 5 ≤ 10) (x y : Int) : Tot (f_X12_owed 119 x y M) (AR (owedS (M 120) x y) M) := by
  obtain ⟨a, b⟩ := lr_a h
  have s0 := ar_st (kr M)
  simp only [f_X12_owed, isFieldR_e h, t_ite, t_callp, t_call, t_callv, t_jn, t_retz, t_retzm, t_some, t_getf, t_putf, t_putz, t_seti, t_setz, t_geti, t_alen, t_nn, t_letv, t_idivc, t_iremc, t_ldivc, t_lremc, t_acopy, upd2_at, i10, i11, n10, a, b, refuseR_e, gives_e]
  unfold owedS
  refine ⟨fun h1 => ?_, fun h1 => ⟨fun h2 => ?_, fun h2 => ⟨fun h3 => ?_, fun h3 => ⟨by decide, by decide, ?_⟩⟩⟩⟩
  · rw [if_neg (by omega)]; exact s0 _ _
  · rw [if_neg (by omega)]; exact s0 _ _
  · rw [if_neg (by omega)]; exact s0 _ _
  · rw [if_pos (by omega)]
    simp (disch := omega) only [w32_s]
    exact ⟨by omega, by omega, s0 _ _⟩
def accountS (w : Int → Int) (x : Int) : Ans := if 0 ≤ x ∧ x < w 5 then (ac w x, 0, none) else (-1, 1, none)
theorem c_account {M : Mem} {v : Int} {w : Int → Int} (h : CI M v w) (hn : w 5 ≤ 10) (x : Int) : Tot (f_X11_account 1 x M) (AC (accountS w x) M) := by
  have h' := h
  obtain ⟨a, b, c, d, e⟩ := ci_p h
  obtain ⟨hv, _, _, ⟨⟨l1, l2, l3, l4, l5, l6⟩, ⟨m1, m2, m3, m4, m5, m6⟩⟩, _, _, ⟨_, _, _, _, oo⟩⟩ := h
  have s0 := ac_st (kc M)
  simp only [show (48 : Int) + 6 = 54 from rfl] at l6 m6 oo
  simp only [f_X11_account, isField_e h', t_ite, t_callp, t_call, t_callv, t_jn, t_retz, t_retzm, t_some, t_getf, t_putf, t_putz, t_seti, t_setz, t_geti, t_alen, t_nn, t_letv, t_idivc, t_iremc, t_ldivc, t_lremc, t_acopy, upd2_at, i10, i11, n10, a, d, l6, m6, settle_e, refuse_e]
  unfold accountS
  refine ⟨fun h1 => ?_, fun h1 => ?_⟩
  · simp [a, d, l6, m6, oo x (by omega) (by omega), h1]
    exact ⟨by omega, s0 _ _⟩
  · rw [if_neg h1]; exact s0 _ _
theorem r_account {M : Mem} (h : LR M) (hn : M 120 5 ≤ 10) (x : Int) : Tot (f_X12_account 119 x M) (AR (accountS (M 120) x) M) := by
  obtain ⟨a, b⟩ := lr_a h
  have s0 := ar_st (kr M)
  simp only [f_X12_account, isFieldR_e h, t_ite, t_callp, t_call, t_callv, t_jn, t_retz, t_retzm, t_some, t_getf, t_putf, t_putz, t_seti, t_setz, t_geti, t_alen, t_nn, t_letv, t_idivc, t_iremc, t_ldivc, t_lremc, t_acopy, upd2_at, i10, i11, n10, a, b, refuseR_e, gives_e]
  unfold accountS
  refine ⟨fun h1 => ?_, fun h1 => ⟨by decide, by decide, ?_⟩⟩
  · rw [if_neg (by omega)]; exact s0 _ _
  · rw [if_pos (by omega)]
    simp (disch := omega) only [w32_s]
    exact ⟨by omega, by omega, s0 _ _⟩
theorem isClosed_e {M : Mem} {v : Int} {w : Int → Int} (h : CI M v w) (r : Int) : f_X4_isClosed 48 r M = some (if bt (w 7) r then 1 else 0) := by
  obtain ⟨_, _, _, _, _, _, ⟨⟨_, _, e, _⟩, _⟩⟩ := h
  simp only [f_X4_isClosed, getf, jn, retz, e, bt]; grind
theorem isShut_e {M : Mem} {v : Int} {w : Int → Int} (h : CI M v w) (hw : WFn w) {r m : Int} (h0 : 0 ≤ r) (h1 : r < w 3) (h2 : 0 ≤ m) (h3 : m ≤ 1440) : f_X8_isShut v r m M = some (if shutW w r m then 1 else 0) := by
  obtain ⟨hv, _, ⟨⟨l1, l2, l3, l4, l5⟩, ⟨m1, m2, _⟩, lr⟩, _, _, ⟨⟨b1, b2, b3, b4, b5, b6, b7⟩, rr, ff⟩, _⟩ := h
  unfold WFn at hw
  have q := lr r (by omega) (by omega)
  have q4 := rr r 4 (by omega) (by omega) (by omega) (by omega)
  have q5 := rr r 5 (by omega) (by omega) (by omega) (by omega)
  rw [← t_eq]
  simp (disch := omega) only [f_X8_isShut, t_ite, t_callp, t_call, t_callv, t_jn, t_retz, t_retzm, t_some, t_getf, t_putf, t_putz, t_seti, t_setz, t_geti, t_alen, t_nn, t_letv, t_idivc, t_iremc, t_ldivc, t_lremc, t_acopy, upd2_at, i10, i11, n10, b2, l1, m1, q.1, q.2.1, q4, q5, w32_s, irem_p]
  unfold shutW
  refine ⟨by omega, by decide, by omega, by omega, by omega, by omega, by omega, by omega, by omega, ?_⟩
  grind
theorem letsBy_e {N : Mem} (h : LR N) (hw : WFn (N 120)) {r m : Int} (h0 : 0 ≤ r) (h1 : r < N 120 3) (h2 : 0 ≤ m) (h3 : m ≤ 1440) : f_X12_letsBy 119 r m N = some (if letsW (N 120) r m then 1 else 0) := by
  obtain ⟨a, b⟩ := lr_a h
  unfold WFn at hw
  have q4 := ofReach_e h (r := r) (k := 4) (by omega) (by omega) (by omega) (by omega)
  have q5 := ofReach_e h (r := r) (k := 5) (by omega) (by omega) (by omega) (by omega)
  rw [← t_eq]
  simp (disch := omega) only [f_X12_letsBy, t_ite, t_callp, t_call, t_callv, t_jn, t_retz, t_retzm, t_some, t_getf, t_putf, t_putz, t_seti, t_setz, t_geti, t_alen, t_nn, t_letv, t_idivc, t_iremc, t_ldivc, t_lremc, t_acopy, upd2_at, i10, i11, n10, a, b, q4, q5, w32_s, irem_p]
  unfold letsW shutW bt
  grind
def letsS (w : Int → Int) (r m : Int) : Ans := if 0 ≤ r ∧ r < w 3 ∧ 0 ≤ m ∧ m < w 1 then (if letsW w r m then 1 else 0, 0, none) else (-1, 1, none)
theorem c_lets {M : Mem} {v : Int} {w : Int → Int} (h : CI M v w) (hw : WFn w) (r m : Int) : Tot (f_X11_lets 1 r m M) (AC (letsS w r m) M) := by
  obtain ⟨a, b, c, d, e⟩ := ci_p h
  have s0 := ac_st (kc M)
  simp only [f_X11_lets, isReach_e h, isMinute_e h, isClosed_e h, t_ite, t_callp, t_call, t_callv, t_jn, t_retz, t_retzm, t_some, t_getf, t_putf, t_putz, t_seti, t_setz, t_geti, t_alen, t_nn, t_letv, t_idivc, t_iremc, t_ldivc, t_lremc, t_acopy, upd2_at, i10, i11, n10, a, c, d, answer_e, refuse_e]
  unfold letsS
  refine ⟨fun h1 => ?_, fun h1 => ⟨fun h2 => ⟨by decide, by decide, by decide, ?_⟩, fun h2 => ?_⟩⟩
  · rw [if_neg (by omega)]; exact s0 _ _
  · rw [if_pos (by omega)]
    have hw' := hw
    unfold WFn at hw'
    rw [isShut_e h hw (by omega) (by omega) (by omega) (by omega)]
    simp only [t_ite, t_callp, t_call, t_callv, t_jn, t_retz, t_retzm, t_some, t_getf, t_putf, t_putz, t_seti, t_setz, t_geti, t_alen, t_nn, t_letv, t_idivc, t_iremc, t_ldivc, t_lremc, t_acopy, upd2_at, i10, i11, n10]
    unfold letsW
    grind
  · rw [if_neg (by omega)]; exact s0 _ _
theorem r_lets {M : Mem} (h : LR M) (hw : WFn (M 120)) (r m : Int) : Tot (f_X12_lets 119 r m M) (AR (letsS (M 120) r m) M) := by
  obtain ⟨a, b⟩ := lr_a h
  have s0 := ar_st (kr M)
  simp only [f_X12_lets, isReachR_e h, t_ite, t_callp, t_call, t_callv, t_jn, t_retz, t_retzm, t_some, t_getf, t_putf, t_putz, t_seti, t_setz, t_geti, t_alen, t_nn, t_letv, t_idivc, t_iremc, t_ldivc, t_lremc, t_acopy, upd2_at, i10, i11, n10, a, b, gives_e, refuseR_e]
  unfold letsS
  refine ⟨fun h1 => ?_, fun h1 => ⟨fun h2 => ?_, fun h2 => ⟨by decide, by decide, by decide, by decide, fun h3 => ?_, fun h3 => ?_⟩⟩⟩
  · rw [if_neg (by omega)]; exact s0 _ _
  · rw [if_neg (by omega)]; exact s0 _ _
  · rw [if_neg (by omega)]; exact s0 _ _
  · have hw' := hw
    unfold WFn at hw'
    rw [if_pos (by omega), letsBy_e h hw (by omega) (by omega) (by omega) (by omega), t_some]
    simp only [t_ite, t_callp, t_call, t_callv, t_jn, t_retz, t_retzm, t_some, t_getf, t_putf, t_putz, t_seti, t_setz, t_geti, t_alen, t_nn, t_letv, t_idivc, t_iremc, t_ldivc, t_lremc, t_acopy, upd2_at, i10, i11, n10]
    grind
