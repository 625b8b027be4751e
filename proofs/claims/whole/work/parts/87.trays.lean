/-! trays -/
theorem isTray_e (t : Int) (M : Mem) : f_X7_isTray t M = some (if 0 ≤ t ∧ t < 4 then 1 else 0) := by
  simp only [f_X7_isTray, jn, retz]; grind
theorem isTrayR_e (t : Int) (M : Mem) : f_X12_isTray t M = some (if 0 ≤ t ∧ t < 4 then 1 else 0) := by
  simp only [f_X12_isTray, jn, retz]; grind
theorem isWithin_e (x a b : Int) (M : Mem) : f_X11_isWithin x a b M = some (if a ≤ x ∧ x ≤ b then 1 else 0) := by
  simp only [f_X11_isWithin, jn, retz]; grind
theorem settle_e (w : Int) (M : Mem) : f_X11_settle 1 w M = some (if w = 0 then 1 else 0, upd2 M 1 12 w) := by
  simp only [f_X11_settle, putf, jn, retzm]; grind
theorem answer_e (w : Int) (M : Mem) : f_X11_answer 1 w M = some (w, upd2 M 1 12 0) := by
  simp only [f_X11_answer, putf, jn, retzm]; grind
theorem refuse_e (w : Int) (M : Mem) : f_X11_refuse 1 w M = some (-1, upd2 M 1 12 w) := by
  simp only [f_X11_refuse, putf, jn, retzm]; grind
theorem answerOrNone_e (w : Int) (M : Mem) : f_X11_answerOrNone 1 w M = some (w, upd2 M 1 12 (if w = -1 then 6 else 0)) := by
  simp only [f_X11_answerOrNone, jn, answer_e, refuse_e, call]; grind
theorem is_e (w : Int) (M : Mem) : f_X12_is 119 w M = some (if w = 0 then 1 else 0, upd2 M 119 2 w) := by
  simp only [f_X12_is, putf, jn, retzm]; grind
theorem gives_e (w : Int) (M : Mem) : f_X12_gives 119 w M = some (w, upd2 M 119 2 0) := by
  simp only [f_X12_gives, putf, jn, retzm]; grind
theorem refuseR_e (w : Int) (M : Mem) : f_X12_refuse 119 w M = some (-1, upd2 M 119 2 w) := by
  simp only [f_X12_refuse, putf, jn, retzm]; grind
theorem orNone_e (w : Int) (M : Mem) : f_X12_orNone 119 w M = some (w, upd2 M 119 2 (if w = -1 then 6 else 0)) := by
  simp only [f_X12_orNone, jn, gives_e, refuseR_e, call]; grind
/-- the class's trays, laid -/
def LTr (M : Mem) : Prop := M 1 0 = 2 ∧ M 2 0 = 3 ∧ M 2 1 = 8 ∧ M 2 2 = 9 ∧ M 3 (-1) = 4 ∧ M 8 (-1) = 4 ∧ M 9 (-1) = 4 ∧ (∀ t, 0 ≤ t → t < 4 → M 3 t = 4 + t) ∧ (∀ t, 4 ≤ t → t < 8 → M t (-1) = 60)
/-- the reference's trays, laid -/
def LTrR (M : Mem) : Prop := M 119 5 = 122 ∧ M 119 6 = 123 ∧ M 119 7 = 124 ∧ M 122 (-1) = 4 ∧ M 123 (-1) = 4 ∧ M 124 (-1) = 240
def ITr (M : Mem) : Prop := (∀ t, 0 ≤ t → t < 4 → M 8 t = M 122 t ∧ M 9 t = M 123 t ∧ 0 ≤ M 122 t ∧ M 122 t ≤ 3 ∧ -1 ≤ M 123 t ∧ M 123 t ≤ 60) ∧ (∀ t k, 0 ≤ t → t < 4 → 0 ≤ k → k < M 123 t → M (4 + t) k = M 124 (60 * t + k))
def okTray (t s m : Int) : Prop := 0 ≤ t ∧ t < 4 ∧ 0 ≤ s ∧ s ≤ 3 ∧ 0 ≤ m ∧ m ≤ 60
theorem c_tray {M : Mem} {Q : Int × Mem → Prop} (h : LTr M) (t s m : Int) (hb : ¬ okTray t s m → Q (0, upd2 M 1 12 1)) (hg : okTray t s m → ∀ M', (∀ a k, M' a k = if a = 1 ∧ k = 12 then 0 else if a = 8 ∧ k = t then s else if a = 9 ∧ k = t then m else if a = 4 + t ∧ 0 ≤ k ∧ k < 60 then 0 else M a k) → Q (1, M')) : Tot (f_X11_tray 1 t s m M) Q := by
  obtain ⟨h1, h2, h3, h4, h5, h6, h7, h8, h9⟩ := h
  unfold okTray at hb hg
  simp only [f_X11_tray, isTray_e, isWithin_e, settle_e, f_X7_lay, t_ite, t_callp, t_call, t_callv, t_jn, t_retz, t_retzm, t_some, t_getf, t_putf, t_putz, t_seti, t_setz, t_geti, t_alen, t_nn, t_letv, t_idivc, t_iremc, t_ldivc, t_lremc, t_acopy, upd2_at, i10, i11, n10, h1, h2, h3, h4, h5, h6, h7]
  refine ⟨by grind, fun c1 => ⟨by grind, fun c2 => ⟨fun c3 => ?_, by grind⟩⟩⟩
  have e : M 3 t = 4 + t := h8 t (by omega) (by omega)
  simp [e, h5, h6, h7, h4, h2]
  refine ⟨by omega, by omega, by omega, by omega, by omega, by omega, fill_l (by omega) ?_ ?_ ?_⟩
  · simp [upd2_at]; grind
  · simp [upd2_at]; grind
  · intro M' hM
    refine hg (by omega) _ (fun a k => ?_)
    simp only [upd2_at, hM]
    have := h9 (4 + t) (by omega) (by omega)
    grind
theorem r_tray {M : Mem} {Q : Int × Mem → Prop} (h : LTrR M) (t s m : Int) (hb : ¬ okTray t s m → Q (0, upd2 M 119 2 1)) (hg : okTray t s m → ∀ M', (∀ a k, M' a k = if a = 119 ∧ k = 2 then 0 else if a = 122 ∧ k = t then s else if a = 123 ∧ k = t then m else if a = 124 ∧ 60 * t ≤ k ∧ k < 60 * t + m then 0 else M a k) → Q (1, M')) : Tot (f_X12_tray 119 t s m M) Q := by
  obtain ⟨h1, h2, h3, h4, h5, h6⟩ := h
  unfold okTray at hb hg
  simp only [f_X12_tray, isTrayR_e, is_e, t_ite, t_callp, t_call, t_callv, t_jn, t_retz, t_retzm, t_some, t_getf, t_putf, t_putz, t_seti, t_setz, t_geti, t_alen, t_nn, t_letv, t_idivc, t_iremc, t_ldivc, t_lremc, t_acopy, upd2_at, i10, i11, n10, h1, h2, h3, h4, h5, h6]
  refine ⟨by grind, fun c1 => ⟨by grind, fun c2 => ⟨by grind, fun c3 => ⟨by grind, fun c4 => ⟨fun c5 => ?_, by grind⟩⟩⟩⟩⟩
  simp [h5, h2]
  refine ⟨by omega, by omega, by omega, by omega, ?_⟩
  refine lpIM (fun p N => 0 ≤ p ∧ p ≤ m ∧ ∀ a k, N a k = if a = 122 ∧ k = t then s else if a = 123 ∧ k = t then m else if a = 124 ∧ 60 * t ≤ k ∧ k < 60 * t + p then 0 else M a k) (fun p _ => (m - p).toNat) ?_ (by unfold KF; omega) ⟨by omega, by omega, fun a k => by simp only [upd2_at]; grind⟩
  rintro n p N ⟨i0, i1, i2⟩ ih
  unfold f_X12_tray_L49
  simp only [t_ite, t_callp, t_call, t_callv, t_jn, t_retz, t_retzm, t_some, t_getf, t_putf, t_putz, t_seti, t_setz, t_geti, t_alen, t_nn, t_letv, t_idivc, t_iremc, t_ldivc, t_lremc, t_acopy, upd2_at, i10, i11, n10]
  refine ⟨fun c => ⟨by simp, hg (by omega) _ (fun a k => ?_)⟩, fun c => ⟨by decide, ?_⟩⟩
  · simp only [upd2_at, i2]; grind
  · have e1 : N 119 7 = 124 := by rw [i2]; simp [h3]
    have e2 : N 124 (-1) = 240 := by rw [i2]; grind
    simp (disch := omega) only [e1, e2, w32_s]
    refine ⟨by decide, by omega, by omega, ih _ _ (by omega) ⟨by omega, by omega, fun a k => ?_⟩⟩
    simp only [upd2_at, i2]; grind
def why1 (t p n : Int) : Int := if ¬ (0 ≤ t ∧ t < 4) then 1 else if n = -1 then 2 else if 0 ≤ p ∧ p < n then 0 else 3
theorem isMissing_e {M : Mem} (h : LTr M) {t : Int} (h0 : 0 ≤ t) (h1 : t < 4) : f_X7_isMissing 2 t M = some (if M 9 t = -1 then 1 else 0) := by
  obtain ⟨_, _, _, e, _, _, e2, _⟩ := h
  simp only [f_X7_isMissing, getf, geti, jn, retz, e, e2]
  grind
theorem whyNoPlace_e {M : Mem} (h : LTr M) (t p : Int) : f_X7_whyNoPlace 2 t p M = some (why1 t p (M 9 t)) := by
  rw [← t_eq]
  unfold why1
  have h' := h
  obtain ⟨_, _, _, e, _, _, e2, _⟩ := h
  simp only [f_X7_whyNoPlace, isTray_e, t_ite, t_callp, t_call, t_callv, t_jn, t_retz, t_retzm, t_some, t_getf, t_putf, t_putz, t_seti, t_setz, t_geti, t_alen, t_nn, t_letv, t_idivc, t_iremc, t_ldivc, t_lremc, t_acopy, upd2_at, i10, i11, n10, e, e2]
  refine ⟨fun c => ?_, by grind⟩
  simp only [isMissing_e h' c.1 c.2, t_ite, t_callp, t_call, t_callv, t_jn, t_retz, t_retzm, t_some, t_getf, t_putf, t_putz, t_seti, t_setz, t_geti, t_alen, t_nn, t_letv, t_idivc, t_iremc, t_ldivc, t_lremc, t_acopy, upd2_at, i10, i11, n10]
  grind
theorem wrongPlace_e {M : Mem} (h : LTrR M) (t p : Int) : f_X12_wrongPlace 119 t p M = some (why1 t p (M 123 t)) := by
  rw [← t_eq]
  unfold why1
  obtain ⟨e1, e2, e3, e4, e5, e6⟩ := h
  simp only [f_X12_wrongPlace, isTrayR_e, t_ite, t_callp, t_call, t_callv, t_jn, t_retz, t_retzm, t_some, t_getf, t_putf, t_putz, t_seti, t_setz, t_geti, t_alen, t_nn, t_letv, t_idivc, t_iremc, t_ldivc, t_lremc, t_acopy, upd2_at, i10, i11, n10, e2, e5]
  grind
def cutv (s v : Int) : Int := if s = 0 then w8 (w32 v) else if s = 1 then w16 (w32 v) else if s = 2 then w32 v else v
theorem why1_0 {t p n : Int} : why1 t p n = 0 ↔ 0 ≤ t ∧ t < 4 ∧ n ≠ -1 ∧ 0 ≤ p ∧ p < n := by unfold why1; grind
theorem c_write {M : Mem} {Q : Int × Mem → Prop} (h : LTr M) (hm : ∀ t, 0 ≤ t → t < 4 → M 9 t ≤ 60) (t p v : Int) (hb : why1 t p (M 9 t) ≠ 0 → Q (0, upd2 M 1 12 (why1 t p (M 9 t)))) (hg : why1 t p (M 9 t) = 0 → Q (1, upd2 (upd2 M (4 + t) p (cutv (M 8 t) v)) 1 12 0)) : Tot (f_X11_write 1 t p v M) Q := by
  have h' := h
  obtain ⟨h1, h2, h3, h4, h5, h6, h7, h8, h9⟩ := h
  simp only [f_X11_write, t_ite, t_callp, t_call, t_callv, t_jn, t_retz, t_retzm, t_some, t_getf, t_putf, t_putz, t_seti, t_setz, t_geti, t_alen, t_nn, t_letv, t_idivc, t_iremc, t_ldivc, t_lremc, t_acopy, upd2_at, i10, i11, n10, h1, whyNoPlace_e h', settle_e]
  refine ⟨by decide, by decide, ⟨by grind, fun c => ?_⟩⟩
  have c' := why1_0.mp (by simpa using c)
  have e := h8 t (by omega) (by omega)
  have e' := h9 (4 + t) (by omega) (by omega)
  have e2 := hm t (by omega) (by omega)
  have hg' := hg (by simpa using c)
  have c2 : why1 t p (M 9 t) = 0 := by simpa using c
  unfold cutv at hg'
  simp only [f_X7_put, t_ite, t_callp, t_call, t_callv, t_jn, t_retz, t_retzm, t_some, t_getf, t_putf, t_putz, t_seti, t_setz, t_geti, t_alen, t_nn, t_letv, t_idivc, t_iremc, t_ldivc, t_lremc, t_acopy, upd2_at, i10, i11, n10, h2, h3, h5, h6, e, e', c2]
  grind
theorem cut_e (v s : Int) (M : Mem) : f_X12_cut v s M = some (cutv s v) := by
  simp only [f_X12_cut, jn, cutv]; grind
theorem r_write {M : Mem} {Q : Int × Mem → Prop} (h : LTrR M) (hm : ∀ t, 0 ≤ t → t < 4 → M 123 t ≤ 60) (t p v : Int) (hb : why1 t p (M 123 t) ≠ 0 → Q (0, upd2 M 119 2 (why1 t p (M 123 t)))) (hg : why1 t p (M 123 t) = 0 → Q (1, upd2 (upd2 M 124 (60 * t + p) (cutv (M 122 t) v)) 119 2 0)) : Tot (f_X12_write 119 t p v M) Q := by
  have h' := h
  obtain ⟨h1, h2, h3, h4, h5, h6⟩ := h
  simp only [f_X12_write, t_ite, t_callp, t_call, t_callv, t_jn, t_retz, t_retzm, t_some, t_getf, t_putf, t_putz, t_seti, t_setz, t_geti, t_alen, t_nn, t_letv, t_idivc, t_iremc, t_ldivc, t_lremc, t_acopy, upd2_at, i10, i11, n10, wrongPlace_e h', is_e, cut_e, h1, h3, h4, h6]
  refine ⟨by grind, fun c => ?_⟩
  have c2 : why1 t p (M 123 t) = 0 := by simpa using c
  have c' := why1_0.mp c2
  have e2 := hm t (by omega) (by omega)
  simp (disch := omega) only [w32_s]
  have hg' := hg c2
  grind
theorem c_read {M : Mem} {Q : Int × Mem → Prop} (h : LTr M) (hm : ∀ t, 0 ≤ t → t < 4 → M 9 t ≤ 60) (t p : Int) (hb : why1 t p (M 9 t) ≠ 0 → Q (-1, upd2 M 1 12 (why1 t p (M 9 t)))) (hg : why1 t p (M 9 t) = 0 → Q (M (4 + t) p, upd2 M 1 12 0)) : Tot (f_X11_read 1 t p M) Q := by
  have h' := h
  obtain ⟨h1, h2, h3, h4, h5, h6, h7, h8, h9⟩ := h
  simp only [f_X11_read, t_ite, t_callp, t_call, t_callv, t_jn, t_retz, t_retzm, t_some, t_getf, t_putf, t_putz, t_seti, t_setz, t_geti, t_alen, t_nn, t_letv, t_idivc, t_iremc, t_ldivc, t_lremc, t_acopy, upd2_at, i10, i11, n10, h1, h2, whyNoPlace_e h', settle_e, refuse_e]
  refine ⟨by decide, by decide, ⟨fun c => ?_, by grind⟩⟩
  have c' := why1_0.mp c
  have e := h8 t (by omega) (by omega)
  have e' := h9 (4 + t) (by omega) (by omega)
  have e2 := hm t (by omega) (by omega)
  have hg' := hg c
  simp [h1, h2, e, h5, e']
  grind
theorem r_read {M : Mem} {Q : Int × Mem → Prop} (h : LTrR M) (hm : ∀ t, 0 ≤ t → t < 4 → M 123 t ≤ 60) (t p : Int) (hb : why1 t p (M 123 t) ≠ 0 → Q (-1, upd2 M 119 2 (why1 t p (M 123 t)))) (hg : why1 t p (M 123 t) = 0 → Q (M 124 (60 * t + p), upd2 M 119 2 0)) : Tot (f_X12_read 119 t p M) Q := by
  have h' := h
  obtain ⟨h1, h2, h3, h4, h5, h6⟩ := h
  simp only [f_X12_read, t_ite, t_callp, t_call, t_callv, t_jn, t_retz, t_retzm, t_some, t_getf, t_putf, t_putz, t_seti, t_setz, t_geti, t_alen, t_nn, t_letv, t_idivc, t_iremc, t_ldivc, t_lremc, t_acopy, upd2_at, i10, i11, n10, wrongPlace_e h']
  refine ⟨by decide, by decide, ⟨fun c => ?_, fun c => hb (by simp at c; omega)⟩⟩
  have c2 : why1 t p (M 123 t) = 0 := by
    unfold why1 at c ⊢; simp at c; grind
  have c' := why1_0.mp c2
  have e2 := hm t (by omega) (by omega)
  simp (disch := omega) only [w32_s]
  simp [h3, h6]
  have hg' := hg c2
  grind
def why2 (M : Mem) (a n x p y q m : Int) : Int := if ¬ (0 ≤ x ∧ x < 4 ∧ 0 ≤ y ∧ y < 4 ∧ 0 ≤ p ∧ 0 ≤ q ∧ 0 ≤ m) then 1 else if M n x = -1 ∨ M n y = -1 then 2 else if M a x ≠ M a y then 8 else if m ≤ M n x - p ∧ m ≤ M n y - q then 0 else 3
theorem holds_e {M : Mem} (h : LTr M) (hm : ∀ t, 0 ≤ t → t < 4 → -1 ≤ M 9 t ∧ M 9 t ≤ 60) {t p m : Int} (h0 : 0 ≤ t) (h1 : t < 4) (hp : 0 ≤ p) (h2 : 0 ≤ m) (h3 : r32 m) : f_X7_holds 2 t p m M = some (if m ≤ M 9 t - p then 1 else 0) := by
  obtain ⟨_, _, _, e, _, _, e2, _⟩ := h
  have := hm t h0 h1
  unfold r32 at h3
  simp (disch := omega) only [f_X7_holds, getf, geti, jn, retz, e, e2, w32_s]
  grind
theorem c_pour {M : Mem} {Q : Int × Mem → Prop} (h : LTr M) (hm : ∀ t, 0 ≤ t → t < 4 → -1 ≤ M 9 t ∧ M 9 t ≤ 60) (x p y q m : Int) (h32 : r32 m) (hb : why2 M 8 9 x p y q m ≠ 0 → Q (0, upd2 M 1 12 (why2 M 8 9 x p y q m))) (hg : why2 M 8 9 x p y q m = 0 → Q (1, upd2 (copym M (4 + x) p (4 + y) q m) 1 12 0)) : Tot (f_X11_pour 1 x p y q m M) Q := by
  have h' := h
  obtain ⟨h1, h2, h3, h4, h5, h6, h7, h8, h9⟩ := h
  unfold why2 at hb hg
  simp only [f_X11_pour, t_ite, t_callp, t_call, t_callv, t_jn, t_retz, t_retzm, t_some, t_getf, t_putf, t_putz, t_seti, t_setz, t_geti, t_alen, t_nn, t_letv, t_idivc, t_iremc, t_ldivc, t_lremc, t_acopy, upd2_at, i10, i11, n10, h1, h2, h3, h5, h6, isTray_e, settle_e]
  refine ⟨by grind, fun c1 => ⟨by grind, fun c2 => ⟨by grind, fun c3 => ⟨by grind, fun c4 => ⟨fun c5 => ⟨by decide, by decide, ?_⟩, by grind⟩⟩⟩⟩⟩
  rw [isMissing_e h' (by omega) (by omega), t_some]
  refine ⟨by grind, fun c6 => ⟨by decide, by decide, ?_⟩⟩
  rw [isMissing_e h' (by omega) (by omega), t_some]
  refine ⟨fun c7 => ⟨by decide, by decide, by decide, by omega, by omega, by decide, by decide, by decide, by omega, by omega, ?_⟩, by grind⟩
  refine ⟨fun c8 => ⟨by decide, by decide, ?_⟩, by grind⟩
  rw [holds_e h' hm (by omega) (by omega) (by omega) (by omega) h32, t_some]
  refine ⟨by grind, fun c9 => ⟨by decide, by decide, ?_⟩⟩
  rw [holds_e h' hm (by omega) (by omega) (by omega) (by omega) h32, t_some]
  have e1 := h8 x (by omega) (by omega)
  have e2 := h8 y (by omega) (by omega)
  have e3 := h9 (4 + x) (by omega) (by omega)
  have e4 := h9 (4 + y) (by omega) (by omega)
  have e5 := hm x (by omega) (by omega)
  have e6 := hm y (by omega) (by omega)
  simp only [e1, e2, e3, e4]
  grind
theorem r_pour {M : Mem} {Q : Int × Mem → Prop} (h : LTrR M) (hm : ∀ t, 0 ≤ t → t < 4 → -1 ≤ M 123 t ∧ M 123 t ≤ 60) (x p y q m : Int) (hp : r32 p) (hq : r32 q) (h32 : r32 m) (hb : why2 M 122 123 x p y q m ≠ 0 → Q (0, upd2 M 119 2 (why2 M 122 123 x p y q m))) (hg : why2 M 122 123 x p y q m = 0 → ∀ M', (∀ a j, M' a j = if a = 119 ∧ j = 2 then 0 else if a = 124 ∧ 60 * y + q ≤ j ∧ j < 60 * y + q + m then M 124 (60 * x + p + (j - (60 * y + q))) else M a j) → Q (1, M')) : Tot (f_X12_pour 119 x p y q m M) Q := by
  obtain ⟨h1, h2, h3, h4, h5, h6⟩ := h
  unfold why2 at hb hg
  unfold r32 at hp hq h32
  simp only [f_X12_pour, t_ite, t_callp, t_call, t_callv, t_jn, t_retz, t_retzm, t_some, t_getf, t_putf, t_putz, t_seti, t_setz, t_geti, t_alen, t_nn, t_letv, t_idivc, t_iremc, t_ldivc, t_lremc, t_acopy, upd2_at, i10, i11, n10, h1, h2, h4, h5, isTrayR_e, is_e]
  refine ⟨by grind, fun c1 => ⟨by grind, fun c2 => ⟨by grind, fun c3 => ⟨by grind, fun c4 => ⟨fun c5 => ⟨by decide, by decide, by omega, by omega, ?_⟩, by grind⟩⟩⟩⟩⟩
  refine ⟨by grind, fun c6 => ⟨by decide, by decide, by omega, by omega, ?_⟩⟩
  refine ⟨fun c7 => ⟨by decide, by decide, by omega, by omega, by decide, by decide, by omega, by omega, ?_⟩, by grind⟩
  have e5 := hm x (by omega) (by omega)
  have e6 := hm y (by omega) (by omega)
  simp (disch := omega) only [w32_s]
  refine ⟨fun c8 => ⟨by decide, by decide, by omega, by omega, by grind, fun c9 => ⟨by decide, by decide, by omega, by omega, fun c10 => ?_, by grind⟩⟩, by grind⟩
  refine lpIM (fun i N => 0 ≤ i ∧ i ≤ m ∧ ∀ a j, N a j = if a = 124 ∧ (if q ≤ p then 60 * y + q ≤ j ∧ j < 60 * y + q + i else 60 * y + q + m - i ≤ j ∧ j < 60 * y + q + m) then M 124 (60 * x + p + (j - (60 * y + q))) else M a j) (fun i _ => (m - i).toNat) ?_ (by unfold KF; omega) ⟨by omega, by omega, fun a k => by grind⟩
  rintro n i N ⟨i0, i1, i2⟩ ih
  unfold f_X12_pour_L118
  simp only [t_ite, t_callp, t_call, t_callv, t_jn, t_retz, t_retzm, t_some, t_getf, t_putf, t_putz, t_seti, t_setz, t_geti, t_alen, t_nn, t_letv, t_idivc, t_iremc, t_ldivc, t_lremc, t_acopy, upd2_at, i10, i11, n10]
  refine ⟨fun c => ⟨by simp, hg (by grind) _ (fun a k => ?_)⟩, fun c => ?_⟩
  · simp only [upd2_at, i2]; grind
  · have e1 : N 119 7 = 124 := by rw [i2]; simp [h3]
    have e2 : N 124 (-1) = 240 := by rw [i2]; grind
    simp (disch := omega) only [e1, e2, w32_s]
    refine ⟨fun c' => ⟨by decide, by decide, by decide, by omega, by omega, by decide, by omega, by omega, ih _ _ (by omega) ⟨by omega, by omega, fun a k => ?_⟩⟩, fun c' => ⟨by decide, by decide, by decide, by omega, by omega, by decide, by omega, by omega, ih _ _ (by omega) ⟨by omega, by omega, fun a k => ?_⟩⟩⟩
    · simp only [upd2_at, i2]; grind
    · simp only [upd2_at, i2]; grind
