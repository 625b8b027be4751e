/-! questions about water -/
theorem tf_e {n d : Int} (M : Mem) (h0 : 0 ≤ n) (h1 : n < 9223372036854775808) (h2 : 0 < d) (h3 : d < 9223372036854775808) : f_X11_tellFraction 1 n d M = some (1, frC M n d) := tellFraction_e M h0 h1 h2 h3
theorem tb_e {n d : Int} (M : Mem) (h0 : 0 ≤ n) (h1 : n < 9223372036854775808) (h2 : 0 < d) (h3 : d < 9223372036854775808) : f_X12_tellsBy 119 n d M = some (1, frR M n d) := tellsBy_e M h0 h1 h2 h3
theorem zC {M N : Mem} (hK : ∀ a k, ¬ SC a k → N a k = M a k) {st : Int} (h : st ≠ 0) : Tot (call (f_X11_settle 1 st N) (fun v M' => retzm v M')) (AC (0, st, none) M) := by
  rw [settle_e, t_call, t_some, t_retzm]
  simp only [if_neg h]
  exact ⟨.inl trivial, ac_st hK 0 st⟩
theorem zR {M N : Mem} (hK : ∀ a k, ¬ SR a k → N a k = M a k) {st : Int} (h : st ≠ 0) : Tot (call (f_X12_is 119 st N) (fun v M' => retzm v M')) (AR (0, st, none) M) := by
  rw [is_e, t_call, t_some, t_retzm]
  simp only [if_neg h]
  exact ⟨.inl trivial, ar_st hK 0 st⟩
theorem zCr {M N : Mem} (hK : ∀ a k, ¬ SC a k → N a k = M a k) (st : Int) : Tot (call (f_X11_refuse 1 st N) (fun v M' => some (v, M'))) (AC (-1, st, none) M) := by
  rw [refuse_e, t_call, t_some, t_some]; exact ac_st hK (-1) st
theorem zRr {M N : Mem} (hK : ∀ a k, ¬ SR a k → N a k = M a k) (st : Int) : Tot (call (f_X12_refuse 119 st N) (fun v M' => some (v, M'))) (AR (-1, st, none) M) := by
  rw [refuseR_e, t_call, t_some, t_some]; exact ar_st hK (-1) st
theorem zCa {M N : Mem} (hK : ∀ a k, ¬ SC a k → N a k = M a k) (x : Int) : Tot (call (f_X11_answer 1 x N) (fun v M' => some (v, M'))) (AC (x, 0, none) M) := by
  rw [answer_e, t_call, t_some, t_some]; exact ac_st hK x 0
theorem zRa {M N : Mem} (hK : ∀ a k, ¬ SR a k → N a k = M a k) (x : Int) : Tot (call (f_X12_gives 119 x N) (fun v M' => some (v, M'))) (AR (x, 0, none) M) := by
  rw [gives_e, t_call, t_some, t_some]; exact ar_st hK x 0
theorem zCf {M N : Mem} (hK : ∀ a k, ¬ SC a k → N a k = M a k) {n d : Int} (h0 : 0 ≤ n) (h1 : n < 9223372036854775808) (h2 : 0 < d) (h3 : d < 9223372036854775808) : Tot (call (f_X11_tellFraction 1 n d N) (fun v M' => retzm v M')) (AC (1, 0, some (n, d)) M) := by
  rw [tf_e N h0 h1 h2 h3, t_call, t_some, t_retzm]; exact ⟨.inr rfl, ac_fr hK 1 n d⟩
theorem zRf {M N : Mem} (hK : ∀ a k, ¬ SR a k → N a k = M a k) {n d : Int} (h0 : 0 ≤ n) (h1 : n < 9223372036854775808) (h2 : 0 < d) (h3 : d < 9223372036854775808) : Tot (call (f_X12_tellsBy 119 n d N) (fun v M' => retzm v M')) (AR (1, 0, some (n, d)) M) := by
  rw [tb_e N h0 h1 h2 h3, t_call, t_some, t_retzm]; exact ⟨.inr rfl, ar_fr hK 1 n d⟩
theorem sr_t {M N R : Mem} (h : ∀ a j, ¬ SR a j → N a j = M a j) (h2 : ∀ a j, ¬ SR a j → R a j = N a j) : ∀ a j, ¬ SR a j → R a j = M a j := fun a j ha => by rw [h2 a j ha, h a j ha]
theorem sc_t {M N R : Mem} (h : ∀ a j, ¬ SC a j → N a j = M a j) (h2 : ∀ a j, ¬ SC a j → R a j = N a j) : ∀ a j, ¬ SC a j → R a j = M a j := fun a j ha => by rw [h2 a j ha, h a j ha]
theorem wf_l {w : Int → Int} (h : WF w) : 0 < litre w ∧ litre w < 9223372036854775808 ∧ 0 ≤ w 0 ∧ w 0 ≤ 999 ∧ 0 ≤ w 3 ∧ w 3 ≤ 10 ∧ 0 ≤ w 5 ∧ w 5 ≤ 10 := by
  obtain ⟨hn, hr, _⟩ := h
  unfold WFn at hn
  have := litre_le hr (by omega) (by omega)
  omega
theorem isFR {M : Mem} {w : Int → Int} {m : Int} (h : RI M w m) (f : Int) : f_X12_isField 119 f M = some (if 0 ≤ f ∧ f < w 5 then 1 else 0) := by
  have := isFieldR_e h.1 f; rw [h.2.1] at this; exact this
theorem isRR {M : Mem} {w : Int → Int} {m : Int} (h : RI M w m) (f : Int) : f_X12_isReach 119 f M = some (if 0 ≤ f ∧ f < w 3 then 1 else 0) := by
  have := isReachR_e h.1 f; rw [h.2.1] at this; exact this
def minutesS (w : Int → Int) (f x : Int) : Ans := if 0 ≤ f ∧ f < w 5 ∧ 0 ≤ x ∧ x ≤ 1 then (minsW w f x, 0, none) else (-1, 1, none)
theorem c_minutes {M : Mem} {v : Int} {w : Int → Int} (hc : CI M v w) (hwf : WF w) (f x : Int) : Tot (f_X11_minutes 1 f x M) (AC (minutesS w f x) M) := by
  have L := wf_l hwf
  unfold f_X11_minutes minutesS
  rw [isField_e hc, t_callp, t_some, t_jn, t_ite, i10]
  refine ⟨fun h1 => by rw [if_neg (by omega)]; exact zCr (kc M) 1, fun h1 => ?_⟩
  rw [isWithin_e, t_callp, t_some, t_ite, n10]
  refine ⟨fun h2 => ?_, fun h2 => by rw [if_neg (by omega)]; exact zCr (kc M) 1⟩
  rw [if_pos (by omega), t_call]
  refine sweptWorld_e hc hwf (fun M' k1 k2 k3 => ?_)
  have s := k3.2.1.1 f (by omega) (by omega)
  obtain ⟨⟨a1, a2, a3, a4, a5, a6, a7, a8, _⟩, ⟨g1, g2, g3, g4, _⟩, _⟩ := ci_55 k2
  refine t_jv (minsW w f x) (zCa k1 _) (fun j hj => ?_)
  simp only [t_ite, t_getf, t_geti, a7, a8, g3, g4, s.1, s.2]
  refine ⟨fun h3 => ⟨by decide, by decide, by omega, by omega, ?_⟩, fun h3 => ⟨by decide, by decide, by omega, by omega, ?_⟩⟩
  · rw [show sumZ (gO w f) (endT w) = minsW w f x by unfold minsW; rw [if_neg h3]]; exact hj
  · rw [show sumZ (gS w f) (endT w) = minsW w f x by unfold minsW; rw [if_pos (by omega)]]; exact hj
theorem r_minutes {M : Mem} {w : Int → Int} (h : RI M w (-1)) (hwf : WF w) (f x : Int) : Tot (f_X12_minutes 119 f x M) (AR (minutesS w f x) M) := by
  unfold f_X12_minutes minutesS
  rw [isFR h, t_callp, t_some, t_jn, t_jn, t_ite, i10]
  refine ⟨fun h1 => by rw [if_neg (by omega)]; exact zRr (kr M) 1, fun h1 => ?_⟩
  have z : (0 ≤ x ∧ x ≤ 1) → Tot (call (f_X12_minutesOf 119 f x M) (fun v6 M7 => call (f_X12_gives 119 v6 M7) (fun v8 M9 => some (v8, M9)))) (AR (minsW w f x, 0, none) M) := fun _ => by
    rw [t_call]
    exact minR_e h hwf (by omega) (by omega) (fun M' k => zRa k _)
  rw [t_jn, t_ite, t_ite]
  refine ⟨fun h2 => by rw [if_pos (by omega)]; exact z (by omega), fun h2 => ⟨fun h3 => by rw [if_neg (by omega)]; exact zRr (kr M) 1, fun h3 => by rw [if_pos (by omega)]; exact z (by omega)⟩⟩
def rateS (w : Int → Int) (f : Int) : Ans := if 0 ≤ f ∧ f < w 5 then (1, 0, some (rtG w (w 0) (-1) f, litre w)) else (0, 1, none)
theorem c_rate {M : Mem} {v : Int} {w : Int → Int} (hc : CI M v w) (hwf : WF w) (f : Int) : Tot (f_X11_rate 1 f M) (AC (rateS w f) M) := by
  have L := wf_l hwf
  have hwf' := hwf
  obtain ⟨hn, hr, hf, ho, hl, hw⟩ := hwf
  unfold f_X11_rate rateS
  rw [isField_e hc, t_callp, t_some, t_ite, n10]
  refine ⟨fun h1 => ?_, fun h1 => by rw [if_neg h1]; exact zC (kc M) (by decide)⟩
  rw [if_pos h1, t_call]
  refine sweptWorld_e hc hwf' (fun M' k1 k2 k3 => ?_)
  obtain ⟨a, b, c, d, e⟩ := ci_p k2
  obtain ⟨g1, g2, g3, g4, g5, g6, g7⟩ := ci_n k2
  have bd := rt_le hn hr hf (h := w 0) (by omega) (by omega) (-1) h1.1 h1.2
  simp only [t_getf, t_nn, t_callp, a, c, g7, rateOf_e k2 hn hf k3.1 h1.1 h1.2, t_some]
  exact ⟨by decide, by decide, by decide, by decide, by decide, e, zCf k1 bd.1 (by omega) L.1 L.2.1⟩
theorem r_rate {M : Mem} {w : Int → Int} (h : RI M w (-1)) (hwf : WF w) (f : Int) : Tot (f_X12_rate 119 f M) (AR (rateS w f) M) := by
  have L := wf_l hwf
  unfold f_X12_rate rateS
  rw [isFR h, t_callp, t_some, t_jn, t_ite, i10]
  refine ⟨fun h1 => by rw [if_neg h1]; exact zR (kr M) (by decide), fun h1 => ?_⟩
  have h1 := Classical.not_not.mp h1
  rw [if_pos h1, t_call]
  refine rateR_e h hwf h1.1 h1.2 (fun M' k => ?_)
  have bd := rt_le hwf.1 hwf.2.1 hwf.2.2.1 (h := w 0) (by omega) (by omega) (-1) h1.1 h1.2
  rw [litR_e (ri_k h k) hwf, t_callp, t_some]
  exact zRf k bd.1 (by omega) L.1 L.2.1
def waterS (w : Int → Int) (f : Int) : Ans := if 0 ≤ f ∧ f < w 5 then (1, 0, some (gtG w (w 0) (-1) f, litre w)) else (0, 1, none)
theorem c_water {M : Mem} {v : Int} {w : Int → Int} (hc : CI M v w) (hwf : WF w) (f : Int) : Tot (f_X11_water 1 f M) (AC (waterS w f) M) := by
  have L := wf_l hwf
  have hwf' := hwf
  obtain ⟨hn, hr, hf, ho, hl, hw⟩ := hwf
  unfold f_X11_water waterS
  rw [isField_e hc, t_callp, t_some, t_ite, n10]
  refine ⟨fun h1 => ?_, fun h1 => by rw [if_neg h1]; exact zC (kc M) (by decide)⟩
  rw [if_pos h1, t_call]
  refine sweptWorld_e hc hwf' (fun M' k1 k2 k3 => ?_)
  obtain ⟨a, b, c, d, e⟩ := ci_p k2
  obtain ⟨g1, g2, g3, g4, g5, g6, g7⟩ := ci_n k2
  have bd := gt_le hn hr hf ho (h := w 0) (by omega) (by omega) (-1) h1.1 h1.2
  simp only [t_getf, t_nn, t_callp, a, c, g7, gets_e k2 hn hr hf ho L.2.2.1 L.2.2.2.1 k3.1 k3.2.1 h1.1 h1.2, t_some]
  exact ⟨by decide, by decide, by decide, by decide, by decide, e, zCf k1 bd.1 (by omega) L.1 L.2.1⟩
theorem r_water {M : Mem} {w : Int → Int} (h : RI M w (-1)) (hwf : WF w) (f : Int) : Tot (f_X12_water 119 f M) (AR (waterS w f) M) := by
  have L := wf_l hwf
  unfold f_X12_water waterS
  rw [isFR h, t_callp, t_some, t_jn, t_ite, i10]
  refine ⟨fun h1 => by rw [if_neg h1]; exact zR (kr M) (by decide), fun h1 => ?_⟩
  have h1 := Classical.not_not.mp h1
  rw [if_pos h1, t_call]
  refine waterInR_e h hwf h1.1 h1.2 (fun M' k => ?_)
  have bd := gt_le hwf.1 hwf.2.1 hwf.2.2.1 hwf.2.2.2.1 (h := w 0) (by omega) (by omega) (-1) h1.1 h1.2
  rw [litR_e (ri_k h k) hwf, t_callp, t_some]
  exact zRf k bd.1 (by omega) L.1 L.2.1
def lostS (w : Int → Int) (r : Int) : Ans := if 0 ≤ r ∧ r < w 3 then (1, 0, some (losW w r, litre w)) else (0, 1, none)
theorem c_lost {M : Mem} {v : Int} {w : Int → Int} (hc : CI M v w) (hwf : WF w) (r : Int) : Tot (f_X11_lost 1 r M) (AC (lostS w r) M) := by
  have L := wf_l hwf
  have hwf' := hwf
  obtain ⟨hn, hr, hf, ho, hl, hw⟩ := hwf
  unfold f_X11_lost lostS
  rw [isReach_e hc, t_callp, t_some, t_ite, n10]
  refine ⟨fun h1 => ?_, fun h1 => by rw [if_neg h1]; exact zC (kc M) (by decide)⟩
  rw [if_pos h1, t_call]
  refine sweptWorld_e hc hwf' (fun M' k1 k2 k3 => ?_)
  obtain ⟨a, b, c, d, e⟩ := ci_p k2
  obtain ⟨g1, g2, g3, g4, g5, g6, g7⟩ := ci_n k2
  have bd := los_le hn hr hf ho h1.1 h1.2
  simp only [t_getf, t_nn, t_callp, a, c, g7, losesAt_e k2 hn hr hf ho k3 h1.1 h1.2, t_some]
  exact ⟨by decide, by decide, by decide, e, zCf k1 bd.1.1 (by omega) L.1 L.2.1⟩
theorem r_lost {M : Mem} {w : Int → Int} (h : RI M w (-1)) (hwf : WF w) (r : Int) : Tot (f_X12_lost 119 r M) (AR (lostS w r) M) := by
  have L := wf_l hwf
  have hwf' := hwf
  obtain ⟨hn, hr, hf, ho, hl, hw⟩ := hwf
  unfold f_X12_lost lostS
  rw [isRR h, t_callp, t_some, t_ite, n10]
  refine ⟨fun h1 => ?_, fun h1 => by rw [if_neg h1]; exact zR (kr M) (by decide)⟩
  rw [if_pos h1, t_call]
  refine passing_e h hwf' h1.1 h1.2 (.inl rfl) (fun M1 k1 => ?_)
  have h' := ri_k h k1
  rw [t_callv]
  refine flowsTo_e h'.1 h'.2.1 hn hr h'.2.2 h1.1 h1.2 (fun M2 k2 e1 e2 e3 => ?_)
  have bd := los_le hn hr hf ho h1.1 h1.2
  have q := flow_le hr (by omega) (by omega) (h := w 0) (by omega) (-1) 10 r h1.1 (by omega) h1.2
  have kk := sr_t k1 (sr_w k2)
  have el : (caW w (w 0) (-1) r - lvW w (w 0) (-1) r) * thM w r = losW w r := rfl
  rw [t_getf, e2, t_getf, e3, litR_e (ri_k h kk) hwf', t_callp, t_some, if_pos rfl, w64_s (x := caW w (w 0) (-1) r - lvW w (w 0) (-1) r) (by omega) (by omega), el, w64_s (by omega) (by omega)]
  exact ⟨by decide, by decide, zRf kk bd.1.1 (by omega) L.1 L.2.1⟩
def runsOutS (w : Int → Int) (r : Int) : Ans := if r = -1 then (1, 0, some (if 0 < w 5 then 0 else w 0 * w 1, 1)) else if 0 ≤ r ∧ r < w 3 then (1, 0, some (spiW w r, litre w)) else (0, 1, none)
theorem c_runsOut {M : Mem} {v : Int} {w : Int → Int} (hc : CI M v w) (hwf : WF w) (r : Int) : Tot (f_X11_runsOut 1 r M) (AC (runsOutS w r) M) := by
  have L := wf_l hwf
  have hwf' := hwf
  obtain ⟨hn, hr, hf, ho, hl, hw⟩ := hwf
  have hn' := hn
  unfold WFn at hn'
  unfold f_X11_runsOut runsOutS
  rw [t_jn, t_ite]
  refine ⟨fun h1 => ?_, fun h1 => ?_⟩
  · obtain ⟨a, b, c, d, e⟩ := ci_p hc
    obtain ⟨g1, g2, g3, g4, g5, g6, g7⟩ := ci_n hc
    have p48 : M 48 0 = w 0 := hc.2.2.2.2.2.2.1.1
    have hm := mul_le (x := w 0) (y := w 1) (a := 999) (b := 1440) (by omega) (by omega) (by omega) (by omega)
    rw [if_pos h1, t_ite]
    refine ⟨fun h2 => absurd h1 h2, fun _ => ?_⟩
    rw [t_getf, a, t_getf, c, t_getf, g5]
    refine ⟨by decide, by decide, e, t_jv (if w 5 ≤ 0 then 0 else 1) ?_ (fun j hj => ?_)⟩
    · refine t_jv (if 0 < w 5 then 0 else w 0 * w 1) (zCf (kc M) (by split <;> omega) (by split <;> omega) (by decide) (by decide)) (fun j hj => ?_)
      simp only [t_ite, t_getf, a, c, d, p48, g1]
      rw [w32_s (by omega) (by omega)]
      refine ⟨fun h2 => ⟨by decide, by decide, by decide, by decide, by decide, e, ?_⟩, fun h2 => ?_⟩
      · have h5 : ¬ 0 < w 5 := by intro h; rw [if_neg (by omega)] at h2; omega
        simp only [if_neg h5] at hj ⊢; exact hj
      · have h5 : 0 < w 5 := by
          by_cases h : 0 < w 5
          · exact h
          · rw [if_pos (by omega)] at h2; exact absurd rfl h2
        simp only [if_pos h5] at hj ⊢; exact hj
    · rw [t_ite]
      exact ⟨fun h2 => by rw [if_pos h2] at hj; exact hj, fun h2 => by rw [if_neg h2] at hj; exact hj⟩
  · rw [if_neg h1, isReach_e hc, t_callp, t_some, t_ite, n10]
    refine ⟨fun h2 => ?_, fun h2 => by rw [if_neg h2]; exact zC (kc M) (by decide)⟩
    rw [if_pos h2, t_ite]
    refine ⟨fun _ => ?_, fun h3 => absurd h1 h3⟩
    rw [t_call]
    refine sweptWorld_e hc hwf' (fun M' k1 k2 k3 => ?_)
    obtain ⟨a, b, c, d, e⟩ := ci_p k2
    obtain ⟨g1, g2, g3, g4, g5, g6, g7⟩ := ci_n k2
    have bd := los_le hn hr hf ho h2.1 h2.2
    have bs : 0 ≤ spiW w r ∧ spiW w r < 9223372036854775808 := by unfold spiW; omega
    simp only [t_getf, t_nn, t_callp, a, c, g7, spillsAt_e k2 hn hr hf ho k3 h2.1 h2.2, t_some]
    exact ⟨by decide, by decide, by decide, e, zCf k1 bs.1 bs.2 L.1 L.2.1⟩
theorem r_runsOut {M : Mem} {w : Int → Int} (h : RI M w (-1)) (hwf : WF w) (r : Int) : Tot (f_X12_runsOut 119 r M) (AR (runsOutS w r) M) := by
  have L := wf_l hwf
  have hwf' := hwf
  obtain ⟨hn, hr, hf, ho, hl, hw⟩ := hwf
  have hn' := hn
  unfold WFn at hn'
  obtain ⟨a, b, ww⟩ := ri_at h
  unfold f_X12_runsOut runsOutS
  rw [t_ite]
  refine ⟨fun h1 => ?_, fun h1 => ?_⟩
  · rw [if_neg h1, isRR h, t_callp, t_some, t_ite, n10]
    refine ⟨fun h2 => ?_, fun h2 => by rw [if_neg h2]; exact zR (kr M) (by decide)⟩
    rw [if_pos h2, t_call]
    refine passing_e h hwf' h2.1 h2.2 (.inl rfl) (fun M1 k1 => ?_)
    rw [t_call]
    refine passing_e (ri_k h k1) hwf' h2.1 h2.2 (.inr rfl) (fun M2 k2 => ?_)
    have k12 := sr_t k1 k2
    have h' := ri_k h k12
    rw [t_callv]
    refine flowsTo_e h'.1 h'.2.1 hn hr h'.2.2 h2.1 h2.2 (fun M3 k3 e1 e2 e3 => ?_)
    have bd := los_le hn hr hf ho h2.1 h2.2
    have q := flow_le hr (by omega) (by omega) (h := w 0) (by omega) (-1) 10 r h2.1 (by omega) h2.2
    have kk := sr_t k12 (sr_w k3)
    have el : cmW w (w 0) (-1) r * stM w r + (cmW w (w 0) (-1) r - caW w (w 0) (-1) r) * thM w r = spiW w r := by unfold spiW; omega
    have bs : 0 ≤ spiW w r ∧ spiW w r < 9223372036854775808 := by unfold spiW; omega
    rw [t_getf, e1, t_getf, e1, t_getf, e2, litR_e (ri_k h kk) hwf', t_callp, t_some, if_pos rfl, if_neg (by decide), w64_s (x := cmW w (w 0) (-1) r * stM w r) (by omega) (by omega), w64_s (x := cmW w (w 0) (-1) r - caW w (w 0) (-1) r) (by omega) (by omega), w64_s (x := (cmW w (w 0) (-1) r - caW w (w 0) (-1) r) * thM w r) (by omega) (by omega), el, w64_s (by omega) (by omega)]
    exact ⟨by decide, by decide, by decide, zRf kk bs.1 bs.2 L.1 L.2.1⟩
  · have h1 : r = -1 := by simpa using h1
    have hm := mul_le (x := w 0) (y := w 1) (a := 999) (b := 1440) (by omega) (by omega) (by omega) (by omega)
    rw [if_pos h1, t_getf, a, t_geti, b, ww]
    refine ⟨by decide, by decide, by decide, by decide, t_jv (if 0 < w 5 then 0 else w 0 * w 1) (zRf (kr M) (by split <;> omega) (by split <;> omega) (by decide) (by decide)) (fun j hj => ?_)⟩
    simp only [t_ite, t_getf, t_geti, a, b, ww]
    rw [w64_s (by omega) (by omega)]
    refine ⟨fun h2 => ⟨by decide, by decide, by decide, by decide, by decide, by decide, by decide, by decide, ?_⟩, fun h2 => ?_⟩
    · have h5 : ¬ 0 < w 5 := by omega
      simp only [if_neg h5] at hj ⊢; exact hj
    · have h5 : 0 < w 5 := by omega
      simp only [if_pos h5] at hj ⊢; exact hj
def watOf (w : Int → Int) (o : Int) (p : Int) : Int := sumZ (fun f => if fc w f 3 = o then gtG w (w 0) (-1) f else 0) p
theorem watOf_le {w : Int → Int} (hwf : WF w) (o : Int) {p : Int} (p0 : 0 ≤ p) (p1 : p ≤ w 5) : 0 ≤ watOf w o p ∧ watOf w o p ≤ 89071843478077440 * p := by
  have L := wf_l hwf
  have := sumZ_le (g := fun f => if fc w f 3 = o then gtG w (w 0) (-1) f else 0) (n := w 5) (lo := 0) (hi := 89071843478077440) (fun k a b => by
    have := gt_le hwf.1 hwf.2.1 hwf.2.2.1 hwf.2.2.2.1 (h := w 0) (by omega) (by omega) (-1) a b
    split <;> omega) p0 p1
  unfold watOf; omega
theorem watOf_s {w : Int → Int} (o : Int) {p : Int} (p0 : 0 ≤ p) : watOf w o (p + 1) = watOf w o p + if fc w p 3 = o then gtG w (w 0) (-1) p else 0 := sumZ_s _ p0
def waterOfS (w : Int → Int) (o : Int) : Ans := if -1 ≤ o ∧ o < w 4 then (1, 0, some (watOf w o (w 5), litre w)) else (0, 1, none)
theorem c_waterOf {M : Mem} {v : Int} {w : Int → Int} (hc : CI M v w) (hwf : WF w) (o : Int) : Tot (f_X11_waterOf 1 o M) (AC (waterOfS w o) M) := by
  have L := wf_l hwf
  have hwf' := hwf
  obtain ⟨hn, hr, hf, ho, hl, hw⟩ := hwf
  have hn' := hn
  unfold WFn at hn'
  unfold f_X11_waterOf waterOfS
  refine t_jq (fun j => -1 ≤ o ∧ o < w 4 → Tot j (AC (1, 0, some (watOf w o (w 5), litre w)) M)) (fun hh => ?_) (fun j hj => ?_)
  · rw [t_call]
    refine sweptWorld_e hc hwf' (fun M' k1 k2 k3 => ?_)
    obtain ⟨a, b, c, d, e⟩ := ci_p k2
    obtain ⟨g1, g2, g3, g4, g5, g6, g7⟩ := ci_n k2
    dsimp only
    refine lpII (fun x p => 0 ≤ p ∧ p ≤ w 5 ∧ x = watOf w o p) (fun _ p => (w 5 - p).toNat) ?_ (by unfold KF; omega) ⟨by omega, by omega, rfl⟩
    rintro n x p ⟨i0, i1, i2⟩ ih
    have bd := watOf_le hwf' o i0 i1
    unfold f_X11_waterOf_L29
    rw [t_getf, a, t_getf, c, t_getf, g5, t_ite]
    refine ⟨by decide, by decide, e, fun h1 => ?_, fun h1 => ?_⟩
    · rw [t_getf, a, t_getf, c, t_getf, g7, i2, show p = w 5 by omega]
      rw [show p = w 5 by omega] at bd
      exact ⟨by decide, by decide, e, zCf k1 bd.1 (by omega) L.1 L.2.1⟩
    · obtain ⟨r1, r2, r3, r4, r5, r6, r7⟩ := ci_f k2 hn i0 (show p < w 5 by omega)
      have s3 := r5 3 (by omega) (by omega)
      have bg := gt_le hn hr hf ho (h := w 0) (by omega) (by omega) (-1) i0 (show p < w 5 by omega)
      rw [t_getf, a, t_getf, c, t_getf, r1, t_geti, r2, r3, t_geti, r4, s3, w32_s (x := p + 1) (by omega) (by omega)]
      refine ⟨by decide, by decide, e, r6, i0, by omega, r7, by decide, by omega, t_jv (watOf w o (p + 1)) (ih _ _ (by omega) ⟨by omega, by omega, rfl⟩) (fun j hj => ?_)⟩
      rw [watOf_s o i0] at hj
      rw [t_ite]
      refine ⟨fun h2 => by rw [if_neg h2, Int.add_zero, ← i2] at hj; exact hj, fun h2 => ?_⟩
      rw [if_pos (by simpa using h2), ← i2] at hj
      rw [t_getf, a, t_getf, c, t_nn, gets_e k2 hn hr hf ho L.2.2.1 L.2.2.2.1 k3.1 k3.2.1 i0 (by omega), t_callp, t_some, t_letv, w64_s (by omega) (by omega)]
      exact ⟨by decide, by decide, by decide, hj⟩
  · rw [t_ite]
    refine ⟨fun h1 => by rw [if_pos (by omega)]; exact hj (by omega), fun h1 => ?_⟩
    rw [isOwner_e hc, t_callp, t_some, t_ite, n10]
    exact ⟨fun h2 => by rw [if_pos (by omega)]; exact hj (by omega), fun h2 => by rw [if_neg (by omega)]; exact zC (kc M) (by decide)⟩
theorem r_waterOf {M : Mem} {w : Int → Int} (h : RI M w (-1)) (hwf : WF w) (o : Int) : Tot (f_X12_waterOf 119 o M) (AR (waterOfS w o) M) := by
  have L := wf_l hwf
  have hwf' := hwf
  obtain ⟨hn, hr, hf, ho, hl, hw⟩ := hwf
  have hn' := hn
  unfold WFn at hn'
  obtain ⟨a, b, ww⟩ := ri_at h
  unfold f_X12_waterOf waterOfS
  rw [t_jn, t_ite]
  refine ⟨fun h1 => by rw [if_neg (by omega)]; exact zR (kr M) (by decide), fun h1 => ?_⟩
  rw [t_getf, a, t_geti, b, ww, t_ite]
  refine ⟨by decide, by decide, by decide, by decide, fun h2 => ?_, fun h2 => by rw [if_neg (by omega)]; exact zR (kr M) (by decide)⟩
  rw [if_pos (by omega)]
  refine lpIIM (fun x p N => 0 ≤ p ∧ p ≤ w 5 ∧ x = watOf w o p ∧ ∀ a j, ¬ SR a j → N a j = M a j) (fun _ p _ => (w 5 - p).toNat) ?_ (by unfold KF; omega) ⟨by omega, by omega, rfl, kr M⟩
  rintro n x p N ⟨i0, i1, i2, i3⟩ ih
  have hN := ri_k h i3
  obtain ⟨a', b', ww'⟩ := ri_at hN
  have bd := watOf_le hwf' o i0 i1
  unfold f_X12_waterOf_L26
  rw [t_getf, a', t_geti, b', ww', t_ite]
  refine ⟨by decide, by decide, by decide, by decide, fun h3 => ?_, fun h3 => ?_⟩
  · rw [litR_e hN hwf', t_callp, t_some, i2, show p = w 5 by omega]
    rw [show p = w 5 by omega] at bd
    exact zRf i3 bd.1 (by omega) L.1 L.2.1
  · have bg := gt_le hn hr hf ho (h := w 0) (by omega) (by omega) (-1) i0 (show p < w 5 by omega)
    have ws := watOf_s (w := w) o i0
    rw [ofF_e hN hn i0 (by omega) (by omega) (by omega), t_callp, t_some]
    refine t_jvm (fun y R => y = (if fc w p 3 = o then gtG w (w 0) (-1) p else 0) ∧ ∀ a j, ¬ SR a j → R a j = M a j) (fun y R hy => ?_) (fun j hj => ?_)
    · have : 0 ≤ y ∧ y ≤ 89071843478077440 := by rw [hy.1]; split <;> omega
      rw [t_letv, w64_s (by omega) (by omega), w32_s (by omega) (by omega)]
      exact ih _ _ _ (by omega) ⟨by omega, by omega, by rw [ws, i2, hy.1], hy.2⟩
    · rw [t_ite]
      refine ⟨fun h4 => hj 0 N ⟨by rw [if_neg h4], i3⟩, fun h4 => ?_⟩
      rw [t_call]
      exact waterInR_e hN hwf' i0 (by omega) (fun R k => hj _ R ⟨by rw [if_pos (by simpa using h4)], sr_t i3 k⟩)
