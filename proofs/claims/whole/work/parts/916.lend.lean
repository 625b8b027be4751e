/-! lending -/
def paidW (w : Int → Int) (f t m : Int) : Int := if ow w f t < m then ow w f t else m
def lendO (w : Int → Int) (f t m : Int) : Int → Int := fun j =>
  if j = 158 + 10 * t + f then ow w t f + (m - paidW w f t m) else if j = 158 + 10 * f + t then ow w f t - paidW w f t m
  else if j = 8 then w 8 + 1 else if j = 122 + 3 * w 8 + 2 then m else if j = 122 + 3 * w 8 + 1 then t else if j = 122 + 3 * w 8 then f else w j
theorem lendO_o {w : Int → Int} {f t m j : Int} (hf0 : 0 ≤ f) (hf1 : f < 10) (ht0 : 0 ≤ t) (ht1 : t < 10) (h0 : 0 ≤ w 8) (h1 : w 8 < 12) (h : j < 8 ∨ 8 < j ∧ j < 122 ∨ 258 ≤ j) : lendO w f t m j = w j := by
  unfold lendO
  rw [if_neg (by omega), if_neg (by omega), if_neg (by omega), if_neg (by omega), if_neg (by omega), if_neg (by omega)]
theorem lendO_8 {w : Int → Int} {f t m : Int} (hf0 : 0 ≤ f) (ht0 : 0 ≤ t) : lendO w f t m 8 = w 8 + 1 := by
  unfold lendO
  rw [if_neg (by omega), if_neg (by omega), if_pos rfl]
theorem lendO_lo {w : Int → Int} {f t m i : Int} (hf0 : 0 ≤ f) (ht0 : 0 ≤ t) (h0 : 0 ≤ w 8) (h1 : w 8 < 12) (i0 : 0 ≤ i) (i1 : i ≤ w 8) : lo (lendO w f t m) i 0 = (if i = w 8 then f else lo w i 0) ∧ lo (lendO w f t m) i 1 = (if i = w 8 then t else lo w i 1) ∧ lo (lendO w f t m) i 2 = (if i = w 8 then m else lo w i 2) := by
  unfold lo lendO
  by_cases h : i = w 8
  · subst h
    refine ⟨?_, ?_, ?_⟩
    · rw [if_neg (by omega), if_neg (by omega), if_neg (by omega), if_neg (by omega), if_neg (by omega), if_pos (by omega), if_pos rfl]
    · rw [if_neg (by omega), if_neg (by omega), if_neg (by omega), if_neg (by omega), if_pos (by omega), if_pos rfl]
    · rw [if_neg (by omega), if_neg (by omega), if_neg (by omega), if_pos (by omega), if_pos rfl]
  · refine ⟨?_, ?_, ?_⟩ <;> rw [if_neg (by omega), if_neg (by omega), if_neg (by omega), if_neg (by omega), if_neg (by omega), if_neg (by omega), if_neg h]
theorem lendO_ow {w : Int → Int} {f t m i j : Int} (hf0 : 0 ≤ f) (hf1 : f < 10) (ht0 : 0 ≤ t) (ht1 : t < 10) (h0 : 0 ≤ w 8) (h1 : w 8 < 12) (i0 : 0 ≤ i) (i1 : i < 10) (j0 : 0 ≤ j) (j1 : j < 10) (hft : f ≠ t) : ow (lendO w f t m) i j = if i = t ∧ j = f then ow w t f + (m - paidW w f t m) else if i = f ∧ j = t then ow w f t - paidW w f t m else ow w i j := by
  unfold lendO
  show (if 158 + 10 * i + j = _ then _ else _) = _
  by_cases c1 : i = t ∧ j = f
  · rw [if_pos (by omega), if_pos c1]
  · rw [if_neg (by omega), if_neg c1]
    by_cases c2 : i = f ∧ j = t
    · rw [if_pos (by omega), if_pos c2]
    · rw [if_neg (by omega), if_neg c2, if_neg (by omega), if_neg (by omega), if_neg (by omega), if_neg (by omega)]; rfl
theorem lend_wf {w : Int → Int} (h : WF w) {k t m : Int} (h0 : 0 ≤ k) (h1 : k < w 5) (ht0 : 0 ≤ t) (ht1 : t < w 5) (hft : od w k ≠ t) (hm0 : 1 ≤ m) (hm1 : m ≤ 1440) (hm2 : m - paidW w (od w k) t m ≤ 999) (h8 : w 8 < 12) (hle : m ≤ leftK w k) : WF (lendO w (od w k) t m) := by
  obtain ⟨hn, hr, hf, ho, hl, hw⟩ := h
  have hn' := hn
  unfold WFn at hn'
  have ok := ho.1 k h0 h1
  have o : ∀ j, j < 8 ∨ 8 < j ∧ j < 122 ∨ 258 ≤ j → lendO w (od w k) t m j = w j := fun j hj => lendO_o ok.1 (by omega) ht0 (by omega) (by omega) h8 hj
  have o8 : lendO w (od w k) t m 8 = w 8 + 1 := lendO_8 ok.1 ht0
  have sv : SameV w (lendO w (od w k) t m) := fun j hj => o j (by omega)
  obtain ⟨e1, e2, e3, e4, e5⟩ := sv_n sv
  have eod : ∀ j, 0 ≤ j → j < 10 → od (lendO w (od w k) t m) j = od w j := fun j j0 j1 => o _ (by omega)
  have eah : ∀ j, 0 ≤ j → j ≤ w 5 → ahead (lendO w (od w k) t m) j = ahead w j := by
    intro j j0 j1
    unfold ahead
    refine sumZ_congr (fun i i0 i1 => ?_)
    have oi := ho.1 i i0 (by omega)
    rw [eod i i0 (by omega), sv_fc sv oi.1 (by omega) (by omega) (by omega)]
  have eed : ∀ j, 0 ≤ j → j ≤ w 5 → edge (lendO w (od w k) t m) j = edge w j := by
    intro j j0 j1
    unfold edge
    rw [e1, eah j j0 j1, sv_allSh sv hn]
  refine ⟨?_, ?_, ?_, ⟨?_, ?_, ?_, ?_⟩, ⟨?_, ?_⟩, ?_⟩
  · unfold WFn
    rw [o 0 (by omega), o 1 (by omega), o 2 (by omega), o 3 (by omega), o 4 (by omega), o 5 (by omega), o 6 (by omega), o8]
    omega
  · intro r r0 r1
    rw [e3] at r1
    simp (disch := omega) only [sv_rc sv]
    exact hr r r0 r1
  · intro r r0 r1
    rw [e5] at r1
    rw [e3, e4]
    simp (disch := omega) only [sv_fc sv]
    exact hf r r0 r1
  · intro j j0 j1
    rw [e5] at j1 ⊢
    rw [eod j j0 (by omega)]; exact ho.1 j j0 j1
  · intro f f0 f1
    rw [e5] at f1 ⊢
    obtain ⟨j, j0, j1, j2⟩ := ho.2.1 f f0 f1
    exact ⟨j, j0, j1, by rw [eod j j0 (by omega)]; exact j2⟩
  · intro i j i0 i1 j0 j1 e
    rw [e5] at i1 j1
    rw [eod i i0 (by omega), eod j j0 (by omega)] at e
    exact ho.2.2.1 i j i0 i1 j0 j1 e
  · rw [e5, eah _ (by omega) (Int.le_refl _), sv_allSh sv hn]; exact ho.2.2.2
  · intro i i0 i1
    rw [o8] at i1
    rw [e5]
    have q := lendO_lo (w := w) (f := od w k) (t := t) (m := m) (i := i) ok.1 ht0 (by omega) h8 i0 (by omega)
    rw [q.1, q.2.1, q.2.2]
    by_cases c : i = w 8
    · rw [if_pos c, if_pos c, if_pos c]; omega
    · rw [if_neg c, if_neg c, if_neg c]; exact hl.1 i i0 (by omega)
  · intro j j0 j1
    rw [e5] at j1
    have q := hl.2 j j0 j1
    unfold leftK at q hle ⊢
    rw [eed j j0 (by omega), eed (j + 1) (by omega) (by omega), eod j j0 (by omega)]
    have el : lentBy (lendO w (od w k) t m) (od w j) = lentBy w (od w j) + if od w k = od w j then m else 0 := by
      unfold lentBy
      rw [o8, sumZ_s _ (by omega)]
      have q2 := lendO_lo (w := w) (f := od w k) (t := t) (m := m) (i := w 8) ok.1 ht0 (by omega) h8 (by omega) (Int.le_refl _)
      rw [q2.1, q2.2.2, if_pos rfl, if_pos rfl]
      congr 1
      refine sumZ_congr (fun i i0 i1 => ?_)
      have q3 := lendO_lo (w := w) (f := od w k) (t := t) (m := m) (i := i) ok.1 ht0 (by omega) h8 i0 (by omega)
      have hi : i ≠ w 8 := by omega
      simp only [q3.1, q3.2.2, if_neg hi]
    rw [el]
    by_cases c : od w k = od w j
    · have := ho.2.2.1 k j h0 h1 j0 j1 c
      subst this
      rw [if_pos rfl]; omega
    · rw [if_neg c]; omega
  · unfold WFw
    rw [o 6 (by omega), o8, e5]
    refine ⟨fun i j i0 i1 j0 j1 => ?_, fun f f0 f1 => by unfold ac; rw [o _ (by omega)]; exact hw.2 f f0 f1⟩
    rw [lendO_ow ok.1 (by omega) ht0 (by omega) (by omega) h8 i0 i1 j0 j1 hft]
    have q1 := hw.1 i j i0 i1 j0 j1
    have q2 := hw.1 (od w k) t ok.1 (by omega) ht0 (by omega)
    have q3 := hw.1 t (od w k) ht0 (by omega) ok.1 (by omega)
    have pd : 0 ≤ paidW w (od w k) t m ∧ paidW w (od w k) t m ≤ m ∧ paidW w (od w k) t m ≤ ow w (od w k) t := by unfold paidW; split <;> omega
    by_cases c1 : i = t ∧ j = od w k
    · rw [if_pos c1]; exact ⟨by omega, by omega, fun _ => by omega⟩
    · rw [if_neg c1]
      by_cases c2 : i = od w k ∧ j = t
      · rw [if_pos c2]; exact ⟨by omega, by omega, fun _ => by omega⟩
      · rw [if_neg c2]; exact ⟨by omega, by omega, q1.2.2⟩
