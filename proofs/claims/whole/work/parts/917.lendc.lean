/-! lending: class, reference -/
theorem addLoan_e {M : Mem} {v : Int} {w : Int → Int} {Q : Mem → Prop} (h : CI M v w) (hn : WFn w) (hw : WFw w) {f t m : Int} (hf0 : 0 ≤ f) (hf1 : f < 10) (ht0 : 0 ≤ t) (ht1 : t < 10) (hft : f ≠ t) (hm0 : 1 ≤ m) (hm1 : m ≤ 1440) (h8 : w 8 < 12) (hq : ∀ M', (∀ a k, ¬ SW a k → M' a k = M a k) → CI M' v (lendO w f t m) → Q M') : Tot (f_X4_addLoan 48 f t m M) Q := by
  have hn' := hn
  unfold WFn at hn'
  have hls := h.2.2.2.1
  have hrs := h.2.2.2.2.2.2
  obtain ⟨⟨l1, l2, l3, l4, l5, l6⟩, ⟨m1, m2, m3, m4, m5, m6⟩⟩ := hls
  obtain ⟨⟨a1, a2, a3, a4⟩, bb, cc, dd, gg⟩ := hrs
  have b1 := ow_le hw hn hf0 hf1 ht0 ht1
  have b2 := ow_le hw hn ht0 ht1 hf0 hf1
  simp only [show (48 : Int) + 1 = 49 from rfl, show (48 : Int) + 2 = 50 from rfl, show (48 : Int) + 3 = 51 from rfl, show (48 : Int) + 4 = 52 from rfl, show (48 : Int) + 5 = 53 from rfl, show (48 : Int) + 6 = 54 from rfl] at l1 l2 l3 l4 l5 l6 m1 m2 m3 m4 m5 m6 bb cc dd gg
  have pd : paidW w f t m = if ow w f t < m then ow w f t else m := rfl
  have pl : 0 ≤ paidW w f t m ∧ paidW w f t m ≤ m ∧ paidW w f t m ≤ ow w f t := by rw [pd]; split <;> omega
  unfold f_X4_addLoan
  rw [t_getf, l2, t_getf, a4, t_seti, m2]
  refine ⟨by decide, by decide, by decide, by omega, by omega, ?_⟩
  obtain ⟨N1, e1⟩ : ∃ N, N = upd2 M 50 (w 8) f := ⟨_, rfl⟩
  have k1 : ∀ a k, a ≠ 50 ∨ k < 0 → N1 a k = M a k := fun a k hk => by rw [e1, upd2_at, if_neg (by omega)]
  rw [← e1, t_getf, k1 _ _ (by omega), l3, t_getf, k1 _ _ (by omega), a4, t_seti, k1 _ _ (by omega), m3]
  refine ⟨by decide, by decide, by decide, by omega, by omega, ?_⟩
  obtain ⟨N2, e2⟩ : ∃ N, N = upd2 N1 51 (w 8) t := ⟨_, rfl⟩
  have k2 : ∀ a k, a ≠ 50 ∧ a ≠ 51 ∨ k < 0 → N2 a k = M a k := fun a k hk => by rw [e2, upd2_at, if_neg (by omega), k1 _ _ (by omega)]
  rw [← e2, t_getf, k2 _ _ (by omega), l4, t_getf, k2 _ _ (by omega), a4, t_seti, k2 _ _ (by omega), m4]
  refine ⟨by decide, by decide, by decide, by omega, by omega, ?_⟩
  obtain ⟨N3, e3⟩ : ∃ N, N = upd2 N2 52 (w 8) m := ⟨_, rfl⟩
  have k3 : ∀ a k, a ≠ 50 ∧ a ≠ 51 ∧ a ≠ 52 ∨ k < 0 → N3 a k = M a k := fun a k hk => by rw [e3, upd2_at, if_neg (by omega), k2 _ _ (by omega)]
  rw [← e3, t_getf, k3 _ _ (by omega), a4, t_putf, w32_s (by omega) (by omega)]
  refine ⟨by decide, by decide, ?_⟩
  obtain ⟨N4, e4⟩ : ∃ N, N = upd2 N3 48 3 (w 8 + 1) := ⟨_, rfl⟩
  have k4 : ∀ a k, a ≠ 50 ∧ a ≠ 51 ∧ a ≠ 52 ∧ ¬ (a = 48 ∧ k = 3) ∨ k < 0 → N4 a k = M a k := fun a k hk => by rw [e4, upd2_at, if_neg (by omega), k3 _ _ (by omega)]
  have o1 : N4 53 (f * 10 + t) = ow w f t := by rw [k4 _ _ (by omega)]; exact dd f t hf0 hf1 ht0 ht1
  have o2 : N4 53 (t * 10 + f) = ow w t f := by rw [k4 _ _ (by omega)]; exact dd t f ht0 ht1 hf0 hf1
  have hd : f_X4_debt 48 f t N4 = some (ow w f t) := by
    rw [← t_eq]
    unfold f_X4_debt
    rw [t_getf, k4 _ _ (by omega), l5, t_geti, k4 _ _ (by omega), m5, w32_s (x := f * 10) (by omega) (by omega), w32_s (by omega) (by omega), o1, t_some]
    exact ⟨by decide, by decide, by omega, by omega, rfl⟩
  rw [← e4, hd, t_callp, t_some, min_e, t_callp, t_some, ← pd, t_getf, k4 _ _ (by omega), l5, t_geti, k4 _ _ (by omega), m5, w32_s (x := f * 10) (by omega) (by omega), w32_s (x := f * 10 + t) (by omega) (by omega), o1, t_seti, k4 _ _ (by omega), m5, w32_s (x := ow w f t - paidW w f t m) (by omega) (by omega)]
  refine ⟨by decide, by decide, by omega, by omega, by decide, by omega, by omega, ?_⟩
  obtain ⟨N5, e5⟩ : ∃ N, N = upd2 N4 53 (f * 10 + t) (ow w f t - paidW w f t m) := ⟨_, rfl⟩
  have k5 : ∀ a k, ¬ (a = 53 ∧ k = f * 10 + t) → N5 a k = N4 a k := fun a k hk => by rw [e5, upd2_at, if_neg hk]
  rw [← e5, t_getf, k5 _ _ (by omega), k4 _ _ (by omega), l5, t_geti, k5 _ _ (by omega), k4 _ _ (by omega), m5, w32_s (x := t * 10) (by omega) (by omega), w32_s (x := t * 10 + f) (by omega) (by omega), k5 _ _ (by omega), o2, t_seti, k5 _ _ (by omega), k4 _ _ (by omega), m5, w32_s (x := m - paidW w f t m) (by omega) (by omega), w32_s (by omega) (by omega), t_some]
  refine ⟨by decide, by decide, by omega, by omega, by decide, by omega, by omega, ?_⟩
  obtain ⟨N6, e6⟩ : ∃ N, N = upd2 N5 53 (t * 10 + f) (ow w t f + (m - paidW w f t m)) := ⟨_, rfl⟩
  rw [← e6]
  have k6 : ∀ a k, a ≠ 50 ∧ a ≠ 51 ∧ a ≠ 52 ∧ a ≠ 53 ∧ ¬ (a = 48 ∧ k = 3) ∨ k < 0 → N6 a k = M a k := fun a k hk => by rw [e6, upd2_at, if_neg (by omega), k5 _ _ (by omega), k4 _ _ (by omega)]
  have kw : ∀ a k, ¬ SW a k → N6 a k = M a k := fun a k hk => k6 a k (by unfold SW at hk; omega)
  have o : ∀ j, j < 8 ∨ 8 < j ∧ j < 122 ∨ 258 ≤ j → lendO w f t m j = w j := fun j hj => lendO_o hf0 hf1 ht0 ht1 (by omega) h8 hj
  refine hq N6 kw (ci_w hn h (fun j hj => o j (by omega)) kw ?_ ?_)
  · refine ⟨⟨?_, ?_, ?_, ?_, ?_, ?_⟩, ⟨?_, ?_, ?_, ?_, ?_, ?_⟩⟩ <;> rw [k6 _ _ (by omega)] <;> assumption
  · refine ⟨⟨?_, ?_, ?_, ?_⟩, fun k h1 h2 => ?_, fun i h1 h2 => ?_, fun i j h1 h2 h3 h4 => ?_, fun f h1 h2 => ?_⟩
    · rw [k6 _ _ (by omega), o _ (by omega)]; exact a1
    · rw [k6 _ _ (by omega), o _ (by omega)]; exact a2
    · rw [k6 _ _ (by omega), o _ (by omega)]; exact a3
    · rw [lendO_8 hf0 ht0, e6, upd2_at, if_neg (by omega), k5 _ _ (by omega), e4, upd2_at, if_pos ⟨rfl, rfl⟩]
    · rw [o 5 (by omega)] at h2
      unfold od; rw [k6 _ _ (by omega), o _ (by omega)]; exact bb k h1 h2
    · rw [lendO_8 hf0 ht0] at h2
      have q := lendO_lo (w := w) (f := f) (t := t) (m := m) (i := i) hf0 ht0 (by omega) h8 h1 (by omega)
      rw [q.1, q.2.1, q.2.2]
      have r : ∀ a, 50 ≤ a → a ≤ 52 → N6 a i = N3 a i := fun a x1 x2 => by rw [e6, upd2_at, if_neg (by omega), k5 _ _ (by omega), e4, upd2_at, if_neg (by omega)]
      simp only [show (48 : Int) + 2 = 50 from rfl, show (48 : Int) + 3 = 51 from rfl, show (48 : Int) + 4 = 52 from rfl]
      rw [r 50 (by omega) (by omega), r 51 (by omega) (by omega), r 52 (by omega) (by omega), e3, upd2_at, upd2_at, upd2_at, e2, upd2_at, upd2_at, upd2_at, e1, upd2_at, upd2_at, upd2_at]
      by_cases c : i = w 8
      · subst c; simp
      · have := cc i h1 (by omega)
        simp [c]; exact this
    · rw [lendO_ow hf0 hf1 ht0 ht1 (by omega) h8 h1 h2 h3 h4 hft]
      show N6 53 (i * 10 + j) = _
      rw [e6, upd2_at, e5, upd2_at]
      by_cases c1 : i = t ∧ j = f
      · rw [if_pos (by omega), if_pos c1]
      · rw [if_neg (by omega), if_neg c1]
        by_cases c2 : i = f ∧ j = t
        · rw [if_pos (by omega), if_pos c2]
        · rw [if_neg (by omega), if_neg c2, k4 _ _ (by omega)]; exact dd i j h1 h2 h3 h4
    · unfold ac; rw [k6 _ _ (by omega), o _ (by omega)]; exact gg f h1 h2
