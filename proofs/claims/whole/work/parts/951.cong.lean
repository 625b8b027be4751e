/-! worlds that are the same in what counts -/
def EqL (w w' : Int → Int) : Prop := ∀ j, j < 640 → w' j = w j
theorem el_v {w w' : Int → Int} (h : EqL w w') : SameV w w' ∧ SameT w w' ∧ SameD w w' := ⟨fun k hk => h k (by omega), fun k hk => h k (by omega), h 9 (by omega), fun j _ j1 => h j j1⟩
theorem wf_lt {w w' : Int → Int} (hwf : WF w) (h : EqL w w') : WF w' := by
  obtain ⟨hn, hr, hf, ho, hl, hw⟩ := hwf
  have hn' := hn
  unfold WFn at hn'
  obtain ⟨sv, st, _⟩ := el_v h
  obtain ⟨e1, e2, e3, e4, e5⟩ := sv_n sv
  have eod : ∀ j, 0 ≤ j → j < 10 → od w' j = od w j := fun j j0 j1 => h _ (by omega)
  refine ⟨?_, ?_, ?_, ⟨?_, ?_, ?_, ?_⟩, ⟨?_, ?_⟩, ?_⟩
  · unfold WFn
    rw [h 0 (by omega), h 1 (by omega), h 2 (by omega), h 3 (by omega), h 4 (by omega), h 5 (by omega), h 6 (by omega), h 8 (by omega)]
    exact hn
  · intro r r0 r1
    rw [e3] at r1
    simp (disch := omega) only [sv_rc sv]
    exact hr r r0 r1
  · intro r r0 r1
    rw [e5] at r1
    rw [e3, e4]
    simp (disch := omega) only [sv_fc sv]
    exact hf r r0 r1
  · intro j j0 j1
    rw [e5] at j1 ⊢
    rw [eod j j0 (by omega)]; exact ho.1 j j0 j1
  · intro f f0 f1
    rw [e5] at f1 ⊢
    obtain ⟨j, j0, j1, j2⟩ := ho.2.1 f f0 f1
    exact ⟨j, j0, j1, by rw [eod j j0 (by omega)]; exact j2⟩
  · intro a b a0 a1 b0 b1 e
    rw [e5] at a1 b1
    rw [eod a a0 (by omega), eod b b0 (by omega)] at e
    exact ho.2.2.1 a b a0 a1 b0 b1 e
  · rw [e5, st_ahead sv st hn ho (by omega) (Int.le_refl _), sv_allSh sv hn]; exact ho.2.2.2
  · intro j j0 j1
    rw [h 8 (by omega)] at j1
    rw [e5]
    have q0 : lo w' j 0 = lo w j 0 := st _ (by omega)
    have q1 : lo w' j 1 = lo w j 1 := st _ (by omega)
    have q2 : lo w' j 2 = lo w j 2 := st _ (by omega)
    rw [q0, q1, q2]; exact hl.1 j j0 j1
  · intro j j0 j1
    rw [e5] at j1
    rw [st_left sv st hn ho j0 j1]; exact hl.2 j j0 j1
  · unfold WFw
    rw [h 6 (by omega), h 8 (by omega), e5]
    refine ⟨fun a b a0 a1 b0 b1 => ?_, fun f f0 f1 => ?_⟩
    · have q : ow w' a b = ow w a b := h _ (by omega)
      rw [q]; exact hw.1 a b a0 a1 b0 b1
    · have q : ac w' f = ac w f := h _ (by omega)
      rw [q]; exact hw.2 f f0 f1
theorem gw_lt {w w' : Int → Int} (hg : GW w) (h : EqL w w') : GW w' :=
  ⟨wf_lt hg.1 h, wfa_k hg.2.1 (h 6 (by omega)) (fun j _ j1 => h j (by omega)), wfd_same hg.2.2 (el_v h).1 (el_v h).2.2⟩
theorem rs_lt {M : Mem} {s : Int} {w w' : Int → Int} (hr : RS M s w) (hn : WFn w) (h : EqL w w') : RS M s w' := by
  unfold WFn at hn
  obtain ⟨⟨a1, a2, a3, a4⟩, b, c, d, g⟩ := hr
  refine ⟨⟨by rw [h 0 (by omega)]; exact a1, by rw [h 6 (by omega)]; exact a2, by rw [h 7 (by omega)]; exact a3, by rw [h 8 (by omega)]; exact a4⟩, fun k h1 h2 => ?_, fun i h1 h2 => ?_, fun i j h1 h2 h3 h4 => ?_, fun f h1 h2 => ?_⟩
  · rw [h 5 (by omega)] at h2
    rw [show od w' k = od w k from h _ (by omega)]; exact b k h1 h2
  · rw [h 8 (by omega)] at h2
    rw [show lo w' i 0 = lo w i 0 from h _ (by omega), show lo w' i 1 = lo w i 1 from h _ (by omega), show lo w' i 2 = lo w i 2 from h _ (by omega)]; exact c i h1 h2
  · rw [show ow w' i j = ow w i j from h _ (by omega)]; exact d i j h1 h2 h3 h4
  · rw [show ac w' f = ac w f from h _ (by omega)]; exact g f h1 h2
theorem ci_lt {M : Mem} {v : Int} {w w' : Int → Int} (hc : CI M v w) (hn : WFn w) (h : EqL w w') : CI M v w' := by
  obtain ⟨h1, h2, h3, h4, h5, h6, h7⟩ := hc
  exact ⟨h1, h2, h3, h4, h5, rv_w (el_v h).1 hn h6, rs_lt h7 hn h⟩
theorem cd_lt {M : Mem} {d : Int} {w w' : Int → Int} (hd : CD M d w) (h9 : w 9 ≤ 60) (h : EqL w w') : CD M d w' := cd_k hd h9 (el_v h).2.2 (fun _ _ _ => rfl)
/-- a life leaves the rest as it is -/
def SameH (w w' : Int → Int) : Prop := ∀ j, j < 0 ∨ 268 ≤ j → w' j = w j
theorem act_h {w : Int → Int} (h : GW w) {x k : Int} (k0 : 0 ≤ k) (k1 : k < w 9) : SameH w (actW w x k).2.1 := by
  have L := wf_l h.1
  have dk := h.2.2.2.2 k k0 k1
  have hn := h.1.1
  unfold WFn at hn
  have u : ∀ i y, i = 0 ∨ i = 7 → SameH w (upd1 w i y) := fun i y hi j hj => by rw [upd1_at, if_neg (by omega)]
  have l8 : ∀ a b m, 0 ≤ a → a < 10 → 0 ≤ b → b < 10 → w 8 < 12 → SameH w (lendO w a b m) := fun a b m a0 a1 b0 b1 h8 j hj => lendO_o a0 a1 b0 b1 (by omega) h8 (by omega)
  have r : SameH w w := fun _ _ => rfl
  unfold actW
  split
  · simp only; exact u 7 _ (.inr rfl)
  split
  · simp only; exact u 7 _ (.inr rfl)
  split
  · split
    · exact r
    · simp only; exact fun j hj => swapO_o (by omega) (by omega)
  split
  · rename_i c
    have df := d_ff dk (.inr (.inl c))
    split
    · exact r
    · simp only; exact l8 _ _ _ (by omega) (by omega) (by omega) (by omega) (by omega)
  split
  · rename_i c
    have df := d_ff dk (.inr (.inr c))
    split
    · exact r
    · simp only; exact l8 _ _ _ (by omega) (by omega) (by omega) (by omega) (by omega)
  split
  · simp only; exact u 0 _ (.inl rfl)
  split
  · split
    · simp only; exact u 0 _ (.inl rfl)
    · exact r
  split
  · split
    · exact r
    · simp only; exact fun j hj => by unfold passO; rw [upd1_at, if_neg (by omega), upd1_at, if_neg (by omega), passP_o (by omega)]
  · exact r
theorem lifeS_h {w0 : Int → Int} {s : LfS} (h : LI w0 s) (hs : SameH w0 s.1) : SameH w0 (lifeS s).1 := by
  obtain ⟨w, r, l, d, m, hv, c, x⟩ := s
  obtain ⟨⟨g1, g2, g3, g4⟩, hl, hd, hm, hh, hc, hx, hr⟩ := h
  simp only at g1 g2 g3 g4 hl hd hm hh hc hx hr hs
  simp only [lifeS]
  split
  · exact hs
  split
  · split
    · exact hs
    · exact hs
  split
  · exact hs
  split
  · exact hs
  · rename_i c0 _ _ _
    have a := act_h g1 (x := x) hl.1 (show l < w 9 by omega)
    exact fun j hj => by simp only; rw [a j hj, hs j hj]
theorem itS_h {w r : Int → Int} {x : Int} (h : GW w) (x0 : 0 ≤ x) (x1 : x ≤ 9999) (hr : ∀ k, 0 ≤ k → k < 60 → 0 ≤ r k ∧ r k ≤ 98) : ∀ n, SameH w (itS (ini w r x) n).1 := by
  intro n
  induction n with
  | zero => exact fun _ _ => rfl
  | succ n ih => exact lifeS_h (itS_i h x0 x1 hr n) ih
/-- take: one standing into another -/
def tkM (M : Mem) (t s : Int) : Mem := fun a j => if a = t ∧ 0 ≤ j ∧ j < 4 then M s j else if a = t + 1 ∧ 0 ≤ j ∧ j < 10 then M (s + 1) j else if a = t + 2 ∧ 0 ≤ j ∧ j < 12 then M (s + 2) j else if a = t + 3 ∧ 0 ≤ j ∧ j < 12 then M (s + 3) j else if a = t + 4 ∧ 0 ≤ j ∧ j < 12 then M (s + 4) j else if a = t + 5 ∧ 0 ≤ j ∧ j < 100 then M (s + 5) j else if a = t + 6 ∧ 0 ≤ j ∧ j < 10 then M (s + 6) j else M a j
theorem take_e {M : Mem} {t s : Int} {Q : Mem → Prop} (t0 : 0 < t) (s0 : 0 < s) (hts : t + 6 < s ∨ s + 6 < t) (ht : LSt M t) (hs : LSt M s) (hq : Q (tkM M t s)) : Tot (f_X4_take t s M) Q := by
  obtain ⟨⟨a1, a2, a3, a4, a5, a6⟩, ⟨b1, b2, b3, b4, b5, b6⟩⟩ := ht
  obtain ⟨⟨c1, c2, c3, c4, c5, c6⟩, ⟨d1, d2, d3, d4, d5, d6⟩⟩ := hs
  unfold f_X4_take
  rw [t_getf, t_putf]
  refine ⟨by omega, by omega, ?_⟩
  obtain ⟨N1, e1⟩ : ∃ X, X = upd2 M t 0 (M s 0) := ⟨_, rfl⟩
  have k1 : ∀ a j, ¬ (a = t ∧ 0 ≤ j ∧ j < 4) → N1 a j = M a j := fun a j h => by rw [e1, upd2_at, if_neg (by omega)]
  rw [← e1, t_getf, k1 s 1 (by omega), t_putf]
  refine ⟨by omega, by omega, ?_⟩
  obtain ⟨N2, e2⟩ : ∃ X, X = upd2 N1 t 1 (M s 1) := ⟨_, rfl⟩
  have k2 : ∀ a j, ¬ (a = t ∧ 0 ≤ j ∧ j < 4) → N2 a j = M a j := fun a j h => by rw [e2, upd2_at, if_neg (by omega), k1 a j h]
  rw [← e2, t_getf, k2 s 2 (by omega), t_putf]
  refine ⟨by omega, by omega, ?_⟩
  obtain ⟨N3, e3⟩ : ∃ X, X = upd2 N2 t 2 (M s 2) := ⟨_, rfl⟩
  have k3 : ∀ a j, ¬ (a = t ∧ 0 ≤ j ∧ j < 4) → N3 a j = M a j := fun a j h => by rw [e3, upd2_at, if_neg (by omega), k2 a j h]
  rw [← e3, t_getf, k3 s 3 (by omega), t_putf]
  refine ⟨by omega, by omega, ?_⟩
  obtain ⟨N4, e4⟩ : ∃ X, X = upd2 N3 t 3 (M s 3) := ⟨_, rfl⟩
  have k4 : ∀ a j, ¬ (a = t ∧ 0 ≤ j ∧ j < 4) → N4 a j = M a j := fun a j h => by rw [e4, upd2_at, if_neg (by omega), k3 a j h]
  have v4 : ∀ j, 0 ≤ j → j < 4 → N4 t j = M s j := fun j j0 j1 => by
    rw [e4, upd2_at]
    by_cases x3 : j = 3
    · rw [if_pos ⟨rfl, x3⟩, x3]
    rw [if_neg (fun h => x3 h.2), e3, upd2_at]
    by_cases x2 : j = 2
    · rw [if_pos ⟨rfl, x2⟩, x2]
    rw [if_neg (fun h => x2 h.2), e2, upd2_at]
    by_cases x1 : j = 1
    · rw [if_pos ⟨rfl, x1⟩, x1]
    rw [if_neg (fun h => x1 h.2), e1, upd2_at, if_pos ⟨rfl, by omega⟩, show j = 0 by omega]
  rw [← e4]
  clear e1 e2 e3 e4 k1 k2 k3
  rw [t_getf, k4 s 4 (by omega), c1, t_getf, k4 t 4 (by omega), a1, t_acopy, k4 (s + 1) (-1) (by omega), k4 (t + 1) (-1) (by omega), d1, b1]
  refine ⟨by omega, by omega, ⟨by omega, by omega, by omega, by omega, by omega, by omega, by omega⟩, ?_⟩
  obtain ⟨N5, e5⟩ : ∃ X, X = copym N4 (s + 1) 0 (t + 1) 0 10 := ⟨_, rfl⟩
  have k5 : ∀ a j, ¬ (a = t + 1 ∧ 0 ≤ j ∧ j < 10) → N5 a j = N4 a j := fun a j h => by rw [e5, copym_at, if_neg (by omega)]
  have v5 : ∀ j, 0 ≤ j → j < 10 → N5 (t + 1) j = M (s + 1) j := fun j j0 j1 => by rw [e5, copym_at, if_pos (by omega), k4 _ _ (by omega), show 0 + (j - 0) = j by omega]
  rw [← e5, t_getf, k5 s 5 (by omega), k4 s 5 (by omega), c2, t_getf, k5 t 5 (by omega), k4 t 5 (by omega), a2, t_acopy, k5 (s + 2) (-1) (by omega), k5 (t + 2) (-1) (by omega), k4 (s + 2) (-1) (by omega), k4 (t + 2) (-1) (by omega), d2, b2]
  refine ⟨by omega, by omega, ⟨by omega, by omega, by omega, by omega, by omega, by omega, by omega⟩, ?_⟩
  obtain ⟨N6, e6⟩ : ∃ X, X = copym N5 (s + 2) 0 (t + 2) 0 12 := ⟨_, rfl⟩
  have k6 : ∀ a j, ¬ (a = t + 2 ∧ 0 ≤ j ∧ j < 12) → N6 a j = N5 a j := fun a j h => by rw [e6, copym_at, if_neg (by omega)]
  have v6 : ∀ j, 0 ≤ j → j < 12 → N6 (t + 2) j = M (s + 2) j := fun j j0 j1 => by rw [e6, copym_at, if_pos (by omega), k5 _ _ (by omega), k4 _ _ (by omega), show 0 + (j - 0) = j by omega]
  have q6 : ∀ a j, a < t ∨ t + 2 < a ∨ j < 0 ∨ (a = t ∧ 4 ≤ j) → N6 a j = M a j := fun a j h => by rw [k6 a j (by omega), k5 a j (by omega), k4 a j (by omega)]
  rw [← e6, t_getf, q6 s 6 (by omega), c3, t_getf, q6 t 6 (by omega), a3, t_acopy, q6 (s + 3) (-1) (by omega), q6 (t + 3) (-1) (by omega), d3, b3]
  refine ⟨by omega, by omega, ⟨by omega, by omega, by omega, by omega, by omega, by omega, by omega⟩, ?_⟩
  obtain ⟨N7, e7⟩ : ∃ X, X = copym N6 (s + 3) 0 (t + 3) 0 12 := ⟨_, rfl⟩
  have k7 : ∀ a j, ¬ (a = t + 3 ∧ 0 ≤ j ∧ j < 12) → N7 a j = N6 a j := fun a j h => by rw [e7, copym_at, if_neg (by omega)]
  have v7 : ∀ j, 0 ≤ j → j < 12 → N7 (t + 3) j = M (s + 3) j := fun j j0 j1 => by rw [e7, copym_at, if_pos (by omega), q6 _ _ (by omega), show 0 + (j - 0) = j by omega]
  have q7 : ∀ a j, a < t ∨ t + 3 < a ∨ j < 0 ∨ (a = t ∧ 4 ≤ j) → N7 a j = M a j := fun a j h => by rw [k7 a j (by omega), q6 a j (by omega)]
  rw [← e7, t_getf, q7 s 7 (by omega), c4, t_getf, q7 t 7 (by omega), a4, t_acopy, q7 (s + 4) (-1) (by omega), q7 (t + 4) (-1) (by omega), d4, b4]
  refine ⟨by omega, by omega, ⟨by omega, by omega, by omega, by omega, by omega, by omega, by omega⟩, ?_⟩
  obtain ⟨N8, e8⟩ : ∃ X, X = copym N7 (s + 4) 0 (t + 4) 0 12 := ⟨_, rfl⟩
  have k8 : ∀ a j, ¬ (a = t + 4 ∧ 0 ≤ j ∧ j < 12) → N8 a j = N7 a j := fun a j h => by rw [e8, copym_at, if_neg (by omega)]
  have v8 : ∀ j, 0 ≤ j → j < 12 → N8 (t + 4) j = M (s + 4) j := fun j j0 j1 => by rw [e8, copym_at, if_pos (by omega), q7 _ _ (by omega), show 0 + (j - 0) = j by omega]
  have q8 : ∀ a j, a < t ∨ t + 4 < a ∨ j < 0 ∨ (a = t ∧ 4 ≤ j) → N8 a j = M a j := fun a j h => by rw [k8 a j (by omega), q7 a j (by omega)]
  rw [← e8, t_getf, q8 s 8 (by omega), c5, t_getf, q8 t 8 (by omega), a5, t_getf, q8 t 8 (by omega), a5, t_alen, q8 (t + 5) (-1) (by omega), b5, t_acopy, q8 (s + 5) (-1) (by omega), q8 (t + 5) (-1) (by omega), d5, b5]
  refine ⟨by omega, by omega, by omega, by omega, ⟨by omega, by omega, by omega, by omega, by omega, by omega, by omega⟩, ?_⟩
  obtain ⟨N9, e9⟩ : ∃ X, X = copym N8 (s + 5) 0 (t + 5) 0 100 := ⟨_, rfl⟩
  have k9 : ∀ a j, ¬ (a = t + 5 ∧ 0 ≤ j ∧ j < 100) → N9 a j = N8 a j := fun a j h => by rw [e9, copym_at, if_neg (by omega)]
  have v9 : ∀ j, 0 ≤ j → j < 100 → N9 (t + 5) j = M (s + 5) j := fun j j0 j1 => by rw [e9, copym_at, if_pos (by omega), q8 _ _ (by omega), show 0 + (j - 0) = j by omega]
  have q9 : ∀ a j, a < t ∨ t + 5 < a ∨ j < 0 ∨ (a = t ∧ 4 ≤ j) → N9 a j = M a j := fun a j h => by rw [k9 a j (by omega), q8 a j (by omega)]
  rw [← e9, t_getf, q9 s 9 (by omega), c6, t_getf, q9 t 9 (by omega), a6, t_acopy, q9 (s + 6) (-1) (by omega), q9 (t + 6) (-1) (by omega), d6, b6, t_some]
  refine ⟨by omega, by omega, ⟨by omega, by omega, by omega, by omega, by omega, by omega, by omega⟩, ?_⟩
  have fin : copym N9 (s + 6) 0 (t + 6) 0 10 = tkM M t s := by
    funext a j
    rw [copym_at]
    unfold tkM
    by_cases x0 : a = t ∧ 0 ≤ j ∧ j < 4
    · rw [if_neg (by omega), if_pos x0, k9 a j (by omega), k8 a j (by omega), k7 a j (by omega), k6 a j (by omega), k5 a j (by omega), x0.1]; exact v4 j x0.2.1 x0.2.2
    rw [if_neg x0]
    by_cases x1 : a = t + 1 ∧ 0 ≤ j ∧ j < 10
    · rw [if_neg (by omega), if_pos x1, k9 a j (by omega), k8 a j (by omega), k7 a j (by omega), k6 a j (by omega), x1.1]; exact v5 j x1.2.1 x1.2.2
    rw [if_neg x1]
    by_cases x2 : a = t + 2 ∧ 0 ≤ j ∧ j < 12
    · rw [if_neg (by omega), if_pos x2, k9 a j (by omega), k8 a j (by omega), k7 a j (by omega), x2.1]; exact v6 j x2.2.1 x2.2.2
    rw [if_neg x2]
    by_cases x3 : a = t + 3 ∧ 0 ≤ j ∧ j < 12
    · rw [if_neg (by omega), if_pos x3, k9 a j (by omega), k8 a j (by omega), x3.1]; exact v7 j x3.2.1 x3.2.2
    rw [if_neg x3]
    by_cases x4 : a = t + 4 ∧ 0 ≤ j ∧ j < 12
    · rw [if_neg (by omega), if_pos x4, k9 a j (by omega), x4.1]; exact v8 j x4.2.1 x4.2.2
    rw [if_neg x4]
    by_cases x5 : a = t + 5 ∧ 0 ≤ j ∧ j < 100
    · rw [if_neg (by omega), if_pos x5, x5.1]; exact v9 j x5.2.1 x5.2.2
    rw [if_neg x5]
    by_cases x6 : a = t + 6 ∧ 0 ≤ j ∧ j < 10
    · rw [if_pos (by omega), if_pos x6, q9 _ _ (by omega), show 0 + (j - 0) = j by omega]
    · rw [if_neg (by omega), if_neg x6, k9 a j (by omega), k8 a j (by omega), k7 a j (by omega), k6 a j (by omega), k5 a j (by omega), k4 a j (by omega)]
  rw [fin]; exact hq
