/-! the class: one way along a span -/
theorem ci_55 {M : Mem} {v : Int} {w : Int → Int} (h : CI M v w) : (M 55 0 = 56 ∧ M 55 1 = 63 ∧ M 55 2 = 64 ∧ M 55 3 = 65 ∧ M 55 4 = 66 ∧ M 55 5 = 67 ∧ M 55 6 = 68 ∧ M 55 7 = 69 ∧ M 55 9 = 70 ∧ M 55 10 = 71 ∧ M 55 11 = 72 ∧ M 55 12 = 73) ∧ (M 66 (-1) = 10 ∧ M 67 (-1) = 10 ∧ M 68 (-1) = 10 ∧ M 69 (-1) = 10 ∧ M 70 (-1) = 42 ∧ M 71 (-1) = 42 ∧ M 72 (-1) = 42 ∧ M 73 (-1) = 42) ∧ (M 56 4 = 60 ∧ M 56 5 = 61 ∧ M 56 6 = 62 ∧ M 60 (-1) = 22 ∧ M 61 (-1) = 22 ∧ M 62 (-1) = 22) := by
  obtain ⟨x, ⟨b1, b2, b3, b4, b5, b6⟩, ⟨c1, c2, c3, c4, c5, c6, c7, c8, c9, c10, c11, c12, c13, c14, c15, c16, c17⟩⟩ := h.2.2.2.2.1
  exact ⟨x, ⟨c10, c11, c12, c13, c14, c15, c16, c17⟩, ⟨b4, b5, b6, c4, c5, c6⟩⟩
def SM (M : Mem) (w : Int → Int) (t : Int) : Prop := (∀ f, 0 ≤ f → f < w 5 → M 68 f = sumZ (gS w f) t ∧ M 69 f = sumZ (gO w f) t) ∧ (∀ r, 0 ≤ r → r < w 3 → M 66 r = sumZ (gT w r) t ∧ M 67 r = sumZ (gP w r) t)
def PC (M : Mem) (w : Int → Int) (n t : Int) : Prop := M 55 8 = n ∧ 0 ≤ n ∧ (n = 0 → t = 0) ∧ ∀ i, 0 ≤ i → i < n → 0 ≤ M 70 i ∧ M 70 i < M 71 i ∧ M 71 i ≤ t ∧ (i = 0 → M 70 i = 0) ∧ (i + 1 < n → M 70 (i + 1) = M 71 i) ∧ (i + 1 = n → M 71 i = t) ∧ (0 ≤ M 72 i ∧ M 72 i < w 5) ∧ (M 73 i = 0 ∨ M 73 i = 1) ∧ ∀ m, M 70 i ≤ m → m < M 71 i → fw w m = M 72 i ∧ (M 73 i = 1 ↔ opn w m (fc w (M 72 i) 0))
def SCp (a j : Int) : Prop := (a = 55 ∧ j = 8) ∨ (66 ≤ a ∧ a ≤ 73 ∧ 0 ≤ j)
theorem sc_p {M N : Mem} (h : ∀ a j, ¬ SCp a j → N a j = M a j) : ∀ a k, ¬ SC a k → N a k = M a k := fun a k ha => h a k (by unfold SC at ha; unfold SCp; omega)
theorem pc_next {M N : Mem} {w : Int → Int} {n t x f b : Int} (h : PC M w n t) (t0 : 0 ≤ t) (htx : t < x) (f0 : 0 ≤ f) (f1 : f < w 5) (hb : b = 0 ∨ b = 1) (hm : ∀ m, t ≤ m → m < x → fw w m = f ∧ (b = 1 ↔ opn w m (fc w f 0))) (k : ∀ a j, 70 ≤ a → a ≤ 73 → j ≠ n → N a j = M a j) (e0 : N 70 n = t) (e1 : N 71 n = x) (e2 : N 72 n = f) (e3 : N 73 n = b) (e4 : N 55 8 = n + 1) : PC N w (n + 1) x := by
  obtain ⟨p1, p2, p3, p4⟩ := h
  refine ⟨e4, by omega, fun h => by omega, fun i i0 i1 => ?_⟩
  by_cases c : i = n
  · subst c
    rw [e0, e1, e2, e3]
    refine ⟨t0, htx, by omega, fun h => p3 h, fun h => by omega, fun _ => rfl, ⟨f0, f1⟩, hb, hm⟩
  · have q := p4 i i0 (by omega)
    rw [k 70 i (by omega) (by omega) c, k 71 i (by omega) (by omega) c, k 72 i (by omega) (by omega) c, k 73 i (by omega) (by omega) c]
    refine ⟨q.1, q.2.1, by omega, q.2.2.2.1, fun h => ?_, fun h => by omega, q.2.2.2.2.2.2.1, q.2.2.2.2.2.2.2.1, q.2.2.2.2.2.2.2.2⟩
    by_cases c2 : i + 1 = n
    · rw [c2, e0]; exact (q.2.2.2.2.2.1 c2).symm
    · rw [k 70 (i + 1) (by omega) (by omega) c2]; exact q.2.2.2.2.1 (by omega)
theorem sm_b {M : Mem} {w : Int → Int} {t : Int} (h : SM M w t) (t0 : 0 ≤ t) (t1 : t ≤ 1440) : ∀ a j, 66 ≤ a → a ≤ 69 → 0 ≤ j → (a ≤ 67 → j < w 3) → (68 ≤ a → j < w 5) → 0 ≤ M a j ∧ M a j ≤ 10000 := by
  intro a j h1 h2 h3 h4 h5
  by_cases c : a ≤ 67
  · have q := h.2 j h3 (h4 c)
    have b1 := sum01 (g := gT w j) (fun k => i01) t0
    have b2 := sum01 (g := gP w j) (fun k => i01) t0
    rcases (show a = 66 ∨ a = 67 by omega) with e | e <;> rw [e] <;> omega
  · have q := h.1 j h3 (h5 (by omega))
    have b1 := sum01 (g := gS w j) (fun k => i01) t0
    have b2 := sum01 (g := gO w j) (fun k => i01) t0
    rcases (show a = 68 ∨ a = 69 by omega) with e | e <;> rw [e] <;> omega
theorem sm_next {M N : Mem} {w : Int → Int} {t x f : Int} (h : SM M w t) (hn : WFn w) (hr : WFr w) (hf : WFf w) (t0 : 0 ≤ t) (htx : t < x) (x1 : x ≤ 1440) (f0 : 0 ≤ f) (f1 : f < w 5) (hm : ∀ m, t ≤ m → m < x → fw w m = f) (hc : ∀ m, t < m → m < x → ¬ cpt w m) (e1 : ∀ g, 0 ≤ g → g < 10 → N 68 g = M 68 g + (if g = f then x - t else 0) ∧ N 69 g = M 69 g + (if g = f ∧ opn w t (fc w f 0) then x - t else 0)) (e2 : ∀ r, 0 ≤ r → r < w 3 → N 66 r = M 66 r + (if bel w f r ∧ opn w t r then x - t else 0) ∧ N 67 r = M 67 r + (if bel w f r ∧ opn w t (rc w r 0) ∧ ¬ letsW w r t then x - t else 0)) : SM N w x := by
  have hn' := hn
  unfold WFn at hn'
  have hs : ∀ c : Prop, [Decidable c] → (x - t) * (if c then (1 : Int) else 0) = if c then x - t else 0 := fun c _ => by by_cases hc : c <;> simp [hc]
  refine ⟨fun g g0 g1 => ?_, fun r r0 r1 => ?_⟩
  · have q := h.1 g g0 g1
    have q2 := e1 g g0 (by omega)
    have qg := hf g g0 g1
    rw [q2.1, q2.2, q.1, q.2]
    constructor
    · rw [sumZ_run' (t := t) (u := x) (g := gS w g) (c := if g = f then 1 else 0) t0 (by omega) (fun m a b => by simp only [gS, hm m a b]; by_cases hh : f = g <;> grind), hs]
    · rw [sumZ_run' (t := t) (u := x) (g := gO w g) (c := if g = f ∧ opn w t (fc w f 0) then 1 else 0) t0 (by omega) (fun m a b => by
        simp only [gO, hm m a b]
        have o := opn_same hn hr (r := fc w g 0) (t := t) (m := m) (by omega) (by omega) t0 a (by omega) (fun y y0 y1 => hc y y0 (by omega))
        by_cases hh : f = g
        · subst hh; simp only [true_and, o]
        · rw [if_neg (fun h => hh h.1), if_neg (fun h => hh h.1.symm)]), hs]
  · have q := h.2 r r0 r1
    have q2 := e2 r r0 r1
    have qr := hr r r0 r1
    rw [q2.1, q2.2, q.1, q.2]
    constructor
    · rw [sumZ_run' (t := t) (u := x) (g := gT w r) (c := if bel w f r ∧ opn w t r then 1 else 0) t0 (by omega) (fun m a b => by
        have o := opn_same hn hr (r := r) (t := t) (m := m) (by omega) (by omega) t0 a (by omega) (fun y y0 y1 => hc y y0 (by omega))
        simp only [gT, hm m a b, o]), hs]
    · rw [sumZ_run' (t := t) (u := x) (g := gP w r) (c := if bel w f r ∧ opn w t (rc w r 0) ∧ ¬ letsW w r t then 1 else 0) t0 (by omega) (fun m a b => by
        have o := opn_same hn hr (r := rc w r 0) (t := t) (m := m) (by omega) (by omega) t0 a (by omega) (fun y y0 y1 => hc y y0 (by omega))
        have o2 := lets_same hn hr (r := r) (t := t) (m := m) (by omega) (by omega) t0 a (by omega) (fun y y0 y1 => hc y y0 (by omega))
        simp only [gP, hm m a b, o, o2]), hs]
theorem cutSlot_e {M : Mem} {v : Int} {w : Int → Int} {Q : Mem → Prop} (hc : CI M v w) (hwf : WF w) {k n : Int} (k0 : 0 ≤ k) (k1 : k < (slotsW w).length) (hh : HC M (slotsW w)) (hs : SM M w (sl (slotsW w) k).2.1) (hp : PC M w n (sl (slotsW w) k).2.1) (hk : n ≤ k + cpc w (sl (slotsW w) k).2.1) (hq : ∀ M' n', (∀ a j, ¬ SCp a j → M' a j = M a j) → SM M' w ((sl (slotsW w) k).2.1 + (sl (slotsW w) k).2.2) → PC M' w n' ((sl (slotsW w) k).2.1 + (sl (slotsW w) k).2.2) → n' ≤ k + 1 + cpc w ((sl (slotsW w) k).2.1 + (sl (slotsW w) k).2.2) → Q M') : Tot (f_X5_cutSlot 55 13 k M) Q := by
  obtain ⟨hn, hr, hf, ho, hl, hw⟩ := hwf
  have hn' := hn
  unfold WFn at hn'
  have ct := slotsW_cont hn hl
  have sln := slotsW_len hn ho
  have e5 := edge_le hn hf ho (k := w 5) (by omega) (Int.le_refl _)
  have q := cont_at ct k k0 k1
  have qa := hc_at hh k0 k1
  have fl := slots_fld hn ho hl _ (sl_mem k0 k1)
  have wa := fun m => who_at ct k m k0 k1
  have qs : (slotsW w).getD k.toNat (0, 0, 0) = sl (slotsW w) k := rfl
  rw [qs] at qa
  obtain ⟨s, es⟩ : ∃ s, s = sl (slotsW w) k := ⟨_, rfl⟩
  rw [← es] at q qa fl wa hs hp hk hq
  obtain ⟨⟨a1, a2, a3, a4, a5, a6, a7, a8, a9, a10, a11, a12⟩, _, ⟨b4, b5, b6, c4, c5, c6⟩⟩ := ci_55 hc
  unfold f_X5_cutSlot
  simp only [t_getf, t_geti, t_letv, a1, b5, b6, c5, c6, qa.2.1, qa.2.2]
  rw [w32_s (by omega) (by omega)]
  refine ⟨by decide, by decide, by decide, k0, by omega, by decide, by decide, by decide, k0, by omega, by decide, by decide, by decide, k0, by omega, ?_⟩
  refine lpIM (fun t N => s.2.1 ≤ t ∧ t ≤ s.2.1 + s.2.2 ∧ (∀ a j, ¬ SCp a j → N a j = M a j) ∧ SM N w t ∧ ∃ n, PC N w n t ∧ n ≤ k + (if t < s.2.1 + s.2.2 then 0 else 1) + cpc w t) (fun t _ => (s.2.1 + s.2.2 - t).toNat) ?_ (by unfold KF; omega) ⟨by omega, by omega, fun _ _ _ => rfl, hs, n, hp, by rw [if_pos (by omega)]; omega⟩
  clear hs hp hk n
  rintro fu t N ⟨i0, i1, i2, i3, n, i4, i5⟩ ih
  have hN : CI N v w := ci_s hn hc (sc_p i2)
  unfold f_X5_cutSlot_L31
  rw [t_ite]
  refine ⟨fun c => ?_, fun c => ?_⟩
  · have ht : t = s.2.1 + s.2.2 := by omega
    rw [t_some]
    rw [if_neg (by omega)] at i5
    subst ht
    exact hq N n i2 i3 i4 (by omega)
  rw [if_pos (by omega)] at i5
  have cl := cpc_le hn t
  have n0 := i4.2.1
  obtain ⟨na, nb, nc, nd, ne⟩ := ci_p hN
  rw [t_getf, i4.1, t_ite]
  refine ⟨by decide, fun c2 => by omega, fun c2 => ?_⟩
  rw [t_getf, nc, t_nn, t_callp]
  refine ⟨by decide, ne, nextChange_e hN hn hr (by omega) (by omega) (by omega) (fun x x0 x1 x2 x3 => ?_)⟩
  rw [t_callp]
  refine openAt_e hN hn hr (by omega) (by omega) (fun o hop => ?_)
  have hfo := hf s.1 fl.1 fl.2
  have kc2 : n + 1 ≤ k + (if x < s.2.1 + s.2.2 then 0 else 1) + cpc w x := by
    by_cases c3 : x < s.2.1 + s.2.2
    · rw [if_pos c3]
      rcases x2 with e | e
      · omega
      · have := cpc_s (w := w) x0 e; omega
    · rw [if_neg c3]
      have := cpc_mono hn (w := w) (t := t) (u := x) (by omega); omega
  have hwm : ∀ m, t ≤ m → m < x → fw w m = s.1 := fun m m0 m1 => wa m (by omega) (by omega)
  have hom : ∀ m, t ≤ m → m < x → (opn w m (fc w s.1 0) ↔ opn w t (fc w s.1 0)) := fun m m0 m1 => opn_same hn hr (by omega) (by omega) (by omega) m0 (by omega) (fun y y0 y1 => x3 y y0 (by omega))
  have hbo := hop (fc w s.1 0) hfo.1 hfo.2.1
  clear hq wa cl i5 ct
  obtain ⟨⟨d1, d2, d3, d4, d5, d6, d7, d8, d9, d10, d11, d12⟩, ⟨g1, g2, g3, g4, g5, g6, g7, g8⟩, ⟨h4, h5, h6, l4, l5, l6⟩⟩ := ci_55 hN
  have m60 : N 60 k = s.1 := by rw [i2 _ _ (by unfold SCp; omega)]; exact qa.1
  rw [t_getf, d1, t_getf, h4, t_geti, l4, m60, t_getf, d9, t_getf, i4.1, t_seti, g5]
  refine ⟨by decide, by decide, by decide, k0, by omega, by decide, by decide, by decide, n0, by omega, ?_⟩
  obtain ⟨N1, e1⟩ : ∃ X, X = upd2 N 70 n t := ⟨_, rfl⟩
  have k1' : ∀ a j, ¬ (a = 70 ∧ j = n) → N1 a j = N a j := fun a j hj => by rw [e1, upd2_at, if_neg hj]
  rw [← e1, t_getf, k1' _ _ (by omega), d10, t_getf, k1' _ _ (by omega), i4.1, t_seti, k1' _ _ (by omega), g6]
  refine ⟨by decide, by decide, by decide, n0, by omega, ?_⟩
  obtain ⟨N2, e2⟩ : ∃ X, X = upd2 N1 71 n x := ⟨_, rfl⟩
  have k2' : ∀ a j, ¬ (70 ≤ a ∧ a ≤ 71 ∧ j = n) → N2 a j = N a j := fun a j hj => by rw [e2, upd2_at, if_neg (by omega), k1' _ _ (by omega)]
  rw [← e2, t_getf, k2' _ _ (by omega), d11, t_getf, k2' _ _ (by omega), i4.1, t_seti, k2' _ _ (by omega), g7]
  refine ⟨by decide, by decide, by decide, n0, by omega, ?_⟩
  obtain ⟨N3, e3⟩ : ∃ X, X = upd2 N2 72 n s.1 := ⟨_, rfl⟩
  have k3' : ∀ a j, ¬ (70 ≤ a ∧ a ≤ 72 ∧ j = n) → N3 a j = N a j := fun a j hj => by rw [e3, upd2_at, if_neg (by omega), k2' _ _ (by omega)]
  have hv := hN.1
  obtain ⟨r1, r2, r3, r4, r5, r6, r7⟩ := ci_f hN hn fl.1 fl.2
  have s0 := r5 0 (by omega) (by omega)
  clear r5
  rw [← e3, t_getf, k3' _ _ (by omega), d12, t_getf, k3' _ _ (by omega), i4.1, t_getf, k3' _ _ (by omega), nc, t_getf, k3' _ _ (by omega), r1, t_geti, k3' _ _ (by omega), r2, k3' _ _ (by omega), r3, t_geti, k3' _ _ (by omega), r4, k3' _ _ (by omega), s0]
  refine ⟨by decide, by decide, by decide, ne, r6, fl.1, by omega, r7, by decide, by omega, t_jq (fun j => Tot (j (if opn w t (fc w s.1 0) then 1 else 0)) Q) ?_ (fun j hj => ?_)⟩
  rotate_left
  · rw [t_ite]
    refine ⟨fun c3 => ?_, fun c3 => ?_⟩
    · rw [if_neg (fun h => c3 (hbo.mpr h))] at hj; exact hj
    · rw [if_pos (hbo.mp (Classical.not_not.mp c3))] at hj; exact hj
  obtain ⟨b, eb⟩ : ∃ b, b = (if opn w t (fc w s.1 0) then (1 : Int) else 0) := ⟨_, rfl⟩
  have b01 : b = 0 ∨ b = 1 := by rw [eb]; split <;> simp
  have b1' : b = 1 ↔ opn w t (fc w s.1 0) := by rw [eb, i11]
  rw [← eb]
  clear eb hbo
  rw [t_setz, k3' _ _ (by omega), g8]
  refine ⟨by decide, n0, by omega, b01, ?_⟩
  obtain ⟨N4, e4⟩ : ∃ X, X = upd2 N3 73 n b := ⟨_, rfl⟩
  have k4' : ∀ a j, ¬ (70 ≤ a ∧ a ≤ 73 ∧ j = n) → N4 a j = N a j := fun a j hj => by rw [e4, upd2_at, if_neg (by omega), k3' _ _ (by omega)]
  rw [← e4, t_getf, k4' _ _ (by omega), i4.1, t_putf, w32_s (by omega) (by omega)]
  refine ⟨by decide, by decide, ?_⟩
  obtain ⟨N5, e5'⟩ : ∃ X, X = upd2 N4 55 8 (n + 1) := ⟨_, rfl⟩
  have k5' : ∀ a j, ¬ (70 ≤ a ∧ a ≤ 73 ∧ j = n) → ¬ (a = 55 ∧ j = 8) → N5 a j = N a j := fun a j hj hj2 => by rw [e5', upd2_at, if_neg hj2, k4' _ _ hj]
  have u0 : N5 70 n = t := by rw [e5', upd2_at, if_neg (by omega), e4, upd2_at, if_neg (by omega), e3, upd2_at, if_neg (by omega), e2, upd2_at, if_neg (by omega), e1, upd2_at, if_pos ⟨rfl, rfl⟩]
  have u1 : N5 71 n = x := by rw [e5', upd2_at, if_neg (by omega), e4, upd2_at, if_neg (by omega), e3, upd2_at, if_neg (by omega), e2, upd2_at, if_pos ⟨rfl, rfl⟩]
  have u2 : N5 72 n = s.1 := by rw [e5', upd2_at, if_neg (by omega), e4, upd2_at, if_neg (by omega), e3, upd2_at, if_pos ⟨rfl, rfl⟩]
  have u3 : N5 73 n = b := by rw [e5', upd2_at, if_neg (by omega), e4, upd2_at, if_pos ⟨rfl, rfl⟩]
  have u4 : N5 55 8 = n + 1 := by rw [e5', upd2_at, if_pos ⟨rfl, rfl⟩]
  have hN5 : CI N5 v w := ci_s hn hN (fun a j ha => k5' a j (by unfold SC at ha; omega) (by unfold SC at ha; omega))
  have sm5 : SM N5 w t := by
    refine ⟨fun f f0 f1 => ?_, fun r r0 r1 => ?_⟩
    · rw [k5' _ _ (by omega) (by omega), k5' _ _ (by omega) (by omega)]; exact i3.1 f f0 f1
    · rw [k5' _ _ (by omega) (by omega), k5' _ _ (by omega) (by omega)]; exact i3.2 r r0 r1
  rw [← e5', t_getf, k5' 13 0 (by omega) (by omega), nc, t_callv, w32_s (by omega) (by omega)]
  refine ⟨by decide, count_e (t := t) hN5 hn hr hf fl.1 fl.2 (by omega) (by omega) hop (sm_b sm5 (by omega) (by omega)) (fun M2 y1 y2 y3 => ?_)⟩
  have pc : PC M2 w (n + 1) x := pc_next i4 (by omega) x0 fl.1 fl.2 b01 (fun m m0 m1 => ⟨hwm m m0 m1, by rw [b1', hom m m0 m1]⟩) (fun a j h1 h2 h3 => by rw [y1 a j (by unfold SCc; omega), k5' a j (by omega) (by omega)]) (by rw [y1 _ _ (by unfold SCc; omega)]; exact u0) (by rw [y1 _ _ (by unfold SCc; omega)]; exact u1) (by rw [y1 _ _ (by unfold SCc; omega)]; exact u2) (by rw [y1 _ _ (by unfold SCc; omega)]; exact u3) (by rw [y1 _ _ (by unfold SCc; omega)]; exact u4)
  exact ih _ _ (by omega) ⟨by omega, x1, fun a j ha => by rw [y1 a j (by unfold SCp at ha; unfold SCc; omega), k5' a j (by unfold SCp at ha; omega) (by unfold SCp at ha; omega), i2 a j ha], sm_next sm5 hn hr hf (by omega) x0 (by omega) fl.1 fl.2 hwm x3 y2 y3, n + 1, pc, kc2⟩
