/-! the days, pure -/
def stp (w : Int → Int) (k i : Int) : Int := w (270 + 6 * k + i)
def dOK (w : Int → Int) (k : Int) : Prop :=
  ((stp w k 0 = 10 ∨ stp w k 0 = 16) ∧ 0 ≤ stp w k 1 ∧ stp w k 1 < w 3) ∨
  ((stp w k 0 = 17 ∨ stp w k 0 = 19) ∧ 0 ≤ stp w k 1 ∧ stp w k 1 < w 5 ∧ 0 ≤ stp w k 2 ∧ stp w k 2 < w 5) ∨
  (stp w k 0 = 18 ∧ 0 ≤ stp w k 1 ∧ stp w k 1 < w 5 ∧ 0 ≤ stp w k 2 ∧ stp w k 2 < w 5 ∧ 1 ≤ stp w k 3 ∧ stp w k 3 ≤ 999) ∨
  (stp w k 0 = 20 ∧ 0 ≤ stp w k 1 ∧ stp w k 1 ≤ 999) ∨ (stp w k 0 = 21 ∧ 0 ≤ stp w k 1 ∧ stp w k 1 ≤ 16) ∨ stp w k 0 = 22 ∨ stp w k 0 = 26 ∨
  (stp w k 0 = 24 ∧ 1 ≤ stp w k 1 ∧ stp w k 1 ≤ 99 ∧ k < stp w k 4 ∧ stp w k 4 < w 9) ∨
  (stp w k 0 = 25 ∧ 0 ≤ stp w k 4 ∧ stp w k 4 < k ∧ (stp w (stp w k 4) 0 = 24 ∨ 2300 ≤ stp w (stp w k 4) 0) ∧ (stp w k 4 + 1 = k ∨ stp w (stp w k 4 + 1) 0 ≠ 25)) ∨
  (((stp w k 0 = 2310 ∧ 0 ≤ stp w k 1 ∧ stp w k 1 < w 3) ∨ ((stp w k 0 = 2328 ∨ stp w k 0 = 2329) ∧ 0 ≤ stp w k 1 ∧ stp w k 1 < w 5 ∧ 0 ≤ stp w k 2 ∧ stp w k 2 ≤ 9999 ∧ (stp w k 5 = 60 ∨ stp w k 5 = 61 ∨ stp w k 5 = 62))) ∧ k < stp w k 4 ∧ stp w k 4 < w 9)
def WFd (w : Int → Int) : Prop := -1 ≤ w 9 ∧ w 9 ≤ 60 ∧ ∀ k, 0 ≤ k → k < w 9 → dOK w k
def GW (w : Int → Int) : Prop := WF w ∧ WFa w ∧ WFd w
def SameD (w w' : Int → Int) : Prop := w' 9 = w 9 ∧ ∀ j, 270 ≤ j → j < 640 → w' j = w j
theorem sd_stp {w w' : Int → Int} (h : SameD w w') {k i : Int} (k0 : 0 ≤ k) (k1 : k ≤ 60) (i0 : 0 ≤ i) (i1 : i < 6) : stp w' k i = stp w k i := h.2 _ (by omega) (by omega)
theorem wfd_same {w w' : Int → Int} (hd : WFd w) (hv : SameV w w') (hs : SameD w w') : WFd w' := by
  obtain ⟨e1, e2, e3, e4, e5⟩ := sv_n hv
  obtain ⟨d1, d2, d3⟩ := hd
  refine ⟨by rw [hs.1]; exact d1, by rw [hs.1]; exact d2, fun k k0 k1 => ?_⟩
  rw [hs.1] at k1
  have d := d3 k k0 k1
  have s : ∀ i, 0 ≤ i → i < 6 → stp w' k i = stp w k i := fun i i0 i1 => sd_stp hs k0 (by omega) i0 i1
  unfold dOK at d ⊢
  rw [s 0 (by omega) (by omega), s 1 (by omega) (by omega), s 2 (by omega) (by omega), s 3 (by omega) (by omega), s 4 (by omega) (by omega), s 5 (by omega) (by omega), e3, e5, hs.1]
  rcases d with d | d | d | d | d | d | d | d | d | d
  · exact .inl d
  · exact .inr (.inl d)
  · exact .inr (.inr (.inl d))
  · exact .inr (.inr (.inr (.inl d)))
  · exact .inr (.inr (.inr (.inr (.inl d))))
  · exact .inr (.inr (.inr (.inr (.inr (.inl d)))))
  · exact .inr (.inr (.inr (.inr (.inr (.inr (.inl d))))))
  · exact .inr (.inr (.inr (.inr (.inr (.inr (.inr (.inl d)))))))
  · refine .inr (.inr (.inr (.inr (.inr (.inr (.inr (.inr (.inl ?_))))))))
    obtain ⟨p1, p2, p3, p4, p5⟩ := d
    rw [sd_stp hs p2 (by omega) (by omega) (by omega), sd_stp hs (by omega) (by omega) (by omega) (by omega)]
    exact ⟨p1, p2, p3, p4, p5⟩
  · exact .inr (.inr (.inr (.inr (.inr (.inr (.inr (.inr (.inr d))))))))
def drN (x : Int) : Int := (x * 2753 + 10559) % 65536
def pyW (w : Int → Int) (a b : Int) : Int := if leftK w (plc w a) < ow w a b then leftK w (plc w a) else ow w a b
def actW (w : Int → Int) (x k : Int) : Int × (Int → Int) × Int × Int :=
  if stp w k 0 = 10 then (1, upd1 w 7 (clW (w 7) (stp w k 1) 1), x, 0)
  else if stp w k 0 = 16 then (1, upd1 w 7 (clW (w 7) (stp w k 1) 0), x, 0)
  else if stp w k 0 = 17 then (if stp w k 1 = stp w k 2 ∨ 0 < w 8 then (0, w, x, 0) else (1, swapO w (stp w k 1) (stp w k 2), x, 0))
  else if stp w k 0 = 18 then (if stp w k 1 = stp w k 2 ∨ w 8 = 12 ∨ leftK w (plc w (stp w k 1)) < stp w k 3 then (0, w, x, 0) else (1, lendO w (stp w k 1) (stp w k 2) (stp w k 3), x, 0))
  else if stp w k 0 = 19 then (if stp w k 1 = stp w k 2 ∨ w 8 = 12 ∨ pyW w (stp w k 1) (stp w k 2) < 1 then (0, w, x, 0) else (1, lendO w (stp w k 1) (stp w k 2) (pyW w (stp w k 1) (stp w k 2)), x, 0))
  else if stp w k 0 = 20 then (1, upd1 w 0 (stp w k 1), x, 0)
  else if stp w k 0 = 21 then (if drN x / 8 % 16 < stp w k 1 then (1, upd1 w 0 (w 0 / 2), drN x, 1) else (1, w, drN x, 0))
  else if stp w k 0 = 22 then (if w 6 = 99 then (0, w, x, 0) else (1, passO w, x, 0))
  else (1, w, x, 0)
def dOwe (w : Int → Int) (a : Int) : Int := byS w a
def hldW (w : Int → Int) (k : Int) : Bool :=
  if stp w k 0 = 2310 then decide (bt (w 7) (stp w k 1))
  else if stp w k 5 = 60 then decide ((if stp w k 0 = 2328 then dOwe w (stp w k 1) else ac w (stp w k 1)) < stp w k 2)
  else if stp w k 5 = 62 then decide (stp w k 2 < (if stp w k 0 = 2328 then dOwe w (stp w k 1) else ac w (stp w k 1)))
  else decide ((if stp w k 0 = 2328 then dOwe w (stp w k 1) else ac w (stp w k 1)) = stp w k 2)
theorem sv_u' {w : Int → Int} {i x : Int} (h : i = 0 ∨ i = 7) : SameD w (upd1 w i x) := ⟨by rw [upd1_at, if_neg (by omega)], fun j j0 j1 => by rw [upd1_at, if_neg (by omega)]⟩
theorem wfa_k {w w' : Int → Int} (h : WFa w) (h6 : w' 6 = w 6) (ha : ∀ j, 258 ≤ j → j < 268 → w' j = w j) : WFa w' := fun f f0 f1 => by
  rw [h6, show ac w' f = ac w f from ha _ (by omega) (by omega)]; exact h f f0 f1
theorem gw_k {w w' : Int → Int} (h : GW w) (hw : WF w') (hv : SameV w w') (hs : SameD w w') (h6 : w' 6 = w 6) (ha : ∀ j, 258 ≤ j → j < 268 → w' j = w j) : GW w' := ⟨hw, wfa_k h.2.1 h6 ha, wfd_same h.2.2 hv hs⟩
theorem gw_u {w : Int → Int} (h : GW w) {i x : Int} (hi : i = 7 ∨ i = 0 ∧ 0 ≤ x ∧ x ≤ 999) : GW (upd1 w i x) ∧ SameV w (upd1 w i x) ∧ SameD w (upd1 w i x) := by
  have u := wf_u h.1 hi
  exact ⟨gw_k h u.1 u.2.1 (sv_u' (by omega)) (by rw [upd1_at, if_neg (by omega)]) (fun j j0 j1 => by rw [upd1_at, if_neg (by omega)]), u.2.1, sv_u' (by omega)⟩
theorem gw_swap {w : Int → Int} (h : GW w) {a b : Int} (a0 : 0 ≤ a) (a1 : a < w 5) (b0 : 0 ≤ b) (b1 : b < w 5) (h8 : w 8 = 0) : GW (swapO w a b) ∧ SameV w (swapO w a b) ∧ SameD w (swapO w a b) := by
  have L := wf_l h.1
  obtain ⟨p0, p1, p2⟩ := plc_of h.1.2.2.2.1 a0 a1
  obtain ⟨q0, q1, q2⟩ := plc_of h.1.2.2.2.1 b0 b1
  have ws := swap_wf h.1 p0 p1 q0 q1 h8
  rw [p2, q2] at ws
  have o : ∀ j, j < 112 ∨ 122 ≤ j → swapO w a b j = w j := fun j hj => swapO_o hj (by omega)
  have sv : SameV w (swapO w a b) := swapO_v (by omega)
  have sd : SameD w (swapO w a b) := ⟨o _ (by omega), fun j _ _ => o _ (by omega)⟩
  exact ⟨gw_k h ws sv sd (o _ (by omega)) (fun j _ _ => o _ (by omega)), sv, sd⟩
theorem gw_lend {w : Int → Int} (h : GW w) {a b m : Int} (a0 : 0 ≤ a) (a1 : a < w 5) (b0 : 0 ≤ b) (b1 : b < w 5) (hab : a ≠ b) (m0 : 1 ≤ m) (h8 : w 8 < 12) (hm : m ≤ leftK w (plc w a)) (h9 : m ≤ 999 ∨ m ≤ ow w a b) : GW (lendO w a b m) ∧ SameV w (lendO w a b m) ∧ SameD w (lendO w a b m) := by
  have L := wf_l h.1
  have hn := h.1.1
  unfold WFn at hn
  obtain ⟨p0, p1, p2⟩ := plc_of h.1.2.2.2.1 a0 a1
  have l1 : leftK w (plc w a) ≤ 1440 := by
    have := edge_le h.1.1 h.1.2.2.1 h.1.2.2.2.1 (k := plc w a) p0 (by omega)
    have := edge_le h.1.1 h.1.2.2.1 h.1.2.2.2.1 (k := plc w a + 1) (by omega) (by omega)
    unfold leftK; have := lentBy_le h.1.2.2.2.2.1 (od w (plc w a)) (p := w 8) (by omega) (by omega); unfold lentBy; omega
  have ol := (h.1.2.2.2.2.2.1 a b a0 (by omega) b0 (by omega)).1
  have hp : m - paidW w a b m ≤ 999 := by
    unfold paidW
    rcases h9 with x | x
    · split <;> omega
    · rw [if_neg (by omega)]; omega
  have ws := lend_wf h.1 p0 p1 b0 b1 (by rw [p2]; exact hab) m0 (by omega) (by rw [p2]; exact hp) h8 hm
  rw [p2] at ws
  have o : ∀ j, j < 8 ∨ 8 < j ∧ j < 122 ∨ 258 ≤ j → lendO w a b m j = w j := fun j hj => lendO_o a0 (by omega) b0 (by omega) (by omega) h8 hj
  have sv : SameV w (lendO w a b m) := fun k hk => o k (by omega)
  have sd : SameD w (lendO w a b m) := ⟨o _ (by omega), fun j _ _ => o _ (by omega)⟩
  exact ⟨gw_k h ws sv sd (o _ (by omega)) (fun j _ _ => o _ (by omega)), sv, sd⟩
theorem gw_pass {w : Int → Int} (h : GW w) (h6 : w 6 < 99) : GW (passO w) ∧ SameV w (passO w) ∧ SameD w (passO w) := by
  have L := wf_l h.1
  have p := pass_wf h.1 h.2.1 h6
  have o : ∀ j, j < 258 ∨ 268 ≤ j → j ≠ 6 → j ≠ 8 → passO w j = w j := fun j hj h1 h2 => by unfold passO; rw [upd1_at, if_neg h1, upd1_at, if_neg h2, passP_o (by omega)]
  have sv : SameV w (passO w) := fun k hk => o k (by omega) (by omega) (by omega)
  have sd : SameD w (passO w) := ⟨o _ (by omega) (by omega) (by omega), fun j _ _ => o _ (by omega) (by omega) (by omega)⟩
  exact ⟨⟨p.1, p.2, wfd_same h.2.2 sv sd⟩, sv, sd⟩
theorem same_r (w : Int → Int) : SameV w w ∧ SameD w w := ⟨fun _ _ => rfl, rfl, fun _ _ _ => rfl⟩
theorem dr_le {x : Int} : 0 ≤ drN x ∧ drN x < 65536 := by unfold drN; omega
theorem act_ok {w : Int → Int} (h : GW w) {x k : Int} (x0 : 0 ≤ x) (x1 : x < 65536) (k0 : 0 ≤ k) (k1 : k < w 9) : (GW (actW w x k).2.1 ∧ SameV w (actW w x k).2.1 ∧ SameD w (actW w x k).2.1) ∧ (0 ≤ (actW w x k).2.2.1 ∧ (actW w x k).2.2.1 < 65536) ∧ ((actW w x k).1 = 0 ∨ (actW w x k).1 = 1) ∧ ((actW w x k).2.2.2 = 0 ∨ (actW w x k).2.2.2 = 1) := by
  have d := h.2.2.2.2 k k0 k1
  have hn := h.1.1
  unfold WFn at hn
  have sr : GW w ∧ SameV w w ∧ SameD w w := ⟨h, same_r w⟩
  unfold dOK at d
  unfold actW
  by_cases c1 : stp w k 0 = 10
  · rw [if_pos c1]; exact ⟨gw_u h (.inl rfl), ⟨x0, x1⟩, .inr rfl, .inl rfl⟩
  rw [if_neg c1]
  by_cases c2 : stp w k 0 = 16
  · rw [if_pos c2]; exact ⟨gw_u h (.inl rfl), ⟨x0, x1⟩, .inr rfl, .inl rfl⟩
  rw [if_neg c2]
  by_cases c3 : stp w k 0 = 17
  · rw [if_pos c3]
    split
    · exact ⟨sr, ⟨x0, x1⟩, .inl rfl, .inl rfl⟩
    · exact ⟨gw_swap h (by omega) (by omega) (by omega) (by omega) (by omega), ⟨x0, x1⟩, .inr rfl, .inl rfl⟩
  rw [if_neg c3]
  by_cases c4 : stp w k 0 = 18
  · rw [if_pos c4]
    split
    · exact ⟨sr, ⟨x0, x1⟩, .inl rfl, .inl rfl⟩
    · exact ⟨gw_lend h (by omega) (by omega) (by omega) (by omega) (by omega) (by omega) (by omega) (by omega) (by omega), ⟨x0, x1⟩, .inr rfl, .inl rfl⟩
  rw [if_neg c4]
  by_cases c5 : stp w k 0 = 19
  · rw [if_pos c5]
    split
    · exact ⟨sr, ⟨x0, x1⟩, .inl rfl, .inl rfl⟩
    · rename_i cc
      have p : pyW w (stp w k 1) (stp w k 2) ≤ leftK w (plc w (stp w k 1)) ∧ pyW w (stp w k 1) (stp w k 2) ≤ ow w (stp w k 1) (stp w k 2) := by unfold pyW; split <;> omega
      exact ⟨gw_lend h (by omega) (by omega) (by omega) (by omega) (by omega) (by omega) (by omega) p.1 (.inr p.2), ⟨x0, x1⟩, .inr rfl, .inl rfl⟩
  rw [if_neg c5]
  by_cases c6 : stp w k 0 = 20
  · rw [if_pos c6]; exact ⟨gw_u h (.inr ⟨rfl, by omega, by omega⟩), ⟨x0, x1⟩, .inr rfl, .inl rfl⟩
  rw [if_neg c6]
  by_cases c7 : stp w k 0 = 21
  · rw [if_pos c7]
    split
    · exact ⟨gw_u h (.inr ⟨rfl, by omega, by omega⟩), dr_le, .inr rfl, .inr rfl⟩
    · exact ⟨sr, dr_le, .inr rfl, .inl rfl⟩
  rw [if_neg c7]
  by_cases c8 : stp w k 0 = 22
  · rw [if_pos c8]
    split
    · exact ⟨sr, ⟨x0, x1⟩, .inl rfl, .inl rfl⟩
    · exact ⟨gw_pass h (by omega), ⟨x0, x1⟩, .inr rfl, .inl rfl⟩
  rw [if_neg c8]
  exact ⟨sr, ⟨x0, x1⟩, .inr rfl, .inl rfl⟩
/-- w, rounds, line, done, missed, halved, cut, drawn -/
abbrev LfS : Type := (Int → Int) × (Int → Int) × Int × Int × Int × Int × Int × Int
def finS (s : LfS) : Prop := s.1 9 ≤ s.2.2.1 ∨ s.2.2.2.2.2.2.1 ≠ 0
def lifeS : LfS → LfS := fun (w, r, l, d, m, h, c, x) =>
  if w 9 ≤ l ∨ c ≠ 0 then (w, r, l, d, m, h, c, x)
  else if stp w l 0 = 25 then (if stp w (stp w l 4) 0 = 24 ∧ 0 < r (stp w l 4) then (w, upd1 r (stp w l 4) (r (stp w l 4) - 1), stp w l 4 + 1, d, m, h, c, x) else (w, r, l + 1, d, m, h, c, x))
  else if d = 300 then (w, r, l, d, m, h, 1, x)
  else if stp w l 0 = 26 then (w, r, w 9, d + 1, m, h, c, x)
  else ((actW w x l).2.1, if stp w l 0 = 24 then upd1 r l (stp w l 1 - 1) else r, if 2300 ≤ stp w l 0 ∧ hldW (actW w x l).2.1 l = false then stp w l 4 + 1 else l + 1, d + 1, m + (1 - (actW w x l).1), h + (actW w x l).2.2.2, c, (actW w x l).2.2.1)
def itS (s : LfS) : Nat → LfS
  | 0 => s
  | n + 1 => lifeS (itS s n)
theorem lifeS_f {s : LfS} (h : finS s) : lifeS s = s := by
  obtain ⟨w, r, l, d, m, hh, c, x⟩ := s
  unfold finS at h
  simp only at h
  simp only [lifeS]
  rw [if_pos h]
theorem itS_f {s : LfS} {i : Nat} (h : finS (itS s i)) : ∀ d : Nat, itS s (i + d) = itS s i := by
  intro d
  induction d with
  | zero => rfl
  | succ d ih =>
    show lifeS (itS s (i + d)) = itS s i
    rw [ih, lifeS_f h]
def LI (w0 : Int → Int) (s : LfS) : Prop := (GW s.1 ∧ SameV w0 s.1 ∧ SameD w0 s.1 ∧ w0 6 ≤ s.1 6) ∧ (0 ≤ s.2.2.1 ∧ s.2.2.1 ≤ 60) ∧ (0 ≤ s.2.2.2.1 ∧ s.2.2.2.1 ≤ 300) ∧ (0 ≤ s.2.2.2.2.1 ∧ s.2.2.2.2.1 ≤ s.2.2.2.1) ∧ (0 ≤ s.2.2.2.2.2.1 ∧ s.2.2.2.2.2.1 ≤ s.2.2.2.1) ∧ (s.2.2.2.2.2.2.1 = 0 ∨ s.2.2.2.2.2.2.1 = 1) ∧ (0 ≤ s.2.2.2.2.2.2.2 ∧ s.2.2.2.2.2.2.2 < 65536) ∧ ∀ k, 0 ≤ k → k < 60 → 0 ≤ s.2.1 k ∧ s.2.1 k ≤ 98
theorem act_6 {w : Int → Int} (h : GW w) {x k : Int} (k0 : 0 ≤ k) (k1 : k < w 9) : w 6 ≤ (actW w x k).2.1 6 := by
  have L := wf_l h.1
  have d := h.2.2.2.2 k k0 k1
  have hn := h.1.1
  unfold WFn at hn
  unfold dOK at d
  have u : ∀ i y, i = 0 ∨ i = 7 → w 6 ≤ upd1 w i y 6 := fun i y hi => by rw [upd1_at, if_neg (by omega)]; omega
  have l8 : ∀ a b m, 0 ≤ a → a < 10 → 0 ≤ b → b < 10 → w 8 < 12 → w 6 ≤ lendO w a b m 6 := fun a b m a0 a1 b0 b1 h8 => by rw [lendO_o a0 a1 b0 b1 (by omega) h8 (by omega)]; omega
  unfold actW
  split
  · simp only; exact u 7 _ (.inr rfl)
  split
  · simp only; exact u 7 _ (.inr rfl)
  split
  · split
    · simp
    · simp only
      rw [swapO_o (by omega) (by omega)]; omega
  split
  · split
    · simp
    · simp only; exact l8 _ _ _ (by omega) (by omega) (by omega) (by omega) (by omega)
  split
  · split
    · simp
    · simp only; exact l8 _ _ _ (by omega) (by omega) (by omega) (by omega) (by omega)
  split
  · simp only; exact u 0 _ (.inl rfl)
  split
  · split
    · simp only; exact u 0 _ (.inl rfl)
    · simp
  split
  · split
    · simp
    · show w 6 ≤ passO w 6
      rw [passO_6]; omega
  · simp
theorem lifeS_i {w0 : Int → Int} {s : LfS} (h : LI w0 s) : LI w0 (lifeS s) := by
  obtain ⟨w, r, l, d, m, hv, c, x⟩ := s
  obtain ⟨⟨g1, g2, g3, g4⟩, hl, hd, hm, hh, hc, hx, hr⟩ := h
  simp only at g1 g2 g3 g4 hl hd hm hh hc hx hr
  simp only [lifeS]
  by_cases c0 : w 9 ≤ l ∨ c ≠ 0
  · rw [if_pos c0]; exact ⟨⟨g1, g2, g3, g4⟩, hl, hd, hm, hh, hc, hx, hr⟩
  rw [if_neg c0]
  have w9 := g1.2.2.2.1
  have dk := g1.2.2.2.2 l hl.1 (by omega)
  unfold dOK at dk
  by_cases c1 : stp w l 0 = 25
  · rw [if_pos c1]
    split
    · rename_i c2
      refine ⟨⟨g1, g2, g3, g4⟩, ⟨by simp only; omega, by simp only; omega⟩, hd, hm, hh, hc, hx, fun k k0 k1 => ?_⟩
      have := hr k k0 k1
      simp only [upd1_at]
      by_cases e : k = stp w l 4
      · rw [if_pos e]; rw [e] at this; omega
      · rw [if_neg e]; exact this
    · exact ⟨⟨g1, g2, g3, g4⟩, ⟨by simp only; omega, by simp only; omega⟩, hd, hm, hh, hc, hx, hr⟩
  rw [if_neg c1]
  by_cases c2 : d = 300
  · rw [if_pos c2]; exact ⟨⟨g1, g2, g3, g4⟩, hl, hd, hm, hh, .inr rfl, hx, hr⟩
  rw [if_neg c2]
  by_cases c3 : stp w l 0 = 26
  · rw [if_pos c3]; exact ⟨⟨g1, g2, g3, g4⟩, ⟨by simp only; omega, by simp only; omega⟩, ⟨by simp only; omega, by simp only; omega⟩, ⟨by simp only; omega, by simp only; omega⟩, ⟨by simp only; omega, by simp only; omega⟩, hc, hx, hr⟩
  rw [if_neg c3]
  have a := act_ok g1 hx.1 hx.2 hl.1 (show l < w 9 by omega)
  have a6 := act_6 g1 (x := x) hl.1 (show l < w 9 by omega)
  refine ⟨⟨a.1.1, fun k hk => by simp only; rw [a.1.2.1 k hk, g2 k hk], ⟨by simp only; rw [a.1.2.2.1, g3.1], fun j j0 j1 => by simp only; rw [a.1.2.2.2 j j0 j1, g3.2 j j0 j1]⟩, by simp only; omega⟩, ?_, ⟨by simp only; omega, by simp only; omega⟩, ⟨by simp only; omega, by simp only; omega⟩, ⟨by simp only; omega, by simp only; omega⟩, hc, a.2.1, fun k k0 k1 => ?_⟩
  · simp only
    split
    · omega
    · omega
  · simp only
    split
    · rw [upd1_at]
      split
      · omega
      · exact hr k k0 k1
    · exact hr k k0 k1
def ini (w r : Int → Int) (x : Int) : LfS := (w, r, 0, 0, 0, 0, 0, x)
theorem itS_i {w r : Int → Int} {x : Int} (h : GW w) (x0 : 0 ≤ x) (x1 : x ≤ 9999) (hr : ∀ k, 0 ≤ k → k < 60 → 0 ≤ r k ∧ r k ≤ 98) : ∀ n, LI w (itS (ini w r x) n) := by
  intro n
  induction n with
  | zero => exact ⟨⟨h, (same_r w).1, (same_r w).2, Int.le_refl _⟩, ⟨Int.le_refl 0, show (0 : Int) ≤ 60 by decide⟩, ⟨Int.le_refl 0, show (0 : Int) ≤ 300 by decide⟩, ⟨Int.le_refl 0, Int.le_refl 0⟩, ⟨Int.le_refl 0, Int.le_refl 0⟩, .inl rfl, ⟨x0, by show x < 65536; omega⟩, hr⟩
  | succ n ih => exact lifeS_i ih
