/-! live, lived -/
def livedQ (b : Int) (g : Int → Int) (x : Int) : Ans := if 0 ≤ x ∧ x ≤ 3 then (if b = 0 then (-1, 6, none) else (g x, 0, none)) else (-1, 1, none)
theorem c_lived {M : Mem} (p7 : M 1 7 = 84) (l84 : M 84 (-1) = 4) (x : Int) : Tot (f_X11_lived 1 x M) (AC (livedQ (M 1 10) (M 84) x) M) := by
  unfold f_X11_lived livedQ
  rw [isWithin_e, t_callp, t_some, t_ite, n10]
  refine ⟨fun h1 => ?_, fun h1 => by rw [if_neg h1]; exact zCr (kc M) 1⟩
  rw [if_pos h1, t_getf, t_jn, t_ite]
  refine ⟨by decide, fun h2 => by rw [if_pos h2]; exact zCr (kc M) 6, fun h2 => ?_⟩
  rw [if_neg h2, t_getf, p7, t_geti, l84]
  exact ⟨by decide, by decide, h1.1, by omega, zCa (kc M) _⟩
theorem r_lived {M : Mem} (h : LR M) (x : Int) : Tot (f_X12_lived 119 x M) (AR (livedQ (M 119 41) (M 136) x) M) := by
  have p40 : M 119 40 = 136 := h.1.2.2.2.2.2.2.2.2.2.2.2.2.2.2.2.2
  have l136 : M 136 (-1) = 4 := h.2.2.2.2.2.2.2.2.2.2.2.2.2.2.2.2.2
  unfold f_X12_lived livedQ
  rw [t_jn, t_jn, t_ite, t_ite, t_getf, t_ite]
  refine ⟨fun h1 => by rw [if_neg (by omega)]; exact zRr (kr M) 1, fun h1 => ⟨fun h2 => ⟨by decide, fun h3 => by rw [if_pos (by omega), if_pos h3]; exact zRr (kr M) 6, fun h3 => ?_⟩, fun h2 => by rw [if_neg (by omega)]; exact zRr (kr M) 1⟩⟩
  rw [if_pos (by omega), if_neg h3, t_getf, p40, t_geti, l136]
  exact ⟨by decide, by decide, by omega, by omega, zRa (kr M) _⟩
theorem ci_o {M N : Mem} {v : Int} {w : Int → Int} (hn : w 3 ≤ 10) (hf : w 5 ≤ 10) (h : CI M v w) (e1 : ∀ a j, (a = 1 ∧ (j = 2 ∨ j = 3)) ∨ (13 ≤ a ∧ a ≤ 39) ∨ (48 ≤ a ∧ a ≤ 73) ∨ (85 ≤ a ∧ a ≤ 110) → N a j = M a j) : CI N v w := by
  obtain ⟨h1, h2, h3, h4, h5, h6, h7⟩ := h
  refine ⟨h1, ?_, lv_keep h3 (fun a k x y => e1 a k (by omega)), ls_keep h4 (fun a k x y => e1 a k (by omega)), lw_keep h5 (fun a k x y _ => e1 a k (by omega)), rv_keep hn hf h6 (fun a k x y => e1 a k (by omega)), rs_keep h7 (fun a k x y => e1 a k (by omega))⟩
  obtain ⟨a1, a2, a3, a4⟩ := h2
  refine ⟨?_, ?_, ?_, ?_⟩ <;> rw [e1 _ _ (by omega)] <;> assumption
/-- what a life leaves behind: class -/
def LvC (M M' : Mem) (v d : Int) (w : Int → Int) (s : LfS) (B : Int) : Prop := (∀ a j, ¬ SW a j → a ≠ 74 → a ≠ 75 → ¬ (a = 84 ∧ 0 ≤ j) → ¬ (a = 1 ∧ (j = 10 ∨ j = 12)) → M' a j = M a j) ∧ CI M' v s.1 ∧ CD M' d s.1 ∧ (M' 74 6 = 75 ∧ M' 75 (-1) = 60) ∧ (∀ k, 0 ≤ k → k < 60 → RLB B (M' 75 k) (s.2.1 k)) ∧ (M' 84 0 = s.1 6 - w 6 ∧ M' 84 1 = s.2.2.2.2.1 ∧ M' 84 2 = s.2.2.2.2.2.1 ∧ M' 84 3 = s.2.2.2.2.2.2.1) ∧ M' 1 10 = 1 ∧ M' 1 12 = 0
theorem c_live {M : Mem} {v d : Int} {w r : Int → Int} {B : Int} {Q : Int × Mem → Prop} (hc : CI M v w) (hg : GW w) (hd : CD M d w) (p4 : M 1 4 = 74) (p7 : M 1 7 = 84) (l84 : M 84 (-1) = 4) (p6 : M 74 6 = 75) (p75 : M 75 (-1) = 60) (B0 : 0 ≤ B) (B1 : B ≤ 2000000000) (hr : ∀ k, 0 ≤ k → k < 60 → (0 ≤ r k ∧ r k ≤ 98) ∧ RLB B (M 75 k) (r k)) (x : Int) (h1 : ¬ (0 ≤ x ∧ x ≤ 9999) → Q (-1, upd2 M 1 12 1)) (h2 : 0 ≤ x ∧ x ≤ 9999 → w 9 = -1 → Q (-1, upd2 M 1 12 6)) (h3 : 0 ≤ x ∧ x ≤ 9999 → w 9 ≠ -1 → ∀ M', LvC M M' v d w (itS (ini w r x) 100000) (B + 100000) → Q ((itS (ini w r x) 100000).2.2.2.1, M')) : Tot (f_X11_live 1 x M) Q := by
  obtain ⟨a, b, c, dd, e⟩ := ci_p hc
  have hd1 := hd.2.1
  have hd0 := hd.1
  have hr0 := hd.2.2.2.1
  unfold f_X11_live
  rw [isWithin_e, t_callp, t_some, t_ite, n10]
  refine ⟨fun c1 => ?_, fun c1 => ?_⟩
  rotate_left
  · rw [refuse_e, t_call, t_some, t_some]; exact h1 c1
  rw [t_getf, a, t_getf, hd1, t_getf, hr0, t_ite]
  refine ⟨by decide, by decide, by omega, fun c2 => ?_, fun c2 => ?_⟩
  rotate_left
  · rw [refuse_e, t_call, t_some, t_some]
    refine h2 c1 ?_
    by_cases h9 : w 9 = -1
    · exact h9
    · rw [if_neg h9] at c2; exact absurd (by decide) c2
  have h9 : w 9 ≠ -1 := fun h9 => by rw [if_pos h9] at c2; exact c2 rfl
  have H := h3 c1 h9
  have li := itS_i (w := w) (r := r) hg c1.1 c1.2 (fun k a b => (hr k a b).1) 100000
  rw [t_getf, p4, t_getf, a, t_getf, b, t_nn, t_callv]
  refine ⟨by decide, by decide, by decide, by decide, run_e hc hg hd p6 p75 B0 B1 c1.1 c1.2 h9 hr (fun N en ps => ?_)⟩
  obtain ⟨s, es⟩ : ∃ s, s = itS (ini w r x) 100000 := ⟨_, rfl⟩
  rw [← es] at en ps H li
  obtain ⟨f1, f2, f3, ⟨f4, f5, f6, f7, f8⟩, ⟨f9, f10⟩, f11⟩ := en
  have hn := li.1.1.1.1
  unfold WFn at hn
  have hcut := li.2.2.2.2.2.1
  have q7 : N 1 7 = 84 := by rw [f1 _ _ (by unfold SW SC; omega) (by decide) (by decide)]; exact p7
  have q4 : N 1 4 = 74 := by rw [f1 _ _ (by unfold SW SC; omega) (by decide) (by decide)]; exact p4
  have q84 : N 84 (-1) = 4 := by rw [f1 _ _ (by unfold SW SC; omega) (by decide) (by decide)]; exact l84
  rw [t_getf, q7, t_getf, q4, t_getf, ps, t_seti, q84]
  refine ⟨by decide, by decide, by decide, by decide, by decide, by decide, ?_⟩
  obtain ⟨N1, e1⟩ : ∃ X, X = upd2 N 84 0 (s.1 6 - w 6) := ⟨_, rfl⟩
  have k1 : ∀ a j, ¬ (a = 84 ∧ 0 ≤ j) → N1 a j = N a j := fun a j h => by rw [e1, upd2_at, if_neg (by omega)]
  rw [← e1, t_getf, k1 _ _ (by omega), q7, t_getf, k1 _ _ (by omega), q4, t_getf, k1 _ _ (by omega), f5, t_seti, k1 _ _ (by omega), q84]
  refine ⟨by decide, by decide, by decide, by decide, by decide, by decide, ?_⟩
  obtain ⟨N2, e2⟩ : ∃ X, X = upd2 N1 84 1 s.2.2.2.2.1 := ⟨_, rfl⟩
  have k2 : ∀ a j, ¬ (a = 84 ∧ 0 ≤ j) → N2 a j = N a j := fun a j h => by rw [e2, upd2_at, if_neg (by omega), k1 a j h]
  rw [← e2, t_getf, k2 _ _ (by omega), q7, t_getf, k2 _ _ (by omega), q4, t_getf, k2 _ _ (by omega), f6, t_seti, k2 _ _ (by omega), q84]
  refine ⟨by decide, by decide, by decide, by decide, by decide, by decide, ?_⟩
  obtain ⟨N3, e3⟩ : ∃ X, X = upd2 N2 84 2 s.2.2.2.2.2.1 := ⟨_, rfl⟩
  have k3 : ∀ a j, ¬ (a = 84 ∧ 0 ≤ j) → N3 a j = N a j := fun a j h => by rw [e3, upd2_at, if_neg (by omega), k2 a j h]
  rw [← e3, t_getf, k3 _ _ (by omega), q7, t_getf, k3 _ _ (by omega), q4, t_getf, k3 _ _ (by omega), f7]
  refine ⟨by decide, by decide, by decide, t_jv s.2.2.2.2.2.2.1 ?_ (fun j hj => ?_)⟩
  rotate_left
  · rw [t_ite]
    exact ⟨fun hz => by rw [hz] at hj; exact hj, fun hz => by rw [show s.2.2.2.2.2.2.1 = 1 by omega] at hj; exact hj⟩
  rw [t_seti, k3 _ _ (by omega), q84, t_putz]
  refine ⟨by decide, by decide, by decide, by decide, .inr rfl, ?_⟩
  obtain ⟨N4, e4⟩ : ∃ X, X = upd2 (upd2 N3 84 3 s.2.2.2.2.2.2.1) 1 10 1 := ⟨_, rfl⟩
  have k4 : ∀ a j, ¬ (a = 84 ∧ 0 ≤ j) → ¬ (a = 1 ∧ j = 10) → N4 a j = N a j := fun a j h h' => by rw [e4, upd2_at, if_neg h', upd2_at, if_neg (by omega), k3 a j h]
  rw [← e4, t_getf, k4 _ _ (by omega) (by omega), q4, t_getf, k4 _ _ (by omega) (by omega), f4, answer_e, t_call, t_some, t_some]
  have k5 : ∀ a j, ¬ (a = 84 ∧ 0 ≤ j) → ¬ (a = 1 ∧ (j = 10 ∨ j = 12)) → upd2 N4 1 12 0 a j = N a j := fun a j h h' => by rw [upd2_at, if_neg (by omega), k4 a j h (by omega)]
  have v84 : ∀ j, upd2 N4 1 12 0 84 j = N4 84 j := fun j => by rw [upd2_at, if_neg (by omega)]
  refine ⟨by decide, by decide, H (upd2 N4 1 12 0) ⟨fun a j h1 h2 h3 h4 h5 => by rw [k5 a j h4 h5, f1 a j h1 h2 h3], ci_o (by omega) (by omega) f2 (fun a j h1 => k5 a j (by omega) (by omega)), cd_k f3 li.1.1.2.2.2.1 (same_r _).2 (fun a j h => k5 a j (by omega) (by omega)), ⟨by rw [k5 _ _ (by omega) (by omega)]; exact f9, by rw [k5 _ _ (by omega) (by omega)]; exact f10⟩, fun k ka kb => by rw [k5 _ _ (by omega) (by omega)]; exact f11 k ka kb, ⟨?_, ?_, ?_, ?_⟩, ?_, by rw [upd2_at, if_pos ⟨rfl, rfl⟩]⟩⟩
  · rw [v84, e4, upd2_at, if_neg (by decide), upd2_at, if_neg (by decide), e3, upd2_at, if_neg (by decide), e2, upd2_at, if_neg (by decide), e1, upd2_at, if_pos ⟨rfl, rfl⟩]
  · rw [v84, e4, upd2_at, if_neg (by decide), upd2_at, if_neg (by decide), e3, upd2_at, if_neg (by decide), e2, upd2_at, if_pos ⟨rfl, rfl⟩]
  · rw [v84, e4, upd2_at, if_neg (by decide), upd2_at, if_neg (by decide), e3, upd2_at, if_pos ⟨rfl, rfl⟩]
  · rw [v84, e4, upd2_at, if_neg (by decide), upd2_at, if_pos ⟨rfl, rfl⟩]
  · rw [upd2_at, if_neg (by decide), e4, upd2_at, if_pos ⟨rfl, rfl⟩]
/-- what a life leaves behind: reference -/
def LvR (M M' : Mem) (w : Int → Int) (s : LfS) : Prop := (∀ a j, ¬ SRl a j → ¬ (a = 136 ∧ 0 ≤ j) → ¬ (a = 119 ∧ (j = 2 ∨ j = 41)) → M' a j = M a j) ∧ RI M' s.1 (-1) ∧ (∀ k, 0 ≤ k → k < 60 → M' 134 k = s.2.1 k) ∧ (M' 136 0 = s.1 6 - w 6 ∧ M' 136 1 = s.2.2.2.2.1 ∧ M' 136 2 = s.2.2.2.2.2.1 ∧ M' 136 3 = s.2.2.2.2.2.2.1) ∧ M' 119 41 = 1 ∧ M' 119 2 = 0
theorem r_live {M : Mem} {w r : Int → Int} {Q : Int × Mem → Prop} (h : RI M w (-1)) (hg : GW w) (hr : ∀ k, 0 ≤ k → k < 60 → (0 ≤ r k ∧ r k ≤ 98) ∧ M 134 k = r k) (x : Int) (h1 : ¬ (0 ≤ x ∧ x ≤ 9999) → Q (-1, upd2 M 119 2 1)) (h2 : 0 ≤ x ∧ x ≤ 9999 → w 9 = -1 → Q (-1, upd2 M 119 2 6)) (h3 : 0 ≤ x ∧ x ≤ 9999 → w 9 ≠ -1 → ∀ M', LvR M M' w (itS (ini w r x) 100000) → Q ((itS (ini w r x) 100000).2.2.2.1, M')) : Tot (f_X12_live 119 x M) Q := by
  obtain ⟨a, b, ww⟩ := ri_at h
  unfold f_X12_live
  rw [isFrom_e, t_callp, t_some, t_ite, n10]
  refine ⟨fun c1 => ?_, fun c1 => ?_⟩
  rotate_left
  · rw [refuseR_e, t_call, t_some, t_some]; exact h1 c1
  rw [t_getf, a, t_geti, b, ww, t_ite]
  refine ⟨by decide, by decide, by decide, by decide, fun c2 => ?_, fun c2 => ?_⟩
  rotate_left
  · rw [refuseR_e, t_call, t_some, t_some]; exact h2 c1 (by simpa using c2)
  have H := h3 c1 c2
  have li := itS_i (w := w) (r := r) hg c1.1 c1.2 (fun k a b => (hr k a b).1) 100000
  rw [t_callv]
  refine lives_e h hg c2 c1.1 c1.2 hr (fun N en => ?_)
  obtain ⟨s, es⟩ : ∃ s, s = itS (ini w r x) 100000 := ⟨_, rfl⟩
  rw [← es] at en H li
  obtain ⟨f1, f2, ⟨f3, f4⟩, ⟨f5, f6, f7, f8⟩, f9⟩ := en
  have p40 : N 119 40 = 136 := f2.1.1.2.2.2.2.2.2.2.2.2.2.2.2.2.2.2.2
  have l136 : N 136 (-1) = 4 := f2.1.2.2.2.2.2.2.2.2.2.2.2.2.2.2.2.2.2
  have p39 : N 119 39 = 135 := f2.1.1.2.2.2.2.2.2.2.2.2.2.2.2.2.2.2.1
  have l135 : N 135 (-1) = 4 := f2.1.2.2.2.2.2.2.2.2.2.2.2.2.2.2.2.2.1
  refine lpIM (fun p X => 0 ≤ p ∧ p ≤ 4 ∧ (∀ a j, ¬ (a = 136 ∧ 0 ≤ j) → X a j = N a j) ∧ ∀ k, 0 ≤ k → k < p → X 136 k = N 135 k) (fun p _ => (4 - p).toNat) ?_ (by unfold KF; omega) ⟨by omega, by omega, fun _ _ _ => rfl, fun k a b => by omega⟩
  rintro fu p X ⟨u0, u1, u2, u3⟩ ih
  unfold f_X12_live_L43
  rw [t_ite]
  refine ⟨fun c0 => ?_, fun c0 => ?_⟩
  · rw [t_putz, t_getf, upd2_at, if_neg (by decide), u2 _ _ (by omega), f4, gives_e, t_call, t_some, t_some]
    refine ⟨by decide, .inr rfl, by decide, ?_⟩
    have k1 : ∀ a j, ¬ (a = 119 ∧ (j = 2 ∨ j = 41)) → upd2 (upd2 X 119 41 1) 119 2 0 a j = X a j := fun a j hh => by rw [upd2_at, if_neg (by omega), upd2_at, if_neg (by omega)]
    refine H (upd2 (upd2 X 119 41 1) 119 2 0) ⟨fun a j x1 x2 x3 => by rw [k1 a j x3, u2 a j x2, f1 a j x1], ?_, fun k ka kb => by rw [k1 _ _ (by omega), u2 _ _ (by omega)]; exact f9 k ka kb, ⟨?_, ?_, ?_, ?_⟩, by rw [upd2_at, if_neg (by decide), upd2_at, if_pos ⟨rfl, rfl⟩], by rw [upd2_at, if_pos ⟨rfl, rfl⟩]⟩
    · refine ⟨lr_keep1 f2.1 (fun a j x1 x2 => by rw [k1 a j (by omega), u2 a j (by omega)]), ?_, by rw [k1 _ _ (by omega), u2 _ _ (by omega)]; exact f2.2.2⟩
      rw [← f2.2.1]; exact funext fun j => by rw [k1 _ _ (by omega), u2 _ _ (by omega)]
    · rw [k1 _ _ (by omega), u3 0 (by omega) (by omega)]; exact f5
    · rw [k1 _ _ (by omega), u3 1 (by omega) (by omega)]; exact f6
    · rw [k1 _ _ (by omega), u3 2 (by omega) (by omega)]; exact f7
    · rw [k1 _ _ (by omega), u3 3 (by omega) (by omega)]; exact f8
  · rw [t_getf, u2 _ _ (by omega), p40, t_getf, u2 _ _ (by omega), p39, t_geti, u2 _ _ (by omega), l135, u2 _ _ (by omega), t_seti, u2 _ _ (by omega), l136, w32_s (by omega) (by omega)]
    refine ⟨by decide, by decide, by decide, u0, by omega, by decide, u0, by omega, ih _ _ (by omega) ⟨by omega, by omega, fun a j ha => by rw [upd2_at, if_neg (by omega), u2 a j ha], fun k ka kb => ?_⟩⟩
    rw [upd2_at]
    by_cases ek : k = p
    · rw [if_pos ⟨rfl, ek⟩, ek]
    · rw [if_neg (fun hh => ek hh.2)]; exact u3 k ka (by omega)
