/-! odds -/
def LvL (w : Int → Int) (L : (Int → Int) → Int → LfS) : Prop := ∀ r x, itS (ini w r x) 100000 = L r x
def odZ (L : (Int → Int) → Int → LfS) (f lit sd : Int) (r : Int → Int) (n : Int) : Int × (Int → Int) := foldZ (fun k p => (p.1 + (if lit ≤ ac (L p.2 (sd + k)).1 f then 1 else 0), (L p.2 (sd + k)).2.1)) (0, r) n
theorem odZ_s {L : (Int → Int) → Int → LfS} {f lit sd : Int} {r : Int → Int} {k : Int} (h : 0 ≤ k) : odZ L f lit sd r (k + 1) = ((odZ L f lit sd r k).1 + (if lit ≤ ac (L (odZ L f lit sd r k).2 (sd + k)).1 f then 1 else 0), (L (odZ L f lit sd r k).2 (sd + k)).2.1) := foldZ_s _ _ h
theorem odZ_i {w : Int → Int} {L : (Int → Int) → Int → LfS} (hL : LvL w L) (hg : GW w) {f lit sd n : Int} {r : Int → Int} (s0 : 0 ≤ sd) (s1 : sd + n ≤ 10000) (hr : ∀ k, 0 ≤ k → k < 60 → 0 ≤ r k ∧ r k ≤ 98) {k : Int} (k0 : 0 ≤ k) (k1 : k ≤ n) : (0 ≤ (odZ L f lit sd r k).1 ∧ (odZ L f lit sd r k).1 ≤ k) ∧ ∀ j, 0 ≤ j → j < 60 → 0 ≤ (odZ L f lit sd r k).2 j ∧ (odZ L f lit sd r k).2 j ≤ 98 := by
  refine foldZ_inv (fun k (p : Int × (Int → Int)) => (0 ≤ p.1 ∧ p.1 ≤ k) ∧ ∀ j, 0 ≤ j → j < 60 → 0 ≤ p.2 j ∧ p.2 j ≤ 98) ⟨⟨by simp, by simp⟩, hr⟩ (n := n) (fun k p hk hk1 hp => ?_) k0 k1
  have li := itS_i (w := w) (r := p.2) (x := sd + k) hg (by omega) (by omega) hp.2 100000
  rw [hL] at li
  refine ⟨?_, li.2.2.2.2.2.2.2⟩
  have := hp.1
  have b := i01 (c := lit ≤ ac (L p.2 (sd + k)).1 f)
  constructor
  · show 0 ≤ p.1 + (if lit ≤ ac (L p.2 (sd + k)).1 f then 1 else 0)
    omega
  · show p.1 + (if lit ≤ ac (L p.2 (sd + k)).1 f then 1 else 0) ≤ k + 1
    omega
theorem sv_sym {w w' : Int → Int} (h : SameV w w') : SameV w' w := fun k hk => (h k hk).symm
theorem sd_sym {w w' : Int → Int} (h : SameD w w') : SameD w' w := ⟨h.1.symm, fun j a b => (h.2 j a b).symm⟩
theorem tk_rs {M : Mem} {t s : Int} {w : Int → Int} (hts : t + 6 < s ∨ s + 6 < t) (hn : WFn w) (h : RS M s w) : RS (tkM M t s) t w := by
  unfold WFn at hn
  obtain ⟨⟨a1, a2, a3, a4⟩, b, c, d, g⟩ := h
  have v0 : ∀ j, 0 ≤ j → j < 4 → tkM M t s t j = M s j := fun j j0 j1 => by unfold tkM; rw [if_pos ⟨rfl, j0, j1⟩]
  have v1 : ∀ j, 0 ≤ j → j < 10 → tkM M t s (t + 1) j = M (s + 1) j := fun j j0 j1 => by unfold tkM; rw [if_neg (by omega), if_pos ⟨rfl, j0, j1⟩]
  have v2 : ∀ j, 0 ≤ j → j < 12 → tkM M t s (t + 2) j = M (s + 2) j := fun j j0 j1 => by unfold tkM; rw [if_neg (by omega), if_neg (by omega), if_pos ⟨rfl, j0, j1⟩]
  have v3 : ∀ j, 0 ≤ j → j < 12 → tkM M t s (t + 3) j = M (s + 3) j := fun j j0 j1 => by unfold tkM; rw [if_neg (by omega), if_neg (by omega), if_neg (by omega), if_pos ⟨rfl, j0, j1⟩]
  have v4 : ∀ j, 0 ≤ j → j < 12 → tkM M t s (t + 4) j = M (s + 4) j := fun j j0 j1 => by unfold tkM; rw [if_neg (by omega), if_neg (by omega), if_neg (by omega), if_neg (by omega), if_pos ⟨rfl, j0, j1⟩]
  have v5 : ∀ j, 0 ≤ j → j < 100 → tkM M t s (t + 5) j = M (s + 5) j := fun j j0 j1 => by unfold tkM; rw [if_neg (by omega), if_neg (by omega), if_neg (by omega), if_neg (by omega), if_neg (by omega), if_pos ⟨rfl, j0, j1⟩]
  have v6 : ∀ j, 0 ≤ j → j < 10 → tkM M t s (t + 6) j = M (s + 6) j := fun j j0 j1 => by unfold tkM; rw [if_neg (by omega), if_neg (by omega), if_neg (by omega), if_neg (by omega), if_neg (by omega), if_neg (by omega), if_pos ⟨rfl, j0, j1⟩]
  refine ⟨⟨by rw [v0 _ (by omega) (by omega)]; exact a1, by rw [v0 _ (by omega) (by omega)]; exact a2, by rw [v0 _ (by omega) (by omega)]; exact a3, by rw [v0 _ (by omega) (by omega)]; exact a4⟩, fun k h1 h2 => by rw [v1 _ h1 (by omega)]; exact b k h1 h2, fun i h1 h2 => by rw [v2 _ h1 (by omega), v3 _ h1 (by omega), v4 _ h1 (by omega)]; exact c i h1 h2, fun i j h1 h2 h3 h4 => by rw [v5 _ (by omega) (by omega)]; exact d i j h1 h2 h3 h4, fun f h1 h2 => by rw [v6 _ h1 h2]; exact g f h1 h2⟩
theorem tk_o {M : Mem} {t s a j : Int} (h : a < t ∨ t + 6 < a ∨ j < 0 ∨ (a = t ∧ 4 ≤ j)) : tkM M t s a j = M a j := by
  unfold tkM
  rw [if_neg (by omega), if_neg (by omega), if_neg (by omega), if_neg (by omega), if_neg (by omega), if_neg (by omega), if_neg (by omega)]
theorem tk_ls {M : Mem} {t s : Int} (h : LSt M t) : LSt (tkM M t s) t := by
  obtain ⟨⟨a1, a2, a3, a4, a5, a6⟩, ⟨b1, b2, b3, b4, b5, b6⟩⟩ := h
  refine ⟨⟨?_, ?_, ?_, ?_, ?_, ?_⟩, ⟨?_, ?_, ?_, ?_, ?_, ?_⟩⟩ <;> rw [tk_o (by omega)] <;> assumption
def OdC (M M' : Mem) (v d : Int) (w r : Int → Int) (B : Int) : Prop := (∀ a j, ¬ SW a j → ¬ (74 ≤ a ∧ a ≤ 82) → ¬ (a = 1 ∧ 12 ≤ j ∧ j ≤ 14) → M' a j = M a j) ∧ CI M' v w ∧ CD M' d w ∧ (M' 74 6 = 75 ∧ M' 75 (-1) = 60) ∧ LSt M' 76 ∧ ∀ k, 0 ≤ k → k < 60 → RLB B (M' 75 k) (r k)
theorem c_odds {M : Mem} {v d : Int} {w r : Int → Int} {L : (Int → Int) → Int → LfS} {B : Int} {Q : Int × Mem → Prop} (hL : LvL w L) (hc : CI M v w) (hg : GW w) (hd : CD M d w) (p4 : M 1 4 = 74) (p5 : M 1 5 = 76) (l76 : LSt M 76) (p6 : M 74 6 = 75) (p75 : M 75 (-1) = 60) (B0 : 0 ≤ B) (B1 : B ≤ 1900000000) (hr : ∀ k, 0 ≤ k → k < 60 → (0 ≤ r k ∧ r k ≤ 98) ∧ RLB B (M 75 k) (r k)) (f lit sd n : Int) (hi : r32 n) (h1 : ¬ (0 ≤ f ∧ f < w 5 ∧ 0 ≤ lit ∧ lit ≤ 9999 ∧ 1 ≤ n ∧ n ≤ 10 ∧ 0 ≤ sd ∧ sd ≤ 10000 - n) → Q (0, upd2 M 1 12 1)) (h2 : (0 ≤ f ∧ f < w 5 ∧ 0 ≤ lit ∧ lit ≤ 9999 ∧ 1 ≤ n ∧ n ≤ 10 ∧ 0 ≤ sd ∧ sd ≤ 10000 - n) → w 9 = -1 → Q (0, upd2 M 1 12 6)) (h3 : (0 ≤ f ∧ f < w 5 ∧ 0 ≤ lit ∧ lit ≤ 9999 ∧ 1 ≤ n ∧ n ≤ 10 ∧ 0 ≤ sd ∧ sd ≤ 10000 - n) → w 9 ≠ -1 → ∀ N, OdC M N v d w (odZ L f lit sd r n).2 (B + 1000000) → (∀ j, N 1 j = M 1 j) → Q (1, frC N (odZ L f lit sd r n).1 n)) : Tot (f_X11_odds 1 f lit sd n M) Q := by
  obtain ⟨a, b, c, dd, e⟩ := ci_p hc
  have hd1 := hd.2.1
  have hd0 := hd.1
  have hr0 := hd.2.2.2.1
  have hn := hg.1.1
  unfold WFn at hn
  unfold r32 at hi
  have z1 : ¬ (0 ≤ f ∧ f < w 5 ∧ 0 ≤ lit ∧ lit ≤ 9999 ∧ 1 ≤ n ∧ n ≤ 10 ∧ 0 ≤ sd ∧ sd ≤ 10000 - n) → Tot (call (f_X11_settle 1 1 M) (fun v2 M3 => retzm v2 M3)) Q := fun hh => by
    rw [settle_e, t_call, t_some, t_retzm]; simp only [if_neg (show ¬ (1 : Int) = 0 by decide)]; exact ⟨.inl trivial, h1 hh⟩
  unfold f_X11_odds
  rw [isField_e hc, t_callp, t_some, t_jn, t_ite, i10]
  refine ⟨fun c1 => z1 (by omega), fun c1 => ?_⟩
  rw [isWithin_e, t_callp, t_some, t_ite, i10]
  refine ⟨fun c2 => z1 (by omega), fun c2 => ?_⟩
  rw [isWithin_e, t_callp, t_some, t_ite, i10]
  refine ⟨fun c3 => z1 (by omega), fun c3 => ?_⟩
  rw [w32_s (x := 9999 - n) (by omega) (by omega), w32_s (by omega) (by omega), isWithin_e, t_callp, t_some, t_ite, n10]
  refine ⟨fun c4 => ?_, fun c4 => z1 (by omega)⟩
  have hh : 0 ≤ f ∧ f < w 5 ∧ 0 ≤ lit ∧ lit ≤ 9999 ∧ 1 ≤ n ∧ n ≤ 10 ∧ 0 ≤ sd ∧ sd ≤ 10000 - n := by omega
  rw [t_getf, a, t_getf, hd1, t_getf, hr0, t_ite]
  refine ⟨by decide, by decide, by omega, fun c5 => ?_, fun c5 => ?_⟩
  rotate_left
  · have h9 : w 9 = -1 := by
      by_cases h9 : w 9 = -1
      · exact h9
      · rw [if_neg h9] at c5; exact absurd (by decide) c5
    rw [settle_e, t_call, t_some, t_retzm]; simp only [if_neg (show ¬ (6 : Int) = 0 by decide)]; exact ⟨.inl trivial, h2 hh h9⟩
  have h9 : w 9 ≠ -1 := fun h9 => by rw [if_pos h9] at c5; exact c5 rfl
  have H := h3 hh h9
  clear z1 h1 h2 h3 c1 c2 c3 c4 c5
  rw [t_getf, p5, t_getf, a, t_getf, dd, t_nn, t_callv]
  refine ⟨by decide, by decide, by decide, by decide, take_e (by decide) (by decide) (by decide) l76 hc.2.2.2.1 ?_⟩
  have kT : ∀ a j, a < 76 ∨ 82 < a → tkM M 76 48 a j = M a j := fun a j h => tk_o (by omega)
  have oi := fun k k0 k1 => odZ_i (w := w) hL hg (f := f) (lit := lit) (sd := sd) (n := n) (r := r) (by omega) (by omega) (fun k a b => (hr k a b).1) (k := k) k0 k1
  refine lpIIM (fun y k N => 0 ≤ k ∧ k ≤ n ∧ y = (odZ L f lit sd r k).1 ∧ OdC M N v d w (odZ L f lit sd r k).2 (B + 100000 * k) ∧ (∀ j, N 1 j = M 1 j) ∧ RS N 76 w) (fun _ k _ => (n - k).toNat) ?_ (by unfold KF; omega) ⟨by omega, by omega, rfl, ⟨fun a j h1 h2 h3 => kT a j (by omega), ci_o (by omega) (by omega) hc (fun a j h => kT a j (by omega)), cd_k hd hg.2.2.2.1 (same_r w).2 (fun a j h => kT a j (by omega)), ⟨by rw [kT _ _ (by omega)]; exact p6, by rw [kT _ _ (by omega)]; exact p75⟩, tk_ls l76, fun k a b => by rw [kT _ _ (by omega)]; exact rlb_m (hr k a b).2 (by omega)⟩, fun j => kT 1 j (by omega), tk_rs (by decide) hg.1.1 hc.2.2.2.2.2.2⟩
  rintro fu y k N ⟨i0, i1, i2, ⟨o1, o2, o3, ⟨o4, o5⟩, o6, o7⟩, i4, i5⟩ ih
  have ok := oi k i0 i1
  unfold f_X11_odds_L92
  rw [t_ite]
  refine ⟨fun c1 => ?_, fun c1 => ?_⟩
  · have hk : k = n := by omega
    subst hk
    rw [i2, tf_e N ok.1.1 (by omega) (by omega) (by omega), t_call, t_some, t_retzm]
    exact ⟨.inr rfl, H N ⟨o1, o2, o3, ⟨o4, o5⟩, o6, fun j ja jb => rlb_m (o7 j ja jb) (by omega)⟩ i4⟩
  · obtain ⟨a', b', c', dd', e'⟩ := ci_p o2
    rw [t_getf, i4 4, p4, t_getf, a', t_getf, b', t_nn, t_callv, w32_s (x := sd + k) (by omega) (by omega)]
    refine ⟨by decide, by decide, by decide, by decide, run_e o2 hg o3 o4 o5 (by omega) (by omega) (by omega) (by omega) h9 (fun j ja jb => ⟨ok.2 j ja jb, o7 j ja jb⟩) (fun X en ps => ?_)⟩
    have li := itS_i (w := w) (r := (odZ L f lit sd r k).2) (x := sd + k) hg (by omega) (by omega) ok.2 100000
    have os := odZ_s (L := L) (f := f) (lit := lit) (sd := sd) (r := r) i0
    rw [hL] at en ps li
    obtain ⟨s, es⟩ : ∃ s, s = L (odZ L f lit sd r k).2 (sd + k) := ⟨_, rfl⟩
    rw [← es] at en ps li os
    obtain ⟨f1, f2, f3, ⟨f4, f5, f6, f7, f8⟩, ⟨f9, f10⟩, f11⟩ := en
    obtain ⟨a2, b2, c2, dd2, e2⟩ := ci_p f2
    have a54 : X 48 9 = 54 := f2.2.2.2.1.1.2.2.2.2.2
    have l54 : X 54 (-1) = 10 := f2.2.2.2.1.2.2.2.2.2.2
    have g54 : X 54 f = ac s.1 f := f2.2.2.2.2.2.2.2.2.2.2 _ hh.1 (by omega)
    have x5 : X 1 5 = 76 := by rw [f1 _ _ (by unfold SW SC; omega) (by decide) (by decide), i4]; exact p5
    rw [t_getf, a2, t_getf, dd2, t_getf, a54, t_geti, l54, g54]
    refine ⟨by decide, by decide, by decide, by decide, hh.1, by omega, t_jv (if lit ≤ ac s.1 f then 1 else 0) ?_ (fun j hj => ?_)⟩
    rotate_left
    · rw [t_ite]
      exact ⟨fun hz => by rw [if_neg (by omega)] at hj; exact hj, fun hz => by rw [if_pos (by omega)] at hj; exact hj⟩
    have b01 := i01 (c := lit ≤ ac s.1 f)
    have kX : ∀ a j, 76 ≤ a → a ≤ 82 → X a j = N a j := fun a j h1 h2 => f1 a j (by unfold SW SC; omega) (by omega) (by omega)
    have l76' : LSt X 76 := ls_keep o6 (fun a j h1 h2 => kX a j h1 h2)
    have r76 : RS X 76 w := rs_keep i5 (fun a j h1 h2 => kX a j h1 h2)
    rw [t_letv, w32_s (by omega) (by omega), t_getf, a2, t_getf, dd2, t_getf, x5, t_nn, t_callv, w32_s (by omega) (by omega)]
    refine ⟨by decide, by decide, by decide, by decide, take_e (by decide) (by decide) (by decide) f2.2.2.2.1 l76' ?_⟩
    have kY : ∀ a j, a < 48 ∨ 54 < a → tkM X 48 76 a j = X a j := fun a j h => tk_o (by omega)
    have hn2 := li.1.1.1.1
    unfold WFn at hn2
    have cY : CI (tkM X 48 76) v w := by
      obtain ⟨q1, ⟨q2, q3, q4, q5⟩, q6, q7, q8, q9, q10⟩ := f2
      refine ⟨q1, ⟨by rw [kY _ _ (by omega)]; exact q2, by rw [kY _ _ (by omega)]; exact q3, by rw [kY _ _ (by omega)]; exact q4, by rw [kY _ _ (by omega)]; exact q5⟩, lv_keep q6 (fun a j h1 h2 => kY a j (by omega)), tk_ls q7, lw_keep q8 (fun a j h1 h2 _ => kY a j (by omega)), rv_w (sv_sym li.1.2.1) li.1.1.1.1 (rv_keep (by omega) (by omega) q9 (fun a j h1 h2 => kY a j (by omega))), tk_rs (by decide) hg.1.1 r76⟩
    refine ih _ _ _ (by omega) ⟨by omega, by omega, by rw [os, i2], ⟨fun a j h1 h2 h3 => ?_, cY, cd_k f3 li.1.1.2.2.2.1 (sd_sym li.1.2.2.1) (fun a j h => kY a j (by omega)), ⟨by rw [kY _ _ (by omega)]; exact f9, by rw [kY _ _ (by omega)]; exact f10⟩, ls_keep l76' (fun a j h1 h2 => kY a j (by omega)), fun j ja jb => ?_⟩, fun j => ?_, rs_keep r76 (fun a j h1 h2 => kY a j (by omega))⟩
    · have ha : a < 48 ∨ 54 < a := by unfold SW at h1; omega
      rw [kY a j ha, f1 a j h1 (by omega) (by omega), o1 a j h1 h2 h3]
    · rw [kY _ _ (by omega), os]; exact rlb_m (f11 j ja jb) (by omega)
    · rw [kY _ _ (by omega), f1 _ _ (by unfold SW SC; omega) (by decide) (by decide)]; exact i4 j
