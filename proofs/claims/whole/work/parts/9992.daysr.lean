/-! the reference reads a step of the days -/
def DR (M : Mem) (σ : DS) : Prop := (∀ j, j = 9 ∨ (270 ≤ j ∧ j < 640) → M 120 (2560 + j) = σ.1 j) ∧ M 119 23 = (σ.2.1.length : Int) ∧ M 119 24 = σ.2.2 ∧ ∀ i : Int, 0 ≤ i → i < σ.2.1.length → M 128 (σ.2.1.length - 1 - i) = lg σ.2.1 i
def StR (M : Mem) (B : Int → Int) (n s : Int) (r : Except Fl (DS × Int)) (q : Int × Mem) : Prop := (∃ f, r = .error f ∧ q.1 = 0 ∧ ErR q.2 f ∧ FrS M q.2) ∨ (∃ τ t, r = .ok (τ, t) ∧ q.1 = 1 ∧ nx B n s ≤ t ∧ RT q.2 B n t ∧ DR q.2 τ ∧ FrS M q.2)
theorem str_e {M N : Mem} {B : Int → Int} {n s : Int} {r : Except Fl (DS × Int)} {f : Fl} (h : r = .error f) (he : ErR N f) (hf : FrS M N) : StR M B n s r (0, N) := .inl ⟨f, h, rfl, he, hf⟩
theorem str_o {M N : Mem} {B : Int → Int} {n s t : Int} {r : Except Fl (DS × Int)} {τ : DS} (h : r = .ok (τ, t)) (hn : nx B n s ≤ t) (hc : RT N B n t) (hv : DR N τ) (hf : FrS M N) : StR M B n s r (1, N) := .inr ⟨τ, t, h, rfl, hn, hc, hv, hf⟩
theorem stL153_e {M : Mem} {q5 v1 v3 b : Int} {k : Mem → Option (Int × Mem)} {Q : Int × Mem → Prop} (ra : M 119 0 = 120) (rl : M 120 (-1) = 3840) (b0 : 2830 ≤ b) (b1 : b + 6 ≤ 3200) (hk : ∀ N, (∀ i, 1 ≤ i → i < 6 → N 120 (b + i) = 0) → (∀ a j, ¬ (a = 120 ∧ b + 1 ≤ j ∧ j < b + 6) → N a j = M a j) → Tot (k N) Q) : Tot (f_X12_step_L153 q5 v1 v3 b 119 k KF 1 M) Q := by
  refine lpIM (fun p X => 1 ≤ p ∧ p ≤ 6 ∧ (∀ i, 1 ≤ i → i < p → X 120 (b + i) = 0) ∧ ∀ a j, ¬ (a = 120 ∧ b + 1 ≤ j ∧ j < b + 6) → X a j = M a j) (fun p _ => (6 - p).toNat) ?_ (by unfold KF; omega) ⟨by omega, by omega, fun i a c => by omega, fun _ _ _ => rfl⟩
  rintro fu p X ⟨i0, i1, i2, i3⟩ ih
  unfold f_X12_step_L153
  rw [t_ite]
  refine ⟨fun c => hk X (fun i q0 q1 => i2 i q0 (by omega)) i3, fun c => ?_⟩
  rw [t_getf, i3 119 0 (by omega), ra, t_seti, i3 120 (-1) (by omega), rl, w32_s (x := b + p) (by omega) (by omega), w32_s (x := p + 1) (by omega) (by omega)]
  refine ⟨by omega, by omega, by omega, by omega, ih _ _ (by omega) ⟨by omega, by omega, fun i q0 q1 => ?_, fun a j hh => by rw [upd2_at, if_neg (by omega)]; exact i3 a j hh⟩⟩
  by_cases e : i = p
  · rw [e, upd2_at, if_pos ⟨rfl, rfl⟩]
  · rw [upd2_at, if_neg (by omega)]; exact i2 i q0 (by omega)
theorem addD_j {w : Int → Int} {q : Rw5} {j : Int} (h : ¬ (270 + 6 * w 9 ≤ j ∧ j < 276 + 6 * w 9)) (h9 : j ≠ 9) : addD w q j = w j := by unfold addD; rw [if_neg h9, if_neg h]
theorem addD_r {w : Int → Int} {q : Rw5} {j : Int} (h0 : 0 ≤ w 9) (h : 270 + 6 * w 9 ≤ j ∧ j < 276 + 6 * w 9) : addD w q j = r5 q (j - (270 + 6 * w 9)) := by unfold addD; rw [if_neg (by omega), if_pos h]
theorem dsT_u {B K : Int → Int} {n : Int} {m : Nms} {w : Int → Int} {O : List Int} {c s y : Int} (hy : tkY B K n s = y) (h1 : swd y ∨ y = 28) (h2 : y ≠ 28 → c ≠ 30 ∧ ¬ ((y = 23 ∨ y = 27) ∧ O.length = 3)) (h3 : y = 28 → O ≠ []) : dsT B K n m (w, O, c) s = bnd (agT B K n m y (nx B n s)) fun q => bnd (smT B n q.2) fun t => .ok (if y = 28 then (lnk (addD w q.1) (w 9) (lg O 0), O.tail, c) else (addD w q.1, if y = 23 ∨ y = 27 then w 9 :: O else O, c + 1), t) := by
  unfold dsT agT
  by_cases c28 : y = 28
  · rw [if_pos (hy.trans c28), if_pos c28, bnd_o]
    dsimp only
    rcases O with _ | ⟨o, O⟩
    · exact absurd rfl (h3 c28)
    · dsimp only
      congr 1; funext t
      rw [if_pos c28]; rfl
  · have h2 := h2 c28
    rw [hy, if_neg c28, if_neg (fun z => z (h1.resolve_right c28)), if_neg h2.1, if_neg h2.2, if_neg c28, bnd_a]
    congr 1; funext p
    congr 1; funext q
    congr 1; funext t
    rw [if_neg c28]
theorem stepR_e {M : Mem} {B K : Int → Int} {n s : Int} {m : Nms} {σ : DS} (h : RT M B n s) (hr : LR M) (hK : KwC K) (hN : NmD M m) (hd : DR M σ) (hw : WDs m σ) : Tot (f_X12_step 119 M) (StR M B n s (dsT B K n m σ s)) := by
  obtain ⟨w, O, c⟩ := σ
  have hd' := hd
  obtain ⟨d1, d2, d3, d4⟩ := hd'
  obtain ⟨⟨w1, w2, w3, w4, w5⟩, wp, wo, wl⟩ := hw
  dsimp only at d1 d2 d3 d4 w1 w2 w3 w4 w5 wo
  clear wl wp
  obtain ⟨ra, rl⟩ := lr_a hr
  have nb := nx_b (B := B) h.2.2.2.2
  have c9 : M 120 2569 = w 9 := d1 9 (.inl rfl)
  unfold f_X12_step
  rw [t_callp]
  refine t_mono (inWords_e h.1 h.2.1 h.2.2.2.1 hK) (fun v hv => ?_)
  generalize hyy : tkY B K n s = y at hv
  have yr : -1 ≤ y ∧ y < 30 := by rw [← hyy]; exact tkY_r
  obtain ⟨p0, p25, p23, p24, _, _, _, _, _, _, _⟩ := pR_s yr.1 yr.2
  rw [← hv] at p0 p25 p23 p24
  rw [t_getf, ra, t_geti, rl, c9, t_letv, w32_s (x := 6 * w 9) (by omega) (by omega), w32_s (x := 2830 + 6 * w 9) (by omega) (by omega)]
  refine ⟨by omega, by omega, by omega, by omega, ?_⟩
  refine t_jq (fun J : Int → Option (Int × Mem) => ∀ q5, (q5 = if y = 23 ∨ y = 27 then 1 else 0) → Tot (J q5) (StR M B n s (dsT B K n m (w, O, c) s))) (fun q5 h5 => ?_) (fun J hJ => ?_)
  rotate_left
  · refine t_jq (fun T : Option (Int × Mem) => (y = 23 ∨ y = 27) → Tot T (StR M B n s (dsT B K n m (w, O, c) s))) (fun e => hJ 1 (by rw [if_pos e])) (fun T hT => ?_)
    rw [t_ite]
    refine ⟨fun e => hT (.inl (p23.mp e)), fun e => ?_⟩
    rw [t_ite]
    exact ⟨fun g => hJ 0 (by rw [if_neg (fun z => z.elim (fun z => e (p23.mpr z)) (fun z => g (p24.mpr z)))]), fun g => hT (.inr (p24.mp (by omega)))⟩
  have q01 : (q5 = 0 ∧ ¬ (y = 23 ∨ y = 27)) ∨ (q5 = 1 ∧ (y = 23 ∨ y = 27)) := by
    by_cases e : y = 23 ∨ y = 27
    · rw [if_pos e] at h5; exact .inr ⟨h5, e⟩
    · rw [if_neg e] at h5; exact .inl ⟨h5, e⟩
  clear h5
  refine t_jq (fun T : Option (Int × Mem) => dsT B K n m (w, O, c) s = .error (flT B n s 2) → Tot T (StR M B n s (dsT B K n m (w, O, c) s))) (fun e => ?_) (fun j75 h75 => ?_)
  · rw [t_call]
    refine failsR_e h 2 (fun N eN fN => ?_)
    rw [t_retzm]
    exact ⟨by omega, str_e e eN (frs_r fN)⟩
  refine t_jq (fun T : Option (Int × Mem) => (swd y ∨ y = 28) → Tot T (StR M B n s (dsT B K n m (w, O, c) s))) (fun sw => ?_) (fun j62 h62 => ?_)
  rotate_left
  · have bad : ¬ (swd y ∨ y = 28) → dsT B K n m (w, O, c) s = .error (flT B n s 2) := fun e => by
      unfold dsT
      rw [hyy, if_neg (fun z => e (.inr z)), if_pos (fun z => e (.inl z))]
    rw [t_ite]
    refine ⟨fun e => h62 (p0.mp (.inl e)), fun e => ?_⟩
    rw [t_ite]
    refine ⟨fun g => h75 (bad (fun z => by have := p0.mpr z; omega)), fun g => ?_⟩
    rw [t_ite]
    exact ⟨fun k => h75 (bad (fun z => by have := p0.mpr z; omega)), fun k => h62 (p0.mp (.inr ⟨by omega, by omega⟩))⟩
  refine t_jq (fun T : Option (Int × Mem) => (y = 28 → O ≠ []) → Tot T (StR M B n s (dsT B K n m (w, O, c) s))) (fun hO => ?_) (fun j81 h81 => ?_)
  rotate_left
  · rw [t_ite]
    refine ⟨fun e => h81 (fun z => absurd (p25.mpr z) e), fun e => ?_⟩
    rw [t_getf, d2, t_ite]
    refine ⟨by omega, fun g => h81 (fun _ z => g (by rw [z]; rfl)), fun g => h75 ?_⟩
    have hO : O = [] := List.eq_nil_of_length_eq_zero (by omega)
    unfold dsT
    rw [hyy, if_pos (p25.mp (by omega))]
    dsimp only
    rw [hO]
  refine t_jq (fun T : Option (Int × Mem) => (y ≠ 28 → c ≠ 30) → Tot T (StR M B n s (dsT B K n m (w, O, c) s))) (fun hc30 => ?_) (fun j103 h103 => ?_)
  rotate_left
  · rw [t_ite]
    refine ⟨fun e => h103 (fun z => absurd (p25.mp e) z), fun e => ?_⟩
    rw [t_getf, d3, t_ite]
    refine ⟨by omega, fun g => h103 (fun _ => g), fun g => ?_⟩
    rw [t_call]
    refine failsR_e h 6 (fun N eN fN => ?_)
    rw [t_retzm]
    refine ⟨by omega, str_e ?_ eN (frs_r fN)⟩
    unfold dsT
    rw [hyy, if_neg (fun z => e (p25.mpr z)), if_neg (fun z => z (sw.resolve_right (fun z => e (p25.mpr z)))), if_pos (by show c = 30; omega)]
  refine t_jq (fun T : Option (Int × Mem) => ¬ ((y = 23 ∨ y = 27) ∧ O.length = 3) → Tot T (StR M B n s (dsT B K n m (w, O, c) s))) (fun h3 => ?_) (fun j123 h123 => ?_)
  rotate_left
  · rw [t_ite]
    refine ⟨fun e => h123 (fun z => by omega), fun e => ?_⟩
    have yb : y = 23 ∨ y = 27 := by omega
    rw [t_getf, d2, t_ite]
    refine ⟨by omega, fun g => h123 (fun z => g (by omega)), fun g => ?_⟩
    rw [t_call]
    refine failsR_e h 7 (fun N eN fN => ?_)
    rw [t_retzm]
    refine ⟨by omega, str_e ?_ eN (frs_r fN)⟩
    unfold dsT
    rw [hyy, if_neg (by omega), if_neg (fun z => z (sw.resolve_right (by omega))), if_neg (hc30 (by omega)), if_pos ⟨yb, by show O.length = 3; omega⟩]
  -- the step itself
  rw [dsT_u hyy sw (fun z => ⟨hc30 z, h3⟩) hO]
  clear h75 p0 p23 p24
  have n60 : w 9 < 60 := by
    by_cases e : y = 28
    · have : 0 < O.length := List.length_pos_iff.mpr (hO e)
      omega
    · have := hc30 e; omega
  generalize hb : 2830 + 6 * w 9 = b
  have b0 : 2830 ≤ b := by omega
  have b1 : b + 6 ≤ 3200 := by omega
  rw [t_getf, d3]
  refine ⟨by omega, ?_⟩
  obtain ⟨e9, he9⟩ : ∃ e9 : Int, (e9 = 0 ∧ y = 28) ∨ (e9 = 1 ∧ y ≠ 28) := by
    by_cases e : y = 28
    · exact ⟨0, .inl ⟨rfl, e⟩⟩
    · exact ⟨1, .inr ⟨rfl, e⟩⟩
  generalize hR : (bnd (agT B K n m y (nx B n s)) fun q => bnd (smT B n q.2) fun t => (Except.ok (if y = 28 then (lnk (addD w q.1) (w 9) (lg O 0), O.tail, c) else (addD w q.1, if y = 23 ∨ y = 27 then w 9 :: O else O, c + 1), t) : Except Fl (DS × Int))) = R
  refine t_jq (fun J : Int → Option (Int × Mem) => Tot (J e9) (StR M B n s R)) ?_ (fun J hJ => ?_)
  rotate_left
  · rw [t_ite]
    refine ⟨fun e => ?_, fun e => ?_⟩
    · rw [show (1 : Int) = e9 by have := p25; omega]; exact hJ
    · rw [show (0 : Int) = e9 by have := p25; omega]; exact hJ
  rw [t_putf, w32_s (x := c + e9) (by omega) (by omega)]
  have x1 : ∀ a j, ¬ (a = 119 ∧ j = 24) → upd2 M 119 24 (c + e9) a j = M a j := fun a j hh => by rw [upd2_at, if_neg hh]
  have x24 : upd2 M 119 24 (c + e9) 119 24 = c + e9 := by rw [upd2_at, if_pos ⟨rfl, rfl⟩]
  generalize upd2 M 119 24 (c + e9) = X1 at x1 x24 ⊢
  rw [t_getf, x1 _ _ (by omega), ra, t_seti, x1 120 (-1) (by omega), rl]
  refine ⟨by omega, by omega, by omega, by omega, by omega, ?_⟩
  have x2 : ∀ a j, ¬ (a = 120 ∧ j = b) → upd2 X1 120 b v a j = X1 a j := fun a j hh => by rw [upd2_at, if_neg hh]
  have x2b : upd2 X1 120 b v 120 b = v := by rw [upd2_at, if_pos ⟨rfl, rfl⟩]
  generalize upd2 X1 120 b v = X2 at x2 x2b ⊢
  refine stL153_e (by rw [x2 _ _ (by omega), x1 _ _ (by omega)]; exact ra) (by rw [x2 _ _ (by omega), x1 _ _ (by omega)]; exact rl) b0 b1 (fun X3 z3 f3 => ?_)
  have x3 : ∀ a j, ¬ (a = 120 ∧ b ≤ j ∧ j < b + 6) → ¬ (a = 119 ∧ j = 24) → X3 a j = M a j := fun a j q1 q2 => by rw [f3 a j (by omega), x2 a j (by omega), x1 a j q2]
  have x3b : X3 120 b = v := by rw [f3 _ _ (by omega)]; exact x2b
  rw [t_getf, x3 _ _ (by omega) (by omega), ra, t_geti, x3 120 (-1) (by omega) (by omega), rl, x3 120 2569 (by omega) (by omega), c9, t_seti, x3 120 (-1) (by omega) (by omega), rl, w32_s (x := w 9 + 1) (by omega) (by omega), t_callv]
  refine ⟨by omega, by omega, by omega, by omega, by omega, by omega, by omega, ?_⟩
  have x4 : ∀ a j, ¬ (a = 120 ∧ j = 2569) → upd2 X3 120 2569 (w 9 + 1) a j = X3 a j := fun a j hh => by rw [upd2_at, if_neg hh]
  have x49 : upd2 X3 120 2569 (w 9 + 1) 120 2569 = w 9 + 1 := by rw [upd2_at, if_pos ⟨rfl, rfl⟩]
  generalize upd2 X3 120 2569 (w 9 + 1) = X4 at x4 x49 ⊢
  have x4M : ∀ a j, ¬ (a = 120 ∧ (b ≤ j ∧ j < b + 6 ∨ j = 2569)) → ¬ (a = 119 ∧ j = 24) → X4 a j = M a j := fun a j q1 q2 => by rw [x4 a j (by omega), x3 a j (by omega) q2]
  refine aheadR_e (rt_k h (fun a j hh => x4M a j (by omega) (by omega))) (fun Y hY fY => ?_)
  have yM : ∀ a j, ¬ rpF a j → ¬ (a = 120 ∧ (b ≤ j ∧ j < b + 6 ∨ j = 2569)) → ¬ (a = 119 ∧ j = 24) → Y a j = M a j := fun a j q0 q1 q2 => by rw [fY a j q0, x4M a j q1 q2]
  have ySM : FrS M Y := fun a j q => yM a j (fun z => q (.inl z)) (fun z => q (.inr (.inl (by omega)))) (fun z => q (.inr (.inr (.inl (by omega)))))
  have n24 : ¬ rpF 119 24 := fun q => by unfold rpF at q; omega
  have n23 : ¬ rpF 119 23 := fun q => by unfold rpF at q; omega
  have y24 : Y 119 24 = c + e9 := by rw [fY _ _ n24, x4 _ _ (by omega), f3 _ _ (by omega), x2 _ _ (by omega)]; exact x24
  have y9 : Y 120 2569 = w 9 + 1 := by rw [fY _ _ (rpF_a (by omega))]; exact x49
  have yb : Y 120 b = v := by rw [fY _ _ (rpF_a (by omega)), x4 _ _ (by omega)]; exact x3b
  have yz : ∀ i, 1 ≤ i → i < 6 → Y 120 (b + i) = 0 := fun i i0 i1 => by rw [fY _ _ (rpF_a (by omega)), x4 _ _ (by omega)]; exact z3 i i0 i1
  clear x1 x24 x2 x2b x3 x3b x4 x49 x4M f3 z3
  rw [t_call]
  refine dayOrder_e hY (lr_ds hr ySM) hK (nmd_s hN ySM) b0 b1 sw hv yb yz (fun N f e1 e2 e3 => ?_) (fun N q t e1 e2 e3 e4 e5 => ?_)
  · dsimp only
    rw [t_ite, t_retzm]
    exact ⟨fun z => absurd rfl z, fun _ => ⟨by omega, str_e (by rw [← hR, e1, bnd_e]) e2 (frs_t ySM (frb_s b0 b1 e3))⟩⟩
  dsimp only
  rw [t_ite]
  refine ⟨fun _ => ?_, fun z => absurd (by omega) z⟩
  have nM : ∀ a j, ¬ rpF a j → ¬ (a = 120 ∧ (b ≤ j ∧ j < b + 6 ∨ j = 2569)) → ¬ (a = 119 ∧ j = 24) → N a j = M a j := fun a j q0 q1 q2 => by rw [e5 a j q0 (by omega), yM a j q0 q1 q2]
  have nSM : FrS M N := frs_t ySM (frb_s b0 b1 e5)
  have n9 : N 120 2569 = w 9 + 1 := by rw [e5 _ _ (rpF_a (by omega)) (by omega)]; exact y9
  have nc : N 119 24 = c + e9 := by rw [e5 _ _ n24 (by omega)]; exact y24
  have nd : N 119 23 = (O.length : Int) := by rw [nM _ _ n23 (by omega) (by omega)]; exact d2
  have ncell : ∀ j, j = 9 ∨ (270 ≤ j ∧ j < 640) → N 120 (2560 + j) = addD w q j := fun j hj => by
    by_cases c9' : j = 9
    · rw [c9', addD_9]; exact n9
    · by_cases cr : 270 + 6 * w 9 ≤ j ∧ j < 276 + 6 * w 9
      · rw [addD_r w3 cr, ← e4 (j - (270 + 6 * w 9)) (by omega) (by omega)]; congr 1; omega
      · rw [addD_j cr c9', nM _ _ (rpF_a (by omega)) (by omega) (by omega)]; exact d1 j hj
  have nstk : ∀ i : Int, 0 ≤ i → i < O.length → N 128 (O.length - 1 - i) = lg O i := fun i i0 i1 => by rw [nM _ _ (rpF_a (by omega)) (by omega) (by omega)]; exact d4 i i0 i1
  have r22 : N 119 22 = 128 := by rw [nM _ _ (fun q => by unfold rpF at q; omega) (by omega) (by omega)]; exact hr.1.2.2.2.2.2.2.2.2.1
  have l28 : N 128 (-1) = 3 := by rw [nM _ _ (rpF_a (by omega)) (by omega) (by omega)]; exact hr.2.2.2.2.2.2.2.2.2.1
  have r0 : N 119 0 = 120 := (lr_a (lr_ds hr nSM)).1
  have l0 : N 120 (-1) = 3840 := (lr_a (lr_ds hr nSM)).2
  have fin : ∀ (W : Mem) (τ : DS), τ = (if y = 28 then (lnk (addD w q) (w 9) (lg O 0), O.tail, c) else (addD w q, if y = 23 ∨ y = 27 then w 9 :: O else O, c + 1)) → RT W B n t → DR W τ → FrS M W → Tot (call (f_X12_wantSign 119 59 W) (fun v27 M28 => retzm v27 M28)) (StR M B n s R) := fun W τ hτ hW dW fW => by
    rw [t_call]
    refine wantSign_e hW (fun P f g1 g2 g3 => ?_) (fun P t2 g1 g2 g3 g4 => ?_)
    · rw [t_retzm]
      exact ⟨by omega, str_e (by rw [← hR, e1, bnd_o, g1, bnd_e]) g2 (frs_t fW (frs_r g3))⟩
    · dsimp only
      rw [t_retzm]
      obtain ⟨k1, k2, k3, k4⟩ := dW
      refine ⟨by omega, str_o (by rw [← hR, e1, bnd_o, g1, bnd_o, ← hτ]) (by omega) g3 ⟨fun j hj => ?_, ?_, ?_, fun i i0 i1 => ?_⟩ (frs_t fW (frs_r g4))⟩
      · rw [g4 _ _ (rpF_a (by omega))]; exact k1 j hj
      · rw [g4 _ _ n23]; exact k2
      · rw [g4 _ _ n24]; exact k3
      · rw [g4 _ _ (rpF_a (by omega))]; exact k4 i i0 i1
  clear yM ySM y24 y9 yb yz
  by_cases c28 : y = 28
  · -- an end
    have q5z : q5 = 0 := by omega
    rcases O with _ | ⟨o, O⟩
    · exact absurd rfl (hO c28)
    obtain ⟨o0, o1, _, _⟩ := wo o (List.mem_cons_self ..)
    rw [List.length_cons] at nd w4
    have e90 : e9 = 0 := by omega
    rw [t_jn, t_ite]
    refine ⟨fun _ => ?_, fun z => absurd q5z z⟩
    rw [t_jn, t_ite]
    refine ⟨fun z => absurd (p25.mpr c28) z, fun _ => ?_⟩
    have top : N 128 (O.length : Int) = o := by
      have := nstk 0 (by omega) (by rw [List.length_cons]; omega)
      rw [lg_c0, List.length_cons] at this
      rw [← this]; congr 1; omega
    have ol : (O.length : Int) < 3 := by rw [List.length_cons] at w5; omega
    rw [t_getf, nd, t_putf, w32_s (by omega) (by omega), show (((O.length + 1 : Nat) : Int)) - 1 = (O.length : Int) by omega]
    have p1 : ∀ a j, ¬ (a = 119 ∧ j = 23) → upd2 N 119 23 (O.length : Int) a j = N a j := fun a j hh => by rw [upd2_at, if_neg hh]
    have p1v : upd2 N 119 23 (O.length : Int) 119 23 = O.length := by rw [upd2_at, if_pos ⟨rfl, rfl⟩]
    generalize upd2 N 119 23 (O.length : Int) = P1 at p1 p1v ⊢
    rw [t_getf, p1 _ _ (by omega), r0, t_getf, p1 _ _ (by omega), r22, t_getf, p1v, t_geti, p1 128 (-1) (by omega), l28, p1 128 _ (by omega), top, t_seti, p1 120 (-1) (by omega), l0, w32_s (x := b + 4) (by omega) (by omega)]
    refine ⟨by omega, by omega, by omega, by omega, by omega, by omega, by omega, by omega, by omega, by omega, by omega, ?_⟩
    have p2 : ∀ a j, ¬ (a = 120 ∧ j = b + 4) → upd2 P1 120 (b + 4) o a j = P1 a j := fun a j hh => by rw [upd2_at, if_neg hh]
    have p2v : upd2 P1 120 (b + 4) o 120 (b + 4) = o := by rw [upd2_at, if_pos ⟨rfl, rfl⟩]
    generalize upd2 P1 120 (b + 4) o = P2 at p2 p2v ⊢
    rw [t_getf, p2 _ _ (by omega), p1 _ _ (by omega), r0, t_getf, p2 _ _ (by omega), p1 _ _ (by omega), r22, t_getf, p2 _ _ (by omega), p1v, t_geti, p2 128 (-1) (by omega), p1 128 (-1) (by omega), l28, p2 128 _ (by omega), p1 128 _ (by omega), top, t_seti, p2 120 (-1) (by omega), p1 120 (-1) (by omega), l0, w32_s (x := 6 * o) (by omega) (by omega), w32_s (x := 2830 + 6 * o) (by omega) (by omega), w32_s (x := 2830 + 6 * o + 4) (by omega) (by omega)]
    refine ⟨by omega, by omega, by omega, by omega, by omega, by omega, by omega, by omega, by omega, ?_⟩
    have p3 : ∀ a j, ¬ (a = 120 ∧ j = 2830 + 6 * o + 4) → upd2 P2 120 (2830 + 6 * o + 4) (w 9) a j = P2 a j := fun a j hh => by rw [upd2_at, if_neg hh]
    have p3v : upd2 P2 120 (2830 + 6 * o + 4) (w 9) 120 (2830 + 6 * o + 4) = w 9 := by rw [upd2_at, if_pos ⟨rfl, rfl⟩]
    generalize upd2 P2 120 (2830 + 6 * o + 4) (w 9) = P3 at p3 p3v ⊢
    have p3N : ∀ a j, ¬ (a = 119 ∧ j = 23) → ¬ (a = 120 ∧ (j = b + 4 ∨ j = 2830 + 6 * o + 4)) → P3 a j = N a j := fun a j q1 q2 => by rw [p3 _ _ (by omega), p2 _ _ (by omega), p1 _ _ q1]
    refine fin P3 (lnk (addD w q) (w 9) o, O, c) (by rw [if_pos c28]; rfl) (rt_k e3 (fun a j hh => p3N a j (by omega) (by omega))) ⟨fun j hj => ?_, ?_, ?_, fun i i0 i1 => ?_⟩ (fun a j z => ?_) <;> (try dsimp only at *)
    · unfold lnk
      rw [upd1_at, upd1_at]
      by_cases g1 : j = 270 + 6 * o + 4
      · rw [if_pos g1, ← p3v]; congr 1; omega
      · rw [if_neg g1]
        by_cases g2 : j = 270 + 6 * w 9 + 4
        · rw [if_pos g2, p3 _ _ (by omega), ← p2v]; congr 1; omega
        · rw [if_neg g2, p3N _ _ (by omega) (by omega)]; exact ncell j hj
    · rw [p3 _ _ (by omega), p2 _ _ (by omega)]; exact p1v
    · rw [p3N _ _ (by omega) (by omega), nc, e90, Int.add_zero]
    · rw [p3N _ _ (by omega) (by omega)]
      have := nstk (i + 1) (by omega) (by rw [List.length_cons]; omega)
      rw [lg_cs (by omega), List.length_cons, show i + 1 - 1 = i by omega] at this
      rw [← this]; congr 1; omega
    · rw [p3N _ _ (fun g => z (.inr (.inr (.inl (by omega))))) (fun g => z (.inr (.inl (by omega)))), nSM a j z]
  have e91 : e9 = 1 := by omega
  rcases q01 with ⟨q5z, nblk⟩ | ⟨q5o, isb⟩
  · -- a plain step
    rw [t_jn, t_ite]
    refine ⟨fun _ => ?_, fun z => absurd q5z z⟩
    rw [t_jn, t_ite]
    refine ⟨fun _ => ?_, fun z => absurd (p25.mp (by omega)) c28⟩
    exact fin N (addD w q, O, c + 1) (by rw [if_neg c28, if_neg nblk]) e3 ⟨ncell, nd, by rw [nc, e91], nstk⟩ nSM
  · -- a block
    have ol : (O.length : Int) < 3 := by
      have : ¬ O.length = 3 := fun z => h3 ⟨isb, z⟩
      omega
    rw [t_jn, t_ite]
    refine ⟨fun z => by omega, fun _ => ?_⟩
    rw [t_getf, r22, t_getf, nd, t_seti, l28]
    have p1 : ∀ a j, ¬ (a = 128 ∧ j = (O.length : Int)) → upd2 N 128 (O.length : Int) (w 9) a j = N a j := fun a j hh => by rw [upd2_at, if_neg hh]
    have p1v : upd2 N 128 (O.length : Int) (w 9) 128 (O.length : Int) = w 9 := by rw [upd2_at, if_pos ⟨rfl, rfl⟩]
    generalize upd2 N 128 (O.length : Int) (w 9) = P1 at p1 p1v ⊢
    rw [t_getf, p1 _ _ (by omega), nd, t_putf, w32_s (x := (O.length : Int) + 1) (by omega) (by omega)]
    refine ⟨by omega, by omega, by omega, by omega, by omega, by omega, by omega, ?_⟩
    have p2 : ∀ a j, ¬ (a = 119 ∧ j = 23) → upd2 P1 119 23 ((O.length : Int) + 1) a j = P1 a j := fun a j hh => by rw [upd2_at, if_neg hh]
    have p2v : upd2 P1 119 23 ((O.length : Int) + 1) 119 23 = (O.length : Int) + 1 := by rw [upd2_at, if_pos ⟨rfl, rfl⟩]
    generalize upd2 P1 119 23 ((O.length : Int) + 1) = P2 at p2 p2v ⊢
    have p2N : ∀ a j, ¬ (a = 119 ∧ j = 23) → ¬ (a = 128 ∧ j = (O.length : Int)) → P2 a j = N a j := fun a j q1 q2 => by rw [p2 _ _ q1, p1 _ _ q2]
    rw [t_jn, t_ite]
    refine ⟨fun _ => ?_, fun z => absurd (p25.mp (by omega)) c28⟩
    refine fin P2 (addD w q, w 9 :: O, c + 1) (by rw [if_neg c28, if_pos isb]) (rt_k e3 (fun a j hh => p2N a j (by omega) (by omega))) ⟨fun j hj => ?_, ?_, ?_, fun i i0 i1 => ?_⟩ (fun a j z => ?_) <;> (try dsimp only at *)
    · rw [p2N _ _ (by omega) (by omega)]; exact ncell j hj
    · rw [p2v, List.length_cons]; omega
    · rw [p2N _ _ (by omega) (by omega), nc, e91]
    · rw [List.length_cons] at i1 ⊢
      by_cases g : i = 0
      · rw [g, lg_c0, p2 _ _ (by omega), ← p1v]; congr 1; omega
      · rw [lg_cs (by omega), ← nstk (i - 1) (by omega) (by omega), p2N _ _ (by omega) (by omega)]; congr 1; omega
    · rw [p2N _ _ (fun g => z (.inr (.inr (.inl (by omega))))) (fun g => z (.inr (.inr (.inr (by omega))))), nSM a j z]
