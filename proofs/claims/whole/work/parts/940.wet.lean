/-! driest, waits -/
abbrev wetP (w : Int → Int) (m : Int) : Prop := rtG w (w 0) (-1) (fw w m) ≠ 0 ∧ opn w m (fc w (fw w m) 0) ∧ m < endT w
theorem isWet_e {M : Mem} {v : Int} {w : Int → Int} (hc : CI M v w) (hwf : WF w) (sw : SWP M w) {n k : Int} (pc : PC M w n (endT w)) (n1 : n ≤ 42) (k0 : 0 ≤ k) (k1 : k < n) : f_X5_isWet 55 v k M = some (if M 73 k = 1 ∧ 0 < rtG w (w 0) (-1) (M 72 k) then 1 else 0) := by
  have q := pc.2.2.2 k k0 k1
  obtain ⟨⟨a1, a2, a3, a4, a5, a6, a7, a8, a9, a10, a11, a12⟩, ⟨y1, y2, y3, y4, y5, y6, y7, y8⟩, _⟩ := ci_55 hc
  have bl := q.2.2.2.2.2.2.1
  have b01 := q.2.2.2.2.2.2.2.1
  rw [← t_eq]
  unfold f_X5_isWet
  rw [t_getf, a12, t_geti, y8]
  refine ⟨by decide, by decide, k0, by omega, t_jv (if M 73 k = 1 ∧ 0 < rtG w (w 0) (-1) (M 72 k) then 1 else 0) (by rw [t_retz]; exact ⟨by split <;> simp, rfl⟩) (fun j hj => ?_)⟩
  rw [t_jn, t_ite]
  refine ⟨fun h1 => by rw [if_neg (by omega)] at hj ⊢; exact hj, fun h1 => ?_⟩
  rw [t_getf, a11, t_geti, y7, rateOf_e hc hwf.1 hwf.2.2.1 sw.1 bl.1 bl.2, t_callp, t_some, t_ite]
  exact ⟨by decide, by decide, k0, by omega, fun h2 => by rw [if_neg (by omega)] at hj ⊢; exact hj, fun h2 => by rw [if_pos (by omega)] at hj ⊢; exact hj⟩
theorem pc_wet {M : Mem} {w : Int → Int} (hwf : WF w) {n k : Int} (pc : PC M w n (endT w)) (k0 : 0 ≤ k) (k1 : k < n) {m : Int} (m0 : M 70 k ≤ m) (m1 : m < M 71 k) : wetP w m ↔ (M 73 k = 1 ∧ 0 < rtG w (w 0) (-1) (M 72 k)) := by
  have L := wf_l hwf
  have q := pc.2.2.2 k k0 k1
  have bl := q.2.2.2.2.2.2.1
  have f := q.2.2.2.2.2.2.2.2 m m0 m1
  have rl := rt_le hwf.1 hwf.2.1 hwf.2.2.1 (h := w 0) (by omega) (by omega) (-1) bl.1 bl.2
  unfold wetP
  rw [f.1, f.2]
  constructor
  · rintro ⟨a, b, _⟩; exact ⟨b, by omega⟩
  · rintro ⟨a, b⟩; exact ⟨by omega, a, by omega⟩
def driF (w : Int → Int) (p : Int) : Int × Int := foldZ (fun m x => (if x.1 < (if wetP w m then 0 else x.2 + 1) then (if wetP w m then 0 else x.2 + 1) else x.1, if wetP w m then 0 else x.2 + 1)) (0, 0) p
theorem driF_s {w : Int → Int} {p : Int} (h : 0 ≤ p) : driF w (p + 1) = (if (driF w p).1 < (if wetP w p then 0 else (driF w p).2 + 1) then (if wetP w p then 0 else (driF w p).2 + 1) else (driF w p).1, if wetP w p then 0 else (driF w p).2 + 1) := foldZ_s _ _ h
theorem driF_i {w : Int → Int} {p : Int} (h : 0 ≤ p) : 0 ≤ (driF w p).2 ∧ (driF w p).2 ≤ (driF w p).1 ∧ (driF w p).1 ≤ p := by
  have := foldZ_inv (f := fun m (x : Int × Int) => (if x.1 < (if wetP w m then 0 else x.2 + 1) then (if wetP w m then 0 else x.2 + 1) else x.1, if wetP w m then 0 else x.2 + 1)) (a := (0, 0)) (fun q x => 0 ≤ x.2 ∧ x.2 ≤ x.1 ∧ x.1 ≤ q) ⟨by simp, by simp, by simp⟩ (n := p) (fun k x hk hk1 hx => by
    by_cases c : wetP w k
    · simp only [if_pos c]; split <;> omega
    · simp only [if_neg c]; split <;> omega) h (Int.le_refl _)
  exact this
theorem dri_dry {w : Int → Int} {t : Int} (t0 : 0 ≤ t) (d : Nat) (h : ∀ m, t ≤ m → m < t + d → ¬ wetP w m) : driF w (t + d) = (if (driF w t).1 < (driF w t).2 + d then (driF w t).2 + d else (driF w t).1, (driF w t).2 + d) := by
  have i := driF_i (w := w) t0
  induction d with
  | zero =>
    rw [show t + ((0 : Nat) : Int) = t by omega, show ((0 : Nat) : Int) = 0 by omega, Int.add_zero, if_neg (by omega)]
  | succ d ih =>
    have e := ih (fun m a b => h m a (by omega))
    rw [show t + ((d + 1 : Nat) : Int) = t + d + 1 by omega, driF_s (by omega), e]
    simp only [if_neg (h (t + d) (by omega) (by omega))]
    have ec : ((d + 1 : Nat) : Int) = d + 1 := by omega
    rw [ec]
    refine Prod.ext ?_ ?_
    · simp only
      by_cases c1 : (driF w t).1 < (driF w t).2 + d
      · rw [if_pos c1, if_pos (by omega), if_pos (by omega)]; omega
      · rw [if_neg c1]
        by_cases c2 : (driF w t).1 < (driF w t).2 + d + 1
        · rw [if_pos c2, if_pos (by omega)]; omega
        · rw [if_neg c2, if_neg (by omega)]
    · simp only; omega
theorem dri_wet {w : Int → Int} {t : Int} (t0 : 0 ≤ t) (d : Nat) (h : ∀ m, t ≤ m → m < t + d + 1 → wetP w m) : driF w (t + d + 1) = ((driF w t).1, 0) := by
  have i := driF_i (w := w) t0
  induction d with
  | zero =>
    have hw := h t (by omega) (by omega)
    rw [show t + ((0 : Nat) : Int) + 1 = t + 1 by omega, driF_s t0]
    simp only [if_pos hw]
    rw [if_neg (by omega)]
  | succ d ih =>
    have e := ih (fun m a b => h m a (by omega))
    have hw := h (t + d + 1) (by omega) (by omega)
    rw [show t + ((d + 1 : Nat) : Int) + 1 = t + d + 1 + 1 by omega, driF_s (by omega), e]
    simp only [if_pos hw]
    rw [if_neg (by omega)]
def driestS (w : Int → Int) : Ans := ((driF w (w 1)).1, 0, none)
/-- the k-th piece begins at t -/
def pK (M : Mem) (w : Int → Int) (n k t : Int) : Prop := (k < n → t = M 70 k) ∧ (k = n → t = endT w)
theorem pK_0 {M : Mem} {w : Int → Int} {n : Int} (pc : PC M w n (endT w)) : pK M w n 0 0 := by
  obtain ⟨p1, p2, p3, p4⟩ := pc
  exact ⟨fun h => ((p4 0 (by omega) h).2.2.2.1 rfl).symm, fun h => (p3 h.symm).symm⟩
theorem pK_s {M : Mem} {w : Int → Int} {n k : Int} (pc : PC M w n (endT w)) (k0 : 0 ≤ k) (k1 : k < n) : pK M w n (k + 1) (M 71 k) := by
  have q := pc.2.2.2 k k0 k1
  exact ⟨fun h => (q.2.2.2.2.1 h).symm, fun h => q.2.2.2.2.2.1 h⟩
theorem endT_w {w : Int → Int} (hwf : WF w) (h : 0 < w 5) : endT w = w 1 := edge_n hwf.1 hwf.2.2.1 hwf.2.2.2.1 h
theorem c_driest {M : Mem} {v : Int} {w : Int → Int} (hc : CI M v w) (hwf : WF w) : Tot (f_X11_driest 1 M) (AC (driestS w) M) := by
  have L := wf_l hwf
  have hn := hwf.1
  unfold WFn at hn
  obtain ⟨a, b, c, d, e⟩ := ci_p hc
  obtain ⟨g1, g2, g3, g4, g5, g6, g7⟩ := ci_n hc
  unfold f_X11_driest driestS
  rw [t_getf, a, t_getf, c, t_getf, g5, t_ite]
  refine ⟨by decide, by decide, e, fun h1 => ?_, fun h1 => ?_⟩
  · rw [t_call]
    refine sweptWorld_e hc hwf (fun M' k1 k2 k3 => ?_)
    try dsimp only
    obtain ⟨a', b', c', d', e'⟩ := ci_p k2
    obtain ⟨n, n42, pc⟩ := k3.2.2.1
    have eT := endT_w hwf (by omega)
    obtain ⟨⟨a1, a2, a3, a4, a5, a6, a7, a8, a9, a10, a11, a12⟩, ⟨y1, y2, y3, y4, y5, y6, y7, y8⟩, _⟩ := ci_55 k2
    refine lpIII (fun x y k => 0 ≤ k ∧ k ≤ n ∧ ∃ t, 0 ≤ t ∧ t ≤ w 1 ∧ (x, y) = driF w t ∧ pK M' w n k t) (fun _ _ k => (n - k).toNat) ?_ (by unfold KF; omega) ⟨by omega, pc.2.1, 0, by omega, by omega, rfl, pK_0 pc⟩
    rintro fu x y k ⟨i0, i1, t, i2, i3, i4, i5⟩ ih
    unfold f_X11_driest_L40
    rw [t_getf, pc.1, t_ite]
    refine ⟨by decide, fun h2 => ?_, fun h2 => ?_⟩
    · have ht := i5.2 (by omega)
      rw [ht, eT] at i4
      rw [← i4]
      exact zCa k1 _
    · have ht := i5.1 (by omega)
      have q := pc.2.2.2 k i0 (by omega)
      have di := driF_i (w := w) i2
      rw [← i4] at di
      have hx := pc_wet hwf pc i0 (show k < n by omega) (m := 0)
      have nx := pK_s pc i0 (show k < n by omega)
      rw [t_getf, a', t_getf, c', t_nn, isWet_e k2 hwf k3 pc n42 i0 (by omega), t_callp, t_some, w32_s (x := k + 1) (by omega) (by omega)]
      refine ⟨by decide, by decide, by decide, t_jv (driF w (M' 71 k)).2 ?_ (fun j hj => ?_)⟩
      · rw [max_e, t_callp, t_some]
        refine ih _ _ _ (by omega) ⟨by omega, by omega, M' 71 k, by omega, by omega, ?_, nx⟩
        by_cases cw : M' 73 k = 1 ∧ 0 < rtG w (w 0) (-1) (M' 72 k)
        · have e := dri_wet (w := w) (t := t) i2 (M' 71 k - t - 1).toNat (fun m m0 m1 => (pc_wet hwf pc i0 (by omega) (by omega) (by omega)).mpr cw)
          rw [show t + ((M' 71 k - t - 1).toNat : Int) + 1 = M' 71 k by omega, ← i4] at e
          rw [e, if_neg (by simp only; omega)]
        · have e := dri_dry (w := w) (t := t) i2 (M' 71 k - t).toNat (fun m m0 m1 hh => cw ((pc_wet hwf pc i0 (by omega) (by omega) (by omega)).mp hh))
          rw [show t + ((M' 71 k - t).toNat : Int) = M' 71 k by omega, ← i4] at e
          rw [e]
      · rw [t_ite, i10]
        refine ⟨fun cw => ?_, fun cw => ?_⟩
        · have e := dri_dry (w := w) (t := t) i2 (M' 71 k - t).toNat (fun m m0 m1 hh => cw ((pc_wet hwf pc i0 (by omega) (by omega) (by omega)).mp hh))
          rw [show t + ((M' 71 k - t).toNat : Int) = M' 71 k by omega, ← i4] at e
          rw [e] at hj
          simp only at hj
          rw [t_getf, a10, t_geti, y6, t_getf, a9, t_geti, y5, w32_s (x := y + M' 71 k) (by omega) (by omega), w32_s (by omega) (by omega)]
          rw [show y + ((M' 71 k - t).toNat : Int) = y + M' 71 k - M' 70 k by omega] at hj
          exact ⟨by decide, by decide, i0, by omega, by decide, by decide, i0, by omega, hj⟩
        · have cw := Classical.not_not.mp cw
          have e := dri_wet (w := w) (t := t) i2 (M' 71 k - t - 1).toNat (fun m m0 m1 => (pc_wet hwf pc i0 (by omega) (by omega) (by omega)).mpr cw)
          rw [show t + ((M' 71 k - t - 1).toNat : Int) + 1 = M' 71 k by omega, ← i4] at e
          rw [e] at hj
          exact hj
  · have h5 : w 5 = 0 := by simpa using h1
    have eT : endT w = 0 := by unfold endT; rw [h5, edge_0]
    rw [t_getf, a, t_getf, c, t_getf, g1]
    have dd := dri_dry (w := w) (t := 0) (by omega) (w 1).toNat (fun m m0 m1 hh => by have := hh.2.2; omega)
    rw [show (0 : Int) + ((w 1).toNat : Int) = w 1 by omega, show ((w 1).toNat : Int) = w 1 by omega] at dd
    have d0 : driF w 0 = (0, 0) := rfl
    rw [d0] at dd
    simp only at dd
    rw [if_pos (by omega)] at dd
    rw [dd]
    have := zCa (kc M) (w 1)
    simp only [Int.zero_add]
    exact ⟨by decide, by decide, e, this⟩
/-! the reference lays what is wet -/
theorem hs_k {M N : Mem} {L : List Slo} (h : HS M L) (k : ∀ a j, (a = 119 ∧ j = 30) ∨ (130 ≤ a ∧ a ≤ 132) → N a j = M a j) : HS N L :=
  ⟨by rw [k _ _ (.inl ⟨rfl, rfl⟩)]; exact h.1, fun i x hx => by rw [k _ _ (.inr (by decide)), k _ _ (.inr (by decide)), k _ _ (.inr (by decide))]; exact h.2 i x hx⟩
theorem laysWet_e {M : Mem} {w : Int → Int} {Q : Mem → Prop} (h : RI M w (-1)) (hwf : WF w) (hq : ∀ M', (∀ a j, ¬ SR a j → M' a j = M a j) → (∀ m, 0 ≤ m → m < 1440 → M' 133 m = if wetP w m then fw w m else -1) → Q M') : Tot (f_X12_laysWet 119 M) Q := by
  have hwf' := hwf
  obtain ⟨hn, hr, hf, ho, hl, hw⟩ := hwf
  have hn' := hn
  unfold WFn at hn'
  have ew := h.2.1
  have ct : cont (slotsW w) 0 (endT w) := slotsW_cont hn hl
  have sln := slotsW_len hn ho
  have eT := endT_le hn hf ho
  unfold f_X12_laysWet
  rw [t_callv]
  refine laysSlots_e h.1 (by rw [ew]; exact hn) (by rw [ew]; exact hf) (by rw [ew]; exact ho) (by rw [ew]; exact hl) (fun M1 k1 h1 => ?_)
  rw [ew] at h1
  have h1' := ri_k h (sr_s k1)
  refine lpIM (fun p N => 0 ≤ p ∧ p ≤ 1440 ∧ (∀ a j, ¬ (a = 133 ∧ 0 ≤ j) → N a j = M1 a j) ∧ ∀ m, 0 ≤ m → m < p → N 133 m = -1) (fun p _ => (1440 - p).toNat) ?_ (by unfold KF; omega) ⟨by omega, by omega, fun _ _ _ => rfl, fun m a b => by omega⟩
  rintro fu0 p0 N0 ⟨u0, u1, u2, u3⟩ ih0
  have l35 : N0 119 35 = 133 := by rw [u2 _ _ (by omega)]; exact h1'.1.1.2.2.2.2.2.2.2.2.2.2.2.2.2.1
  have l133 : N0 133 (-1) = 1440 := by rw [u2 _ _ (by omega)]; exact h1'.1.2.2.2.2.2.2.2.2.2.2.2.2.2.2.1
  unfold f_X12_laysWet_L6
  rw [t_ite]
  refine ⟨fun c0 => ?_, fun c0 => ?_⟩
  rotate_left
  · rw [t_getf, l35, t_seti, l133, w32_s (by omega) (by omega)]
    refine ⟨by decide, by decide, u0, by omega, ih0 _ _ (by omega) ⟨by omega, by omega, fun a j ha => by rw [upd2_at, if_neg (by omega), u2 a j ha], fun m a b => ?_⟩⟩
    rw [upd2_at]
    by_cases c1 : m = p0
    · rw [if_pos ⟨rfl, c1⟩]
    · rw [if_neg (fun hh => c1 hh.2)]; exact u3 m a (by omega)
  have k0M : ∀ a j, ¬ SR a j → N0 a j = M a j := fun a j ha => by rw [u2 a j (by unfold SR at ha; omega), k1 a j (by unfold SR at ha; unfold SRs; omega)]
  have hs0 : HS N0 (slotsW w) := hs_k h1 (fun a j ha => u2 a j (by omega))
  refine lpIM (fun k N => 0 ≤ k ∧ k ≤ (slotsW w).length ∧ (∀ a j, ¬ SR a j → N a j = M a j) ∧ HS N (slotsW w) ∧ ∃ t, 0 ≤ t ∧ t ≤ 1440 ∧ tK w k t ∧ ∀ m, 0 ≤ m → m < 1440 → N 133 m = if m < t ∧ wetP w m then fw w m else -1) (fun k _ => ((slotsW w).length - k).toNat) ?_ (by unfold KF; omega) ⟨by omega, by omega, k0M, hs0, 0, by omega, by omega, tK_0 ct, fun m a b => by rw [if_neg (by omega)]; exact u3 m a (by omega)⟩
  clear ih0 u2 u3 l35 l133 hs0 k0M
  rintro fu k N ⟨i0, i1, i2, i3, t, i4, i4', i5, i6⟩ ih
  have hN := ri_k h i2
  unfold f_X12_laysWet_L28
  rw [t_getf, i3.1, t_ite]
  refine ⟨by decide, fun c => ?_, fun c => ?_⟩
  · have ht := i5.2 (by omega)
    rw [t_some]
    refine hq N i2 (fun m a b => ?_)
    rw [i6 m a b, ht]
    by_cases cw : wetP w m
    · rw [if_pos ⟨cw.2.2, cw⟩, if_pos cw]
    · rw [if_neg (fun hh => cw hh.2), if_neg cw]
  · have ht := i5.1 (by omega)
    have q := cont_at ct k i0 (by omega)
    have wa := fun m => who_at ct k m i0 (show k < (slotsW w).length by omega)
    have qs : (slotsW w).getD k.toNat (0, 0, 0) = sl (slotsW w) k := rfl
    have tn := tK_s ct i0 (show k < (slotsW w).length by omega)
    have fl := slots_fld hn ho hl _ (sl_mem i0 (show k < (slotsW w).length by omega))
    have qa0 := hs_at i3 i0 (show k < (slotsW w).length by omega)
    rw [qs] at qa0
    obtain ⟨sk, es⟩ : ∃ s, s = sl (slotsW w) k := ⟨_, rfl⟩
    rw [← es] at q wa ht tn fl qa0
    have a27 : N 119 27 = 130 := hN.1.1.2.2.2.2.2.2.2.2.2.2.1
    have l130 : N 130 (-1) = 24 := hN.1.2.2.2.2.2.2.2.2.2.2.2.1
    have qf := hf sk.1 fl.1 fl.2
    rw [t_getf, a27, t_geti, l130, qa0.1, t_call]
    refine ⟨by decide, by decide, i0, by omega, rateOfR_e hN.1 hN.2.1 hn hr hf hN.2.2 fl.1 fl.2 (fun M4 k4 => ?_)⟩
    try dsimp only
    have h4 := ri_k hN (sr_w k4)
    have hs4 : HS M4 (slotsW w) := hs_k i3 (fun a j ha => k4 a j (by unfold SRw; omega))
    have w4 : ∀ m, 0 ≤ m → m < 1440 → M4 133 m = if m < t ∧ wetP w m then fw w m else -1 := fun m a b => by rw [k4 _ _ (by unfold SRw; omega)]; exact i6 m a b
    have f4 := sr_t i2 (sr_w k4)
    clear k4 i6 i3 hN i2
    rw [w32_s (x := k + 1) (by omega) (by omega)]
    refine t_jq (fun j => ∀ R : Mem, (∀ a j, ¬ SR a j → R a j = M a j) → HS R (slotsW w) → (∀ m, 0 ≤ m → m < 1440 → R 133 m = if m < sk.2.1 + sk.2.2 ∧ wetP w m then fw w m else -1) → Tot (j R) Q) (fun R r1 r2 r3 => ih _ _ (by omega) ⟨by omega, by omega, r1, r2, _, by omega, by omega, tn, r3⟩) (fun j hj => ?_)
    have a28 : M4 119 28 = 131 := h4.1.1.2.2.2.2.2.2.2.2.2.2.2.1
    have l131 : M4 131 (-1) = 24 := h4.1.2.2.2.2.2.2.2.2.2.2.2.2.1
    have qa := hs_at hs4 i0 (show k < (slotsW w).length by omega)
    rw [qs, ← es] at qa
    rw [t_ite]
    refine ⟨fun c2 => ?_, fun c2 => ?_⟩
    · rw [t_getf, a28, t_geti, l131, qa.2.1]
      refine ⟨by decide, by decide, i0, by omega, ?_⟩
      refine lpIM (fun i R => sk.2.1 ≤ i ∧ i ≤ sk.2.1 + sk.2.2 ∧ (∀ a j, ¬ SR a j → R a j = M a j) ∧ HS R (slotsW w) ∧ ∀ m, 0 ≤ m → m < 1440 → R 133 m = if m < i ∧ wetP w m then fw w m else -1) (fun i _ => (sk.2.1 + sk.2.2 - i).toNat) ?_ (by unfold KF; omega) ⟨by omega, by omega, f4, hs4, fun m a b => by rw [w4 m a b, ht]⟩
      rintro fu2 i R ⟨j0, j1, j2, j3, j4⟩ ih2
      have hR := ri_k h j2
      have b28 : R 119 28 = 131 := hR.1.1.2.2.2.2.2.2.2.2.2.2.2.1
      have b29 : R 119 29 = 132 := hR.1.1.2.2.2.2.2.2.2.2.2.2.2.2.1
      have m131 : R 131 (-1) = 24 := hR.1.2.2.2.2.2.2.2.2.2.2.2.2.1
      have m132 : R 132 (-1) = 24 := hR.1.2.2.2.2.2.2.2.2.2.2.2.2.2.1
      have b35 : R 119 35 = 133 := hR.1.1.2.2.2.2.2.2.2.2.2.2.2.2.2.1
      have m133 : R 133 (-1) = 1440 := hR.1.2.2.2.2.2.2.2.2.2.2.2.2.2.2.1
      have qb := hs_at j3 i0 (show k < (slotsW w).length by omega)
      rw [qs, ← es] at qb
      unfold f_X12_laysWet_L63
      rw [t_getf, b28, t_geti, m131, qb.2.1, t_getf, b29, t_geti, m132, qb.2.2, w32_s (x := sk.2.1 + sk.2.2) (by omega) (by omega), t_ite]
      refine ⟨by decide, by decide, i0, by omega, by decide, by decide, i0, by omega, fun c3 => ?_, fun c3 => ?_⟩
      · have : i = sk.2.1 + sk.2.2 := by omega
        subst this
        exact hj R j2 j3 j4
      · have hfw : fw w i = sk.1 := wa i (by omega) (by omega)
        rw [ofF_e hR hn fl.1 fl.2 (by omega) (by omega), t_callp, t_some, comesTo_e hR.1 hR.2.1 hn hr (by omega) qf.2.1 (by omega) (by omega), t_callp, t_some, w32_s (by omega) (by omega)]
        refine t_jq (fun j => ∀ X : Mem, (∀ a j, ¬ SR a j → X a j = M a j) → HS X (slotsW w) → (∀ m, 0 ≤ m → m < 1440 → X 133 m = if m < i + 1 ∧ wetP w m then fw w m else -1) → Tot (j X) Q) (fun X x1 x2 x3 => ih2 _ _ (by omega) ⟨by omega, by omega, x1, x2, x3⟩) (fun j hj => ?_)
        rw [t_ite, i10]
        refine ⟨fun c4 => hj R j2 j3 (fun m a b => ?_), fun c4 => ?_⟩
        · rw [j4 m a b]
          by_cases e : m = i
          · have nw : ¬ wetP w m := fun hh => c4 (by have := hh.2.1; rw [e, hfw] at this; exact this)
            rw [if_neg (fun hh => nw hh.2), if_neg (fun hh => nw hh.2)]
          · have : (m < i + 1 ∧ wetP w m) ↔ (m < i ∧ wetP w m) := ⟨fun hh => ⟨by omega, hh.2⟩, fun hh => ⟨by omega, hh.2⟩⟩
            simp only [this]
        · have c4 := Classical.not_not.mp c4
          rw [t_getf, b35, t_seti, m133]
          refine ⟨by decide, by decide, by omega, by omega, hj _ (fun a j ha => by rw [upd2_at, if_neg (by unfold SR at ha; omega)]; exact j2 a j ha) (hs_k j3 (fun a j ha => by rw [upd2_at, if_neg (by omega)])) (fun m a b => ?_)⟩
          rw [upd2_at]
          by_cases e : m = i
          · have yw : wetP w m := ⟨by rw [e, hfw]; exact c2, by rw [e, hfw]; exact c4, by omega⟩
            rw [if_pos ⟨rfl, e⟩, if_pos ⟨by omega, yw⟩, e, hfw]
          · rw [if_neg (fun hh => e hh.2), j4 m a b]
            have : (m < i + 1 ∧ wetP w m) ↔ (m < i ∧ wetP w m) := ⟨fun hh => ⟨by omega, hh.2⟩, fun hh => ⟨by omega, hh.2⟩⟩
            simp only [this]
    · refine hj M4 f4 hs4 (fun m a b => ?_)
      rw [w4 m a b, ht]
      have c2 : rtG w (w 0) (-1) sk.1 = 0 := by simpa [rtG] using c2
      by_cases e : sk.2.1 ≤ m ∧ m < sk.2.1 + sk.2.2
      · have nw : ¬ wetP w m := fun hh => hh.1 (by rw [show fw w m = sk.1 from wa m e.1 e.2]; exact c2)
        rw [if_neg (fun hh => nw hh.2), if_neg (fun hh => nw hh.2)]
      · have : (m < sk.2.1 ∧ wetP w m) ↔ (m < sk.2.1 + sk.2.2 ∧ wetP w m) := ⟨fun hh => ⟨by omega, hh.2⟩, fun hh => ⟨by omega, hh.2⟩⟩
        simp only [this]
theorem fw_in {w : Int → Int} (hwf : WF w) {m : Int} (m0 : 0 ≤ m) (m1 : m < endT w) : 0 ≤ fw w m ∧ fw w m < w 5 := by
  have key : ∀ {L : List Slo} {a b : Int}, cont L a b → a ≤ m → m < b → ∃ x ∈ L, (whoL L m).1 = x.1 := by
    intro L
    induction L with
    | nil => intro a b h h1 h2; unfold cont at h; omega
    | cons s t ih =>
      intro a b h h1 h2
      rw [whoL_c]
      by_cases c : m < s.2.1 + s.2.2
      · rw [if_pos c]; exact ⟨s, List.mem_cons_self, rfl⟩
      · rw [if_neg c]
        obtain ⟨x, x1, x2⟩ := ih h.2.2 (by have := h.1; omega) h2
        exact ⟨x, List.mem_cons_of_mem _ x1, x2⟩
  obtain ⟨x, x1, x2⟩ := key (slotsW_cont hwf.1 hwf.2.2.2.2.1) m0 m1
  have := slots_fld hwf.1 hwf.2.2.2.1 hwf.2.2.2.2.1 x x1
  unfold fw; rw [x2]; exact this
theorem r_driest {M : Mem} {w : Int → Int} (h : RI M w (-1)) (hwf : WF w) : Tot (f_X12_driest 119 M) (AR (driestS w) M) := by
  have hn := hwf.1
  unfold WFn at hn
  unfold f_X12_driest driestS
  rw [t_callv]
  refine laysWet_e h hwf (fun M1 k1 w1 => ?_)
  have h1 := ri_k h k1
  obtain ⟨a, b, ww⟩ := ri_at h1
  have b35 : M1 119 35 = 133 := h1.1.1.2.2.2.2.2.2.2.2.2.2.2.2.2.1
  have m133 : M1 133 (-1) = 1440 := h1.1.2.2.2.2.2.2.2.2.2.2.2.2.2.2.1
  refine lpIII (fun x y p => 0 ≤ p ∧ p ≤ w 1 ∧ (x, y) = driF w p) (fun _ _ p => (w 1 - p).toNat) ?_ (by unfold KF; omega) ⟨by omega, by omega, rfl⟩
  rintro n x y p ⟨i0, i1, i2⟩ ih
  have di := driF_i (w := w) i0
  have ds := driF_s (w := w) i0
  rw [← i2] at di ds
  unfold f_X12_driest_L10
  rw [t_getf, a, t_geti, b, ww, t_ite]
  refine ⟨by decide, by decide, by decide, by decide, fun c => ?_, fun c => ?_⟩
  · rw [show p = w 1 by omega] at i2
    rw [← i2]; exact zRa k1 _
  · rw [t_getf, b35, t_geti, m133, w1 p i0 (by omega)]
    refine ⟨by decide, by decide, i0, by omega, t_jv (if wetP w p then 0 else y + 1) ?_ (fun j hj => ?_)⟩
    · rw [max_e, t_callp, t_some, w32_s (by omega) (by omega)]
      exact ih _ _ _ (by omega) ⟨by omega, by omega, ds.symm⟩
    · rw [t_ite]
      by_cases cw : wetP w p
      · have := fw_in hwf i0 cw.2.2
        rw [if_pos cw] at hj ⊢
        exact ⟨fun _ => hj, fun h2 => absurd (show fw w p ≠ -1 by omega) h2⟩
      · rw [if_neg cw] at hj ⊢
        rw [w32_s (by omega) (by omega)]
        exact ⟨fun h2 => absurd rfl h2, fun _ => hj⟩
