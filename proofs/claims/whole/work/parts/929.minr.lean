/-! the reference: who comes, who is below, minutes -/
theorem comesTo_e {N : Mem} {w : Int → Int} (h : LR N) (ew : N 120 = w) (hn : WFn w) (hr : WFr w) {r m : Int} (r0 : -1 ≤ r) (r1 : r < w 3) (m0 : 0 ≤ m) (m1 : m ≤ 1440) : f_X12_comesTo 119 r m N = some (if opn w m r then 1 else 0) := by
  have hn' := hn
  unfold WFn at hn'
  rw [← t_eq]
  unfold f_X12_comesTo
  refine lpI (fun p => -1 ≤ p ∧ p < w 3 ∧ (opn w m p ↔ opn w m r)) (fun p => (p + 1).toNat) ?_ (by unfold KF; omega) ⟨r0, r1, Iff.rfl⟩
  rintro n p ⟨i0, i1, i2⟩ ih
  unfold f_X12_comesTo_L2
  rw [t_ite]
  refine ⟨fun c => ?_, fun c => ?_⟩
  · rw [t_retz, if_pos (i2.mp (by rw [c]; exact opn_neg w m))]; exact ⟨.inr rfl, rfl⟩
  · have q := hr p (by omega) i1
    have os := opn_s hr (by omega) (show 0 ≤ p by omega) i1 m
    have lb := letsBy_e h (by rw [ew]; exact hn) (r := p) (m := m) (by omega) (by rw [ew]; exact i1) m0 m1
    have of := ofReach_e h (r := p) (k := 0) (by omega) (by omega) (by omega) (by omega)
    rw [ew] at lb of
    rw [lb, t_callp, t_some, t_ite, n10, of, t_callp, t_some, t_retz]
    refine ⟨fun c2 => ih _ (by omega) ⟨by omega, by omega, ?_⟩, fun c2 => ⟨.inl rfl, ?_⟩⟩
    · rw [← i2, os]; exact ⟨fun h => ⟨c2, h⟩, fun h => h.2⟩
    · rw [if_neg (fun h => c2 (os.mp (i2.mpr h)).1)]
theorem isBelow_e {N : Mem} {w : Int → Int} (h : LR N) (ew : N 120 = w) (hn : WFn w) (hr : WFr w) (hf : WFf w) {f r : Int} (f0 : 0 ≤ f) (f1 : f < w 5) : f_X12_isBelow 119 f r N = some (if bel w f r then 1 else 0) := by
  have hn' := hn
  unfold WFn at hn'
  have qf := hf f f0 f1
  have off := ofField_e h (r := f) (k := 0) (by omega) (by omega) (by omega) (by omega)
  rw [ew] at off
  rw [← t_eq]
  unfold f_X12_isBelow
  rw [off, t_callp, t_some]
  refine lpI (fun p => -1 ≤ p ∧ p < w 3 ∧ (r ∈ ch w p ↔ bel w f r)) (fun p => (p + 1).toNat) ?_ (by unfold KF; omega) ⟨by omega, qf.2.1, Iff.rfl⟩
  rintro n p ⟨i0, i1, i2⟩ ih
  unfold f_X12_isBelow_L7
  rw [t_ite]
  refine ⟨fun c => ?_, fun c => ?_⟩
  · rw [t_retz, if_neg (fun h => by have := i2.mpr h; rw [c, ch_neg] at this; simp at this)]; exact ⟨.inl rfl, rfl⟩
  · have q := hr p (by omega) i1
    have cs := ch_s hr (by omega) (show 0 ≤ p by omega) i1
    have of := ofReach_e h (r := p) (k := 0) (by omega) (by omega) (by omega) (by omega)
    rw [ew] at of
    rw [t_ite, of, t_callp, t_some, t_retz]
    refine ⟨fun c2 => ih _ (by omega) ⟨by omega, by omega, ?_⟩, fun c2 => ⟨.inr rfl, ?_⟩⟩
    · rw [← i2, cs]
      exact ⟨fun h => List.mem_cons_of_mem _ h, fun h => by
        rcases List.mem_cons.mp h with e | e
        · exact absurd e.symm c2
        · exact e⟩
    · have c2' : p = r := by simpa using c2
      rw [if_pos (i2.mp (by rw [cs, c2']; exact List.mem_cons_self))]
def minsW (w : Int → Int) (f x : Int) : Int := if x = 0 then sumZ (gS w f) (endT w) else sumZ (gO w f) (endT w)
/-- where the k-th slot begins -/
def tK (w : Int → Int) (k t : Int) : Prop := (k < (slotsW w).length → t = (sl (slotsW w) k).2.1) ∧ (k = (slotsW w).length → t = endT w)
theorem tK_0 {w : Int → Int} (ct : cont (slotsW w) 0 (endT w)) : tK w 0 0 := ⟨fun h => ((cont_at ct 0 (by omega) h).2.2.2.1 rfl).symm, fun h => cont_nil ct h.symm⟩
theorem tK_s {w : Int → Int} (ct : cont (slotsW w) 0 (endT w)) {k : Int} (h0 : 0 ≤ k) (h1 : k < (slotsW w).length) : tK w (k + 1) ((sl (slotsW w) k).2.1 + (sl (slotsW w) k).2.2) := by
  have q := cont_at ct k h0 h1
  exact ⟨fun h => (q.2.2.2.2.1 h).symm, fun h => q.2.2.2.2.2 h⟩
theorem minutesOf_e {M : Mem} {w : Int → Int} {Q : Int × Mem → Prop} (h : LR M) (ew : M 120 = w) (hwf : WF w) {f x : Int} (f0 : 0 ≤ f) (f1 : f < w 5) (hq : ∀ M', (∀ a j, ¬ SRs a j → M' a j = M a j) → Q (minsW w f x, M')) : Tot (f_X12_minutesOf 119 f x M) Q := by
  obtain ⟨hn, hr, hf, ho, hl, hw⟩ := hwf
  have hn' := hn
  unfold WFn at hn'
  have ct : cont (slotsW w) 0 (endT w) := slotsW_cont hn hl
  have sln := slotsW_len hn ho
  have eT := endT_le hn hf ho
  have qf := hf f f0 f1
  unfold f_X12_minutesOf
  rw [t_callv]
  refine laysSlots_e h (by rw [ew]; exact hn) (by rw [ew]; exact hf) (by rw [ew]; exact ho) (by rw [ew]; exact hl) (fun M1 k1 h1 => ?_)
  rw [ew] at h1
  have hL : LR M1 := lr_s h (sr_s k1)
  have e1 : M1 120 = w := by rw [← ew]; exact funext fun j => k1 120 j (by unfold SRs; omega)
  obtain ⟨⟨a1, a2, a3, a4, a5, a6, a7, a8, a9, a10, a11, a12, a13, a14, a15, a16, a17⟩, ⟨c1, c2, c3, c4, c5, c6, c7, c8, c9, c10, c11, c12, c13, c14, c15, c16, c17⟩⟩ := hL
  have hL : LR M1 := lr_s h (sr_s k1)
  obtain ⟨g, eg⟩ : ∃ g : Int → Int, g = fun m => if fw w m = f ∧ (x = 0 ∨ opn w m (fc w f 0)) then 1 else 0 := ⟨_, rfl⟩
  have gm : sumZ g (endT w) = minsW w f x := by
    unfold minsW
    rw [eg]
    by_cases hx : x = 0
    · rw [if_pos hx]; simp only [hx, true_or, and_true]
    · rw [if_neg hx]; simp only [hx, false_or]
  have g01 : ∀ k, 0 ≤ g k ∧ g k ≤ 1 := fun k => by rw [eg]; exact i01
  refine lpII (fun s k => 0 ≤ k ∧ k ≤ (slotsW w).length ∧ ∃ t, 0 ≤ t ∧ s = sumZ g t ∧ tK w k t) (fun _ k => ((slotsW w).length - k).toNat) ?_ (by unfold KF; omega) ⟨by omega, by omega, 0, by omega, rfl, tK_0 ct⟩
  rintro fu s k ⟨i0, i1, t, i2, i3, i4⟩ ih
  unfold f_X12_minutesOf_L9
  rw [t_getf, h1.1, t_ite]
  refine ⟨by decide, fun c => ?_, fun c => ?_⟩
  · have ht := i4.2 (by omega)
    rw [t_some, i3, ht, gm]
    exact hq M1 k1
  · have ht := i4.1 (by omega)
    have q := cont_at ct k i0 (by omega)
    have wa := fun m => who_at ct k m i0 (show k < (slotsW w).length by omega)
    have qa := hs_at h1 i0 (show k < (slotsW w).length by omega)
    have qs : (slotsW w).getD k.toNat (0, 0, 0) = sl (slotsW w) k := rfl
    have tn := tK_s ct i0 (show k < (slotsW w).length by omega)
    rw [qs] at qa
    obtain ⟨sk, es⟩ : ∃ s, s = sl (slotsW w) k := ⟨_, rfl⟩
    rw [← es] at q qa wa ht tn
    rw [t_getf, a11, t_geti, c11, qa.1, w32_s (x := k + 1) (by omega) (by omega)]
    refine ⟨by decide, by decide, i0, by omega, t_jq (fun j => Tot (j (sumZ g (sk.2.1 + sk.2.2))) Q) ?_ (fun j hj => ?_)⟩
    · exact ih _ _ (by omega) ⟨by omega, by omega, _, by omega, rfl, tn⟩
    · rw [t_ite]
      refine ⟨fun c2 => ?_, fun c2 => ?_⟩
      · refine lpII (fun y i => 0 ≤ i ∧ i ≤ sk.2.2 ∧ y = sumZ g (sk.2.1 + i)) (fun _ i => (sk.2.2 - i).toNat) ?_ (by unfold KF; omega) ⟨by omega, by omega, by rw [i3, ht, Int.add_zero]⟩
        rintro fu2 y i ⟨j0, j1, j2⟩ ih2
        unfold f_X12_minutesOf_L35
        rw [t_getf, a13, t_geti, c13, qa.2.2, t_ite]
        refine ⟨by decide, by decide, i0, by omega, fun c3 => ?_, fun c3 => ?_⟩
        · rw [j2, show i = sk.2.2 by omega]; exact hj
        · have hs := sumZ_s g (p := sk.2.1 + i) (by omega)
          have b1 := sum01 (g := g) g01 (p := sk.2.1 + i) (by omega)
          have hg : g (sk.2.1 + i) = if x = 0 ∨ opn w (sk.2.1 + i) (fc w f 0) then 1 else 0 := by
            rw [eg]; simp only [show fw w (sk.2.1 + i) = f from by rw [← c2]; exact wa _ (by omega) (by omega), true_and]
          have hg01 := g01 (sk.2.1 + i)
          refine t_jq (fun j => Tot (j (g (sk.2.1 + i))) Q) ?_ (fun j hj2 => ?_)
          · rw [t_letv, j2, w32_s (by omega) (by omega), w32_s (by omega) (by omega), ← hs]
            exact ih2 _ _ (by omega) ⟨by omega, by omega, by rw [Int.add_assoc]⟩
          · have off := ofField_e hL (r := f) (k := 0) (by omega) (by omega) (by omega) (by omega)
            rw [e1] at off
            rw [t_jn, t_ite]
            refine ⟨fun c4 => ?_, fun c4 => ?_⟩
            · rw [hg, if_pos (.inl c4)] at hj2; exact hj2
            · rw [off, t_callp, t_some, t_getf, a12, t_geti, c12, qa.2.1, w32_s (by omega) (by omega), comesTo_e hL e1 hn hr (by omega) qf.2.1 (by omega) (by omega), t_callp, t_some, t_ite, i10]
              refine ⟨by decide, by decide, i0, by omega, fun c5 => ?_, fun c5 => ?_⟩
              · rw [hg, if_neg (fun h => h.elim c4 c5)] at hj2; exact hj2
              · rw [hg, if_pos (.inr (Classical.not_not.mp c5))] at hj2; exact hj2
      · have := sumZ_run' (g := g) (t := sk.2.1) (u := sk.2.1 + sk.2.2) (c := 0) (by omega) (by omega) (fun m m0 m1 => by
          rw [eg]; simp only
          rw [if_neg (fun h => c2 (by rw [← h.1]; exact (wa m m0 m1).symm))])
        rw [Int.mul_zero, Int.add_zero] at this
        rw [i3, ht, ← this]; exact hj
