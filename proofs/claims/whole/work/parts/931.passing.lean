/-! the reference: how many minutes pass -/
theorem passing_e {M : Mem} {w : Int → Int} {m : Int} {Q : Int × Mem → Prop} (h : RI M w m) (hwf : WF w) {r x : Int} (r0 : 0 ≤ r) (r1 : r < w 3) (hx : x = 1 ∨ x = 2) (hq : ∀ M', (∀ a j, ¬ SR a j → M' a j = M a j) → Q (if x = 1 then thM w r else stM w r, M')) : Tot (f_X12_passing 119 r x M) Q := by
  obtain ⟨hn, hr, hf, ho, hl, hw⟩ := hwf
  have hn' := hn
  unfold WFn at hn'
  have ew := h.2.1
  have ct : cont (slotsW w) 0 (endT w) := slotsW_cont hn hl
  have sln := slotsW_len hn ho
  have eT := endT_le hn hf ho
  have qr := hr r r0 r1
  have os := fun m => opn_s hr (by omega) r0 r1 m
  unfold f_X12_passing
  rw [t_callv]
  refine laysSlots_e h.1 (by rw [ew]; exact hn) (by rw [ew]; exact hf) (by rw [ew]; exact ho) (by rw [ew]; exact hl) (fun M1 k1 h1 => ?_)
  rw [ew] at h1
  have hL : LR M1 := lr_s h.1 (sr_s k1)
  have e1 : M1 120 = w := by rw [← ew]; exact funext fun j => k1 120 j (by unfold SRs; omega)
  obtain ⟨⟨a1, a2, a3, a4, a5, a6, a7, a8, a9, a10, a11, a12, a13, a14, a15, a16, a17⟩, ⟨c1, c2, c3, c4, c5, c6, c7, c8, c9, c10, c11, c12, c13, c14, c15, c16, c17⟩⟩ := hL
  have hL : LR M1 := lr_s h.1 (sr_s k1)
  obtain ⟨g, eg⟩ : ∃ g : Int → Int, g = fun m => if bel w (fw w m) r ∧ opn w m (rc w r 0) ∧ (x = 1 ↔ letsW w r m) then 1 else 0 := ⟨_, rfl⟩
  have gm : sumZ g (endT w) = if x = 1 then thM w r else stM w r := by
    rw [eg]
    rcases hx with e | e
    · rw [if_pos e]; unfold thM
      refine sumZ_congr (fun k _ _ => ?_)
      have : (bel w (fw w k) r ∧ opn w k (rc w r 0) ∧ (x = 1 ↔ letsW w r k)) ↔ (bel w (fw w k) r ∧ opn w k r) := by
        rw [os k]; simp only [e, true_iff]
        exact ⟨fun ⟨p, q, s⟩ => ⟨p, s, q⟩, fun ⟨p, s, q⟩ => ⟨p, q, s⟩⟩
      simp only [gT, this]
    · rw [if_neg (by omega)]; unfold stM
      refine sumZ_congr (fun k _ _ => ?_)
      have h1 : x ≠ 1 := by omega
      simp only [gP, h1, false_iff]
  have g01 : ∀ k, 0 ≤ g k ∧ g k ≤ 1 := fun k => by rw [eg]; exact i01
  refine lpII (fun s k => 0 ≤ k ∧ k ≤ (slotsW w).length ∧ ∃ t, 0 ≤ t ∧ s = sumZ g t ∧ tK w k t) (fun _ k => ((slotsW w).length - k).toNat) ?_ (by unfold KF; omega) ⟨by omega, by omega, 0, by omega, rfl, tK_0 ct⟩
  rintro fu s k ⟨i0, i1, t, i2, i3, i4⟩ ih
  unfold f_X12_passing_L9
  rw [t_getf, h1.1, t_ite]
  refine ⟨by decide, fun c => ?_, fun c => ?_⟩
  · have ht := i4.2 (by omega)
    rw [t_some, i3, ht, gm]
    exact hq M1 (sr_s k1)
  · have ht := i4.1 (by omega)
    have q := cont_at ct k i0 (by omega)
    have wa := fun m => who_at ct k m i0 (show k < (slotsW w).length by omega)
    have qa := hs_at h1 i0 (show k < (slotsW w).length by omega)
    have qs : (slotsW w).getD k.toNat (0, 0, 0) = sl (slotsW w) k := rfl
    have tn := tK_s ct i0 (show k < (slotsW w).length by omega)
    have fl := slots_fld hn ho hl _ (sl_mem i0 (show k < (slotsW w).length by omega))
    rw [qs] at qa
    obtain ⟨sk, es⟩ : ∃ s, s = sl (slotsW w) k := ⟨_, rfl⟩
    rw [← es] at q qa wa ht tn fl
    rw [t_getf, a11, t_geti, c11, qa.1, isBelow_e hL e1 hn hr hf fl.1 fl.2, t_callp, t_some, w32_s (x := k + 1) (by omega) (by omega)]
    refine ⟨by decide, by decide, i0, by omega, t_jq (fun j => Tot (j (sumZ g (sk.2.1 + sk.2.2))) Q) ?_ (fun j hj => ?_)⟩
    · exact ih _ _ (by omega) ⟨by omega, by omega, _, by omega, rfl, tn⟩
    · rw [t_ite, n10]
      refine ⟨fun c2 => ?_, fun c2 => ?_⟩
      · rw [t_getf, a12, t_geti, c12, qa.2.1]
        refine ⟨by decide, by decide, i0, by omega, ?_⟩
        refine lpII (fun y i => sk.2.1 ≤ i ∧ i ≤ sk.2.1 + sk.2.2 ∧ y = sumZ g i) (fun _ i => (sk.2.1 + sk.2.2 - i).toNat) ?_ (by unfold KF; omega) ⟨by omega, by omega, by rw [i3, ht]⟩
        rintro fu2 y i ⟨j0, j1, j2⟩ ih2
        unfold f_X12_passing_L45
        rw [t_getf, a12, t_geti, c12, qa.2.1, t_getf, a13, t_geti, c13, qa.2.2, w32_s (x := sk.2.1 + sk.2.2) (by omega) (by omega), t_ite]
        refine ⟨by decide, by decide, i0, by omega, by decide, by decide, i0, by omega, fun c3 => ?_, fun c3 => ?_⟩
        · rw [j2, show i = sk.2.1 + sk.2.2 by omega]; exact hj
        · have hs := sumZ_s g (p := i) (by omega)
          have b1 := sum01 (g := g) g01 (p := i) (by omega)
          have hg : g i = if opn w i (rc w r 0) ∧ (x = 1 ↔ letsW w r i) then 1 else 0 := by
            rw [eg]
            have e : fw w i = sk.1 := wa i (by omega) (by omega)
            simp only [e, c2, true_and]
          have hg01 := g01 i
          have of := ofReach_e hL (r := r) (k := 0) r0 (by omega) (by omega) (by omega)
          have lb := letsBy_e hL (by rw [e1]; exact hn) (r := r) (m := i) r0 (by rw [e1]; exact r1) (by omega) (by omega)
          rw [e1] at of lb
          rw [of, t_callp, t_some, lb]
          refine t_jq (fun j => Tot (j (if opn w i (rc w r 0) then 1 else 0)) Q) ?_ (fun j hj2 => ?_)
          · rw [t_callp, t_some]
            refine t_jq (fun j => Tot (j (g i)) Q) ?_ (fun j hj2 => ?_)
            · rw [t_letv, j2, w32_s (by omega) (by omega), w32_s (by omega) (by omega), ← hs]
              exact ih2 _ _ (by omega) ⟨by omega, by omega, rfl⟩
            · rw [t_jn, t_ite, i10, t_jn, t_ite, t_jn, t_ite, t_ite, t_ite]
              refine ⟨fun c4 => ?_, fun c4 => ⟨fun c5 => by omega, fun c5 => ⟨fun c6 => ⟨fun c7 => ?_, fun c7 => ?_⟩, fun c6 => ⟨fun c7 => ?_, fun c7 => ?_⟩⟩⟩⟩
              · rw [hg, if_neg (fun h => c4 h.1)] at hj2; exact hj2
              · rw [hg, if_neg (fun h => by have h2 := h.2; simp only [c6, false_iff] at h2; rw [if_neg h2] at c7; exact c7 rfl)] at hj2; exact hj2
              · rw [hg, if_pos ⟨Classical.not_not.mp c4, by
                  have c6' : ¬ x = 1 := c6
                  have c7' : (0 : Int) = (if letsW w r i then 1 else 0) := Classical.not_not.mp c7
                  simp only [c6', false_iff]
                  intro hh; rw [if_pos hh] at c7'; omega⟩] at hj2; exact hj2
              · have c6' : x = 1 := Classical.not_not.mp c6
                rw [hg, if_neg (fun h => by have h2 := h.2; simp only [c6', true_iff] at h2; rw [if_pos h2] at c7; exact c7 rfl)] at hj2; exact hj2
              · have c6' : x = 1 := Classical.not_not.mp c6
                have c7' : (1 : Int) = (if letsW w r i then 1 else 0) := Classical.not_not.mp c7
                rw [hg, if_pos ⟨Classical.not_not.mp c4, by
                  simp only [c6', true_iff]
                  by_cases hh : letsW w r i
                  · exact hh
                  · rw [if_neg hh] at c7'; omega⟩] at hj2; exact hj2
          · rw [t_jn, t_ite]
            refine ⟨fun c4 => ?_, fun c4 => ?_⟩
            · rw [if_pos (by rw [c4]; exact opn_neg w i)] at hj2; exact hj2
            · rw [t_callp, t_some, comesTo_e hL e1 hn hr (by omega) (by omega) (by omega) (by omega), t_callp, t_some, t_ite, i10]
              refine ⟨fun c5 => ?_, fun c5 => ?_⟩
              · rw [if_neg c5] at hj2; exact hj2
              · rw [if_pos (Classical.not_not.mp c5)] at hj2; exact hj2
      · have := sumZ_run' (g := g) (t := sk.2.1) (u := sk.2.1 + sk.2.2) (c := 0) (by omega) (by omega) (fun m m0 m1 => by
          rw [eg]; simp only
          rw [if_neg (fun h => c2 (by rw [← wa m m0 m1]; exact h.1))])
        rw [Int.mul_zero, Int.add_zero] at this
        rw [i3, ht, ← this]; exact hj
