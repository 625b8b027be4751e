/-! below -/
theorem fieldsBelow_e {M : Mem} {v : Int} {w : Int → Int} (hc : CI M v w) (hn : WFn w) (hr : WFr w) (hf : WFf w) {r : Int} (r0 : 0 ≤ r) (r1 : r < w 3) : f_X8_fieldsBelow v r M = some (setZ (fun f => bel w f r) (w 5)) := by
  have hn' := hn
  unfold WFn at hn'
  obtain ⟨na, nb, nc, nd, ne⟩ := ci_p hc
  obtain ⟨g1, g2, g3, g4, g5, g6, g7⟩ := ci_n hc
  rw [← t_eq]
  unfold f_X8_fieldsBelow
  rw [t_letv, t_letv, w32_s (by omega) (by omega)]
  have mem : ∀ s, 0 ≤ s → s < w 3 → r ∈ ch w s → r ≤ s := fun s s0 s1 hm => (ch_mem hr (by omega) 10 s (by omega) (by omega) s1 r hm).2
  refine lpII (fun x p => r < p ∧ p ≤ w 3 ∧ ∀ s, 0 ≤ s → s < w 3 → (bt x s ↔ s < p ∧ r ∈ ch w s)) (fun _ p => (w 3 - p).toNat) ?_ (by unfold KF; omega) ⟨by omega, by omega, fun s s0 s1 => ?_⟩
  · rintro n x p ⟨i0, i1, i2⟩ ih
    unfold f_X8_fieldsBelow_L8
    rw [t_getf, g3, t_ite]
    refine ⟨ne, fun c => ?_, fun c => ?_⟩
    · refine lpII (fun y f => 0 ≤ f ∧ f ≤ w 5 ∧ y = setZ (fun f => bel w f r) f) (fun _ f => (w 5 - f).toNat) ?_ (by unfold KF; omega) ⟨by omega, by omega, rfl⟩
      rintro n2 y f ⟨j0, j1, j2⟩ ih2
      unfold f_X8_fieldsBelow_L61
      rw [t_getf, g5, t_ite]
      refine ⟨ne, fun c2 => by rw [t_some, j2, show f = w 5 by omega], fun c2 => ?_⟩
      obtain ⟨a1, a2, a3, a4, a5, a6, a7⟩ := ci_f hc hn j0 (show f < w 5 by omega)
      have s0 := a5 0 (by omega) (by omega)
      have q := hf f j0 (by omega)
      rw [t_getf, a1, t_geti, a2, a3, t_geti, a4, s0, t_letv, w32_s (by omega) (by omega)]
      refine ⟨ne, a6, j0, by omega, a7, by decide, by omega, ih2 _ _ (by omega) ⟨by omega, by omega, ?_⟩⟩
      rw [setZ_s _ j0, j2]
      congr 1
      have hb := i2 (fc w f 0) q.1 q.2.1
      by_cases cb : bel w f r
      · have : bt x (fc w f 0) := hb.mpr ⟨by omega, cb⟩
        rw [if_pos cb, show iandv (ishrv x (fc w f 0)) 1 = 1 from this]
      · have : ¬ bt x (fc w f 0) := fun hh => cb (hb.mp hh).2
        rw [if_neg cb, nbt this, shl_0 j0 (by omega)]
    · obtain ⟨a1, a2, a3, a4, a5, a6, a7⟩ := ci_r hc hn (show 0 ≤ p by omega) (show p < w 3 by omega)
      have s0 := a5 0 (by omega) (by omega)
      have q := hr p (by omega) (by omega)
      have cs := ch_s hr (by omega) (show 0 ≤ p by omega) (show p < w 3 by omega)
      have hin : r ∈ ch w p ↔ r ∈ ch w (rc w p 0) := by
        rw [cs]
        exact ⟨fun h => by
          rcases List.mem_cons.mp h with e | e
          · omega
          · exact e, fun h => List.mem_cons_of_mem _ h⟩
      rw [t_getf, a1, t_geti, a2, a3, t_geti, a4, s0, w32_s (x := p + 1) (by omega) (by omega)]
      have step : ∀ y, (∀ s, 0 ≤ s → s < w 3 → (bt y s ↔ bt x s ∨ (s = p ∧ r ∈ ch w p))) → (r < p + 1 ∧ p + 1 ≤ w 3 ∧ ∀ s, 0 ≤ s → s < w 3 → (bt y s ↔ s < p + 1 ∧ r ∈ ch w s)) := fun y hy => ⟨by omega, by omega, fun s s0 s1 => by
        rw [hy s s0 s1, i2 s s0 s1]
        constructor
        · rintro (⟨x1, x2⟩ | ⟨x1, x2⟩)
          · exact ⟨by omega, x2⟩
          · rw [x1]; exact ⟨by omega, x2⟩
        · rintro ⟨x1, x2⟩
          by_cases e : s = p
          · rw [e] at x2; exact .inr ⟨e, x2⟩
          · exact .inl ⟨by omega, x2⟩⟩
      refine ⟨ne, a6, by omega, by omega, a7, by decide, by omega, t_jq (fun j => ∀ y, (∀ s, 0 ≤ s → s < w 3 → (bt y s ↔ bt x s ∨ (s = p ∧ r ∈ ch w p))) → Tot (j y) (fun y => y = setZ (fun f => bel w f r) (w 5))) (fun y hy => ih _ _ (by omega) (step y hy)) (fun j hj => ?_)⟩
      rw [t_ite]
      refine ⟨fun c2 => hj x (fun s s0 s1 => ⟨fun h => .inl h, fun h => ?_⟩), fun c2 => ?_⟩
      · rcases h with h | ⟨h, h2⟩
        · exact h
        · rw [hin, c2, ch_neg] at h2; simp at h2
      · have hb := i2 (rc w p 0) (by omega) (by omega)
        rw [t_getf, a1, t_geti, a2, a3, t_geti, a4, s0, t_ite, t_letv]
        refine ⟨ne, a6, by omega, by omega, a7, by decide, by omega, fun c3 => hj x (fun s s0 s1 => ⟨fun h => .inl h, fun h => ?_⟩), fun c3 => hj _ (fun s s0 s1 => ?_)⟩
        · rcases h with h | ⟨h, h2⟩
          · exact h
          · exact absurd (hb.mpr ⟨by omega, hin.mp h2⟩) c3
        · have hm := (hb.mp (Classical.not_not.mp c3)).2
          rw [bt_or (by omega) (by omega) s0 (by omega)]
          exact ⟨fun h => h.elim .inl (fun e => .inr ⟨e, hin.mpr hm⟩), fun h => h.elim .inl (fun e => .inr e.1)⟩
  · rw [bt_1 r0 (by omega) s0 (by omega)]
    constructor
    · intro e; rw [e]; exact ⟨by omega, by rw [ch_s hr (by omega) r0 r1]; exact List.mem_cons_self⟩
    · rintro ⟨x1, x2⟩
      have := mem s s0 s1 x2
      omega
theorem belowOf_e {M : Mem} {w : Int → Int} {m : Int} (h : RI M w m) (hn : WFn w) (hr : WFr w) (hf : WFf w) (r : Int) : f_X12_belowOf 119 r M = some (setZ (fun f => bel w f r) (w 5)) := by
  have hn' := hn
  unfold WFn at hn'
  obtain ⟨a, b, ww⟩ := ri_at h
  rw [← t_eq]
  unfold f_X12_belowOf
  refine lpII (fun y f => 0 ≤ f ∧ f ≤ w 5 ∧ y = setZ (fun f => bel w f r) f) (fun _ f => (w 5 - f).toNat) ?_ (by unfold KF; omega) ⟨by omega, by omega, rfl⟩
  rintro n2 y f ⟨j0, j1, j2⟩ ih2
  unfold f_X12_belowOf_L4
  rw [t_getf, a, t_geti, b, ww, t_ite]
  refine ⟨by decide, by decide, by decide, by decide, fun c2 => by rw [t_some, j2, show f = w 5 by omega], fun c2 => ?_⟩
  rw [isBelow_e h.1 h.2.1 hn hr hf j0 (by omega), t_callp, t_some]
  refine t_jv (if bel w f r then ishlv 1 f else 0) ?_ (fun j hj => ?_)
  · rw [t_letv, w32_s (by omega) (by omega)]
    exact ih2 _ _ (by omega) ⟨by omega, by omega, by rw [setZ_s _ j0, j2]⟩
  · rw [t_ite, i10]
    exact ⟨fun c3 => by rw [if_neg c3] at hj; exact hj, fun c3 => by rw [if_pos (Classical.not_not.mp c3)] at hj; exact hj⟩
def belowS (w : Int → Int) (r : Int) : Ans := if 0 ≤ r ∧ r < w 3 then (setZ (fun f => bel w f r) (w 5), 0, none) else (-1, 1, none)
theorem c_below {M : Mem} {v : Int} {w : Int → Int} (hc : CI M v w) (hwf : WF w) (r : Int) : Tot (f_X11_below 1 r M) (AC (belowS w r) M) := by
  obtain ⟨a, b, c, d, e⟩ := ci_p hc
  unfold f_X11_below belowS
  rw [isReach_e hc, t_callp, t_some, t_jn, t_ite, i10]
  refine ⟨fun h1 => by rw [if_neg h1]; exact zCr (kc M) 1, fun h1 => ?_⟩
  have h1 := Classical.not_not.mp h1
  rw [if_pos h1, t_getf, a, t_getf, c, t_nn, fieldsBelow_e hc hwf.1 hwf.2.1 hwf.2.2.1 h1.1 h1.2, t_callp, t_some]
  exact ⟨by decide, by decide, e, zCa (kc M) _⟩
theorem r_below {M : Mem} {w : Int → Int} (h : RI M w (-1)) (hwf : WF w) (r : Int) : Tot (f_X12_below 119 r M) (AR (belowS w r) M) := by
  unfold f_X12_below belowS
  rw [isRR h, t_callp, t_some, t_jn, t_ite, i10]
  refine ⟨fun h1 => by rw [if_neg h1]; exact zRr (kr M) 1, fun h1 => ?_⟩
  have h1 := Classical.not_not.mp h1
  rw [if_pos h1, belowOf_e h hwf.1 hwf.2.1 hwf.2.2.1, t_callp, t_some]
  exact zRa (kr M) _
