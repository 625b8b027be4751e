/-! the class has swept -/
def endT (w : Int → Int) : Int := edge w (w 5)
def SWP (M : Mem) (w : Int → Int) : Prop := FL M w (w 0) (-1) (w 3) ∧ SM M w (endT w) ∧ (∃ n, n ≤ 42 ∧ PC M w n (endT w)) ∧ HC M (slotsW w) ∧ LaidK M w (w 5)
theorem endT_le {w : Int → Int} (hn : WFn w) (hf : WFf w) (ho : WFo w) : 0 ≤ endT w ∧ endT w ≤ w 1 := edge_le hn hf ho (by unfold WFn at hn; omega) (Int.le_refl _)
theorem cont_nil {a b : Int} {L : List Slo} (h : cont L a b) (e : (L.length : Int) = 0) : a = b := by
  cases L with
  | nil => exact h
  | cons s t => simp at e; omega
theorem over_e {M : Mem} {v : Int} {w : Int → Int} {Q : Mem → Prop} (hc : CI M v w) (hwf : WF w) (hq : ∀ M', (∀ a j, ¬ SC a j → M' a j = M a j) → CI M' v w → SWP M' w → Q M') : Tot (f_X5_over 55 13 M) Q := by
  have hwf' := hwf
  obtain ⟨hn, hr, hf, ho, hl, hw⟩ := hwf
  have hn' := hn
  unfold WFn at hn'
  have ct := slotsW_cont hn hl
  have sln := slotsW_len hn ho
  have e55 : M 55 0 = 56 := hc.2.2.2.2.1.1.1
  unfold f_X5_over
  rw [t_getf, e55, t_nn, t_callv]
  refine ⟨by decide, by decide, lay_e hc hn hf ho hl (fun M3 k3 h3 la3 => ?_)⟩
  have c3 : CI M3 v w := ci_s hn hc (sc_s k3)
  obtain ⟨_, _, p0, p2, pv⟩ := ci_p c3
  have p48 : M3 48 0 = w 0 := c3.2.2.2.2.2.2.1.1
  rw [t_getf, p0, t_getf, p2, t_getf, p48, t_callv]
  refine ⟨by decide, by decide, by decide, flow_e c3 hn hr (by omega) (by omega) (fun M7 k7 fl7 c7 => ?_)⟩
  obtain ⟨⟨a1, a2, a3, a4, a5, a6, a7, a8, a9, a10, a11, a12⟩, ⟨g1, g2, g3, g4, g5, g6, g7, g8⟩, _⟩ := ci_55 c7
  rw [t_getf, a5, t_callv]
  refine ⟨by decide, fill_i (by decide) (by rw [g1]; decide) (by rw [g1]; decide) (fun M9 k9 => ?_)⟩
  rw [g1] at k9
  have f9 : ∀ a j, a ≠ 66 ∨ j < 0 → M9 a j = M7 a j := fun a j h => by rw [k9, if_neg (by omega)]
  rw [t_getf, f9 55 5 (by omega), a6, t_callv]
  refine ⟨by decide, fill_i (by decide) (by rw [f9 67 (-1) (by omega), g2]; decide) (by rw [f9 67 (-1) (by omega), g2]; decide) (fun M11 k11 => ?_)⟩
  rw [f9 67 (-1) (by omega), g2] at k11
  have f11 : ∀ a j, (a ≠ 66 ∧ a ≠ 67) ∨ j < 0 → M11 a j = M7 a j := fun a j h => by rw [k11, if_neg (by omega), f9 a j (by omega)]
  rw [t_getf, f11 55 6 (by omega), a7, t_callv]
  refine ⟨by decide, fill_i (by decide) (by rw [f11 68 (-1) (by omega), g3]; decide) (by rw [f11 68 (-1) (by omega), g3]; decide) (fun M13 k13 => ?_)⟩
  rw [f11 68 (-1) (by omega), g3] at k13
  have f13 : ∀ a j, (a ≠ 66 ∧ a ≠ 67 ∧ a ≠ 68) ∨ j < 0 → M13 a j = M7 a j := fun a j h => by rw [k13, if_neg (by omega), f11 a j (by omega)]
  rw [t_getf, f13 55 7 (by omega), a8, t_callv]
  refine ⟨by decide, fill_i (by decide) (by rw [f13 69 (-1) (by omega), g4]; decide) (by rw [f13 69 (-1) (by omega), g4]; decide) (fun M15 k15 => ?_)⟩
  rw [f13 69 (-1) (by omega), g4] at k15
  have f15 : ∀ a j, (a < 66 ∨ 69 < a) ∨ j < 0 → M15 a j = M7 a j := fun a j h => by rw [k15, if_neg (by omega), f13 a j (by omega)]
  have z66 : ∀ j, 0 ≤ j → j < 10 → M15 66 j = 0 ∧ M15 67 j = 0 ∧ M15 68 j = 0 ∧ M15 69 j = 0 := fun j j0 j1 => by
    refine ⟨?_, ?_, ?_, ?_⟩
    · rw [k15, if_neg (by omega), k13, if_neg (by omega), k11, if_neg (by omega), k9, if_pos (by omega)]
    · rw [k15, if_neg (by omega), k13, if_neg (by omega), k11, if_pos (by omega)]
    · rw [k15, if_neg (by omega), k13, if_pos (by omega)]
    · rw [k15, if_pos (by omega)]
  rw [t_putf]
  refine ⟨by decide, ?_⟩
  obtain ⟨M16, e16⟩ : ∃ X, X = upd2 M15 55 8 0 := ⟨_, rfl⟩
  have f16 : ∀ a j, (a < 66 ∨ 69 < a) ∨ j < 0 → ¬ (a = 55 ∧ j = 8) → M16 a j = M7 a j := fun a j h h2 => by rw [e16, upd2_at, if_neg h2, f15 a j h]
  have y66 : ∀ j, 0 ≤ j → j < 10 → M16 66 j = 0 ∧ M16 67 j = 0 ∧ M16 68 j = 0 ∧ M16 69 j = 0 := fun j j0 j1 => by
    rw [e16]; simp only [upd2_at]; simpa using z66 j j0 j1
  have n16 : M16 55 8 = 0 := by rw [e16, upd2_at, if_pos ⟨rfl, rfl⟩]
  rw [← e16]
  clear k9 f9 k11 f11 k13 f13 k15 f15 z66 e16
  have kM : ∀ a j, ¬ SC a j → M16 a j = M a j := fun a j ha => by
    rw [f16 a j (by unfold SC at ha; omega) (by unfold SC at ha; omega), k7 a j (by unfold SC at ha; unfold SCf; omega), k3 a j (by unfold SC at ha; unfold SCs; omega)]
  have keep : ∀ N : Mem, (∀ a j, ¬ SCp a j → N a j = M16 a j) → FL N w (w 0) (-1) (w 3) ∧ HC N (slotsW w) ∧ LaidK N w (w 5) := by
    intro N kN
    have kk : ∀ a j, 57 ≤ a → a ≤ 65 → N a j = M7 a j := fun a j h1 h2 => by rw [kN a j (by unfold SCp; omega), f16 a j (by omega) (by omega)]
    have k56 : N 56 3 = M7 56 3 := by rw [kN _ _ (by unfold SCp; omega), f16 _ _ (by omega) (by omega)]
    have k73 : ∀ a j, 56 ≤ a → a ≤ 62 → M7 a j = M3 a j := fun a j h1 h2 => k7 a j (by unfold SCf; omega)
    refine ⟨fun r r0 r1 => ?_, ⟨?_, fun i x hx => ?_⟩, fun k x0 x1 => ?_⟩
    · rw [kk 63 r (by omega) (by omega), kk 64 r (by omega) (by omega), kk 65 r (by omega) (by omega)]; exact fl7 r r0 r1
    · rw [k56, k73 _ _ (by omega) (by omega)]; exact h3.1
    · rw [kk 60 _ (by omega) (by omega), kk 61 _ (by omega) (by omega), kk 62 _ (by omega) (by omega), k73 _ _ (by omega) (by omega), k73 _ _ (by omega) (by omega), k73 _ _ (by omega) (by omega)]; exact h3.2 i x hx
    · rw [kk 57 _ (by omega) (by omega), kk 58 _ (by omega) (by omega), kk 59 _ (by omega) (by omega), k73 _ _ (by omega) (by omega), k73 _ _ (by omega) (by omega), k73 _ _ (by omega) (by omega)]; exact la3 k x0 x1
  have eT : endT w = edge w (w 5) := rfl
  refine lpIM (fun k N => 0 ≤ k ∧ k ≤ (slotsW w).length ∧ (∀ a j, ¬ SCp a j → N a j = M16 a j) ∧ ∃ t n, SM N w t ∧ PC N w n t ∧ n ≤ k + cpc w t ∧ (k < (slotsW w).length → t = (sl (slotsW w) k).2.1) ∧ (k = (slotsW w).length → t = endT w)) (fun k _ => ((slotsW w).length - k).toNat) ?_ (by unfold KF; omega) ⟨by omega, by omega, fun _ _ _ => rfl, 0, 0, ⟨fun f f0 f1 => ?_, fun r r0 r1 => ?_⟩, ⟨n16, by omega, fun _ => rfl, fun i i0 i1 => by omega⟩, by have := cpc_le hn 0; omega, fun h => ?_, fun h => ?_⟩
  · rintro fu k N ⟨i0, i1, i2, t, n, i3, i4, i5, i6, i7⟩ ih
    have kp := keep N i2
    have cN : CI N v w := ci_s hn hc (fun a j ha => by rw [i2 a j (by unfold SC at ha; unfold SCp; omega), kM a j ha])
    have e0 : N 55 0 = 56 := cN.2.2.2.2.1.1.1
    unfold f_X5_over_L63
    rw [t_getf, e0, t_getf, kp.2.1.1, t_ite]
    refine ⟨by decide, by decide, fun c => ?_, fun c => ?_⟩
    · have hk : k = (slotsW w).length := by omega
      have ht := i7 hk
      subst ht
      rw [t_some]
      exact hq N (fun a j ha => by rw [i2 a j (by unfold SC at ha; unfold SCp; omega), kM a j ha]) cN ⟨kp.1, i3, ⟨n, by have := cpc_le hn (endT w); omega, i4⟩, kp.2.1, kp.2.2⟩
    · have ht := i6 (by omega)
      have q := cont_at ct k i0 (by omega)
      subst ht
      rw [t_callv]
      refine cutSlot_e cN hwf' i0 (by omega) kp.2.1 i3 i4 i5 (fun M' n' x1 x2 x3 x4 => ?_)
      rw [w32_s (by omega) (by omega)]
      refine ih _ _ (by omega) ⟨by omega, by omega, fun a j ha => by rw [x1 a j ha, i2 a j ha], _, n', x2, x3, x4, fun h => (q.2.2.2.2.1 h).symm, fun h => ?_⟩
      rw [eT]; exact q.2.2.2.2.2 h
  · have := y66 f f0 (by omega)
    rw [sumZ_0, sumZ_0]; exact ⟨this.2.2.1, this.2.2.2⟩
  · have := y66 r r0 (by omega)
    rw [sumZ_0, sumZ_0]; exact ⟨this.1, this.2.1⟩
  · exact ((cont_at ct 0 (by omega) h).2.2.2.1 rfl).symm
  · rw [eT]; exact cont_nil ct h.symm
theorem sweptWorld_e {M : Mem} {v : Int} {w : Int → Int} {Q : Int × Mem → Prop} (hc : CI M v w) (hwf : WF w) (hq : ∀ M', (∀ a j, ¬ SC a j → M' a j = M a j) → CI M' v w → SWP M' w → Q (55, M')) : Tot (f_X11_sweptWorld 1 M) Q := by
  obtain ⟨a, b, c, d, e⟩ := ci_p hc
  unfold f_X11_sweptWorld
  simp only [t_getf, t_nn, t_callv, a, b]
  refine ⟨by decide, by decide, by decide, over_e hc hwf (fun M' k1 k2 k3 => ?_)⟩
  obtain ⟨a', b', c', d', e'⟩ := ci_p k2
  rw [b', t_some]
  exact ⟨by decide, hq M' k1 k2 k3⟩
