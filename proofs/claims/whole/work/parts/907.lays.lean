/-- what stands behind lay -/
def LaidK (M : Mem) (w : Int → Int) (n : Int) : Prop := ∀ k, 0 ≤ k → k < n → M 57 (od w k) = edge w k ∧ M 58 (od w k) = edge w (k + 1) - edge w k ∧ M 59 (od w k) = leftK w k
theorem lay_e {M : Mem} {v : Int} {w : Int → Int} {Q : Mem → Prop} (h : CI M v w) (hn : WFn w) (hf : WFf w) (ho : WFo w) (hl : WFl w) (hq : ∀ M', (∀ a j, ¬ SCs a j → M' a j = M a j) → HC M' (slotsW w) → LaidK M' w (w 5) → Q M') : Tot (f_X3_lay 56 13 M) Q := by
  have hn' := hn
  unfold WFn at hn'
  obtain ⟨a, b, c, d, e⟩ := ci_p h
  unfold f_X3_lay
  rw [t_getf, c, t_putf]
  refine ⟨by decide, by decide, ?_⟩
  refine lpIIM (fun x k N => 0 ≤ k ∧ k ≤ w 5 ∧ x = ahead w k ∧ (∀ a j, ¬ SCs a j → N a j = M a j) ∧ HC N (slotsTo w k) ∧ LaidK N w k) (fun _ k _ => (w 5 - k).toNat) ?_ (by unfold KF; omega) ⟨by omega, by omega, rfl, fun a j ha => by rw [upd2_at, if_neg (by unfold SCs at ha; omega)], ⟨by simp [upd2_at]; rfl, fun i x hx => by simp [slotsTo, foldZ, foldN] at hx⟩, fun k k0 k1 => by omega⟩
  rintro n x k N ⟨i0, i1, i2, i3, i4, i5⟩ ih
  have hN : CI N v w := ci_s hn h (fun a j ha => i3 a j (by unfold SC at ha; unfold SCs; omega))
  obtain ⟨na, nb, nc, nd, ne⟩ := ci_p hN
  have hN' := hN
  obtain ⟨hv, _, ⟨⟨l1, l2, l3, l4, l5⟩, ⟨m1, m2, _⟩, lr⟩, ⟨⟨s1, _⟩, ⟨t1, _⟩⟩, ⟨_, ⟨b1, b2, b3, b4, b5, b6⟩, ⟨c1, c2, c3, _⟩⟩, ⟨⟨v1, v2, v3, v4, v5, v6, v7⟩, _, ff⟩, ⟨_, oo, _⟩⟩ := hN'
  simp only [show (48 : Int) + 1 = 49 from rfl] at s1 t1 oo
  unfold f_X3_lay_L15
  rw [t_getf, v5, t_ite]
  refine ⟨e, fun c1 => ?_, fun c1' => ?_⟩
  · have : k = w 5 := by omega
    subst this
    rw [t_some]
    exact hq N i3 i4 i5
  · have ok := ho.1 k i0 (by omega)
    have q1 := ahead_le hn hf ho (k := k) i0 i1
    have q2 := ahead_le hn hf ho (k := k + 1) (by omega) (by omega)
    have q3 := lr (od w k) ok.1 (by omega)
    have q4 := ff (od w k) 1 ok.1 ok.2 (by omega) (by omega)
    have q5 := hf (od w k) ok.1 ok.2
    have q6 := ahead_s (w := w) i0
    have q7 := edge_le hn hf ho (k := k) i0 i1
    have q8 := edge_le hn hf ho (k := k + 1) (by omega) (by omega)
    rw [t_getf, nd, t_getf, s1, t_geti, t1, oo k i0 (by omega), t_getf, b1, t_nn, t_callp, i2, turnEdge_e hN hn hf ho i0 (by omega) (by omega), t_some, t_seti, c1]
    refine ⟨by decide, by decide, by decide, by omega, by omega, by decide, e, by decide, by omega, by omega, ?_⟩
    have hN1 : CI (upd2 N 57 (od w k) (edge w k)) v w := ci_s hn hN (fun a j ha => by rw [upd2_at, if_neg (by unfold SC at ha; omega)])
    have w1 : upd2 N 57 (od w k) (edge w k) v 9 = v + 12 := by rw [upd2_at, if_neg (by omega)]; exact l2
    have w2 : upd2 N 57 (od w k) (edge w k) (v + 12) (-1) = 10 := by rw [upd2_at, if_neg (by omega)]; exact m2
    have w3 : upd2 N 57 (od w k) (edge w k) (v + 12) (od w k) = v + 13 + od w k := by rw [upd2_at, if_neg (by omega)]; exact q3.2.2.1
    have w4 : upd2 N 57 (od w k) (edge w k) (v + 13 + od w k) (-1) = 4 := by rw [upd2_at, if_neg (by omega)]; exact q3.2.2.2
    have w5 : upd2 N 57 (od w k) (edge w k) (v + 13 + od w k) 1 = fc w (od w k) 1 := by rw [upd2_at, if_neg (by omega)]; exact q4
    have w6 : upd2 N 57 (od w k) (edge w k) 56 1 = 58 := by rw [upd2_at, if_neg (by omega)]; exact b2
    have w7 : upd2 N 57 (od w k) (edge w k) 56 0 = 57 := by rw [upd2_at, if_neg (by omega)]; exact b1
    have w8 : upd2 N 57 (od w k) (edge w k) 57 (-1) = 10 := by rw [upd2_at, if_neg (by omega)]; exact c1
    have w9 : upd2 N 57 (od w k) (edge w k) 57 (od w k) = edge w k := by rw [upd2_at, if_pos ⟨rfl, rfl⟩]
    have w10 : upd2 N 57 (od w k) (edge w k) 58 (-1) = 10 := by rw [upd2_at, if_neg (by omega)]; exact c2
    rw [t_getf, w1, t_geti, w2, w3, t_geti, w4, w5, t_letv, w32_s (x := ahead w k + fc w (od w k) 1) (by omega) (by omega), ← q6, t_getf, w6, t_callp, turnEdge_e hN1 hn hf ho (by omega) (by omega) (by omega), t_some, t_getf, w7, t_geti, w8, w9, t_seti, w10, w32_s (x := edge w (k + 1) - edge w k) (by omega) (by omega)]
    refine ⟨e, by omega, by omega, by omega, by omega, by omega, by omega, by decide, by decide, by decide, by omega, by omega, by decide, by omega, by omega, ?_⟩
    have hN2 : CI (upd2 (upd2 N 57 (od w k) (edge w k)) 58 (od w k) (edge w (k + 1) - edge w k)) v w := ci_s hn hN1 (fun a j ha => by rw [upd2_at, if_neg (by unfold SC at ha; omega)])
    obtain ⟨_, _, _, nd2, _⟩ := ci_p hN2
    rw [t_getf, nd2, t_callv]
    refine ⟨by decide, layTurn_e hN2 hn hf ho hl i0 (by omega) ?_ ?_ ?_ (fun M' k2 e9 hh2 => ?_)⟩
    · obtain ⟨p1, p2⟩ := i4
      exact ⟨by simp only [upd2_at]; rw [if_neg (by omega), if_neg (by omega)]; exact p1, fun i x hx => by simp only [upd2_at]; simpa using p2 i x hx⟩
    · simp only [upd2_at]; simp
    · simp only [upd2_at]; simp
    · rw [w32_s (by omega) (by omega)]
      refine ih _ _ _ (by omega) ⟨by omega, by omega, rfl, fun a j ha => ?_, hh2, fun j j0 j1 => ?_⟩
      · unfold SCs at ha
        rw [k2 a j (by omega)]
        simp only [upd2_at]
        rw [if_neg (by omega), if_neg (by omega)]
        exact i3 a j (by unfold SCs; omega)
      · by_cases hj : j = k
        · subst hj
          refine ⟨?_, ?_, e9⟩
          · rw [k2 _ _ (by omega)]; simp only [upd2_at]; simp
          · rw [k2 _ _ (by omega)]; simp only [upd2_at]; simp
        · have hne : od w j ≠ od w k := fun q => hj (ho.2.2.1 j k j0 (by omega) i0 (by omega) q)
          have := i5 j j0 (by omega)
          refine ⟨?_, ?_, ?_⟩
          · rw [k2 _ _ (by omega)]; simp only [upd2_at]; rw [if_neg (by omega), if_neg (by omega)]; exact this.1
          · rw [k2 _ _ (by omega)]; simp only [upd2_at]; rw [if_neg (by omega), if_neg (by omega)]; exact this.2.1
          · rw [k2 _ _ (by omega)]; simp only [upd2_at]; rw [if_neg (by omega), if_neg (by omega)]; exact this.2.2
