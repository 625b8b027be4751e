/-! the class reads a field -/
theorem readField_e {M : Mem} {B K : Int → Int} {n s v : Int} {σ : VS} (h : CT M B K n s) (hv : VC M v σ) (v0 : 12 < v) (hw : WV σ.1) : Tot (f_X9_readField 10 v M) (PtE M B K n s v (ffT B K n σ s)) := by
  have hv' := hv
  obtain ⟨h1, ⟨a0, a1, a2, a3, a4, a5⟩, h3, h4, h5, h6, h7⟩ := hv'
  have hc : cntW σ.1 := hw.1
  have hc' := hc
  obtain ⟨c3, c4, c5⟩ := hc'
  have nb := nx_b (B := B) h.2.2.2.2.2
  unfold f_X9_readField
  rw [t_getf, a5, t_ite]
  refine ⟨by omega, fun c => ?_, fun c => ?_⟩
  rotate_left
  · rw [t_nn, t_call]
    refine ⟨by omega, blameC_e h 6 (fun N eN fN => ?_)⟩
    rw [t_retzm]
    exact ⟨by omega, pte_e (by unfold ffT noT; rw [if_pos (by omega), bnd_e]) eN (frv_c fN)⟩
  have nT : noT B K n σ.1 σ.2.1 5 10 s = neT B K n σ.1 σ.2.1 (nx B n s) := by unfold noT; rw [if_neg (by omega)]
  have h1' := h1
  obtain ⟨⟨l1, l2, l3, l4, l5⟩, ⟨b1, b2, b3, b4, b5⟩, lr⟩ := h1'
  obtain ⟨_, _, lr1, lr2⟩ := lr (σ.1 5) (by omega) (by omega)
  rw [t_nn, t_callv]
  refine ⟨by omega, stepC_e h (fun Y hY fY => ?_)⟩
  have vY : VC Y v σ := vc_k hv hc (fun a j q1 q2 => fY a j (tpF_a (by omega)))
  rw [t_call]
  refine takeNew_e hY vY v0 hc (fun N f e1 e2 e3 => ?_) (fun N x t e1 e2 e3 e4 e5 => ?_)
  · dsimp only
    have fn : ∀ a j, 12 < a → N a j = M a j := fun a j q => by rw [e3 a j (tpF_a (by omega)), fY a j (tpF_a (by omega))]
    rw [t_getf, fn _ _ v0, l2, t_getf, fn _ _ v0, a5, t_geti, fn _ _ (by omega), b2, fn _ _ (by omega), lr1, t_callv]
    refine ⟨by omega, by omega, by omega, by omega, by omega, fill_i (by omega) (by rw [fn _ _ (by omega), lr2]; omega) (by rw [fn _ _ (by omega), lr2]; omega) (fun P hP => ?_)⟩
    rw [fn _ _ (by omega), lr2] at hP
    rw [t_jn, t_ite, t_retzm]
    refine ⟨fun _ => ⟨by omega, pte_e (by unfold ffT; rw [nT, e1, bnd_e]) ⟨?_, ?_⟩ (fun a j q1 q2 => ?_)⟩, fun q => absurd rfl q⟩
    · rw [hP, if_neg (by omega)]; exact e2.1
    · rw [hP, if_neg (by omega)]; exact e2.2
    · rw [hP, if_neg (fun q => q2 (by unfold PV; omega)), e3 a j q1, fY a j q1]
  dsimp only
  have fn : ∀ a j, 12 < a → N a j = M a j := fun a j q => by rw [e5 a j (tpF_a (by omega)), fY a j (tpF_a (by omega))]
  rw [t_getf, fn _ _ v0, l2, t_getf, fn _ _ v0, a5, t_geti, fn _ _ (by omega), b2, fn _ _ (by omega), lr1, t_callv]
  refine ⟨by omega, by omega, by omega, by omega, by omega, fill_i (by omega) (by rw [fn _ _ (by omega), lr2]; omega) (by rw [fn _ _ (by omega), lr2]; omega) (fun P hP => ?_)⟩
  rw [fn _ _ (by omega), lr2] at hP
  generalize hC : v + 13 + σ.1 5 = C at hP lr1 lr2 ⊢
  have pC : ∀ j, 0 ≤ j → j < 4 → P C j = -1 := fun j j0 j1 => by rw [hP, if_pos ⟨rfl, j0, j1⟩]
  have pN : ∀ a j, ¬ (a = C ∧ 0 ≤ j ∧ j < 4) → P a j = N a j := fun a j hh => by rw [hP, if_neg hh]
  have pM : ∀ a j, 12 < a → ¬ (a = C ∧ 0 ≤ j ∧ j < 4) → P a j = M a j := fun a j q hh => by rw [pN a j hh, fn a j q]
  have pF : ∀ a j, ¬ tpF a j → ¬ PV (a - v) j → P a j = M a j := fun a j q1 q2 => by rw [pN _ _ (fun q => q2 (by unfold PV; omega)), e5 a j q1, fY a j q1]
  have hPc : CT P B K n t := ct_k e4 (fun a j hh => pN a j (by omega))
  clear hP
  rw [t_jn, t_ite, t_call]
  refine ⟨fun q => absurd q e2, fun _ => ?_⟩
  have err : ∀ (N : Mem) (f : Fl), (bnd (fiT B K n σ.1 σ.2.1 t) fun q => bnd (smT B n q.2) fun u => (Except.ok ((addF σ.1 q.1, upd1 σ.2.1 (16 + σ.1 5) x, σ.2.2), u) : Except Fl (VS × Int))) = .error f → ErC N f → FrK P N C 4 → PtE M B K n s v (ffT B K n σ s) (0, N) := fun N f g1 g2 g3 => pte_e (by unfold ffT; rw [nT, e1, bnd_o]; exact g1) g2 (fun a j q1 q2 => by rw [g3 a j q1 (fun q => q2 (by unfold PV; omega)), pF a j q1 q2])
  refine readOn_e (g := σ.2.1) (b := v + 23) (m := σ.1 3) hPc v0 (by rw [pM _ _ v0 (by omega)]; exact l3) (by rw [pM _ _ v0 (by omega)]; exact a3) (by omega) (by omega) (by omega) (by rw [pM _ _ (by omega) (by omega), b3]; omega) (by omega) (fun k k0 k1 => by rw [pM _ _ (by omega) (by omega)]; exact h5 k k0 k1) (by omega) (by rw [pM _ _ (by omega) (by omega)]; exact lr2) (fun X f g1 g2 g3 => ?_) (fun X1 o s1 s0 g0 g1 g2 g3 g4 g5 => ?_)
  · dsimp only
    rw [t_ite, t_retzm]
    refine ⟨fun _ => ⟨by omega, err X f ?_ g2 g3⟩, fun q => absurd rfl q⟩
    unfold fiT
    rcases hs : skT B K n 12 t with e | u
    · rw [hs, bnd_e] at g1
      rw [bnd_e, bnd_e]; injection g1 with g1; rw [g1]
    · rw [hs, bnd_o] at g1
      rw [bnd_o, g1, bnd_e, bnd_e]
  dsimp only
  rw [t_ite, t_call]
  refine ⟨fun q => by omega, fun _ => ?_⟩
  have cl1 : X1 C (-1) = 4 := by rw [g5 _ _ (tpF_a (by omega)) (by omega), pM _ _ (by omega) (by omega)]; exact lr2
  refine readClaims_e g3 (by omega) cl1 (fun X f k1 k2 k3 => ?_) (fun X2 l i s2 k1 k2 k3 k4 k5 k6 => ?_)
  · dsimp only
    rw [t_ite, t_retzm]
    exact ⟨fun _ => ⟨by omega, err X f (by unfold fiT; rw [g0, bnd_o, g1, bnd_o, k1, bnd_e, bnd_e]) k2 (fun a j q1 q2 => by rw [k3 a j q1 q2, g5 a j q1 (by omega)])⟩, fun q => absurd rfl q⟩
  dsimp only
  rw [t_ite, t_call]
  refine ⟨fun q => by omega, fun _ => ?_⟩
  have fX2 : ∀ a j, ¬ tpF a j → ¬ (a = C ∧ (j = 0 ∨ j = 1 ∨ j = 2)) → X2 a j = P a j := fun a j q1 q2 => by rw [k6 a j q1 (by omega), g5 a j q1 (by omega)]
  have x2 : ∀ a j, 12 < a → ¬ (a = C ∧ 0 ≤ j ∧ j < 4) → X2 a j = M a j := fun a j q hh => by rw [fX2 a j (tpF_a (by omega)) (by omega), pM a j q hh]
  have cl2 : X2 C (-1) = 4 := by rw [k6 _ _ (tpF_a (by omega)) (by omega)]; exact cl1
  refine readBy_e (g := fun k => σ.2.1 (10 + k)) (b := v + 24) (m := σ.1 4) k3 v0 (by rw [x2 _ _ v0 (by omega)]; exact l4) (by rw [x2 _ _ v0 (by omega)]; exact a4) (by omega) (by omega) (by omega) (by rw [x2 _ _ (by omega) (by omega), b4]; omega) (by omega) (fun k k0 k1 => by rw [x2 _ _ (by omega) (by omega)]; exact h6 k k0 k1) (by omega) cl2 (by rw [fX2 _ _ (tpF_a (by omega)) (by omega)]; exact pC 3 (by omega) (by omega)) (fun X f m1 m2 m3 => ?_) (fun X3 ca s3 m1 m2 m3 m4 m5 => ?_)
  · dsimp only
    rw [t_ite, t_retzm]
    exact ⟨fun _ => ⟨by omega, err X f (by unfold fiT; rw [g0, bnd_o, g1, bnd_o, k1, bnd_o, m1, bnd_e, bnd_e]) m2 (fun a j q1 q2 => by rw [m3 a j q1 q2, fX2 a j q1 (by omega)])⟩, fun q => absurd rfl q⟩
  dsimp only
  rw [t_ite, t_call]
  refine ⟨fun q => by omega, fun _ => ?_⟩
  have rT : fiT B K n σ.1 σ.2.1 t = .ok ((o, l, i, ca), s3) := by unfold fiT; rw [g0, bnd_o, g1, bnd_o, k1, bnd_o, m1, bnd_o]
  have fX4 : ∀ a j, ¬ tpF a j → ¬ (a = C ∧ 0 ≤ j ∧ j < 4) → X3 a j = P a j := fun a j q1 q2 => by rw [m5 a j q1 (by omega), fX2 a j q1 (by omega)]
  have ce : ∀ j, 0 ≤ j → j < 4 → X3 C j = r4 (o, l, i, ca) j := by
    have e0 : X3 C 0 = o := by rw [m5 _ _ (tpF_a (by omega)) (by omega), k6 _ _ (tpF_a (by omega)) (by omega)]; exact g4
    have e1 : X3 C 1 = l := by rw [m5 _ _ (tpF_a (by omega)) (by omega)]; exact k4
    have e2 : X3 C 2 = i := by rw [m5 _ _ (tpF_a (by omega)) (by omega)]; exact k5
    intro j j0 j1
    have q : j = 0 ∨ j = 1 ∨ j = 2 ∨ j = 3 := by omega
    rcases q with q | q | q | q <;> subst q
    · exact e0
    · exact e1
    · exact e2
    · exact m4
  refine semi_e m3 (fun X f u1 u2 u3 => ?_) (fun X5 s5 u1 u2 u3 u4 => ?_)
  · dsimp only
    rw [t_ite, t_retzm]
    exact ⟨fun q => absurd rfl q, fun _ => ⟨by omega, err X f (by rw [rT, bnd_o, u1, bnd_e]) u2 (fun a j q1 q2 => by rw [u3 a j q1, fX4 a j q1 q2])⟩⟩
  dsimp only
  rw [t_ite]
  refine ⟨fun _ => ?_, fun q => absurd (by omega) q⟩
  have x5 : ∀ a j, 12 < a → ¬ (a = C ∧ 0 ≤ j ∧ j < 4) → X5 a j = M a j := fun a j q hh => by rw [u4 a j (tpF_a (by omega)), fX4 a j (tpF_a (by omega)) hh, pM a j q hh]
  have x5c : ∀ j, 0 ≤ j → j < 4 → X5 C j = r4 (o, l, i, ca) j := fun j j0 j1 => by rw [u4 _ _ (tpF_a (by omega)), ce j j0 j1]
  have x5f : ∀ a j, ¬ tpF a j → ¬ PV (a - v) j → X5 a j = M a j := fun a j q1 q2 => by rw [u4 a j q1, fX4 a j q1 (fun q => q2 (by unfold PV; omega)), pF a j q1 q2]
  have z : ∀ a j, ¬ (a = v + 25 ∧ j = σ.1 5) → upd2 X5 (v + 25) (σ.1 5) x a j = X5 a j := fun a j hh => by rw [upd2_at, if_neg hh]
  rw [t_getf, x5 _ _ v0 (by omega), l5, t_getf, x5 _ _ v0 (by omega), a5, t_seti, x5 _ _ (by omega) (by omega), b5, t_getf, z _ _ (by omega), x5 _ _ v0 (by omega), a5, t_putf, t_retzm, w32_s (by omega) (by omega)]
  refine ⟨by omega, by omega, by omega, by omega, by omega, by omega, by omega, by omega, pte_o (by unfold ffT; rw [nT, e1, bnd_o, rT, bnd_o, u1, bnd_o]) (by omega) ?_ ?_ ?_⟩
  · exact ct_k u3 (fun a j hh => by rw [upd2_at, if_neg (by omega), upd2_at, if_neg (by omega)])
  rotate_left
  · intro a j q1 q2
    rw [upd2_at, if_neg (fun q => q2 (by unfold PV; omega)), upd2_at, if_neg (fun q => q2 (by unfold PV; omega)), x5f a j q1 q2]
  dsimp only
  have vP : ∀ a j, v ≤ a → a ≤ v + 25 → ¬ (a = v ∧ j = 5) → ¬ (a = v + 25 ∧ j = σ.1 5) → ¬ (a = C ∧ 0 ≤ j ∧ j < 4) → upd2 (upd2 X5 (v + 25) (σ.1 5) x) v 5 (σ.1 5 + 1) a j = M a j := fun a j q1 q2 q3 q4 q5 => by rw [upd2_at, if_neg q3, upd2_at, if_neg q4, x5 a j (by omega) q5]
  have v3 : upd2 (upd2 X5 (v + 25) (σ.1 5) x) v 5 (σ.1 5 + 1) v 5 = σ.1 5 + 1 := by rw [upd2_at, if_pos ⟨rfl, rfl⟩]
  have v23 : upd2 (upd2 X5 (v + 25) (σ.1 5) x) v 5 (σ.1 5 + 1) (v + 25) (σ.1 5) = x := by rw [upd2_at, if_neg (by omega), upd2_at, if_pos ⟨rfl, rfl⟩]
  have vc : ∀ j, 0 ≤ j → j < 4 → upd2 (upd2 X5 (v + 25) (σ.1 5) x) v 5 (σ.1 5 + 1) C j = r4 (o, l, i, ca) j := fun j j0 j1 => by rw [upd2_at, if_neg (by omega), upd2_at, if_neg (by omega), x5c j j0 j1]
  generalize upd2 (upd2 X5 (v + 25) (σ.1 5) x) v 5 (σ.1 5 + 1) = P2 at vP v3 v23 vc ⊢
  have ar : ∀ j, j ≠ 5 → ¬ (72 + 4 * σ.1 5 ≤ j ∧ j < 76 + 4 * σ.1 5) → addF σ.1 (o, l, i, ca) j = σ.1 j := fun j hj hj2 => addF_o hj hj2
  refine ⟨lv_p h1 (fun o j o0 o1 hp => vP _ _ (by omega) (by omega) (fun q => hp (by unfold PV; omega)) (fun q => hp (by unfold PV; omega)) (fun q => hp (by unfold PV; omega))), ⟨?_, ?_, ?_, ?_, ?_, ?_⟩, fun r j r0 r1 j0 j1 => ?_, fun r j r0 r1 j0 j1 => ?_, fun j j0 j1 => ?_, fun j j0 j1 => ?_, fun j j0 j1 => ?_⟩ <;> dsimp only at *
  · rw [vP _ _ (by omega) (by omega) (by omega) (by omega) (by omega), a0, ar 0 (by omega) (by omega)]
  · rw [vP _ _ (by omega) (by omega) (by omega) (by omega) (by omega), a1, ar 1 (by omega) (by omega)]
  · rw [vP _ _ (by omega) (by omega) (by omega) (by omega) (by omega), a2, ar 2 (by omega) (by omega)]
  · rw [vP _ _ (by omega) (by omega) (by omega) (by omega) (by omega), a3, ar 3 (by omega) (by omega)]
  · rw [vP _ _ (by omega) (by omega) (by omega) (by omega) (by omega), a4, ar 4 (by omega) (by omega)]
  · rw [v3, addF_5]
  · rw [ar 3 (by omega) (by omega)] at r1
    rw [vP _ _ (by omega) (by omega) (by omega) (by omega) (by omega), h3 r j r0 r1 j0 j1]
    exact (ar _ (by omega) (by omega)).symm
  · rw [addF_5] at r1
    by_cases q : r = σ.1 5
    · rw [q, hC, vc j j0 j1, addF_i (by omega) j0 j1]
    · rw [vP _ _ (by omega) (by omega) (by omega) (by omega) (by omega), h4 r j r0 (by omega) j0 j1]
      exact (ar _ (by omega) (by omega)).symm
  · rw [ar 3 (by omega) (by omega)] at j1
    rw [vP _ _ (by omega) (by omega) (by omega) (by omega) (by omega), h5 j j0 j1, upd1_at, if_neg (by omega)]
  · rw [ar 4 (by omega) (by omega)] at j1
    rw [vP _ _ (by omega) (by omega) (by omega) (by omega) (by omega), h6 j j0 j1, upd1_at, if_neg (by omega)]
  · rw [addF_5] at j1
    by_cases q : j = σ.1 5
    · rw [q, v23, upd1_at, if_pos rfl]
    · rw [vP _ _ (by omega) (by omega) (by omega) (by omega) (by omega), h7 j j0 (by omega), upd1_at, if_neg (by omega)]
theorem readPart_e {M : Mem} {B K : Int → Int} {n s v : Int} {σ : VS} (h : CT M B K n s) (hv : VC M v σ) (v0 : 12 < v) (hw : WV σ.1) : Tot (f_X9_readPart 10 v M) (PtE M B K n s v (ptT B K n σ s)) := by
  have rz : ∀ (o : Option (Int × Mem)) (r : Except Fl (VS × Int)), Tot o (PtE M B K n s v r) → Tot (call o (fun x N => retzm x N)) (PtE M B K n s v r) := fun o r ho => by
    rw [t_call]
    exact t_mono ho (fun q hq => by rw [t_retzm]; exact ⟨pte_r hq, hq⟩)
  unfold f_X9_readPart ptT
  rw [t_nn, t_callp, isAt_e h (by omega), t_some]
  refine ⟨by omega, ?_⟩
  by_cases c0 : tkY B K n s = 0
  · rw [if_pos c0, if_pos c0, if_neg (by omega)]
    exact rz _ _ (readHead_e h hv v0 hw)
  rw [if_neg c0, if_neg c0, if_pos rfl, t_callp, isAt_e h (by omega), t_some]
  by_cases c1 : tkY B K n s = 1
  · rw [if_pos c1, if_pos c1, if_neg (by omega)]
    exact rz _ _ (readSpan_e h hv v0 hw)
  rw [if_neg c1, if_neg c1, if_pos rfl, t_callp, isAt_e h (by omega), t_some]
  by_cases c2 : tkY B K n s = 3
  · rw [if_pos c2, if_pos c2, if_neg (by omega)]
    exact rz _ _ (readReach_e h hv v0 hw)
  rw [if_neg c2, if_neg c2, if_pos rfl, t_callp, isAt_e h (by omega), t_some]
  by_cases c3 : tkY B K n s = 10
  · rw [if_pos c3, if_pos c3, if_neg (by omega)]
    exact rz _ _ (readOwner_e h hv v0 hw)
  rw [if_neg c3, if_neg c3, if_pos rfl, t_callp, isAt_e h (by omega), t_some, t_jn]
  by_cases c4 : tkY B K n s = 11
  · rw [if_pos c4, if_pos c4, if_neg (by omega)]
    exact rz _ _ (readField_e h hv v0 hw)
  rw [if_neg c4, if_neg c4, if_pos rfl, t_call]
  refine blameC_e h 2 (fun N eN fN => ?_)
  rw [t_retzm]
  exact ⟨by omega, pte_e rfl eN (frv_c fN)⟩
