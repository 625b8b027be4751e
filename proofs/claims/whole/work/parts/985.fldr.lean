/-! the reference reads a field, a part -/
theorem aField_e {M : Mem} {B K : Int → Int} {n s : Int} {σ : VS} (h : RT M B n s) (hr : LR M) (hK : KwC K) (hv : VR M σ) (hc : cntW σ.1) : Tot (f_X12_aField 119 M) (MdR M B n s (ffM B K n σ s)) := by
  have hv' := hv
  obtain ⟨hw, hn, ht⟩ := hv'
  have hc' := hc
  obtain ⟨c3, c4, c5⟩ := hc'
  obtain ⟨ra, rl⟩ := lr_a hr
  have w3 : M 120 2563 = σ.1 3 := hw 3 (by omega) (by omega)
  have w4 : M 120 2564 = σ.1 4 := hw 4 (by omega) (by omega)
  have w5 : M 120 2565 = σ.1 5 := hw 5 (by omega) (by omega)
  unfold f_X12_aField
  rw [t_getf, ra, t_geti, rl, w5, t_letv, w32_s (x := 4 * σ.1 5) (by omega) (by omega), w32_s (x := 2632 + 4 * σ.1 5) (by omega) (by omega), t_call]
  refine ⟨by omega, by omega, by omega, by omega, ?_⟩
  refine newOne_e h hr hK hw hn hc (.inr (.inr ⟨rfl, rfl, rfl⟩)) (fun N f e1 e2 e3 => ?_) (fun N c t r e1 e2 e3 e4 e5 e6 e7 e8 => ?_)
  · dsimp only
    rw [t_ite, t_retzm]
    exact ⟨fun q => absurd rfl q, fun _ => ⟨by omega, mdr_e (by unfold ffM; rw [e1, bnd_e]) e2 (frp_r e3)⟩⟩
  dsimp only
  rw [t_ite]
  refine ⟨fun _ => ?_, fun q => absurd (by omega) q⟩
  generalize hb : 2632 + 4 * σ.1 5 = b
  have lrX : ∀ X : Mem, (∀ a j, ¬ rpF a j → ¬ (a = 120 ∧ b ≤ j ∧ j < b + 4) → ¬ (a = 121 ∧ j = 104 + 16 + σ.1 5) → X a j = M a j) → FrP M X := fun X fX a j q => fX a j (fun x => q (.inl x)) (fun x => q (.inr (.inl (by omega)))) (fun x => q (.inr (.inr (.inl (by omega)))))
  have fN : FrP M N := lrX N (fun a j q1 q2 q3 => e8 a j q1 q3)
  have l0 := lr_a (lr_f hr fN)
  have z : ∀ a j, ¬ (a = 120 ∧ j = b + 3) → upd2 N 120 (b + 3) (-1) a j = N a j := fun a j hh => by rw [upd2_at, if_neg (by omega)]
  rw [t_getf, l0.1, t_seti, l0.2, w32_s (x := b + 3) (by omega) (by omega), t_call]
  refine ⟨by omega, by omega, by omega, by omega, ?_⟩
  have zb3 : upd2 N 120 (b + 3) (-1) 120 (b + 3) = -1 := by rw [upd2_at, if_pos ⟨rfl, rfl⟩]
  generalize upd2 N 120 (b + 3) (-1) = Z at z zb3 ⊢
  have hZ : RT Z B n t := rt_k e5 (fun a j hh => z a j (by omega))
  have fZ : ∀ a j, ¬ rpF a j → ¬ (a = 120 ∧ b ≤ j ∧ j < b + 4) → ¬ (a = 121 ∧ j = 104 + 16 + σ.1 5) → Z a j = M a j := fun a j q1 q2 q3 => by rw [z a j (by omega), e8 a j q1 q3]
  have z121 : Z 121 (104 + 16 + σ.1 5) = r := by rw [z _ _ (by omega)]; exact e7
  have err : ∀ (X : Mem) (f : Fl), fiT B K n σ.1 σ.2.1 t = .error f → ErR X f → (∀ a j, ¬ rpF a j → ¬ (a = 120 ∧ b ≤ j ∧ j < b + 4) → X a j = Z a j) → MdR M B n s (ffM B K n σ s) (0, X) := fun X f g1 g2 g3 => mdr_e (by unfold ffM; rw [e1, bnd_o, g1, bnd_e]) g2 (lrX X (fun a j q1 q2 q3 => by rw [g3 a j q1 q2, fZ a j q1 q2 q3]))
  have lrZ : ∀ X : Mem, (∀ a j, ¬ rpF a j → ¬ (a = 120 ∧ b ≤ j ∧ j < b + 4) → X a j = Z a j) → LR X := fun X fX => lr_f hr (lrX X (fun a j q1 q2 q3 => by rw [fX a j q1 q2, fZ a j q1 q2 q3]))
  refine wantWord_e hZ hK (y := 12) (by omega) (by omega) rfl (fun X f g1 g2 g3 => ?_) (fun Y s0 g1 g2 hY fY => ?_)
  · dsimp only
    rw [t_jn, t_ite, t_retzm]
    exact ⟨fun _ => ⟨by omega, err X f (by unfold fiT; rw [g1, bnd_e]) g2 (fun a j q1 q2 => g3 a j q1)⟩, fun q => absurd rfl q⟩
  have hrY := lrZ Y (fun a j q1 _ => fY a j q1)
  have ly := lr_a hrY
  have y3 : Y 120 2563 = σ.1 3 := by rw [fY _ _ (rpF_a (by omega)), fZ _ _ (rpF_a (by omega)) (by omega) (by omega)]; exact w3
  dsimp only
  rw [t_jn, t_ite, t_getf, ly.1, t_geti, ly.2, y3, t_call]
  refine ⟨fun q => by omega, fun _ => ⟨by omega, by omega, by omega, by omega, ?_⟩⟩
  refine oldOne_e (g := σ.2.1) hY hrY hK (by omega) (by omega) (by omega) (by omega) (fun k k0 k1 => by rw [fY _ _ (rpF_a (by omega)), fZ _ _ (rpF_a (by omega)) (by omega) (by omega)]; exact hn.1 k k0 k1) (by omega) (by omega) (fun X f h1 h2 h3 => ?_) (fun X1 o s1 h1 h2 h3 h4 h5 h6 h7 => ?_)
  · dsimp only
    rw [t_ite, t_retzm]
    exact ⟨fun q => absurd rfl q, fun _ => ⟨by omega, err X f (by unfold fiT; rw [g1, bnd_o, h1, bnd_e]) h2 (fun a j q1 q2 => by rw [h3 a j q1 (by omega), fY a j q1])⟩⟩
  have f1 : ∀ a j, ¬ rpF a j → ¬ (a = 120 ∧ j = b) → X1 a j = Z a j := fun a j q1 q2 => by rw [h7 a j q1 q2, fY a j q1]
  dsimp only
  rw [t_ite, t_call]
  refine ⟨fun _ => ?_, fun q => absurd (by omega) q⟩
  refine wantWord_e h5 hK (y := 13) (by omega) (by omega) rfl (fun X f k1 k2 k3 => ?_) (fun X2 s2 k1 k2 k3 k4 => ?_)
  · dsimp only
    rw [t_jn, t_ite, t_retzm]
    exact ⟨fun _ => ⟨by omega, err X f (by unfold fiT; rw [g1, bnd_o, h1, bnd_o]; unfold clT; rw [k1, bnd_e, bnd_e]) k2 (fun a j q1 q2 => by rw [k3 a j q1, f1 a j q1 (by omega)])⟩, fun q => absurd rfl q⟩
  have f2 : ∀ a j, ¬ rpF a j → ¬ (a = 120 ∧ j = b) → X2 a j = Z a j := fun a j q1 q2 => by rw [k4 a j q1, f1 a j q1 q2]
  dsimp only
  rw [t_jn, t_ite, w32_s (x := b + 1) (by omega) (by omega), t_call]
  refine ⟨fun q => by omega, fun _ => ?_⟩
  refine number_e k3 (lrZ X2 (fun a j q1 q2 => f2 a j q1 (by omega))) (by omega) (by omega) (fun X f m1 m2 m3 => ?_) (fun X3 l s3 m1 m2 m3 m4 m5 m6 m7 => ?_)
  · dsimp only
    rw [t_ite, t_retzm]
    exact ⟨fun _ => ⟨by omega, err X f (by unfold fiT; rw [g1, bnd_o, h1, bnd_o]; unfold clT; rw [k1, bnd_o, m1, bnd_e, bnd_e]) m2 (fun a j q1 q2 => by rw [m3 a j q1, f2 a j q1 (by omega)])⟩, fun q => absurd rfl q⟩
  have f3 : ∀ a j, ¬ rpF a j → ¬ (a = 120 ∧ (j = b ∨ j = b + 1)) → X3 a j = Z a j := fun a j q1 q2 => by rw [m7 a j q1 (by omega), f2 a j q1 (by omega)]
  dsimp only
  rw [t_ite, t_call]
  refine ⟨fun q => by omega, fun _ => ?_⟩
  refine wantWord_e m5 hK (y := 14) (by omega) (by omega) rfl (fun X f p1 p2 p3 => ?_) (fun X4 s4 p1 p2 p3 p4 => ?_)
  · dsimp only
    rw [t_ite, t_retzm]
    exact ⟨fun _ => ⟨by omega, err X f (by unfold fiT; rw [g1, bnd_o, h1, bnd_o]; unfold clT; rw [k1, bnd_o, m1, bnd_o, p1, bnd_e, bnd_e]) p2 (fun a j q1 q2 => by rw [p3 a j q1, f3 a j q1 (by omega)])⟩, fun q => absurd rfl q⟩
  have f4 : ∀ a j, ¬ rpF a j → ¬ (a = 120 ∧ (j = b ∨ j = b + 1)) → X4 a j = Z a j := fun a j q1 q2 => by rw [p4 a j q1, f3 a j q1 q2]
  have lr4 := lrZ X4 (fun a j q1 q2 => f4 a j q1 (by omega))
  dsimp only
  rw [t_ite, w32_s (x := b + 2) (by omega) (by omega), t_call]
  refine ⟨fun q => by omega, fun _ => ?_⟩
  refine number_e p3 lr4 (by omega) (by omega) (fun X f r1 r2 r3 => ?_) (fun X5 i s5 r1 r2 r3 r4' r5 r6' r7 => ?_)
  · dsimp only
    rw [t_ite, t_retzm]
    exact ⟨fun q => absurd rfl q, fun _ => ⟨by omega, err X f (by unfold fiT; rw [g1, bnd_o, h1, bnd_o]; unfold clT; rw [k1, bnd_o, m1, bnd_o, p1, bnd_o, r1, bnd_e, bnd_e]) r2 (fun a j q1 q2 => by rw [r3 a j q1, f4 a j q1 (by omega)])⟩⟩
  have lT : clT B K n s1 = .ok ((l, i), s5) := by unfold clT; rw [k1, bnd_o, m1, bnd_o, p1, bnd_o, r1, bnd_o]
  have f5 : ∀ a j, ¬ rpF a j → ¬ (a = 120 ∧ (j = b ∨ j = b + 1 ∨ j = b + 2)) → X5 a j = Z a j := fun a j q1 q2 => by rw [r7 a j q1 (by omega), f4 a j q1 (by omega)]
  have x50 : X5 120 b = o := by rw [r7 _ _ (rpF_a (by omega)) (by omega), p4 _ _ (rpF_a (by omega)), m7 _ _ (rpF_a (by omega)) (by omega), k4 _ _ (rpF_a (by omega))]; exact h6
  have x51 : X5 120 (b + 1) = l := by rw [r7 _ _ (rpF_a (by omega)) (by omega), p4 _ _ (rpF_a (by omega))]; exact m6
  dsimp only
  rw [t_ite, t_call]
  refine ⟨fun _ => ?_, fun q => absurd (by omega) q⟩
  have j154 : ∀ (J : Mem → Option (Int × Mem)), (∀ X o s1, opT B K n 15 (knT B K n (fun k => σ.2.1 (10 + k)) (σ.1 4)) s5 = .ok (o, s1) → s5 ≤ s1 → RT X B n s1 → X 120 (b + 3) = o → (∀ a j, ¬ rpF a j → ¬ (a = 120 ∧ j = b + 3) → X a j = X5 a j) → Tot (J X) (MdR M B n s (ffM B K n σ s))) → Tot (f_X12_isThere 119 15 X5) (fun q => Tot (if q.1 = 0 then J q.2 else getf q.2 119 0 (fun v30 => geti q.2 v30 2564 (fun v31 => call (f_X12_oldOne 119 104 v31 10 (b + 3) q.2) (fun v50 M51 => if v50 ≠ 0 then J M51 else retzm 0 M51)))) (MdR M B n s (ffM B K n σ s))) := by
    intro J hJ
    have nb := nx_b (B := B) r5.2.2.2.2
    refine isThere_e r5 hK (y := 15) (by omega) (by omega) rfl (fun d => ?_) (fun Y d hY fY => ?_)
    · dsimp only
      rw [if_pos rfl]
      exact hJ X5 (-1) s5 (by unfold opT; rw [if_neg d]) (by omega) r5 (by rw [f5 _ _ (rpF_a (by omega)) (by omega)]; exact zb3) (fun _ _ _ _ => rfl)
    · dsimp only
      rw [if_neg (by omega)]
      have oT : opT B K n 15 (knT B K n (fun k => σ.2.1 (10 + k)) (σ.1 4)) s5 = knT B K n (fun k => σ.2.1 (10 + k)) (σ.1 4) (nx B n s5) := by unfold opT; rw [if_pos d]
      rw [oT] at hJ
      have hrY := lrZ Y (fun a j q1 q2 => by rw [fY a j q1, f5 a j q1 (by omega)])
      have ly := lr_a hrY
      have yM : ∀ a j, ¬ rpF a j → ¬ (a = 120 ∧ b ≤ j ∧ j < b + 4) → ¬ (a = 121 ∧ j = 104 + 16 + σ.1 5) → Y a j = M a j := fun a j q1 q2 q3 => by rw [fY a j q1, f5 a j q1 (by omega), fZ a j q1 q2 q3]
      have y4 : Y 120 2564 = σ.1 4 := by rw [yM _ _ (rpF_a (by omega)) (by omega) (by omega)]; exact w4
      rw [t_getf, ly.1, t_geti, ly.2, y4, t_call]
      refine ⟨by omega, by omega, by omega, by omega, ?_⟩
      refine oldOne_e (g := fun k => σ.2.1 (10 + k)) hY hrY hK (by omega) (by omega) (by omega) (by omega) (fun k k0 k1 => by rw [yM _ _ (rpF_a (by omega)) (by omega) (by omega)]; exact hn.2.1 k k0 k1) (by omega) (by omega) (fun X f u1 u2 u3 => ?_) (fun X o s1 u1 u2 u3 u4 u5 u6 u7 => ?_)
      · dsimp only
        rw [t_ite, t_retzm]
        exact ⟨fun q => absurd rfl q, fun _ => ⟨by omega, err X f (by unfold fiT; rw [g1, bnd_o, h1, bnd_o, lT, bnd_o, oT, u1, bnd_e]) u2 (fun a j q1 q2 => by rw [u3 a j q1 (by omega), fY a j q1, f5 a j q1 (by omega)])⟩⟩
      · dsimp only
        rw [t_ite]
        exact ⟨fun _ => hJ X o s1 u1 (by omega) u5 u6 (fun a j q1 q2 => by rw [u7 a j q1 q2, fY a j q1]), fun q => absurd (by omega) q⟩
  refine t_mono (j154 _ ?_) (fun q hq => by rw [t_jn]; exact hq)
  intro X7 ca s7 v1 v2 v3 v4 v6
  have rT : fiT B K n σ.1 σ.2.1 t = .ok ((o, l, i, ca), s7) := by unfold fiT; rw [g1, bnd_o, h1, bnd_o, lT, bnd_o, v1, bnd_o]
  have f7 : ∀ a j, ¬ rpF a j → ¬ (a = 120 ∧ b ≤ j ∧ j < b + 4) → X7 a j = Z a j := fun a j q1 q2 => by rw [v6 a j q1 (by omega), f5 a j q1 (by omega)]
  have f7M : ∀ a j, ¬ rpF a j → ¬ (a = 120 ∧ b ≤ j ∧ j < b + 4) → ¬ (a = 121 ∧ j = 104 + 16 + σ.1 5) → X7 a j = M a j := fun a j q1 q2 q3 => by rw [f7 a j q1 q2, fZ a j q1 q2 q3]
  have lr7 := lrZ X7 f7
  have l7 := lr_a lr7
  have x75 : X7 120 2565 = σ.1 5 := by rw [f7M _ _ (rpF_a (by omega)) (by omega) (by omega)]; exact w5
  have cell : ∀ k, 0 ≤ k → k < 4 → X7 120 (b + k) = r4 (o, l, i, ca) k := by
    intro k k0 k1
    have q : k = 0 ∨ k = 1 ∨ k = 2 ∨ k = 3 := by omega
    rcases q with q | q | q | q <;> subst q
    · rw [Int.add_zero, v6 _ _ (rpF_a (by omega)) (by omega)]; exact x50
    · rw [v6 _ _ (rpF_a (by omega)) (by omega)]; exact x51
    · rw [v6 _ _ (rpF_a (by omega)) (by omega)]; exact r6'
    · exact v4
  rw [t_getf, l7.1, t_geti, l7.2, x75, t_seti, l7.2, w32_s (x := σ.1 5 + 1) (by omega) (by omega), t_retzm]
  have y : ∀ a j, ¬ (a = 120 ∧ j = 2565) → upd2 X7 120 2565 (σ.1 5 + 1) a j = X7 a j := fun a j hh => by rw [upd2_at, if_neg hh]
  have y3 : upd2 X7 120 2565 (σ.1 5 + 1) 120 2565 = σ.1 5 + 1 := by rw [upd2_at, if_pos ⟨rfl, rfl⟩]
  generalize upd2 X7 120 2565 (σ.1 5 + 1) = W at y y3 ⊢
  have yM : ∀ a j, ¬ rpF a j → ¬ (a = 120 ∧ (b ≤ j ∧ j < b + 4 ∨ j = 2565)) → ¬ (a = 121 ∧ j = 104 + 16 + σ.1 5) → W a j = M a j := fun a j q1 q2 q3 => by rw [y a j (by omega), f7M a j q1 (by omega) q3]
  refine ⟨by omega, by omega, by omega, by omega, by omega, by omega, by omega, by omega, mdr_o (by unfold ffM; rw [e1, bnd_o, rT, bnd_o]) (by omega) (rt_k v3 (fun a j hh => y a j (by omega))) ⟨fun j j0 j1 => ?_, ⟨fun k k0 k1 => ?_, fun k k0 k1 => ?_, fun k k0 k1 => ?_⟩, ?_⟩ (fun a j q => yM a j (fun x => q (.inl x)) (fun x => q (.inr (.inl (by omega)))) (fun x => q (.inr (.inr (.inl (by omega))))))⟩ <;> dsimp only at *
  · by_cases q : j = 5
    · rw [q, addF_5]; exact y3
    · by_cases q2 : 72 + 4 * σ.1 5 ≤ j ∧ j < 76 + 4 * σ.1 5
      · unfold addF
        rw [if_neg q, if_pos q2, y _ _ (by omega), ← cell (j - (72 + 4 * σ.1 5)) (by omega) (by omega)]
        congr 1; omega
      · rw [addF_o q q2, yM _ _ (rpF_a (by omega)) (by omega) (by omega)]; exact hw j j0 j1
  · rw [addF_o (by omega) (by omega)] at k1
    rw [upd1_at, if_neg (by omega), yM _ _ (rpF_a (by omega)) (by omega) (by omega)]; exact hn.1 k k0 k1
  · rw [addF_o (by omega) (by omega)] at k1
    rw [upd1_at, if_neg (by omega), yM _ _ (rpF_a (by omega)) (by omega) (by omega)]; exact hn.2.1 k k0 k1
  · rw [addF_5] at k1
    by_cases q : k = σ.1 5
    · rw [q, upd1_at, if_pos rfl, y _ _ (by omega), f7 _ _ (rpF_a (by omega)) (by omega), z121]; exact e6
    · rw [upd1_at, if_neg (by omega), yM _ _ (rpF_a (by omega)) (by omega) (by omega)]; exact hn.2.2 k k0 (by omega)
  · rw [yM _ _ (fun q => by unfold rpF at q; omega) (by omega) (by omega)]; exact ht
theorem anOwner_e {M : Mem} {B K : Int → Int} {n s : Int} {σ : VS} {Q : Int × Mem → Prop} {J : Int → Mem → Option (Int × Mem)} (h : RT M B n s) (hr : LR M) (hK : KwC K) (hv : VR M σ) (hc : cntW σ.1) (hJ : ∀ x N, MdR M B n s (owM B K n σ s) (x, N) → Tot (J x N) Q) : Tot (call (f_X12_newOne 119 4 6 10 M) (fun v15 M16 => getf M16 119 0 (fun v17 => geti M16 v17 2564 (fun v18 => jn (fun (q19 : Int) => seti M16 v17 2564 (w32 (v18 + q19)) (fun M20 => J v15 M20)) (fun j89 => if v15 = 0 then (j89 0) else (j89 1)))))) Q := by
  have hv' := hv
  obtain ⟨hw, hn, ht⟩ := hv'
  have hc' := hc
  obtain ⟨c3, c4, c5⟩ := hc'
  have w4 : M 120 2564 = σ.1 4 := hw 4 (by omega) (by omega)
  rw [t_call]
  refine newOne_e h hr hK hw hn hc (.inr (.inl ⟨rfl, rfl, rfl⟩)) (fun N f e1 e2 e3 => ?_) (fun N c t r e1 e2 e3 e4 e5 e6 e7 e8 => ?_)
  · have l0 := lr_a (lr_f hr (frp_r e3))
    have n4 : N 120 2564 = σ.1 4 := by rw [e3 _ _ (rpF_a (by omega))]; exact w4
    dsimp only
    rw [t_getf, l0.1, t_geti, l0.2, n4, t_jn, if_pos rfl, t_seti, l0.2, Int.add_zero, w32_s (by omega) (by omega)]
    have z : ∀ a j, upd2 N 120 2564 (σ.1 4) a j = N a j := fun a j => by
      by_cases c : a = 120 ∧ j = 2564
      · rw [upd2_at, if_pos c, c.1, c.2, n4]
      · rw [upd2_at, if_neg c]
    refine ⟨by omega, by omega, by omega, by omega, by omega, by omega, by omega, hJ 0 _ (mdr_e (by unfold owM; rw [e1, bnd_e]) ⟨by rw [z]; exact e2.1, by rw [z]; exact e2.2.1, e2.2.2⟩ (fun a j q => by rw [z]; exact frp_r e3 a j q))⟩
  · have fN : FrP M N := fun a j q => e8 a j (fun x => q (.inl x)) (fun x => q (.inr (.inr (.inl (by omega)))))
    have l0 := lr_a (lr_f hr fN)
    have n4 : N 120 2564 = σ.1 4 := by rw [e8 _ _ (rpF_a (by omega)) (by omega)]; exact w4
    dsimp only
    rw [t_getf, l0.1, t_geti, l0.2, n4, t_jn, if_neg (by omega), t_seti, l0.2, w32_s (by omega) (by omega)]
    have y : ∀ a j, ¬ (a = 120 ∧ j = 2564) → upd2 N 120 2564 (σ.1 4 + 1) a j = N a j := fun a j hh => by rw [upd2_at, if_neg hh]
    have y3 : upd2 N 120 2564 (σ.1 4 + 1) 120 2564 = σ.1 4 + 1 := by rw [upd2_at, if_pos ⟨rfl, rfl⟩]
    generalize upd2 N 120 2564 (σ.1 4 + 1) = W at y y3 ⊢
    have yM : ∀ a j, ¬ rpF a j → ¬ (a = 120 ∧ j = 2564) → ¬ (a = 121 ∧ j = 104 + 10 + σ.1 4) → W a j = M a j := fun a j q1 q2 q3 => by rw [y a j q2, e8 a j q1 q3]
    refine ⟨by omega, by omega, by omega, by omega, by omega, by omega, by omega, hJ 1 W (mdr_o (by unfold owM; rw [e1, bnd_o]) (by omega) (rt_k e5 (fun a j hh => y a j (by omega))) ⟨fun j j0 j1 => ?_, ⟨fun k k0 k1 => ?_, fun k k0 k1 => ?_, fun k k0 k1 => ?_⟩, ?_⟩ (fun a j q => yM a j (fun x => q (.inl x)) (fun x => q (.inr (.inl (by omega)))) (fun x => q (.inr (.inr (.inl (by omega)))))))⟩ <;> dsimp only at *
    · by_cases q : j = 4
      · rw [q, upd1_at, if_pos rfl]; exact y3
      · rw [upd1_at, if_neg q, yM _ _ (rpF_a (by omega)) (by omega) (by omega)]; exact hw j j0 j1
    · rw [upd1_at, if_neg (by omega)] at k1
      rw [upd1_at, if_neg (by omega), yM _ _ (rpF_a (by omega)) (by omega) (by omega)]; exact hn.1 k k0 k1
    · rw [upd1_at, if_pos rfl] at k1
      by_cases q : k = σ.1 4
      · rw [q, upd1_at, if_pos rfl, y _ _ (by omega), e7]; exact e6
      · rw [upd1_at, if_neg (by omega), yM _ _ (rpF_a (by omega)) (by omega) (by omega)]; exact hn.2.1 k k0 (by omega)
    · rw [upd1_at, if_neg (by omega)] at k1
      rw [upd1_at, if_neg (by omega), yM _ _ (rpF_a (by omega)) (by omega) (by omega)]; exact hn.2.2 k k0 k1
    · rw [yM _ _ (fun q => by unfold rpF at q; omega) (by omega) (by omega)]; exact ht
theorem valleyPart_e {M : Mem} {B K : Int → Int} {n s : Int} {σ : VS} (h : RT M B n s) (hr : LR M) (hK : KwC K) (hv : VR M σ) (hc : cntW σ.1) : Tot (f_X12_valleyPart 119 M) (MdR M B n s (ptT B K n σ s)) := by
  unfold f_X12_valleyPart
  rw [t_callp]
  refine t_mono (inWords_e h.1 h.2.1 h.2.2.2.1 hK) (fun u hu => ?_)
  have yr := tkY_r (B := B) (K := K) (n := n) (s := s)
  have ie : ∀ y, 0 ≤ y → y < 30 → (u = pR y ↔ tkY B K n s = y) := fun y y0 y1 => by
    rw [hu]; exact ⟨fun e => pR_inj yr.1 yr.2 (by omega) y1 e, fun e => by rw [e]⟩
  have i0 := ie 0 (by omega) (by omega)
  have i1 := ie 1 (by omega) (by omega)
  have i2 := ie 3 (by omega) (by omega)
  have i3 := ie 10 (by omega) (by omega)
  have i4 := ie 11 (by omega) (by omega)
  rw [show pR 0 = 0 from rfl] at i0
  rw [show pR 1 = 1 from rfl] at i1
  rw [show pR 3 = 2 from rfl] at i2
  rw [show pR 10 = 3 from rfl] at i3
  rw [show pR 11 = 4 from rfl] at i4
  refine t_jvm (fun x N => ∃ r, ptT B K n σ s = sem B n r ∧ MdR M B n s r (x, N)) (fun x N hx => ?_) (fun J hJ => ?_)
  · obtain ⟨r, hr1, hm⟩ := hx
    rw [hr1, t_jn, t_jn, t_ite]
    rcases hm with ⟨f, r1, r2, r3, r4⟩ | ⟨τ, t, r1, r2, r3, r4, r5, r6⟩
    · have r2 : x = 0 := r2
      refine ⟨fun _ => ?_, fun q => absurd r2 q⟩
      rw [t_retzm]
      exact ⟨by omega, mdr_e (by unfold sem; rw [r1, bnd_e]) r3 r4⟩
    · have r2 : x = 1 := r2
      refine ⟨fun q => by omega, fun _ => ?_⟩
      rw [t_call]
      refine wantSign_e r4 (fun P f g1 g2 g3 => ?_) (fun P t2 g1 g2 g3 g4 => ?_)
      · dsimp only
        rw [t_ite, t_retzm]
        exact ⟨fun _ => ⟨by omega, mdr_e (by unfold sem; rw [r1, bnd_o, g1, bnd_e]) g2 (frp_t r6 (frp_r g3))⟩, fun q => absurd rfl q⟩
      · dsimp only
        rw [t_ite, t_retzm, t_retzm]
        obtain ⟨v1, v2, v3⟩ := r5
        refine ⟨fun q => by omega, fun _ => ⟨by omega, mdr_o (by unfold sem; rw [r1, bnd_o, g1, bnd_o]) (by omega) g3 ⟨fun j j0 j1 => ?_, ⟨fun k k0 k1 => ?_, fun k k0 k1 => ?_, fun k k0 k1 => ?_⟩, ?_⟩ (frp_t r6 (frp_r g4))⟩⟩
        · rw [g4 _ _ (rpF_a (by omega))]; exact v1 j j0 j1
        · rw [g4 _ _ (rpF_a (by omega))]; exact v2.1 k k0 k1
        · rw [g4 _ _ (rpF_a (by omega))]; exact v2.2.1 k k0 k1
        · rw [g4 _ _ (rpF_a (by omega))]; exact v2.2.2 k k0 k1
        · rw [g4 _ _ (fun q => by unfold rpF at q; omega)]; exact v3
  have go : ∀ (o : Option (Int × Mem)) (r : Except Fl (VS × Int)), ptT B K n σ s = sem B n r → Tot o (MdR M B n s r) → Tot (call o (fun x N => J x N)) (MdR M B n s (ptT B K n σ s)) := fun o r e ho => by
    rw [t_call]
    exact t_mono ho (fun q hq => hJ q.1 q.2 ⟨r, e, hq⟩)
  unfold ptT at *
  by_cases c0 : tkY B K n s = 0
  · have u0 := i0.mpr c0
    rw [if_pos c0] at hJ go ⊢
    rw [if_pos u0, u0]
    exact go _ _ hd_s (onceH_e h hr hv)
  rw [if_neg c0] at hJ go ⊢
  rw [if_neg (fun z => c0 (i0.mp z))]
  by_cases c1 : tkY B K n s = 1
  · have u0 := i1.mpr c1
    rw [if_pos c1] at hJ go ⊢
    rw [if_pos u0, u0]
    exact go _ _ sp_s (onceS_e h hr hK hv)
  rw [if_neg c1] at hJ go ⊢
  rw [if_neg (fun z => c1 (i1.mp z))]
  by_cases c2 : tkY B K n s = 3
  · rw [if_pos c2] at hJ go ⊢
    rw [if_pos (i2.mpr c2)]
    exact go _ _ rr_s (aReach_e h hr hK hv hc)
  rw [if_neg c2] at hJ go ⊢
  rw [if_neg (fun z => c2 (i2.mp z))]
  by_cases c3 : tkY B K n s = 10
  · rw [if_pos c3] at hJ go ⊢
    rw [if_pos (i3.mpr c3)]
    exact anOwner_e h hr hK hv hc (fun x N hx => hJ x N ⟨_, ow_s, hx⟩)
  rw [if_neg c3] at hJ go ⊢
  rw [if_neg (fun z => c3 (i3.mp z))]
  by_cases c4 : tkY B K n s = 11
  · rw [if_pos c4] at hJ go ⊢
    rw [if_pos (i4.mpr c4)]
    exact go _ _ ff_s (aField_e h hr hK hv hc)
  rw [if_neg c4] at hJ go ⊢
  rw [if_neg (fun z => c4 (i4.mp z)), t_call]
  refine failsR_e h 2 (fun N eN fN => ?_)
  rw [t_retzm]
  exact ⟨by omega, mdr_e rfl eN (frp_r fN)⟩
