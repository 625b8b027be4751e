/-! the reference reads a reach, a field -/
theorem aReach_e {M : Mem} {B K : Int → Int} {n s : Int} {σ : VS} (h : RT M B n s) (hr : LR M) (hK : KwC K) (hv : VR M σ) (hc : cntW σ.1) : Tot (f_X12_aReach 119 M) (MdR M B n s (rrM B K n σ s)) := by
  have hv' := hv
  obtain ⟨hw, hn, ht⟩ := hv'
  have hc' := hc
  obtain ⟨c3, c4, c5⟩ := hc'
  obtain ⟨ra, rl⟩ := lr_a hr
  have w3 : M 120 2563 = σ.1 3 := hw 3 (by omega) (by omega)
  unfold f_X12_aReach
  rw [t_getf, ra, t_geti, rl, w3, t_letv, w32_s (x := 6 * σ.1 3) (by omega) (by omega), w32_s (x := 2572 + 6 * σ.1 3) (by omega) (by omega), t_call]
  refine ⟨by omega, by omega, by omega, by omega, ?_⟩
  refine newOne_e h hr hK hw hn hc (.inl ⟨rfl, rfl, rfl⟩) (fun N f e1 e2 e3 => ?_) (fun N c t r e1 e2 e3 e4 e5 e6 e7 e8 => ?_)
  · dsimp only
    rw [t_ite, t_retzm]
    exact ⟨fun q => absurd rfl q, fun _ => ⟨by omega, mdr_e (by unfold rrM; rw [e1, bnd_e]) e2 (frp_r e3)⟩⟩
  dsimp only
  rw [t_ite]
  refine ⟨fun _ => ?_, fun q => absurd (by omega) q⟩
  generalize hb : 2572 + 6 * σ.1 3 = b
  have lrX : ∀ X : Mem, (∀ a j, ¬ rpF a j → ¬ (a = 120 ∧ b ≤ j ∧ j < b + 6) → ¬ (a = 121 ∧ j = 104 + 0 + σ.1 3) → X a j = M a j) → FrP M X := fun X fX a j q => fX a j (fun x => q (.inl x)) (fun x => q (.inr (.inl (by omega)))) (fun x => q (.inr (.inr (.inl (by omega)))))
  have fN : FrP M N := lrX N (fun a j q1 q2 q3 => e8 a j q1 q3)
  have l0 := lr_a (lr_f hr fN)
  have z : ∀ a j, ¬ (a = 120 ∧ (j = b ∨ j = b + 3 ∨ j = b + 4 ∨ j = b + 5)) → upd2 (upd2 (upd2 (upd2 N 120 b (-1)) 120 (b + 3) (-1)) 120 (b + 4) (-1)) 120 (b + 5) (-1) a j = N a j := fun a j hh => by rw [upd2_at, if_neg (by omega), upd2_at, if_neg (by omega), upd2_at, if_neg (by omega), upd2_at, if_neg (by omega)]
  rw [t_getf, l0.1, t_seti, l0.2, w32_s (x := b + 0) (by omega) (by omega), Int.add_zero, t_getf, upd2_at, if_neg (by omega), l0.1, t_seti, upd2_at, if_neg (by omega), l0.2, w32_s (x := b + 3) (by omega) (by omega), t_getf, upd2_at, if_neg (by omega), upd2_at, if_neg (by omega), l0.1, t_seti, upd2_at, if_neg (by omega), upd2_at, if_neg (by omega), l0.2, w32_s (x := b + 4) (by omega) (by omega), t_getf, upd2_at, if_neg (by omega), upd2_at, if_neg (by omega), upd2_at, if_neg (by omega), l0.1, t_seti, upd2_at, if_neg (by omega), upd2_at, if_neg (by omega), upd2_at, if_neg (by omega), l0.2, w32_s (x := b + 5) (by omega) (by omega), t_call]
  refine ⟨by omega, by omega, by omega, by omega, by omega, by omega, by omega, by omega, by omega, by omega, by omega, by omega, by omega, by omega, by omega, by omega, ?_⟩
  have zb : upd2 (upd2 (upd2 (upd2 N 120 b (-1)) 120 (b + 3) (-1)) 120 (b + 4) (-1)) 120 (b + 5) (-1) 120 b = -1 := by rw [upd2_at, if_neg (by omega), upd2_at, if_neg (by omega), upd2_at, if_neg (by omega), upd2_at, if_pos ⟨rfl, rfl⟩]
  have zb3 : upd2 (upd2 (upd2 (upd2 N 120 b (-1)) 120 (b + 3) (-1)) 120 (b + 4) (-1)) 120 (b + 5) (-1) 120 (b + 3) = -1 := by rw [upd2_at, if_neg (by omega), upd2_at, if_neg (by omega), upd2_at, if_pos ⟨rfl, rfl⟩]
  have zb4 : upd2 (upd2 (upd2 (upd2 N 120 b (-1)) 120 (b + 3) (-1)) 120 (b + 4) (-1)) 120 (b + 5) (-1) 120 (b + 4) = -1 := by rw [upd2_at, if_neg (by omega), upd2_at, if_pos ⟨rfl, rfl⟩]
  have zb5 : upd2 (upd2 (upd2 (upd2 N 120 b (-1)) 120 (b + 3) (-1)) 120 (b + 4) (-1)) 120 (b + 5) (-1) 120 (b + 5) = -1 := by rw [upd2_at, if_pos ⟨rfl, rfl⟩]
  generalize upd2 (upd2 (upd2 (upd2 N 120 b (-1)) 120 (b + 3) (-1)) 120 (b + 4) (-1)) 120 (b + 5) (-1) = Z at z zb zb3 zb4 zb5 ⊢
  have hZ : RT Z B n t := rt_k e5 (fun a j hh => z a j (by omega))
  have fZ : ∀ a j, ¬ rpF a j → ¬ (a = 120 ∧ b ≤ j ∧ j < b + 6) → ¬ (a = 121 ∧ j = 104 + 0 + σ.1 3) → Z a j = M a j := fun a j q1 q2 q3 => by rw [z a j (by omega), e8 a j q1 q3]
  have z121 : Z 121 (104 + 0 + σ.1 3) = r := by rw [z _ _ (by omega)]; exact e7
  have err : ∀ (X : Mem) (f : Fl), reT B K n σ.1 σ.2.1 t = .error f → ErR X f → (∀ a j, ¬ rpF a j → ¬ (a = 120 ∧ b ≤ j ∧ j < b + 6) → X a j = Z a j) → MdR M B n s (rrM B K n σ s) (0, X) := fun X f g1 g2 g3 => mdr_e (by unfold rrM; rw [e1, bnd_o, g1, bnd_e]) g2 (lrX X (fun a j q1 q2 q3 => by rw [g3 a j q1 q2, fZ a j q1 q2 q3]))
  have lrZ : ∀ X : Mem, (∀ a j, ¬ rpF a j → ¬ (a = 120 ∧ b ≤ j ∧ j < b + 6) → X a j = Z a j) → LR X := fun X fX => lr_f hr (lrX X (fun a j q1 q2 q3 => by rw [fX a j q1 q2, fZ a j q1 q2 q3]))
  -- the reach above
  have j95 : ∀ (J : Mem → Option (Int × Mem)), (∀ X o s1, opT B K n 4 (knT B K n σ.2.1 (σ.1 3)) t = .ok (o, s1) → t ≤ s1 → RT X B n s1 → X 120 b = o → (∀ a j, ¬ rpF a j → ¬ (a = 120 ∧ j = b) → X a j = Z a j) → Tot (J X) (MdR M B n s (rrM B K n σ s))) → Tot (f_X12_isThere 119 6 Z) (fun q => Tot (if q.1 = 0 then J q.2 else getf q.2 119 0 (fun v48 => geti q.2 v48 2563 (fun v49 => call (f_X12_oldOne 119 104 v49 0 b q.2) (fun v50 M51 => if v50 ≠ 0 then J M51 else retzm 0 M51)))) (MdR M B n s (rrM B K n σ s))) := by
    intro J hJ
    have nb := nx_b (B := B) hZ.2.2.2.2
    refine isThere_e hZ hK (y := 4) (by omega) (by omega) rfl (fun d => ?_) (fun Y d hY fY => ?_)
    · dsimp only
      rw [if_pos rfl]
      exact hJ Z (-1) t (by unfold opT; rw [if_neg d]) (by omega) hZ zb (fun _ _ _ _ => rfl)
    · dsimp only
      rw [if_neg (by omega)]
      have oT : opT B K n 4 (knT B K n σ.2.1 (σ.1 3)) t = knT B K n σ.2.1 (σ.1 3) (nx B n t) := by unfold opT; rw [if_pos d]
      rw [oT] at hJ
      have hrY := lrZ Y (fun a j q1 _ => fY a j q1)
      have ly := lr_a hrY
      have y3 : Y 120 2563 = σ.1 3 := by rw [fY _ _ (rpF_a (by omega)), fZ _ _ (rpF_a (by omega)) (by omega) (by omega)]; exact w3
      rw [t_getf, ly.1, t_geti, ly.2, y3, t_call]
      refine ⟨by omega, by omega, by omega, by omega, ?_⟩
      refine oldOne_e (g := σ.2.1) hY hrY hK (by omega) (by omega) (by omega) (by omega) (fun k k0 k1 => by rw [fY _ _ (rpF_a (by omega)), fZ _ _ (rpF_a (by omega)) (by omega) (by omega)]; exact hn.1 k k0 k1) (by omega) (by omega) (fun X f g1 g2 g3 => ?_) (fun X o s1 g1 g2 g3 g4 g5 g6 g7 => ?_)
      · dsimp only
        rw [t_ite, t_retzm]
        exact ⟨fun q => absurd rfl q, fun _ => ⟨by omega, err X f (by unfold reT; rw [oT, g1, bnd_e]) g2 (fun a j q1 q2 => by rw [g3 a j q1 (by omega), fY a j q1])⟩⟩
      · dsimp only
        rw [t_ite]
        exact ⟨fun _ => hJ X o s1 g1 (by omega) g5 g6 (fun a j q1 q2 => by rw [g7 a j q1 q2, fY a j q1]), fun q => absurd (by omega) q⟩
  refine t_mono (j95 _ ?_) (fun q hq => by rw [t_jn]; exact hq)
  intro X1 o s1 g1 g2 g3 g4 g5
  -- the loss
  rw [t_call]
  refine wantWord_e g3 hK (y := 5) (by omega) (by omega) rfl (fun X f k1 k2 k3 => ?_) (fun X2 s2 k1 k2 k3 k4 => ?_)
  · dsimp only
    rw [t_jn, t_ite, t_retzm]
    exact ⟨fun _ => ⟨by omega, err X f (by unfold reT; rw [g1, bnd_o]; unfold laT; rw [k1, bnd_e, bnd_e]) k2 (fun a j q1 q2 => by rw [k3 a j q1, g5 a j q1 (by omega)])⟩, fun q => absurd rfl q⟩
  have f2 : ∀ a j, ¬ rpF a j → ¬ (a = 120 ∧ j = b) → X2 a j = Z a j := fun a j q1 q2 => by rw [k4 a j q1, g5 a j q1 q2]
  dsimp only
  rw [t_jn, t_ite, w32_s (x := b + 1) (by omega) (by omega), t_call]
  refine ⟨fun q => by omega, fun _ => ?_⟩
  refine number_e k3 (lrZ X2 (fun a j q1 q2 => f2 a j q1 (by omega))) (by omega) (by omega) (fun X f m1 m2 m3 => ?_) (fun X3 l s3 m1 m2 m3 m4 m5 m6 m7 => ?_)
  · dsimp only
    rw [t_ite, t_retzm]
    exact ⟨fun _ => ⟨by omega, err X f (by unfold reT; rw [g1, bnd_o]; unfold laT; rw [k1, bnd_o, m1, bnd_e, bnd_e]) m2 (fun a j q1 q2 => by rw [m3 a j q1, f2 a j q1 (by omega)])⟩, fun q => absurd rfl q⟩
  have f3 : ∀ a j, ¬ rpF a j → ¬ (a = 120 ∧ (j = b ∨ j = b + 1)) → X3 a j = Z a j := fun a j q1 q2 => by rw [m7 a j q1 (by omega), f2 a j q1 (by omega)]
  dsimp only
  rw [t_ite, t_call]
  refine ⟨fun q => by omega, fun _ => ?_⟩
  refine wantWord_e m5 hK (y := 6) (by omega) (by omega) rfl (fun X f p1 p2 p3 => ?_) (fun X4 s4 p1 p2 p3 p4 => ?_)
  · dsimp only
    rw [t_ite, t_retzm]
    exact ⟨fun _ => ⟨by omega, err X f (by unfold reT; rw [g1, bnd_o]; unfold laT; rw [k1, bnd_o, m1, bnd_o, p1, bnd_e, bnd_e]) p2 (fun a j q1 q2 => by rw [p3 a j q1, f3 a j q1 (by omega)])⟩, fun q => absurd rfl q⟩
  have f4 : ∀ a j, ¬ rpF a j → ¬ (a = 120 ∧ (j = b ∨ j = b + 1)) → X4 a j = Z a j := fun a j q1 q2 => by rw [p4 a j q1, f3 a j q1 q2]
  have lr4 := lrZ X4 (fun a j q1 q2 => f4 a j q1 (by omega))
  have l4 := lr_a lr4
  have x41 : X4 120 (b + 1) = l := by rw [p4 _ _ (rpF_a (by omega))]; exact m6
  dsimp only
  rw [t_ite, t_getf, l4.1, t_geti, l4.2, x41, w32_s (x := b + 2) (by omega) (by omega), w32_s (x := l + 1) (by omega) (by omega), t_call]
  refine ⟨fun q => by omega, fun _ => ⟨by omega, by omega, by omega, by omega, ?_⟩⟩
  refine number_e p3 lr4 (by omega) (by omega) (fun X f n1 n2 n3 => ?_) (fun X5 i s5 n1 n2 n3 n4 n5 n6 n7 => ?_)
  · dsimp only
    rw [t_ite, t_retzm]
    exact ⟨fun q => absurd rfl q, fun _ => ⟨by omega, err X f (by unfold reT; rw [g1, bnd_o]; unfold laT; rw [k1, bnd_o, m1, bnd_o, p1, bnd_o, n1, bnd_e, bnd_e]) n2 (fun a j q1 q2 => by rw [n3 a j q1, f4 a j q1 (by omega)])⟩⟩
  have lT : laT B K n s1 = .ok ((l, i), s5) := by unfold laT; rw [k1, bnd_o, m1, bnd_o, p1, bnd_o, n1, bnd_o]
  have f5 : ∀ a j, ¬ rpF a j → ¬ (a = 120 ∧ (j = b ∨ j = b + 1 ∨ j = b + 2)) → X5 a j = Z a j := fun a j q1 q2 => by rw [n7 a j q1 (by omega), f4 a j q1 (by omega)]
  have x50 : X5 120 b = o := by rw [n7 _ _ (rpF_a (by omega)) (by omega), p4 _ _ (rpF_a (by omega)), m7 _ _ (rpF_a (by omega)) (by omega), k4 _ _ (rpF_a (by omega))]; exact g4
  have x51 : X5 120 (b + 1) = l := by rw [n7 _ _ (rpF_a (by omega)) (by omega)]; exact x41
  dsimp only
  rw [t_ite, t_call]
  refine ⟨fun _ => ?_, fun q => absurd (by omega) q⟩
  -- what it carries
  have j179 : ∀ (J : Mem → Option (Int × Mem)), (∀ X o s1, opT B K n 7 (nuT B n 1 999) s5 = .ok (o, s1) → s5 ≤ s1 → RT X B n s1 → X 120 (b + 3) = o → (∀ a j, ¬ rpF a j → ¬ (a = 120 ∧ j = b + 3) → X a j = X5 a j) → Tot (J X) (MdR M B n s (rrM B K n σ s))) → Tot (f_X12_isThere 119 9 X5) (fun q => Tot (if q.1 = 0 then J q.2 else call (f_X12_number 119 (b + 3) 1 999 q.2) (fun v50 M51 => if v50 ≠ 0 then J M51 else retzm 0 M51)) (MdR M B n s (rrM B K n σ s))) := by
    intro J hJ
    have nb := nx_b (B := B) n5.2.2.2.2
    refine isThere_e n5 hK (y := 7) (by omega) (by omega) rfl (fun d => ?_) (fun Y d hY fY => ?_)
    · dsimp only
      rw [if_pos rfl]
      exact hJ X5 (-1) s5 (by unfold opT; rw [if_neg d]) (by omega) n5 (by rw [f5 _ _ (rpF_a (by omega)) (by omega)]; exact zb3) (fun _ _ _ _ => rfl)
    · dsimp only
      rw [if_neg (by omega)]
      have oT : opT B K n 7 (nuT B n 1 999) s5 = nuT B n 1 999 (nx B n s5) := by unfold opT; rw [if_pos d]
      rw [oT] at hJ
      have hrY := lrZ Y (fun a j q1 q2 => by rw [fY a j q1, f5 a j q1 (by omega)])
      rw [t_call]
      refine number_e hY hrY (by omega) (by omega) (fun X f u1 u2 u3 => ?_) (fun X o s1 u1 u2 u3 u4 u5 u6 u7 => ?_)
      · dsimp only
        rw [t_ite, t_retzm]
        exact ⟨fun q => absurd rfl q, fun _ => ⟨by omega, err X f (by unfold reT; rw [g1, bnd_o, lT, bnd_o, oT, u1, bnd_e]) u2 (fun a j q1 q2 => by rw [u3 a j q1, fY a j q1, f5 a j q1 (by omega)])⟩⟩
      · dsimp only
        rw [t_ite]
        exact ⟨fun _ => hJ X o s1 u1 (by omega) u5 u6 (fun a j q1 q2 => by rw [u7 a j q1 q2, fY a j q1]), fun q => absurd (by omega) q⟩
  refine t_mono (j179 _ ?_) (fun q hq => by rw [t_jn]; exact hq)
  intro X6 ca s6 u1 u2 u3 u4 u5
  have f6 : ∀ a j, ¬ rpF a j → ¬ (a = 120 ∧ b ≤ j ∧ j ≤ b + 3) → X6 a j = Z a j := fun a j q1 q2 => by rw [u5 a j q1 (by omega), f5 a j q1 (by omega)]
  rw [t_call]
  -- when it is shut
  have j238 : ∀ (J : Mem → Option (Int × Mem)), (∀ X fr to s1, shT B K n s6 = .ok ((fr, to), s1) → s6 ≤ s1 → RT X B n s1 → X 120 (b + 4) = fr → X 120 (b + 5) = to → (∀ a j, ¬ rpF a j → ¬ (a = 120 ∧ (j = b + 4 ∨ j = b + 5)) → X a j = X6 a j) → Tot (J X) (MdR M B n s (rrM B K n σ s))) → Tot (f_X12_isThere 119 10 X6) (fun q => Tot (if q.1 = 0 then J q.2 else (call (f_X12_number 119 (b + 4) 0 1439 q.2) (fun v37 M38 => jn (fun (M39 : Mem) => retzm 0 M39) (fun j236 => if v37 = 0 then (j236 M38) else (call (f_X12_wantWord 119 (-2) 11 M38) (fun v40 M41 => if v40 = 0 then (j236 M41) else (getf M41 119 0 (fun v42 => geti M41 v42 (b + 4) (fun v43 => call (f_X12_number 119 (b + 5) (w32 (v43 + 1)) 1440 M41) (fun v44 M45 => if v44 ≠ 0 then (J M45) else (j236 M45)))))))))) ) (MdR M B n s (rrM B K n σ s))) := by
    intro J hJ
    have nb := nx_b (B := B) u3.2.2.2.2
    refine isThere_e u3 hK (y := 8) (by omega) (by omega) rfl (fun d => ?_) (fun Y d hY fY => ?_)
    · dsimp only
      rw [if_pos rfl]
      exact hJ X6 (-1) (-1) s6 (by unfold shT; rw [if_neg d]) (by omega) u3 (by rw [f6 _ _ (rpF_a (by omega)) (by omega)]; exact zb4) (by rw [f6 _ _ (rpF_a (by omega)) (by omega)]; exact zb5) (fun _ _ _ _ => rfl)
    dsimp only
    rw [if_neg (by omega), t_call]
    have yZ : ∀ a j, ¬ rpF a j → ¬ (a = 120 ∧ b ≤ j ∧ j ≤ b + 3) → Y a j = Z a j := fun a j q1 q2 => by rw [fY a j q1, f6 a j q1 q2]
    refine number_e hY (lrZ Y (fun a j q1 q2 => yZ a j q1 (by omega))) (by omega) (by omega) (fun X f v1 v2 v3 => ?_) (fun Y1 fr s7 v1 v2 v3 v4 v5 v6 v7 => ?_)
    · dsimp only
      rw [t_jn, t_ite, t_retzm]
      exact ⟨fun _ => ⟨by omega, err X f (by unfold reT; rw [g1, bnd_o, lT, bnd_o, u1, bnd_o]; unfold shT; rw [if_pos d, v1, bnd_e, bnd_e]) v2 (fun a j q1 q2 => by rw [v3 a j q1, yZ a j q1 (by omega)])⟩, fun q => absurd rfl q⟩
    dsimp only
    rw [t_jn, t_ite, t_call]
    refine ⟨fun q => by omega, fun _ => ?_⟩
    have y1Z : ∀ a j, ¬ rpF a j → ¬ (a = 120 ∧ b ≤ j ∧ j ≤ b + 4) → Y1 a j = Z a j := fun a j q1 q2 => by rw [v7 a j q1 (by omega), yZ a j q1 (by omega)]
    refine wantWord_e v5 hK (y := 9) (by omega) (by omega) rfl (fun X f w1 w2 w3 => ?_) (fun Y2 s8 w1 w2 w3 w4 => ?_)
    · dsimp only
      rw [t_ite, t_retzm]
      exact ⟨fun _ => ⟨by omega, err X f (by unfold reT; rw [g1, bnd_o, lT, bnd_o, u1, bnd_o]; unfold shT; rw [if_pos d, v1, bnd_o, w1, bnd_e, bnd_e]) w2 (fun a j q1 q2 => by rw [w3 a j q1, y1Z a j q1 (by omega)])⟩, fun q => absurd rfl q⟩
    have y2Z : ∀ a j, ¬ rpF a j → ¬ (a = 120 ∧ b ≤ j ∧ j ≤ b + 4) → Y2 a j = Z a j := fun a j q1 q2 => by rw [w4 a j q1, y1Z a j q1 q2]
    have lr2 := lrZ Y2 (fun a j q1 q2 => y2Z a j q1 (by omega))
    have l2 := lr_a lr2
    have y24 : Y2 120 (b + 4) = fr := by rw [w4 _ _ (rpF_a (by omega))]; exact v6
    dsimp only
    rw [t_ite, t_getf, l2.1, t_geti, l2.2, y24, w32_s (x := fr + 1) (by omega) (by omega), t_call]
    refine ⟨fun q => by omega, fun _ => ⟨by omega, by omega, by omega, by omega, ?_⟩⟩
    refine number_e w3 lr2 (by omega) (by omega) (fun X f x1 x2 x3 => ?_) (fun Y3 to s9 x1 x2 x3 x4 x5 x6 x7 => ?_)
    · dsimp only
      rw [t_ite, t_retzm]
      exact ⟨fun q => absurd rfl q, fun _ => ⟨by omega, err X f (by unfold reT; rw [g1, bnd_o, lT, bnd_o, u1, bnd_o]; unfold shT; rw [if_pos d, v1, bnd_o, w1, bnd_o, x1, bnd_e, bnd_e]) x2 (fun a j q1 q2 => by rw [x3 a j q1, y2Z a j q1 (by omega)])⟩⟩
    dsimp only
    rw [t_ite]
    refine ⟨fun _ => hJ Y3 fr to s9 (by unfold shT; rw [if_pos d, v1, bnd_o, w1, bnd_o, x1, bnd_o]) (by omega) x5 (by rw [x7 _ _ (rpF_a (by omega)) (by omega)]; exact y24) x6 (fun a j q1 q2 => by rw [x7 a j q1 (by omega), w4 a j q1, v7 a j q1 (by omega), fY a j q1]), fun q => absurd (by omega) q⟩
  refine t_mono (j238 _ ?_) (fun q hq => by rw [t_jn]; exact hq)
  intro X7 fr to s7 v1 v2 v3 v4 v5 v6
  have rT : reT B K n σ.1 σ.2.1 t = .ok ((o, l, i, ca, fr, to), s7) := by unfold reT; rw [g1, bnd_o, lT, bnd_o, u1, bnd_o, v1, bnd_o]
  have f7 : ∀ a j, ¬ rpF a j → ¬ (a = 120 ∧ b ≤ j ∧ j < b + 6) → X7 a j = Z a j := fun a j q1 q2 => by rw [v6 a j q1 (by omega), f6 a j q1 (by omega)]
  have f7M : ∀ a j, ¬ rpF a j → ¬ (a = 120 ∧ b ≤ j ∧ j < b + 6) → ¬ (a = 121 ∧ j = 104 + 0 + σ.1 3) → X7 a j = M a j := fun a j q1 q2 q3 => by rw [f7 a j q1 q2, fZ a j q1 q2 q3]
  have lr7 := lrZ X7 f7
  have l7 := lr_a lr7
  have x73 : X7 120 2563 = σ.1 3 := by rw [f7M _ _ (rpF_a (by omega)) (by omega) (by omega)]; exact w3
  have cell : ∀ k, 0 ≤ k → k < 6 → X7 120 (b + k) = r6 (o, l, i, ca, fr, to) k := by
    intro k k0 k1
    have q : k = 0 ∨ k = 1 ∨ k = 2 ∨ k = 3 ∨ k = 4 ∨ k = 5 := by omega
    rcases q with q | q | q | q | q | q <;> subst q
    · rw [Int.add_zero, v6 _ _ (rpF_a (by omega)) (by omega), u5 _ _ (rpF_a (by omega)) (by omega)]; exact x50
    · rw [v6 _ _ (rpF_a (by omega)) (by omega), u5 _ _ (rpF_a (by omega)) (by omega)]; exact x51
    · rw [v6 _ _ (rpF_a (by omega)) (by omega), u5 _ _ (rpF_a (by omega)) (by omega)]; exact n6
    · rw [v6 _ _ (rpF_a (by omega)) (by omega)]; exact u4
    · exact v4
    · exact v5
  rw [t_getf, l7.1, t_geti, l7.2, x73, t_seti, l7.2, w32_s (x := σ.1 3 + 1) (by omega) (by omega), t_retzm]
  have y : ∀ a j, ¬ (a = 120 ∧ j = 2563) → upd2 X7 120 2563 (σ.1 3 + 1) a j = X7 a j := fun a j hh => by rw [upd2_at, if_neg hh]
  have y3 : upd2 X7 120 2563 (σ.1 3 + 1) 120 2563 = σ.1 3 + 1 := by rw [upd2_at, if_pos ⟨rfl, rfl⟩]
  generalize upd2 X7 120 2563 (σ.1 3 + 1) = Y at y y3 ⊢
  have yM : ∀ a j, ¬ rpF a j → ¬ (a = 120 ∧ (b ≤ j ∧ j < b + 6 ∨ j = 2563)) → ¬ (a = 121 ∧ j = 104 + 0 + σ.1 3) → Y a j = M a j := fun a j q1 q2 q3 => by rw [y a j (by omega), f7M a j q1 (by omega) q3]
  refine ⟨by omega, by omega, by omega, by omega, by omega, by omega, by omega, by omega, mdr_o (by unfold rrM; rw [e1, bnd_o, rT, bnd_o]) (by omega) (rt_k v3 (fun a j hh => y a j (by omega))) ⟨fun j j0 j1 => ?_, ⟨fun k k0 k1 => ?_, fun k k0 k1 => ?_, fun k k0 k1 => ?_⟩, ?_⟩ (fun a j q => yM a j (fun x => q (.inl x)) (fun x => q (.inr (.inl (by omega)))) (fun x => q (.inr (.inr (.inl (by omega))))))⟩ <;> dsimp only at *
  · by_cases q : j = 3
    · rw [q, addR_3]; exact y3
    · by_cases q2 : 12 + 6 * σ.1 3 ≤ j ∧ j < 18 + 6 * σ.1 3
      · unfold addR
        rw [if_neg q, if_pos q2, y _ _ (by omega), ← cell (j - (12 + 6 * σ.1 3)) (by omega) (by omega)]
        congr 1; omega
      · rw [addR_o q q2, yM _ _ (rpF_a (by omega)) (by omega) (by omega)]; exact hw j j0 j1
  · rw [addR_3] at k1
    by_cases q : k = σ.1 3
    · rw [q, upd1_at, if_pos rfl, y _ _ (by omega), f7 _ _ (rpF_a (by omega)) (by omega), show 104 + σ.1 3 = 104 + 0 + σ.1 3 by omega, z121]; exact e6
    · rw [upd1_at, if_neg q, yM _ _ (rpF_a (by omega)) (by omega) (by omega)]; exact hn.1 k k0 (by omega)
  · rw [addR_o (by omega) (by omega)] at k1
    rw [upd1_at, if_neg (by omega), yM _ _ (rpF_a (by omega)) (by omega) (by omega)]; exact hn.2.1 k k0 k1
  · rw [addR_o (by omega) (by omega)] at k1
    rw [upd1_at, if_neg (by omega), yM _ _ (rpF_a (by omega)) (by omega) (by omega)]; exact hn.2.2 k k0 k1
  · rw [yM _ _ (fun q => by unfold rpF at q; omega) (by omega) (by omega)]; exact ht
