/-! lives keep the invariant -/
theorem riI_k {M N : Mem} {v d m A : Int} (h : RsI M v d m A) (k : ∀ a j, 119 ≤ a → N a j = M a j) : RI N (M 120) (-1) :=
  ⟨lr_keep h.1.1 (fun a j x _ => k a j x.1), funext fun j => k _ _ (by omega), by rw [k _ _ (by omega)]; exact h.1.2⟩
theorem rd_k {M N : Mem} {B : Int} {r : Int → Int} (hl : LfI M B r) (k : ∀ a j, 119 ≤ a → N a j = M a j) : ∀ j, 0 ≤ j → j < 60 → (0 ≤ r j ∧ r j ≤ 98) ∧ N 134 j = r j := fun j j0 j1 => ⟨(hl.2 j j0 j1).1, by rw [k _ _ (by omega)]; exact (hl.2 j j0 j1).2.2⟩
theorem u12_k (M : Mem) (st : Int) : ∀ a j, 119 ≤ a → upd2 M 1 12 st a j = M a j := fun a j ha => by rw [upd2_at, if_neg (by omega)]
/-- both sides refuse -/
theorem ref_q {M : Mem} {v d B m A : Int} {r : Int → Int} (h : INV M v d B r m A) (st : Int) : Iv (upd2 (upd2 M 1 12 st) 119 2 st) (B + 1000000) := by
  refine iv_i (inv_q h (fun a j x1 x2 x3 x4 => ?_) ?_) (by omega)
  · rw [upd2_at, if_neg (by omega), upd2_at, if_neg (by omega)]
  · have st := h.2.2.2.1
    unfold StI at st ⊢
    simp only [upd2_at]
    simp
    exact st.2
theorem o_live {M : Mem} {B : Int} (h : Iv M B) (B0 : 0 ≤ B) (B1 : B ≤ 1900000000) (x : Int) : OpK (f_X11_live 1 x M) (fun N => f_X12_live 119 x N) B := by
  obtain ⟨v, d, r, m, A, h⟩ := h
  obtain ⟨hc, hd, hg⟩ := h.1
  obtain ⟨p4, p5, p7, l84, l76, p6, p75⟩ := h.2.2.1
  have hl := h.2.2.2.2
  have hr98 : ∀ k, 0 ≤ k → k < 60 → 0 ≤ r k ∧ r k ≤ 98 := fun k k0 k1 => (hl.2 k k0 k1).1
  have st := h.2.2.2.1
  unfold OpK
  refine c_live (r := r) hc hg hd p4 p7 l84 p6 p75 B0 (by omega) (fun k k0 k1 => ⟨(hl.2 k k0 k1).1, (hl.2 k k0 k1).2.1⟩) x (fun c => ?_) (fun c c9 => ?_) (fun c c9 N hN => ?_)
  · have k := u12_k M 1
    exact r_live (r := r) (riI_k h.2.1 k) hg (rd_k hl k) x (fun _ => ⟨rfl, ref_q h 1⟩) (fun c' => absurd c' c) (fun c' => absurd c' c)
  · have k := u12_k M 6
    exact r_live (r := r) (riI_k h.2.1 k) hg (rd_k hl k) x (fun c' => absurd c c') (fun _ _ => ⟨rfl, ref_q h 6⟩) (fun _ c' => absurd c9 c')
  · obtain ⟨n1, n2, n3, n4, n5, n6, n7, n8⟩ := hN
    have k : ∀ a j, 119 ≤ a → N a j = M a j := fun a j ha => n1 a j (by unfold SW SC; omega) (by omega) (by omega) (by omega) (by omega)
    refine r_live (r := r) (riI_k h.2.1 k) hg (rd_k hl k) x (fun c' => absurd c c') (fun _ c' => absurd c' c9) (fun _ _ P hP => ⟨rfl, ?_⟩)
    obtain ⟨q1, q2, q3, q4, q5, q6⟩ := hP
    have li := itS_i hg c.1 c.2 hr98 100000
    have lh := itS_h hg c.1 c.2 hr98 100000
    generalize itS (ini (M 120) r x) 100000 = s at *
    obtain ⟨⟨g1, g2, g3, g4⟩, _, _, _, _, _, _, gr⟩ := li
    have l : ∀ a j, a < 119 → P a j = N a j := fun a j ha => q1 a j (by unfold SRl SR; omega) (by omega) (by omega)
    have e : P 120 = s.1 := q2.2.1
    have hn := g1.1.1
    unfold WFn at hn
    have hdd := n3.1
    refine iv_i (M := P) (r := s.2.1) (B := B + 100000) (inv_w h (fun a j hx => ?_) ?_ ?_ ?_ ?_ ?_ ?_ ?_ ?_ ?_) (by omega)
    · rw [q1 a j (fun x => hx ?_) (fun x => hx ?_) (fun x => hx ?_), n1 a j (fun x => hx ?_) (fun x => hx ?_) (fun x => hx ?_) (fun x => hx ?_) (fun x => hx ?_)]
      · unfold cgF; exact .inl x
      · unfold cgF; exact .inr (.inr (.inl (by omega)))
      · unfold cgF; exact .inr (.inr (.inl (by omega)))
      · unfold cgF; exact .inr (.inr (.inr (.inl x.1)))
      · unfold cgF; exact .inr (.inl ⟨x.1, by omega⟩)
      · unfold cgF; exact .inr (.inr (.inr (.inr (.inl x))))
      · unfold cgF; exact .inr (.inr (.inr (.inr (.inr (.inr x)))))
      · unfold cgF; exact .inr (.inr (.inr (.inr (.inr (.inl ⟨x.1, by omega⟩)))))
    · rw [e]; exact ci_o (by omega) (by omega) n2 (fun a j x => l a j (by omega))
    · rw [e]; exact cd_k n3 g1.2.2.2.1 ⟨rfl, fun _ _ _ => rfl⟩ (fun a j x => l a j (by omega))
    · rw [e]; exact g1
    · rw [e]; exact g2
    · intro j hj; rw [e]; exact lh j (by omega)
    · intro j hj _; rw [e]; exact lh j (by omega)
    · unfold StI at st ⊢
      rw [l 1 12 (by omega), l 1 13 (by omega), l 1 14 (by omega), n8, q6, n1 1 13 (by unfold SW SC; omega) (by omega) (by omega) (by omega) (by omega), n1 1 14 (by unfold SW SC; omega) (by omega) (by omega) (by omega) (by omega), q1 119 3 (by unfold SRl SR; omega) (by omega) (by omega), q1 119 4 (by unfold SRl SR; omega) (by omega) (by omega), k _ _ (by omega), k _ _ (by omega)]
      exact ⟨rfl, st.2⟩
    · have kk : ∀ a j, a < 48 ∨ 76 ≤ a ∧ a < 119 → ¬ (a = 84 ∧ 0 ≤ j) → ¬ (a = 1 ∧ (j = 10 ∨ j = 12)) → P a j = M a j := fun a j x1 x2 x3 => by rw [l a j (by omega), n1 a j (by unfold SW SC; omega) (by omega) (by omega) x2 x3]
      refine ⟨by rw [kk _ _ (by omega) (by omega) (by omega)]; exact p4, by rw [kk _ _ (by omega) (by omega) (by omega)]; exact p5, by rw [kk _ _ (by omega) (by omega) (by omega)]; exact p7, by rw [kk _ _ (by omega) (by omega) (by omega)]; exact l84, ls_keep l76 (fun a j x1 x2 => kk a j (by omega) (by omega) (by omega)), by rw [l _ _ (by omega)]; exact n4.1, by rw [l _ _ (by omega)]; exact n4.2⟩
    · refine ⟨⟨by rw [l _ _ (by omega), n7, q5], fun i i0 i1 => ?_⟩, fun j j0 j1 => ⟨gr j j0 j1, by rw [l _ _ (by omega)]; exact n5 j j0 j1, q3 j j0 j1⟩⟩
      rw [l _ _ (by omega)]
      obtain ⟨a0, a1, a2, a3⟩ := n6
      obtain ⟨b0, b1, b2, b3⟩ := q4
      obtain rfl | rfl | rfl | rfl : i = 0 ∨ i = 1 ∨ i = 2 ∨ i = 3 := by omega
      · rw [a0, b0]
      · rw [a1, b1]
      · rw [a2, b2]
      · rw [a3, b3]
theorem o_odds {M : Mem} {B : Int} (h : Iv M B) (B0 : 0 ≤ B) (B1 : B ≤ 1900000000) (f lit sd n : Int) (hi : r32 n) : OpK (f_X11_odds 1 f lit sd n M) (fun N => f_X12_odds 119 f lit sd n N) B := by
  obtain ⟨v, d, r, m, A, h⟩ := h
  obtain ⟨hc, hd, hg⟩ := h.1
  obtain ⟨p4, p5, p7, l84, l76, p6, p75⟩ := h.2.2.1
  have hl := h.2.2.2.2
  have hr98 : ∀ k, 0 ≤ k → k < 60 → 0 ≤ r k ∧ r k ≤ 98 := fun k k0 k1 => (hl.2 k k0 k1).1
  have st := h.2.2.2.1
  have eq := wk_eq (M 120)
  have hg' := gw_lt hg eq
  have hL : LvL (wkW (M 120)) (fun r x => itS (ini (wkW (M 120)) r x) 100000) := fun _ _ => rfl
  obtain ⟨L, eL⟩ : ∃ L, L = (fun (r : Int → Int) (x : Int) => itS (ini (wkW (M 120)) r x) 100000) := ⟨_, rfl⟩
  rw [← eL] at hL
  clear eL
  have e5 : wkW (M 120) 5 = M 120 5 := wk_o (by omega)
  have e9 : wkW (M 120) 9 = M 120 9 := wk_o (by omega)
  unfold OpK
  refine c_odds (r := r) hL (ci_lt hc hg.1.1 eq) hg' (cd_lt hd hg.2.2.2.1 eq) p4 p5 l76 p6 p75 B0 B1 (fun k k0 k1 => ⟨(hl.2 k k0 k1).1, (hl.2 k k0 k1).2.1⟩) f lit sd n hi (fun c => ?_) (fun c c9 => ?_) (fun c c9 N hN hN1 => ?_)
  · rw [e5] at c
    have k := u12_k M 1
    exact r_odds (r := r) hL (riI_k h.2.1 k) hg (rd_k hl k) f lit sd n (fun _ => ⟨rfl, ref_q h 1⟩) (fun c' => absurd c' c) (fun c' => absurd c' c)
  · rw [e5] at c; rw [e9] at c9
    have k := u12_k M 6
    exact r_odds (r := r) hL (riI_k h.2.1 k) hg (rd_k hl k) f lit sd n (fun c' => absurd c c') (fun _ _ => ⟨rfl, ref_q h 6⟩) (fun _ c' => absurd c9 c')
  · rw [e5] at c; rw [e9] at c9
    obtain ⟨n1, n2, n3, n4, n5, n6⟩ := hN
    have od := (odZ_i (f := f) (lit := lit) hL hg' c.2.2.2.2.2.2.1 (n := n) (by omega) hr98 (k := n) (by omega) (by omega)).2
    obtain ⟨z, ez⟩ : ∃ z, z = odZ L f lit sd r n := ⟨_, rfl⟩
    rw [← ez] at n6 od ⊢
    have kf : ∀ a j, ¬ (a = 1 ∧ 12 ≤ j ∧ j ≤ 14) → frC N z.1 n a j = N a j := fun a j ha => by unfold frC; simp only [upd2_at]; rw [if_neg (by omega), if_neg (by omega), if_neg (by omega)]
    have k : ∀ a j, 119 ≤ a → frC N z.1 n a j = M a j := fun a j ha => by rw [kf a j (by omega), n1 a j (by unfold SW SC; omega) (by omega) (by omega)]
    refine r_odds (r := r) hL (riI_k h.2.1 k) hg (rd_k hl k) f lit sd n (fun c' => absurd c c') (fun _ c' => absurd c' c9) (fun _ _ P q1 q2 q3 => ?_)
    rw [← ez] at q3 ⊢
    have kp : ∀ a j, ¬ (a = 119 ∧ 2 ≤ j ∧ j ≤ 4) → frR P z.1 n a j = P a j := fun a j ha => by unfold frR; simp only [upd2_at]; rw [if_neg (by omega), if_neg (by omega), if_neg (by omega)]
    have l : ∀ a j, a < 119 → ¬ (a = 1 ∧ 12 ≤ j ∧ j ≤ 14) → frR P z.1 n a j = N a j := fun a j ha hb => by rw [kp a j (by omega), q1 a j (by unfold SRl SR; omega)]; exact kf a j hb
    have e : frR P z.1 n 120 = wkW (M 120) := funext fun j => by rw [kp _ _ (by omega), q2.2.1]
    have hn := hg'.1.1
    unfold WFn at hn
    have hdd := n3.1
    refine ⟨rfl, iv_i (M := frR P z.1 n) (r := z.2) (B := B + 1000000) (inv_w h (fun a j hx => ?_) ?_ ?_ ?_ ?_ ?_ ?_ ?_ ?_ ?_) (by omega)⟩
    · have x1 : ¬ (a = 119 ∧ 2 ≤ j ∧ j ≤ 4) := fun x => hx (by unfold cgF; exact .inr (.inr (.inr (.inr (.inr (.inl ⟨x.1, by omega⟩))))))
      have x2 : ¬ SRl a j := fun x => hx (by unfold cgF; exact .inr (.inr (.inr (.inr (.inl x)))))
      have x3 : ¬ (a = 1 ∧ 12 ≤ j ∧ j ≤ 14) := fun x => hx (by unfold cgF; exact .inr (.inl ⟨x.1, by omega⟩))
      have x4 : ¬ SW a j := fun x => hx (by unfold cgF; exact .inl x)
      have x5 : ¬ (74 ≤ a ∧ a ≤ 82) := fun x => hx (by unfold cgF; exact .inr (.inr (.inl x)))
      rw [kp a j x1, q1 a j x2]
      exact (kf a j x3).trans (n1 a j x4 x5 x3)
    · rw [e]; exact ci_o (by omega) (by omega) n2 (fun a j x => l a j (by omega) (by omega))
    · rw [e]; exact cd_k n3 hg'.2.2.2.1 ⟨rfl, fun _ _ _ => rfl⟩ (fun a j x => l a j (by omega) (by omega))
    · rw [e]; exact hg'
    · rw [e]; exact (el_v eq).1
    · intro j hj; rw [e]; exact wk_o (by omega)
    · intro j hj _; rw [e]; exact wk_o (by omega)
    · have y : ∀ j, frR P z.1 n 1 j = frC N z.1 n 1 j := fun j => by rw [kp _ _ (by omega), q1 _ _ (by unfold SRl SR; omega)]
      unfold StI
      rw [y, y, y]
      unfold frC frR
      simp only [upd2_at]
      simp
    · have kk : ∀ a j, a < 48 ∨ 83 ≤ a ∧ a < 119 → ¬ (a = 1 ∧ 12 ≤ j ∧ j ≤ 14) → frR P z.1 n a j = M a j := fun a j x1 x2 => by rw [l a j (by omega) x2, n1 a j (by unfold SW SC; omega) (by omega) x2]
      refine ⟨by rw [kk _ _ (by omega) (by omega)]; exact p4, by rw [kk _ _ (by omega) (by omega)]; exact p5, by rw [kk _ _ (by omega) (by omega)]; exact p7, by rw [kk _ _ (by omega) (by omega)]; exact l84, ls_keep n5 (fun a j x1 x2 => l a j (by omega) (by omega)), by rw [l _ _ (by omega) (by omega)]; exact n4.1, by rw [l _ _ (by omega) (by omega)]; exact n4.2⟩
    · refine ⟨⟨?_, fun i i0 i1 => ?_⟩, fun j j0 j1 => ⟨od j j0 j1, by rw [l _ _ (by omega) (by omega)]; exact n6 j j0 j1, by rw [kp _ _ (by omega)]; exact q3 j j0 j1⟩⟩
      · rw [l 1 10 (by omega) (by omega), n1 1 10 (by unfold SW SC; omega) (by omega) (by omega), kp 119 41 (by omega), q1 119 41 (by unfold SRl SR; omega)]
        exact hl.1.1.trans (k 119 41 (by omega)).symm
      · rw [l 84 i (by omega) (by omega), n1 84 i (by unfold SW SC; omega) (by omega) (by omega), kp 136 i (by omega), q1 136 i (by unfold SRl SR; omega)]
        exact (hl.1.2 i i0 i1).trans (k 136 i (by omega)).symm
