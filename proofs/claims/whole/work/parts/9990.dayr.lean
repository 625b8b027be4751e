/-! the reference reads the arguments of a step -/
def NmD (M : Mem) (m : Nms) : Prop := (M 120 3 = m.2.1 ∧ M 120 5 = m.2.2.2) ∧ (∀ k, 0 ≤ k → k < m.2.1 → NmR (m.1 k) (M 121 k)) ∧ (∀ k, 0 ≤ k → k < m.2.2.2 → NmR (m.2.2.1 k) (M 121 (16 + k))) ∧ (0 ≤ m.2.1 ∧ m.2.1 ≤ 10) ∧ 0 ≤ m.2.2.2 ∧ m.2.2.2 ≤ 10
theorem nmd_k {M N : Mem} {m : Nms} (h : NmD M m) (k0 : ∀ j, 0 ≤ j → j < 640 → N 120 j = M 120 j) (k1 : ∀ j, N 121 j = M 121 j) : NmD N m := by
  obtain ⟨⟨a, b⟩, c, d, e⟩ := h
  exact ⟨⟨by rw [k0 3 (by omega) (by omega)]; exact a, by rw [k0 5 (by omega) (by omega)]; exact b⟩, fun k q0 q1 => by rw [k1]; exact c k q0 q1, fun k q0 q1 => by rw [k1]; exact d k q0 q1, e⟩
def dpF (a j : Int) : Prop := rpF a j ∨ (a = 120 ∧ (j = 2569 ∨ 2830 ≤ j ∧ j < 3200)) ∨ (a = 119 ∧ (j = 23 ∨ j = 24)) ∨ (a = 128 ∧ 0 ≤ j)
def FrS (M N : Mem) : Prop := ∀ a j, ¬ dpF a j → N a j = M a j
theorem frs_r {M N : Mem} (h : FrR M N) : FrS M N := fun a j q => h a j (fun z => q (.inl z))
theorem frs_t {M N P : Mem} (h : FrS M N) (k : FrS N P) : FrS M P := fun a j q => by rw [k a j q, h a j q]
theorem lr_ds {M N : Mem} (h : LR M) (f : FrS M N) : LR N := lr_keep h (fun a k h1 h2 => f a k (fun z => by unfold dpF rpF at z; omega))
theorem nmd_s {M N : Mem} {m : Nms} (h : NmD M m) (f : FrS M N) : NmD N m := nmd_k h (fun j j0 j1 => f _ _ (fun z => by unfold dpF rpF at z; omega)) (fun j => f _ _ (fun z => by unfold dpF rpF at z; omega))
/-- nothing but the token and the row b has changed -/
def FrB (M N : Mem) (b : Int) : Prop := ∀ a j, ¬ rpF a j → ¬ (a = 120 ∧ b ≤ j ∧ j < b + 6) → N a j = M a j
theorem frb_s {M N : Mem} {b : Int} (b0 : 2830 ≤ b) (b1 : b + 6 ≤ 3200) (h : FrB M N b) : FrS M N := fun a j q => h a j (fun z => q (.inl z)) (fun z => q (.inr (.inl (by omega))))
theorem reachTo_e {M : Mem} {B K : Int → Int} {n s x : Int} {m : Nms} {Q : Int × Mem → Prop} (h : RT M B n s) (hr : LR M) (hK : KwC K) (hN : NmD M m) (x0 : 0 ≤ x) (x1 : x < 3840) (he : ∀ N f, knT B K n m.1 m.2.1 s = .error f → ErR N f → (∀ a j, ¬ rpF a j → ¬ (a = 120 ∧ j = x) → N a j = M a j) → Q (0, N)) (hk : ∀ N v t, knT B K n m.1 m.2.1 s = .ok (v, t) → s ≤ t → RT N B n t → N 120 x = v → (∀ a j, ¬ rpF a j → ¬ (a = 120 ∧ j = x) → N a j = M a j) → Q (1, N)) : Tot (f_X12_reachTo 119 x M) Q := by
  obtain ⟨⟨a, b⟩, c, d, e1, e2⟩ := hN
  obtain ⟨ra, rl⟩ := lr_a hr
  unfold f_X12_reachTo
  rw [t_getf, ra, t_geti, rl, a, t_call]
  refine ⟨by omega, by omega, by omega, by omega, ?_⟩
  refine oldOne_e (g := m.1) h hr hK (by omega) (by omega) (by omega) (by omega) (fun k k0 k1 => by rw [show (0 : Int) + 0 + k = k by omega]; exact c k k0 k1) x0 x1 (fun N f g1 g2 g3 => ?_) (fun N v t g1 g2 g3 g4 g5 g6 g7 => ?_)
  · rw [t_retzm]; exact ⟨by omega, he N f g1 g2 g3⟩
  · rw [t_retzm]; exact ⟨by omega, hk N v t g1 g4 g5 g6 g7⟩
theorem fieldTo_e {M : Mem} {B K : Int → Int} {n s x : Int} {m : Nms} {Q : Int × Mem → Prop} (h : RT M B n s) (hr : LR M) (hK : KwC K) (hN : NmD M m) (x0 : 0 ≤ x) (x1 : x < 3840) (he : ∀ N f, knT B K n m.2.2.1 m.2.2.2 s = .error f → ErR N f → (∀ a j, ¬ rpF a j → ¬ (a = 120 ∧ j = x) → N a j = M a j) → Q (0, N)) (hk : ∀ N v t, knT B K n m.2.2.1 m.2.2.2 s = .ok (v, t) → s ≤ t → RT N B n t → N 120 x = v → (∀ a j, ¬ rpF a j → ¬ (a = 120 ∧ j = x) → N a j = M a j) → Q (1, N)) : Tot (f_X12_fieldTo 119 x M) Q := by
  obtain ⟨⟨a, b⟩, c, d, e1, e2⟩ := hN
  obtain ⟨ra, rl⟩ := lr_a hr
  unfold f_X12_fieldTo
  rw [t_getf, ra, t_geti, rl, b, t_call]
  refine ⟨by omega, by omega, by omega, by omega, ?_⟩
  refine oldOne_e (g := m.2.2.1) h hr hK (by omega) (by omega) (by omega) (by omega) (fun k k0 k1 => by rw [show (0 : Int) + 16 + k = 16 + k by omega]; exact d k k0 k1) x0 x1 (fun N f g1 g2 g3 => ?_) (fun N v t g1 g2 g3 g4 g5 g6 g7 => ?_)
  · rw [t_retzm]; exact ⟨by omega, he N f g1 g2 g3⟩
  · rw [t_retzm]; exact ⟨by omega, hk N v t g1 g4 g5 g6 g7⟩
theorem cells6 {X : Mem} {b : Int} {q : Rw5} (h0 : X 120 b = q.1) (h1 : X 120 (b + 1) = q.2.1) (h2 : X 120 (b + 2) = q.2.2.1) (h3 : X 120 (b + 3) = q.2.2.2.1) (h4 : X 120 (b + 4) = 0) (h5 : X 120 (b + 5) = q.2.2.2.2) : ∀ i, 0 ≤ i → i < 6 → X 120 (b + i) = r5 q i := by
  intro i i0 i1
  have c : i = 0 ∨ i = 1 ∨ i = 2 ∨ i = 3 ∨ i = 4 ∨ i = 5 := by omega
  rcases c with c | c | c | c | c | c <;> subst c
  · rw [Int.add_zero]; exact h0
  · exact h1
  · exact h2
  · exact h3
  · exact h4
  · exact h5
theorem testR_e {M : Mem} {B K : Int → Int} {n s b : Int} {m : Nms} {Q : Int × Mem → Prop} (h : RT M B n s) (hr : LR M) (hK : KwC K) (hN : NmD M m) (b0 : 2830 ≤ b) (b1 : b + 6 ≤ 3200) (hz : ∀ i, 1 ≤ i → i < 6 → M 120 (b + i) = 0) (he : ∀ N f, tsT B K n m s = .error f → ErR N f → FrB M N b → Q (0, N)) (hk : ∀ N q t, tsT B K n m s = .ok (q, t) → s ≤ t → RT N B n t → (∀ i, 0 ≤ i → i < 6 → N 120 (b + i) = r5 q i) → FrB M N b → Q (1, N)) : Tot (f_X12_test 119 b M) Q := by
  obtain ⟨ra, rl⟩ := lr_a hr
  have nb := nx_b (B := B) h.2.2.2.2
  unfold f_X12_test
  rw [t_callp]
  refine t_mono (inWords_e h.1 h.2.1 h.2.2.2.1 hK) (fun u hu => ?_)
  have yr := tkY_r (B := B) (K := K) (n := n) (s := s)
  have ie : ∀ y, 0 ≤ y → y < 30 → (u = pR y ↔ tkY B K n s = y) := fun y y0 y1 => by
    rw [hu]; exact ⟨fun e => pR_inj yr.1 yr.2 (by omega) y1 e, fun e => by rw [e]⟩
  have i8 : u = 10 ↔ tkY B K n s = 8 := ie 8 (by omega) (by omega)
  have i25 : u = 28 ↔ tkY B K n s = 25 := ie 25 (by omega) (by omega)
  have i26 : u = 29 ↔ tkY B K n s = 26 := ie 26 (by omega) (by omega)
  clear ie hu
  refine t_jq (fun J : Option (Int × Mem) => (u = 10 ∨ u = 28 ∨ u = 29) → Tot J Q) (fun c => ?_) (fun J hJ => ?_)
  rotate_left
  · rw [t_ite]
    refine ⟨fun c => hJ (.inl c), fun c => ?_⟩
    rw [t_ite]
    refine ⟨fun c1 => hJ (.inr (.inl c1)), fun c1 => ?_⟩
    rw [t_ite]
    refine ⟨fun c2 => hJ (.inr (.inr c2)), fun c2 => ?_⟩
    rw [t_call]
    refine failsR_e h 2 (fun N eN fN => ?_)
    rw [t_retzm]
    exact ⟨by omega, he N _ (by unfold tsT; rw [if_neg (fun z => c (i8.mpr z)), if_neg (fun z => c1 (i25.mpr z)), if_neg (fun z => c2 (i26.mpr z))]) eN (fun a j q1 _ => fN a j q1)⟩
  rw [t_getf, ra, t_seti, rl, w32_s (by omega) (by omega), t_callv]
  refine ⟨by omega, by omega, by omega, by omega, ?_⟩
  have z : ∀ a j, ¬ (a = 120 ∧ j = b) → upd2 M 120 b (2300 + u) a j = M a j := fun a j hh => by rw [upd2_at, if_neg hh]
  have zb : upd2 M 120 b (2300 + u) 120 b = 2300 + u := by rw [upd2_at, if_pos ⟨rfl, rfl⟩]
  generalize upd2 M 120 b (2300 + u) = Z at z zb ⊢
  refine aheadR_e (rt_k h (fun a j hh => z a j (by omega))) (fun Y hY fY => ?_)
  have yM : FrB M Y b := fun a j q1 q2 => by rw [fY a j q1, z a j (by omega)]
  have yb : Y 120 b = 2300 + u := by rw [fY _ _ (rpF_a (by omega))]; exact zb
  have yz : ∀ i, 1 ≤ i → i < 6 → Y 120 (b + i) = 0 := fun i i0 i1 => by rw [fY _ _ (rpF_a (by omega)), z _ _ (by omega)]; exact hz i i0 i1
  have lrY := lr_ds hr (frb_s b0 b1 yM)
  have nY := nmd_s hN (frb_s b0 b1 yM)
  rw [t_ite]
  refine ⟨fun c10 => ?_, fun c10 => ?_⟩
  rotate_left
  · have e8 := i8.mp (by omega)
    have u10 : u = 10 := by omega
    rw [t_call, w32_s (by omega) (by omega)]
    refine reachTo_e hY lrY hK nY (by omega) (by omega) (fun N f e1 e2 e3 => ?_) (fun N x t e1 e2 e3 e4 e5 => ?_)
    · rw [t_retzm]
      exact ⟨by omega, he N f (by unfold tsT; rw [if_pos e8, e1, bnd_e]) e2 (fun a j q1 q2 => by rw [e3 a j q1 (by omega), yM a j q1 q2])⟩
    · rw [t_retzm]
      refine ⟨by omega, hk N _ _ (by unfold tsT; rw [if_pos e8, e1, bnd_o]) (by omega) e3 (cells6 ?_ e4 ?_ ?_ ?_ ?_) (fun a j q1 q2 => by rw [e5 a j q1 (by omega), yM a j q1 q2])⟩ <;> (try dsimp only)
      · rw [e5 _ _ (rpF_a (by omega)) (by omega), yb, u10]; rfl
      · rw [e5 _ _ (rpF_a (by omega)) (by omega)]; exact yz 2 (by omega) (by omega)
      · rw [e5 _ _ (rpF_a (by omega)) (by omega)]; exact yz 3 (by omega) (by omega)
      · rw [e5 _ _ (rpF_a (by omega)) (by omega)]; exact yz 4 (by omega) (by omega)
      · rw [e5 _ _ (rpF_a (by omega)) (by omega)]; exact yz 5 (by omega) (by omega)
  -- debts, riches
  obtain ⟨cd, lim, hcl, hu28, tsE⟩ : ∃ cd lim : Int, cd = 2300 + u ∧ ((u = 28 ∧ lim = 999) ∨ (u = 29 ∧ lim = 9999)) ∧ tsT B K n m s = (bnd (knT B K n m.2.2.1 m.2.2.2 (nx B n s)) fun p => bnd (sgT B n p.2) fun q => bnd (nuT B n 0 lim q.2) fun r => .ok ((cd, p.1, r.1, 0, q.1), r.2)) := by
    have n8 : ¬ tkY B K n s = 8 := fun z => c10 (i8.mpr z)
    by_cases c28 : u = 28
    · exact ⟨2328, 999, by omega, .inl ⟨c28, rfl⟩, by unfold tsT; rw [if_neg n8, if_pos (i25.mp c28)]⟩
    · exact ⟨2329, 9999, by omega, .inr ⟨by omega, rfl⟩, by unfold tsT; rw [if_neg n8, if_neg (fun z => c28 (i25.mpr z)), if_pos (i26.mp (by omega))]⟩
  rw [tsE] at he hk
  clear i8 i25 i26 tsE
  rw [t_call, w32_s (x := b + 1) (by omega) (by omega)]
  refine fieldTo_e hY lrY hK nY (by omega) (by omega) (fun N f e1 e2 e3 => ?_) (fun N x t e1 e2 e3 e4 e5 => ?_)
  · dsimp only
    rw [t_ite, t_retzm]
    exact ⟨fun q => absurd rfl q, fun _ => ⟨by omega, he N f (by rw [e1, bnd_e]) e2 (fun a j q1 q2 => by rw [e3 a j q1 (by omega), yM a j q1 q2])⟩⟩
  have nM : FrB M N b := fun a j q1 q2 => by rw [e5 a j q1 (by omega), yM a j q1 q2]
  dsimp only
  rw [t_ite, t_callp, isSign_e e3, t_some]
  refine ⟨fun _ => ?_, fun q => absurd (by omega) q⟩
  refine t_jq (fun J : Option (Int × Mem) => (tkK B n t = 3 ∧ B t ≠ 59) → Tot J Q) (fun c2 => ?_) (fun J hJ => ?_)
  rotate_left
  · -- no sign
    have no : (¬ (tkK B n t = 3 ∧ B t = 60) ∧ ¬ (tkK B n t = 3 ∧ B t = 62) ∧ ¬ (tkK B n t = 3 ∧ B t = 61)) → Tot (call (f_X12_fails 119 2 N) (fun v17 M18 => retzm v17 M18)) Q := fun hno => by
      rw [t_call]
      refine failsR_e e3 2 (fun P eP fP => ?_)
      rw [t_retzm]
      refine ⟨by omega, he P _ (by
        rw [e1, bnd_o]
        have : sgT B n t = .error (flT B n t 2) := by
          unfold sgT
          by_cases z : tkK B n t = 3 ∧ B t ≠ 59
          · have := sgT_i (B := B) (n := n) (s := t) (p := (B t, nx B n t)) (by unfold sgT; rw [if_pos z])
            have this : B t = 60 ∨ B t = 61 ∨ B t = 62 := this
            omega
          · rw [if_neg z]
        rw [this, bnd_e]) eP (fun a j q1 q2 => by rw [fP a j q1, nM a j q1 q2])⟩
    rw [t_ite]
    refine ⟨fun g => hJ ?_, fun g => ?_⟩
    · by_cases z : tkK B n t = 3 ∧ B t = 60
      · exact ⟨z.1, by omega⟩
      · rw [if_neg z] at g; exact absurd rfl g
    have g60 : ¬ (tkK B n t = 3 ∧ B t = 60) := fun z => by rw [if_pos z] at g; omega
    rw [t_callp, isSign_e e3, t_some, t_ite]
    refine ⟨fun g => hJ ?_, fun g => ?_⟩
    · by_cases z : tkK B n t = 3 ∧ B t = 62
      · exact ⟨z.1, by omega⟩
      · rw [if_neg z] at g; exact absurd rfl g
    have g62 : ¬ (tkK B n t = 3 ∧ B t = 62) := fun z => by rw [if_pos z] at g; omega
    rw [t_callp, isSign_e e3, t_some, t_ite]
    refine ⟨fun g => hJ ?_, fun g => ?_⟩
    · by_cases z : tkK B n t = 3 ∧ B t = 61
      · exact ⟨z.1, by omega⟩
      · rw [if_neg z] at g; exact absurd rfl g
    have g61 : ¬ (tkK B n t = 3 ∧ B t = 61) := fun z => by rw [if_pos z] at g; omega
    exact no ⟨g60, g62, g61⟩
  have sg : sgT B n t = .ok (B t, nx B n t) := by unfold sgT; rw [if_pos c2]
  have lrN := lr_ds hr (frb_s b0 b1 nM)
  have lN := lr_a lrN
  have v15 : N 119 15 = B t := e3.2.1.2.2.2.2 c2.1
  have nb2 := nx_b (B := B) e3.2.2.2.2
  rw [t_getf, lN.1, t_getf, v15, t_seti, lN.2, w32_s (x := b + 5) (by omega) (by omega), t_callv]
  refine ⟨by omega, by omega, by omega, by omega, by omega, ?_⟩
  have z' : ∀ a j, ¬ (a = 120 ∧ j = b + 5) → upd2 N 120 (b + 5) (B t) a j = N a j := fun a j hh => by rw [upd2_at, if_neg hh]
  have zb5 : upd2 N 120 (b + 5) (B t) 120 (b + 5) = B t := by rw [upd2_at, if_pos ⟨rfl, rfl⟩]
  generalize upd2 N 120 (b + 5) (B t) = Z' at z' zb5 ⊢
  refine aheadR_e (rt_k e3 (fun a j hh => z' a j (by omega))) (fun P hP fP => ?_)
  have pM : FrB M P b := fun a j q1 q2 => by rw [fP a j q1, z' a j (by omega), nM a j q1 q2]
  refine t_jq (fun J : Int → Option (Int × Mem) => Tot (J lim) Q) ?_ (fun J hJ => ?_)
  rotate_left
  · rw [t_ite]
    refine ⟨fun e => ?_, fun e => ?_⟩
    · rw [show (9999 : Int) = lim by omega]; exact hJ
    · rw [show (999 : Int) = lim by omega]; exact hJ
  rw [t_call, w32_s (x := b + 2) (by omega) (by omega)]
  refine number_e hP (lr_ds hr (frb_s b0 b1 pM)) (by omega) (by omega) (fun W f g1 g2 g3 => ?_) (fun W y t2 g1 g2 g3 g4 g5 g6 g7 => ?_)
  · rw [t_retzm]
    exact ⟨by omega, he W f (by rw [e1, bnd_o, sg, bnd_o, g1, bnd_e]) g2 (fun a j q1 q2 => by rw [g3 a j q1, pM a j q1 q2])⟩
  · rw [t_retzm]
    have wN : ∀ i, 0 ≤ i → i < 5 → i ≠ 2 → W 120 (b + i) = N 120 (b + i) := fun i i0 i1 i2 => by rw [g7 _ _ (rpF_a (by omega)) (by omega), fP _ _ (rpF_a (by omega)), z' _ _ (by omega)]
    refine ⟨by omega, hk W _ _ (by rw [e1, bnd_o, sg, bnd_o, g1, bnd_o]) (by omega) g5 (cells6 ?_ ?_ g6 ?_ ?_ ?_) (fun a j q1 q2 => by rw [g7 a j q1 (by omega), pM a j q1 q2])⟩ <;> (try dsimp only)
    · have := wN 0 (by omega) (by omega) (by omega)
      rw [Int.add_zero] at this
      rw [this, e5 _ _ (rpF_a (by omega)) (by omega), yb, hcl]
    · rw [wN 1 (by omega) (by omega) (by omega)]; exact e4
    · rw [wN 3 (by omega) (by omega) (by omega), e5 _ _ (rpF_a (by omega)) (by omega)]; exact yz 3 (by omega) (by omega)
    · rw [wN 4 (by omega) (by omega) (by omega), e5 _ _ (rpF_a (by omega)) (by omega)]; exact yz 4 (by omega) (by omega)
    · rw [g7 _ _ (rpF_a (by omega)) (by omega), fP _ _ (rpF_a (by omega))]; exact zb5
