/-! the reference reads a step -/
theorem pR_sw : ∀ y : Nat, y < 31 → ((pR ((y : Int) - 1) = 10 ∨ (16 ≤ pR ((y : Int) - 1) ∧ pR ((y : Int) - 1) ≤ 26)) ↔ (swd ((y : Int) - 1) ∨ (y : Int) - 1 = 28)) ∧ (pR ((y : Int) - 1) = 25 ↔ (y : Int) - 1 = 28) ∧ (pR ((y : Int) - 1) = 23 ↔ (y : Int) - 1 = 23) ∧ (pR ((y : Int) - 1) = 24 ↔ (y : Int) - 1 = 27) ∧ (pR ((y : Int) - 1) = 10 ↔ (y : Int) - 1 = 8) ∧ (pR ((y : Int) - 1) = 16 ↔ (y : Int) - 1 = 16) ∧ (pR ((y : Int) - 1) = 17 ↔ (y : Int) - 1 = 17) ∧ (pR ((y : Int) - 1) = 18 ↔ (y : Int) - 1 = 18) ∧ (pR ((y : Int) - 1) = 19 ↔ (y : Int) - 1 = 19) ∧ (pR ((y : Int) - 1) = 20 ↔ (y : Int) - 1 = 20) ∧ (pR ((y : Int) - 1) = 21 ↔ (y : Int) - 1 = 21) := by decide +kernel
theorem pR_s {y : Int} (h0 : -1 ≤ y) (h1 : y < 30) : ((pR y = 10 ∨ (16 ≤ pR y ∧ pR y ≤ 26)) ↔ (swd y ∨ y = 28)) ∧ (pR y = 25 ↔ y = 28) ∧ (pR y = 23 ↔ y = 23) ∧ (pR y = 24 ↔ y = 27) ∧ (pR y = 10 ↔ y = 8) ∧ (pR y = 16 ↔ y = 16) ∧ (pR y = 17 ↔ y = 17) ∧ (pR y = 18 ↔ y = 18) ∧ (pR y = 19 ↔ y = 19) ∧ (pR y = 20 ↔ y = 20) ∧ (pR y = 21 ↔ y = 21) := by
  have q := pR_sw (y + 1).toNat (by omega)
  rw [show (((y + 1).toNat : Nat) : Int) - 1 = y by omega] at q
  exact q
def agT (B K : Int → Int) (n : Int) (m : Nms) (y s : Int) : Except Fl (Rw5 × Int) := if y = 28 then .ok ((25, 0, 0, 0, 0), s) else bnd (a1T B K n m y s) fun p => a2T B n y p
theorem dayOrder_e {M : Mem} {B K : Int → Int} {n s b y v : Int} {m : Nms} {Q : Int × Mem → Prop} (h : RT M B n s) (hr : LR M) (hK : KwC K) (hN : NmD M m) (b0 : 2830 ≤ b) (b1 : b + 6 ≤ 3200) (hy : swd y ∨ y = 28) (hv : v = pR y) (hb : M 120 b = v) (hz : ∀ i, 1 ≤ i → i < 6 → M 120 (b + i) = 0) (he : ∀ N f, agT B K n m y s = .error f → ErR N f → FrB M N b → Q (0, N)) (hk : ∀ N q t, agT B K n m y s = .ok (q, t) → s ≤ t → RT N B n t → (∀ i, 0 ≤ i → i < 6 → N 120 (b + i) = r5 q i) → FrB M N b → Q (1, N)) : Tot (f_X12_dayOrder 119 v b M) Q := by
  have yr : -1 ≤ y ∧ y < 30 := by unfold swd at hy; omega
  obtain ⟨p0, p25, p23, p24, p10, p16, p17, p18, p19, p20, p21⟩ := pR_s yr.1 yr.2
  rw [← hv] at p0 p25 p23 p24 p10 p16 p17 p18 p19 p20 p21
  have wz : ∀ (N : Mem) (x : Int), (∀ a j, ¬ rpF a j → ¬ (a = 120 ∧ j = b + 1) → N a j = M a j) → N 120 (b + 1) = x → ∀ i, 0 ≤ i → i < 6 → N 120 (b + i) = r5 (v, x, 0, 0, 0) i := fun N x fN hx => cells6 (by rw [fN _ _ (rpF_a (by omega)) (by omega)]; exact hb) hx (by rw [fN _ _ (rpF_a (by omega)) (by omega)]; exact hz 2 (by omega) (by omega)) (by rw [fN _ _ (rpF_a (by omega)) (by omega)]; exact hz 3 (by omega) (by omega)) (by rw [fN _ _ (rpF_a (by omega)) (by omega)]; exact hz 4 (by omega) (by omega)) (by rw [fN _ _ (rpF_a (by omega)) (by omega)]; exact hz 5 (by omega) (by omega))
  -- one reach
  have rch : y = 8 ∨ y = 16 → Tot (call (f_X12_reachTo 119 (w32 (b + 1)) M) (fun v1 M2 => retzm v1 M2)) Q := fun c => by
    have aE : agT B K n m y s = bnd (knT B K n m.1 m.2.1 s) fun p => .ok ((v, p.1, 0, 0, 0), p.2) := by
      unfold agT
      rw [if_neg (by omega)]
      unfold a1T
      rw [if_pos c, bnd_a]
      congr 1; funext p
      rw [bnd_o]
      unfold a2T
      rw [if_neg (by omega), if_neg (by omega), if_neg (by omega), if_neg (by omega), hv]
    rw [aE] at he hk
    rw [t_call, w32_s (by omega) (by omega)]
    refine reachTo_e h hr hK hN (by omega) (by omega) (fun N f e1 e2 e3 => ?_) (fun N x t e1 e2 e3 e4 e5 => ?_)
    · rw [t_retzm]
      exact ⟨by omega, he N f (by rw [e1, bnd_e]) e2 (fun a j q1 q2 => e3 a j q1 (by omega))⟩
    · rw [t_retzm]
      exact ⟨by omega, hk N _ _ (by rw [e1, bnd_o]) e2 e3 (wz N x e5 e4) (fun a j q1 q2 => e5 a j q1 (by omega))⟩
  -- one number
  have num : ∀ l mx, (∀ q, a2T B n y q = bnd (nuT B n l mx q.2) fun p => .ok ((v, p.1, 0, 0, 0), p.2)) → a1T B K n m y s = .ok ((pR y, 0, 0, 0, 0), s) → y ≠ 28 → Tot (call (f_X12_number 119 (w32 (b + 1)) l mx M) (fun v1 M2 => retzm v1 M2)) Q := fun l mx e2 e1 c28 => by
    have aE : agT B K n m y s = bnd (nuT B n l mx s) fun p => .ok ((v, p.1, 0, 0, 0), p.2) := by
      unfold agT
      rw [if_neg c28, e1, bnd_o, e2]
    rw [aE] at he hk
    rw [t_call, w32_s (by omega) (by omega)]
    refine number_e h hr (by omega) (by omega) (fun N f g1 g2 g3 => ?_) (fun N x t g1 g2 g3 g4 g5 g6 g7 => ?_)
    · rw [t_retzm]
      exact ⟨by omega, he N f (by rw [g1, bnd_e]) g2 (fun a j q1 q2 => g3 a j q1)⟩
    · rw [t_retzm]
      exact ⟨by omega, hk N _ _ (by rw [g1, bnd_o]) g4 g5 (wz N x g7 g6) (fun a j q1 q2 => g7 a j q1 (by omega))⟩
  have a1N : (y = 20 ∨ y = 21 ∨ y = 27 ∨ y = 22 ∨ y = 29) → a1T B K n m y s = .ok ((pR y, 0, 0, 0, 0), s) := fun c => by unfold a1T; rw [if_neg (by omega), if_neg (by omega), if_neg (by omega)]
  -- two fields
  have two : (y = 17 ∨ y = 19) → Tot (call (f_X12_fieldTo 119 (w32 (b + 1)) M) (fun v5 M6 => jn (fun (q7 : Int) (M8 : Mem) => retzm q7 M8) (fun j109 => jn (fun (M9 : Mem) => j109 0 M9) (fun j108 => if v5 = 0 then (j108 M6)
      else (call (f_X12_fieldTo 119 (w32 (b + 2)) M6) (fun v10 M11 => if v10 = 0 then (j108 M11)
      else (j109 1 M11))))))) Q := fun c => by
    have vy : v = y := by omega
    have aE : agT B K n m y s = bnd (knT B K n m.2.2.1 m.2.2.2 s) fun p => bnd (knT B K n m.2.2.1 m.2.2.2 p.2) fun q => .ok ((y, p.1, q.1, 0, 0), q.2) := by
      unfold agT
      rw [if_neg (by omega)]
      unfold a1T
      rw [if_neg (by omega), if_neg (by omega), if_pos (by omega), bnd_a]
      congr 1; funext p
      rw [bnd_a]
      congr 1; funext q
      rw [bnd_o]
      unfold a2T
      rw [if_neg (by omega), if_neg (by omega), if_neg (by omega), if_neg (by omega)]
    rw [aE] at he hk
    rw [t_call, w32_s (x := b + 1) (by omega) (by omega)]
    refine fieldTo_e h hr hK hN (by omega) (by omega) (fun N f e1 e2 e3 => ?_) (fun N x t e1 e2 e3 e4 e5 => ?_)
    · dsimp only
      rw [t_jn, t_jn, t_ite, t_retzm]
      exact ⟨fun _ => ⟨by omega, he N f (by rw [e1, bnd_e]) e2 (fun a j q1 q2 => e3 a j q1 (by omega))⟩, fun q => absurd rfl q⟩
    have nM : FrB M N b := fun a j q1 q2 => e5 a j q1 (by omega)
    dsimp only
    rw [t_jn, t_jn, t_ite, w32_s (x := b + 2) (by omega) (by omega), t_call]
    refine ⟨fun q => by omega, fun _ => ?_⟩
    refine fieldTo_e e3 (lr_ds hr (frb_s b0 b1 nM)) hK (nmd_s hN (frb_s b0 b1 nM)) (by omega) (by omega) (fun P f g1 g2 g3 => ?_) (fun P x' t' g1 g2 g3 g4 g5 => ?_)
    · dsimp only
      rw [t_ite, t_retzm]
      exact ⟨fun _ => ⟨by omega, he P f (by rw [e1, bnd_o, g1, bnd_e]) g2 (fun a j q1 q2 => by rw [g3 a j q1 (by omega), nM a j q1 q2])⟩, fun q => absurd rfl q⟩
    · dsimp only
      rw [t_ite, t_retzm, t_retzm]
      have pM : ∀ i, 0 ≤ i → i < 6 → i ≠ 1 → i ≠ 2 → P 120 (b + i) = M 120 (b + i) := fun i i0 i1 i2 i3 => by rw [g5 _ _ (rpF_a (by omega)) (by omega), e5 _ _ (rpF_a (by omega)) (by omega)]
      refine ⟨fun q => by omega, fun _ => ⟨by omega, hk P _ _ (by rw [e1, bnd_o, g1, bnd_o]) (by omega) g3 (cells6 ?_ ?_ g4 ?_ ?_ ?_) (fun a j q1 q2 => by rw [g5 a j q1 (by omega), nM a j q1 q2])⟩⟩ <;> (try dsimp only)
      · have := pM 0 (by omega) (by omega) (by omega) (by omega)
        rw [Int.add_zero] at this
        rw [this, hb, vy]
      · rw [g5 _ _ (rpF_a (by omega)) (by omega)]; exact e4
      · rw [pM 3 (by omega) (by omega) (by omega) (by omega)]; exact hz 3 (by omega) (by omega)
      · rw [pM 4 (by omega) (by omega) (by omega) (by omega)]; exact hz 4 (by omega) (by omega)
      · rw [pM 5 (by omega) (by omega) (by omega) (by omega)]; exact hz 5 (by omega) (by omega)
  unfold f_X12_dayOrder
  by_cases c8 : y = 8
  · rw [if_pos (p10.mpr c8)]; exact rch (.inl c8)
  rw [if_neg (fun z => c8 (p10.mp z))]
  by_cases c16 : y = 16
  · rw [if_pos (p16.mpr c16)]; exact rch (.inr c16)
  rw [if_neg (fun z => c16 (p16.mp z))]
  by_cases c17 : y = 17
  · rw [if_pos (p17.mpr c17)]; exact two (.inl c17)
  rw [if_neg (fun z => c17 (p17.mp z))]
  by_cases c18 : y = 18
  · rw [if_pos (p18.mpr c18)]
    have v18 := p18.mpr c18
    have aE : agT B K n m y s = bnd (knT B K n m.2.2.1 m.2.2.2 s) fun p => bnd (knT B K n m.2.2.1 m.2.2.2 p.2) fun q => bnd (nuT B n 1 999 q.2) fun r => .ok ((18, p.1, q.1, r.1, 0), r.2) := by
      unfold agT
      rw [if_neg (by omega)]
      unfold a1T
      rw [if_neg (by omega), if_neg (by omega), if_pos (by omega), bnd_a]
      congr 1; funext p
      rw [bnd_a]
      congr 1; funext q
      rw [bnd_o]
      unfold a2T
      rw [if_pos c18, c18]
    rw [aE] at he hk
    rw [t_call, w32_s (x := b + 1) (by omega) (by omega)]
    refine fieldTo_e h hr hK hN (by omega) (by omega) (fun N f e1 e2 e3 => ?_) (fun N x t e1 e2 e3 e4 e5 => ?_)
    · dsimp only
      rw [t_jn, t_jn, t_ite, t_retzm]
      exact ⟨fun _ => ⟨by omega, he N f (by rw [e1, bnd_e]) e2 (fun a j q1 q2 => e3 a j q1 (by omega))⟩, fun q => absurd rfl q⟩
    have nM : FrB M N b := fun a j q1 q2 => e5 a j q1 (by omega)
    dsimp only
    rw [t_jn, t_jn, t_ite, w32_s (x := b + 2) (by omega) (by omega), t_call]
    refine ⟨fun q => by omega, fun _ => ?_⟩
    refine fieldTo_e e3 (lr_ds hr (frb_s b0 b1 nM)) hK (nmd_s hN (frb_s b0 b1 nM)) (by omega) (by omega) (fun P f g1 g2 g3 => ?_) (fun P x' t' g1 g2 g3 g4 g5 => ?_)
    · dsimp only
      rw [t_ite, t_retzm]
      exact ⟨fun _ => ⟨by omega, he P f (by rw [e1, bnd_o, g1, bnd_e]) g2 (fun a j q1 q2 => by rw [g3 a j q1 (by omega), nM a j q1 q2])⟩, fun q => absurd rfl q⟩
    have pMb : FrB M P b := fun a j q1 q2 => by rw [g5 a j q1 (by omega), nM a j q1 q2]
    dsimp only
    rw [t_ite, w32_s (x := b + 3) (by omega) (by omega), t_call]
    refine ⟨fun q => by omega, fun _ => ?_⟩
    refine number_e g3 (lr_ds hr (frb_s b0 b1 pMb)) (by omega) (by omega) (fun W f k1 k2 k3 => ?_) (fun W x3 t3 k1 k2 k3 k4 k5 k6 k7 => ?_)
    · dsimp only
      rw [t_ite, t_retzm]
      exact ⟨fun _ => ⟨by omega, he W f (by rw [e1, bnd_o, g1, bnd_o, k1, bnd_e]) k2 (fun a j q1 q2 => by rw [k3 a j q1, pMb a j q1 q2])⟩, fun q => absurd rfl q⟩
    · dsimp only
      rw [t_ite, t_retzm, t_retzm]
      have wM : ∀ i, 0 ≤ i → i < 6 → i ≠ 1 → i ≠ 2 → i ≠ 3 → W 120 (b + i) = M 120 (b + i) := fun i i0 i1 i2 i3 i4 => by rw [k7 _ _ (rpF_a (by omega)) (by omega), g5 _ _ (rpF_a (by omega)) (by omega), e5 _ _ (rpF_a (by omega)) (by omega)]
      refine ⟨fun q => by omega, fun _ => ⟨by omega, hk W _ _ (by rw [e1, bnd_o, g1, bnd_o, k1, bnd_o]) (by omega) k5 (cells6 ?_ ?_ ?_ k6 ?_ ?_) (fun a j q1 q2 => by rw [k7 a j q1 (by omega), pMb a j q1 q2])⟩⟩ <;> (try dsimp only)
      · have := wM 0 (by omega) (by omega) (by omega) (by omega) (by omega)
        rw [Int.add_zero] at this
        rw [this, hb]; exact v18
      · rw [k7 _ _ (rpF_a (by omega)) (by omega), g5 _ _ (rpF_a (by omega)) (by omega)]; exact e4
      · rw [k7 _ _ (rpF_a (by omega)) (by omega)]; exact g4
      · rw [wM 4 (by omega) (by omega) (by omega) (by omega) (by omega)]; exact hz 4 (by omega) (by omega)
      · rw [wM 5 (by omega) (by omega) (by omega) (by omega) (by omega)]; exact hz 5 (by omega) (by omega)
  rw [if_neg (fun z => c18 (p18.mp z))]
  by_cases c19 : y = 19
  · rw [if_pos (p19.mpr c19)]; exact two (.inr c19)
  rw [if_neg (fun z => c19 (p19.mp z))]
  by_cases c20 : y = 20
  · rw [if_pos (p20.mpr c20)]
    have := p20.mpr c20
    exact num 0 999 (fun q => by unfold a2T; rw [if_neg (by omega), if_pos c20, this]) (a1N (by omega)) (by omega)
  rw [if_neg (fun z => c20 (p20.mp z))]
  by_cases c21 : y = 21
  · rw [if_pos (p21.mpr c21)]
    have := p21.mpr c21
    exact num 0 16 (fun q => by unfold a2T; rw [if_neg (by omega), if_neg (by omega), if_pos c21, this]) (a1N (by omega)) (by omega)
  rw [if_neg (fun z => c21 (p21.mp z))]
  by_cases c23 : y = 23
  · rw [if_pos (p23.mpr c23)]
    have aE : agT B K n m y s = tsT B K n m s := by
      unfold agT
      rw [if_neg (by omega)]
      unfold a1T
      rw [if_neg (by omega), if_pos c23]
      rcases tsT B K n m s with e | q
      · rw [bnd_e]
      · rw [bnd_o]; unfold a2T; rw [if_neg (by omega), if_neg (by omega), if_neg (by omega), if_neg (by omega)]
    rw [aE] at he hk
    rw [t_call]
    refine testR_e h hr hK hN b0 b1 hz (fun N f e1 e2 e3 => ?_) (fun N q t e1 e2 e3 e4 e5 => ?_)
    · rw [t_retzm]; exact ⟨by omega, he N f e1 e2 e3⟩
    · rw [t_retzm]; exact ⟨by omega, hk N q t e1 e2 e3 e4 e5⟩
  rw [if_neg (fun z => c23 (p23.mp z))]
  by_cases c27 : y = 27
  · rw [if_pos (p24.mpr c27)]
    have := p24.mpr c27
    exact num 1 99 (fun q => by unfold a2T; rw [if_neg (by omega), if_neg (by omega), if_neg (by omega), if_pos c27, this]) (a1N (by omega)) (by omega)
  rw [if_neg (fun z => c27 (p24.mp z)), t_retzm]
  refine ⟨by omega, hk M (v, 0, 0, 0, 0) s ?_ (by omega) h (wz M 0 (fun _ _ _ _ => rfl) (hz 1 (by omega) (by omega))) (fun _ _ _ _ => rfl)⟩
  unfold agT
  by_cases c28 : y = 28
  · rw [if_pos c28, p25.mpr c28]
  · rw [if_neg c28, a1N (by unfold swd at hy; omega), bnd_o]
    unfold a2T
    rw [if_neg c18, if_neg c20, if_neg c21, if_neg c27, hv]
