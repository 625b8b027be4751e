/-! the reference's valley -/
def vlR (a j : Int) : Prop := bgF a j ∨ vpF a j ∨ (a = 119 ∧ (j = 2 ∨ j = 16)) ∨ (a = 127 ∧ 0 ≤ j)
theorem vlR_n {a j : Int} (h : ¬ vlR a j) : ¬ bgF a j ∧ ¬ vpF a j ∧ ¬ (a = 119 ∧ (j = 2 ∨ j = 16)) ∧ ¬ (a = 127 ∧ 0 ≤ j) := ⟨fun q => h (.inl q), fun q => h (.inr (.inl q)), fun q => h (.inr (.inr (.inl q))), fun q => h (.inr (.inr (.inr q)))⟩
theorem taken_e {M : Mem} {x : Int} {Q : Int × Mem → Prop} (hb : 1 ≤ M 119 18 → Q (-1, upd2 (upd2 M 119 16 (M 119 18)) 119 2 9)) (hg : M 119 18 = 0 → Q (x, upd2 (upd2 M 119 16 0) 119 2 0)) (h : 0 ≤ M 119 18) : Tot (f_X12_taken 119 x M) Q := by
  unfold f_X12_taken
  rw [t_getf, t_putf, t_getf, upd2_at, if_neg (by omega)]
  refine ⟨by omega, by omega, by omega, ?_⟩
  rw [t_jn, t_ite]
  refine ⟨fun c => ?_, fun c => ?_⟩
  · have e : M 119 18 = 0 := by omega
    rw [t_call, gives_e, t_some, t_some, e]; exact hg e
  · rw [t_call, refuseR_e, t_some, t_some]; exact hb (by omega)
theorem vL63_e {M : Mem} {k : Mem → Option (Int × Mem)} {Q : Int × Mem → Prop} (hr : LR M) (hk : ∀ N, (∀ j, 0 ≤ j → j < 640 → N 120 j = M 120 (2560 + j)) → (∀ a j, ¬ (a = 120 ∧ 0 ≤ j ∧ j < 640) → N a j = M a j) → Tot (k N) Q) : Tot (f_X12_valley_L63 119 k KF 0 M) Q := by
  obtain ⟨ra, rl⟩ := lr_a hr
  refine lpIM (fun p X => 0 ≤ p ∧ p ≤ 640 ∧ (∀ j, 0 ≤ j → j < p → X 120 j = M 120 (2560 + j)) ∧ ∀ a j, ¬ (a = 120 ∧ 0 ≤ j ∧ j < p) → X a j = M a j) (fun p _ => (640 - p).toNat) ?_ (by unfold KF; omega) ⟨by omega, by omega, fun j a b => by omega, fun _ _ _ => rfl⟩
  rintro fu p X ⟨i0, i1, i2, i3⟩ ih
  unfold f_X12_valley_L63
  rw [t_ite]
  refine ⟨fun c => hk X (fun j j0 j1 => i2 j j0 (by omega)) (fun a j hh => i3 a j (by omega)), fun c => ?_⟩
  rw [t_getf, i3 119 0 (by omega), ra, t_getf, i3 119 0 (by omega), ra, t_geti, i3 120 (-1) (by omega), rl, w32_s (x := 2560 + p) (by omega) (by omega), i3 120 (2560 + p) (by omega), t_seti, i3 120 (-1) (by omega), rl, w32_s (x := p + 1) (by omega) (by omega)]
  refine ⟨by omega, by omega, by omega, by omega, by omega, by omega, by omega, by omega, ih _ _ (by omega) ⟨by omega, by omega, fun j j0 j1 => ?_, fun a j hh => by rw [upd2_at, if_neg (by omega)]; exact i3 a j (by omega)⟩⟩
  by_cases q : j = p
  · rw [q, upd2_at, if_pos ⟨rfl, rfl⟩]
  · rw [upd2_at, if_neg (by omega)]; exact i2 j j0 (by omega)
theorem vL94_e {M : Mem} {k : Mem → Option (Int × Mem)} {Q : Int × Mem → Prop} (hr : LR M) (hk : ∀ N, (∀ j, 0 ≤ j → j < 26 → N 121 j = M 121 (104 + j)) → (∀ a j, ¬ (a = 121 ∧ 0 ≤ j ∧ j < 26) → N a j = M a j) → Tot (k N) Q) : Tot (f_X12_valley_L94 119 k KF 0 M) Q := by
  have ra : M 119 1 = 121 := hr.1.2.1
  have rl : M 121 (-1) = 140 := hr.2.2.1
  refine lpIM (fun p X => 0 ≤ p ∧ p ≤ 26 ∧ (∀ j, 0 ≤ j → j < p → X 121 j = M 121 (104 + j)) ∧ ∀ a j, ¬ (a = 121 ∧ 0 ≤ j ∧ j < p) → X a j = M a j) (fun p _ => (26 - p).toNat) ?_ (by unfold KF; omega) ⟨by omega, by omega, fun j a b => by omega, fun _ _ _ => rfl⟩
  rintro fu p X ⟨i0, i1, i2, i3⟩ ih
  unfold f_X12_valley_L94
  rw [t_ite]
  refine ⟨fun c => hk X (fun j j0 j1 => i2 j j0 (by omega)) (fun a j hh => i3 a j (by omega)), fun c => ?_⟩
  rw [t_getf, i3 119 1 (by omega), ra, t_getf, i3 119 1 (by omega), ra, t_geti, i3 121 (-1) (by omega), rl, w32_s (x := 104 + p) (by omega) (by omega), i3 121 (104 + p) (by omega), t_seti, i3 121 (-1) (by omega), rl, w32_s (x := p + 1) (by omega) (by omega)]
  refine ⟨by omega, by omega, by omega, by omega, by omega, by omega, by omega, by omega, ih _ _ (by omega) ⟨by omega, by omega, fun j j0 j1 => ?_, fun a j hh => by rw [upd2_at, if_neg (by omega)]; exact i3 a j (by omega)⟩⟩
  by_cases q : j = p
  · rw [q, upd2_at, if_pos ⟨rfl, rfl⟩]
  · rw [upd2_at, if_neg (by omega)]; exact i2 j j0 (by omega)
theorem r_valley {M : Mem} {B K u : Int → Int} {x : Int} {Q : Int × Mem → Prop} (hr : LR M) (hK : KwC K) (ht : 0 ≤ M 119 10 ∧ M 119 10 ≤ 900) (hB : ∀ k, 0 ≤ k → k < M 119 10 → M 125 k = B k ∧ -128 ≤ B k ∧ B k ≤ 127) (hb : ¬ (0 ≤ x ∧ x ≤ M 119 10) → Q (-1, upd2 M 119 2 1)) (he : 0 ≤ x ∧ x ≤ M 119 10 → ∀ N f, rdT B K x u = .error f → N 119 16 = f.1 → N 119 17 = f.2 → N 119 10 = 0 → N 119 2 = 9 → (∀ a j, ¬ vlR a j → N a j = M a j) → Q (-1, N)) (hk : 0 ≤ x ∧ x ≤ M 119 10 → ∀ N τ, rdT B K x u = .ok τ → WV τ.1 → N 119 16 = 0 → N 119 17 = -1 → N 119 10 = 0 → N 119 2 = 0 → (∀ j, 0 ≤ j → j < 640 → N 120 j = wO τ.1 j) → RNw N 0 τ.1 τ.2.1 → (∀ a j, ¬ vlR a j → ¬ (a = 120 ∧ 0 ≤ j ∧ j < 640) → ¬ (a = 121 ∧ 0 ≤ j ∧ j < 26) → N a j = M a j) → Q (τ.1 5, N)) : Tot (f_X12_valley 119 x M) Q := by
  unfold f_X12_valley
  rw [t_call]
  refine begins_e hr ht hB (fun c => ?_) (fun c N hN n10 fN => ?_)
  · dsimp only
    rw [t_ite]
    refine ⟨fun q => absurd rfl q, fun _ => ?_⟩
    rw [t_call, refuseR_e, t_some, t_some]
    exact hb (by omega)
  have ok : 0 ≤ x ∧ x ≤ M 119 10 := by omega
  have lrN : LR N := lr_p hr (fun j q1 q2 q3 q4 => fN _ _ (fun q => by unfold bgF at q; omega)) (fun a q1 q2 => fN _ _ (fun q => by unfold bgF at q; omega))
  dsimp only
  rw [t_ite]
  refine ⟨fun _ => ?_, fun q => absurd (by omega) q⟩
  rw [t_callv]
  refine plain_e (u := u) (lr_a lrN).1 (lr_a lrN).2 (by omega) (by omega) (fun P pP fP => ?_)
  rw [t_putf]
  refine ⟨by omega, ?_⟩
  have z : ∀ a j, ¬ (a = 119 ∧ j = 20) → upd2 P 119 20 0 a j = P a j := fun a j hh => by rw [upd2_at, if_neg hh]
  have z20 : upd2 P 119 20 0 119 20 = 0 := by rw [upd2_at, if_pos ⟨rfl, rfl⟩]
  generalize upd2 P 119 20 0 = Z at z z20 ⊢
  have zN : ∀ a j, ¬ (a = 119 ∧ j = 20) → ¬ (a = 120 ∧ 2560 ≤ j ∧ j < 3200) → Z a j = N a j := fun a j q1 q2 => by rw [z _ _ q1, fP _ _ (by omega)]
  have lrZ : LR Z := lr_p lrN (fun j q1 q2 q3 q4 => zN _ _ (by omega) (by omega)) (fun a q1 q2 => zN _ _ (by omega) (by omega))
  have rtZ : RT Z B x (rnE blB B x 0) := rt_k hN (fun a j hh => zN _ _ (by omega) (by omega))
  have zM : ∀ a j, ¬ bgF a j → ¬ vpF a j → Z a j = M a j := fun a j q1 q2 => by rw [zN _ _ (fun q => q2 (.inr (.inr (.inr q)))) (fun q => q2 (.inr (.inl q))), fN _ _ q1]
  have vrZ : VR Z (σ0 u) := by
    refine ⟨fun j j0 j1 => ?_, ⟨fun k k0 k1 => ?_, fun k k0 k1 => ?_, fun k k0 k1 => ?_⟩, ?_⟩
    · rw [z _ _ (by omega), pP j j0 j1]; rfl
    · have k1 : k < plW u 3 := k1
      rw [show plW u 3 = 0 from rfl] at k1; omega
    · have k1 : k < plW u 4 := k1
      rw [show plW u 4 = 0 from rfl] at k1; omega
    · have k1 : k < plW u 5 := k1
      rw [show plW u 5 = 0 from rfl] at k1; omega
    · rw [z20]; rfl
  have z10 : Z 119 10 = 0 := by rw [zN _ _ (by omega) (by omega)]; exact n10
  have v119 : ∀ j, (j = 10 ∨ j = 16 ∨ j = 2) → ¬ vpF 119 j := fun j hj q => by unfold vpF rpF at q; omega
  refine loopR_e rtZ lrZ hK vrZ (fun X f e1 e2 e3 => ?_) (fun X τ e1 e2 e3 e4 e5 => ?_)
  · have lrX := lr_a (lr_f lrZ e3)
    rw [t_getf, e2.1]
    refine ⟨by omega, ?_⟩
    rw [t_jn, t_ite]
    refine ⟨fun _ => ?_, fun q => absurd e2.2.2 (by omega)⟩
    rw [t_getf, lrX.1, t_geti, lrX.2, t_call]
    refine ⟨by omega, by omega, by omega, by omega, taken_e (fun _ => ?_) (fun q => ?_) (by rw [e2.1]; have := e2.2.2; omega)⟩
    · rw [t_some]
      dsimp only
      rw [e2.1]
      have y : ∀ a j, ¬ (a = 119 ∧ (j = 2 ∨ j = 16)) → upd2 (upd2 X 119 16 f.1) 119 2 9 a j = X a j := fun a j hh => by rw [upd2_at, if_neg (by omega), upd2_at, if_neg (by omega)]
      refine he ok _ f e1 ?_ ?_ ?_ ?_ (fun a j hh => ?_)
      · rw [upd2_at, if_neg (by omega), upd2_at, if_pos ⟨rfl, rfl⟩]
      · rw [y _ _ (by omega)]; exact e2.2.1
      · rw [y _ _ (by omega), e3 _ _ (v119 _ (by omega))]; exact z10
      · rw [upd2_at, if_pos ⟨rfl, rfl⟩]
      · obtain ⟨h1, h2, h3, h4⟩ := vlR_n hh
        rw [y _ _ h3, e3 _ _ h2, zM _ _ h1 h2]
    · rw [e2.1] at q; have := e2.2.2; omega
  · have lrX := lr_f lrZ e5
    have lX := lr_a lrX
    obtain ⟨c3, c4, c5⟩ := e2.1
    obtain ⟨on, om, ol⟩ := ord_ok e2.2.2.1 e2.2.2.2.1 c3.1 c3.2 c5.1
    rw [t_getf, e3.1]
    refine ⟨by omega, ?_⟩
    rw [t_jn, t_ite]
    refine ⟨fun q => absurd rfl q, fun _ => ?_⟩
    rw [t_callv]
    refine ordersR_e lrX e4.1 e2 (fun Y cY fY => ?_)
    have lrY : LR Y := lr_p lrX (fun j q1 q2 q3 q4 => fY _ _ (by omega) (by omega)) (fun a q1 q2 => fY _ _ (by omega) (by omega))
    refine vL63_e lrY (fun W wW fW => ?_)
    have lrW : LR W := lr_p lrY (fun j q1 q2 q3 q4 => fW _ _ (by omega)) (fun a q1 q2 => fW _ _ (by omega))
    refine vL94_e lrW (fun V vV fV => ?_)
    have lrV : LR V := lr_p lrW (fun j q1 q2 q3 q4 => fV _ _ (by omega)) (fun a q1 q2 => fV _ _ (by omega))
    have lV := lr_a lrV
    have vX : ∀ a j, ¬ (a = 127 ∧ 0 ≤ j) → ¬ (a = 120 ∧ (2672 ≤ j ∧ j < 2682 ∨ 0 ≤ j ∧ j < 640)) → ¬ (a = 121 ∧ 0 ≤ j ∧ j < 26) → V a j = X a j := fun a j q1 q2 q3 => by rw [fV _ _ q3, fW _ _ (by omega), fY _ _ q1 (by omega)]
    have at0 : ∀ j, 0 ≤ j → j < 640 → V 120 j = wO τ.1 j := fun j j0 j1 => by
      rw [fV _ _ (by omega), wW j j0 j1]
      by_cases q : 112 ≤ j ∧ j < 112 + τ.1 5
      · unfold wO
        rw [if_pos q, ← cY (j - 112) (by omega) (by omega)]; congr 1; omega
      · rw [wO_o q, fY _ _ (by omega) (by omega)]; exact e4.1 j j0 j1
    have v5 : V 120 5 = τ.1 5 := by rw [at0 5 (by omega) (by omega), wO_o (by omega)]
    have v18 : V 119 18 = 0 := by rw [vX _ _ (by omega) (by omega) (by omega)]; exact e3.1
    rw [t_getf, lV.1, t_geti, lV.2, v5, t_call]
    refine ⟨by omega, by omega, by omega, by omega, taken_e (fun q => by omega) (fun _ => ?_) (by omega)⟩
    rw [t_some]
    dsimp only
    have y : ∀ a j, ¬ (a = 119 ∧ (j = 2 ∨ j = 16)) → upd2 (upd2 V 119 16 0) 119 2 0 a j = V a j := fun a j hh => by rw [upd2_at, if_neg (by omega), upd2_at, if_neg (by omega)]
    have nm : ∀ j, 0 ≤ j → j < 26 → upd2 (upd2 V 119 16 0) 119 2 0 121 j = X 121 (104 + j) := fun j j0 j1 => by rw [y _ _ (by omega), vV j j0 j1, fW _ _ (by omega), fY _ _ (by omega) (by omega)]
    refine hk ok _ τ e1 e2 ?_ ?_ ?_ ?_ (fun j j0 j1 => ?_) ⟨fun k k0 k1 => ?_, fun k k0 k1 => ?_, fun k k0 k1 => ?_⟩ (fun a j hh q1 q2 => ?_)
    · rw [upd2_at, if_neg (by omega), upd2_at, if_pos ⟨rfl, rfl⟩]
    · rw [y _ _ (by omega), vX _ _ (by omega) (by omega) (by omega)]; exact e3.2
    · rw [y _ _ (by omega), vX _ _ (by omega) (by omega) (by omega), e5 _ _ (v119 _ (by omega))]; exact z10
    · rw [upd2_at, if_pos ⟨rfl, rfl⟩]
    · rw [y _ _ (by omega)]; exact at0 j j0 j1
    · rw [nm _ (by omega) (by omega), Int.zero_add]; exact e4.2.1.1 k k0 k1
    · rw [nm _ (by omega) (by omega), show 104 + (0 + 10 + k) = 104 + 10 + k by omega]; exact e4.2.1.2.1 k k0 k1
    · rw [nm _ (by omega) (by omega), show 104 + (0 + 16 + k) = 104 + 16 + k by omega]; exact e4.2.1.2.2 k k0 k1
    · obtain ⟨h1, h2, h3, h4⟩ := vlR_n hh
      have h5 : ¬ (a = 120 ∧ 2560 ≤ j ∧ j < 3200) := fun q => h2 (.inr (.inl q))
      rw [y _ _ h3, vX _ _ h4 (by omega) q2, e5 _ _ h2, zM _ _ h1 h2]
