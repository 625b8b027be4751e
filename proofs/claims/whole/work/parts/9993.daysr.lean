/-! the reference's days -/
theorem loopD_e {M : Mem} {B K : Int → Int} {x : Int} {m : Nms} {u : Int → Int} {k : Mem → Option (Int × Mem)} {Q : Int × Mem → Prop} (h : RT M B x (rnE blB B x 0)) (hr : LR M) (hK : KwC K) (hN : NmD M m) (hd : DR M (δ0 u)) (he : ∀ N f, rdD B K x m u = .error f → ErR N f → FrS M N → Tot (k N) Q) (hk : ∀ N σ s, RT N B x s → DR N σ → WDs m σ → FrS M N → (σ.2.1 = [] → rdD B K x m u = .ok σ) → (σ.2.1 ≠ [] → rdD B K x m u = .error (flT B x s 2)) → Tot (k N) Q) : Tot (f_X12_days_L38 119 k KF 1 M) Q := by
  have xn : x ≤ 900 := h.1.1.2.2.2
  have s0 : M 119 13 = rnE blB B x 0 := h.2.1.1
  have g0 : 0 ≤ rnE blB B x 0 := h.2.2.2.1
  refine lpIM (fun p X => FrS M X ∧ ((p = 1 ∧ ∃ σ s, ∃ k : Nat, RT X B x s ∧ DR X σ ∧ WDs m σ ∧ x - s < k ∧ dlT B K x m k σ s = rdD B K x m u) ∨ (p = 0 ∧ ∃ f, rdD B K x m u = .error f ∧ ErR X f))) (fun p X => if p = 0 then 0 else (x - X 119 13).toNat + 1) ?_ (by rw [if_neg (by omega)]; unfold KF; omega) ⟨fun _ _ _ => rfl, .inl ⟨rfl, δ0 u, rnE blB B x 0, (x - rnE blB B x 0).toNat + 1, h, hd, wds_0, by omega, rfl⟩⟩
  rintro fu p X ⟨i0, i1⟩ ih
  unfold f_X12_days_L38
  rw [t_ite]
  rcases i1 with ⟨p1, σ, s, q, i2, i3, i4, i5, i6⟩ | ⟨p0, f, i2, i3⟩
  rotate_left
  · exact ⟨fun _ => he X f i2 i3 i0, fun q => absurd p0 q⟩
  refine ⟨fun q => by omega, fun _ => ?_⟩
  have kr := (kR_2 (k := tkK B x s) tk_r.1 tk_r.2).2.2.2.2
  have te := tk_end (B := B) (n := x) (s := s)
  obtain ⟨q, rfl⟩ : ∃ j, q = j + 1 := ⟨q - 1, by have := i2.2.2.2.2; omega⟩
  rw [t_getf, i2.2.1.2.2.1, t_ite]
  refine ⟨by omega, fun c => ?_, fun c => ?_⟩
  · have hs : x ≤ s := te.mp (kr.mp c)
    refine hk X σ s i2 i3 i4 i0 (fun z => ?_) (fun z => ?_)
    · rw [← i6, dl_nil hs z]
    · rcases hO : σ.2.1 with _ | ⟨o, O⟩
      · exact absurd hO z
      · rw [← i6, dl_cons hs hO]
  have hs : ¬ x ≤ s := fun z => c (kr.mpr (te.mpr z))
  have e : dlT B K x m (q + 1) σ s = bnd (dsT B K x m σ s) fun p => dlT B K x m q p.1 p.2 := by show (if x ≤ s then _ else _) = _; rw [if_neg hs]
  rw [e] at i6
  rw [t_call]
  refine t_mono (stepR_e i2 (lr_ds hr i0) hK (nmd_s hN i0) i3 i4) (fun w hw => ?_)
  have xs : X 119 13 = s := i2.2.1.1
  rcases hw with ⟨f, r1, r2, r3, r4⟩ | ⟨τ, t, r1, r2, r3, r4, r5, r6⟩
  · rw [r1, bnd_e] at i6
    exact ih _ _ (by rw [r2, if_pos rfl, if_neg (by omega)]; omega) ⟨frs_t i0 r4, .inr ⟨r2, f, i6.symm, r3⟩⟩
  · rw [r1, bnd_o] at i6
    have nb := (nx_b (B := B) i2.2.2.2.2).2.2 (by omega)
    have qs : w.2 119 13 = t := r4.2.1.1
    have tn := r4.2.2.2.2
    exact ih _ _ (by rw [r2, if_neg (by omega), if_neg (by omega), qs, xs]; omega) ⟨frs_t i0 r6, .inl ⟨r2, τ, t, q, r4, r5, wds_s hN.2.2.2.1.1 hN.2.2.2.2.1 r1 i4, by omega, i6⟩⟩
theorem dL103_e {M : Mem} {k : Mem → Option (Int × Mem)} {Q : Int × Mem → Prop} (hr : LR M) (hk : ∀ N, (∀ j, 270 ≤ j → j < 640 → N 120 j = M 120 (2560 + j)) → (∀ a j, ¬ (a = 120 ∧ 270 ≤ j ∧ j < 640) → N a j = M a j) → Tot (k N) Q) : Tot (f_X12_days_L103 119 k KF 270 M) Q := by
  obtain ⟨ra, rl⟩ := lr_a hr
  refine lpIM (fun p X => 270 ≤ p ∧ p ≤ 640 ∧ (∀ j, 270 ≤ j → j < p → X 120 j = M 120 (2560 + j)) ∧ ∀ a j, ¬ (a = 120 ∧ 270 ≤ j ∧ j < p) → X a j = M a j) (fun p _ => (640 - p).toNat) ?_ (by unfold KF; omega) ⟨by omega, by omega, fun j a b => by omega, fun _ _ _ => rfl⟩
  rintro fu p X ⟨i0, i1, i2, i3⟩ ih
  unfold f_X12_days_L103
  rw [t_ite]
  refine ⟨fun c => hk X (fun j j0 j1 => i2 j j0 (by omega)) (fun a j hh => i3 a j (by omega)), fun c => ?_⟩
  rw [t_getf, i3 119 0 (by omega), ra, t_getf, i3 119 0 (by omega), ra, t_geti, i3 120 (-1) (by omega), rl, w32_s (x := 2560 + p) (by omega) (by omega), i3 120 (2560 + p) (by omega), t_seti, i3 120 (-1) (by omega), rl, w32_s (x := p + 1) (by omega) (by omega)]
  refine ⟨by omega, by omega, by omega, by omega, by omega, by omega, by omega, by omega, ih _ _ (by omega) ⟨by omega, by omega, fun j j0 j1 => ?_, fun a j hh => by rw [upd2_at, if_neg (by omega)]; exact i3 a j (by omega)⟩⟩
  by_cases q : j = p
  · rw [q, upd2_at, if_pos ⟨rfl, rfl⟩]
  · rw [upd2_at, if_neg (by omega)]; exact i2 j j0 (by omega)
def dyR (a j : Int) : Prop := bgF a j ∨ dpF a j ∨ (a = 119 ∧ (j = 2 ∨ j = 16))
theorem dyR_n {a j : Int} (h : ¬ dyR a j) : ¬ bgF a j ∧ ¬ dpF a j ∧ ¬ (a = 119 ∧ (j = 2 ∨ j = 16)) := ⟨fun q => h (.inl q), fun q => h (.inr (.inl q)), fun q => h (.inr (.inr q))⟩
theorem r_days {M : Mem} {B K : Int → Int} {x : Int} {m : Nms} {Q : Int × Mem → Prop} (hr : LR M) (hK : KwC K) (ht : 0 ≤ M 119 10 ∧ M 119 10 ≤ 900) (hB : ∀ k, 0 ≤ k → k < M 119 10 → M 125 k = B k ∧ -128 ≤ B k ∧ B k ≤ 127) (hN : NmD M m) (hb : ¬ (0 ≤ x ∧ x ≤ M 119 10 ∧ x ≤ 300) → Q (-1, upd2 M 119 2 1)) (he : 0 ≤ x ∧ x ≤ M 119 10 ∧ x ≤ 300 → ∀ N f, rdD B K x m (fun j => M 120 (2560 + j)) = .error f → N 119 16 = f.1 → N 119 17 = f.2 → N 119 10 = 0 → N 119 2 = 9 → (∀ a j, ¬ dyR a j → N a j = M a j) → Q (-1, N)) (hk : 0 ≤ x ∧ x ≤ M 119 10 ∧ x ≤ 300 → ∀ N σ, rdD B K x m (fun j => M 120 (2560 + j)) = .ok σ → WDs m σ → σ.2.1 = [] → N 119 16 = 0 → N 119 17 = -1 → N 119 10 = 0 → N 119 2 = 0 → (∀ j, 0 ≤ j → j < 640 → N 120 j = wD (M 120) σ.1 j) → (∀ a j, ¬ dyR a j → ¬ (a = 120 ∧ 0 ≤ j ∧ j < 640) → N a j = M a j) → Q (σ.2.2, N)) : Tot (f_X12_days 119 x M) Q := by
  unfold f_X12_days
  rw [t_call]
  refine begins_e hr ht hB (fun c => ?_) (fun c N hN' n10 fN => ?_)
  · dsimp only
    rw [t_ite]
    refine ⟨fun q => absurd rfl q, fun _ => ?_⟩
    rw [t_call, refuseR_e, t_some, t_some]
    exact hb c
  have lrN : LR N := lr_p hr (fun j q1 q2 q3 q4 => fN _ _ (fun q => by unfold bgF at q; omega)) (fun a q1 q2 => fN _ _ (fun q => by unfold bgF at q; omega))
  have nbg : ∀ a j, a ≠ 119 → a ≠ 126 → ¬ bgF a j := fun a j q1 q2 q => by unfold bgF at q; omega
  obtain ⟨ra, rl⟩ := lr_a lrN
  dsimp only
  rw [t_ite]
  refine ⟨fun _ => ?_, fun q => absurd (by omega) q⟩
  rw [t_getf, ra, t_seti, rl, t_putf, t_putf]
  have z : ∀ a j, ¬ (a = 120 ∧ j = 2569) → ¬ (a = 119 ∧ (j = 23 ∨ j = 24)) → upd2 (upd2 (upd2 N 120 2569 0) 119 23 0) 119 24 0 a j = N a j := fun a j q1 q2 => by rw [upd2_at, if_neg (by omega), upd2_at, if_neg (by omega), upd2_at, if_neg (by omega)]
  have z9 : upd2 (upd2 (upd2 N 120 2569 0) 119 23 0) 119 24 0 120 2569 = 0 := by rw [upd2_at, if_neg (by omega), upd2_at, if_neg (by omega), upd2_at, if_pos ⟨rfl, rfl⟩]
  have z23 : upd2 (upd2 (upd2 N 120 2569 0) 119 23 0) 119 24 0 119 23 = 0 := by rw [upd2_at, if_neg (by omega), upd2_at, if_pos ⟨rfl, rfl⟩]
  have z24 : upd2 (upd2 (upd2 N 120 2569 0) 119 23 0) 119 24 0 119 24 = 0 := by rw [upd2_at, if_pos ⟨rfl, rfl⟩]
  generalize upd2 (upd2 (upd2 N 120 2569 0) 119 23 0) 119 24 0 = Z at z z9 z23 z24 ⊢
  refine ⟨by omega, by omega, by omega, by omega, by omega, by omega, ?_⟩
  have rtZ : RT Z B x (rnE blB B x 0) := rt_k hN' (fun a j hh => z _ _ (by omega) (by omega))
  have fZN : FrS N Z := fun a j q => z a j (fun g => q (.inr (.inl (by omega)))) (fun g => q (.inr (.inr (.inl g))))
  have lrZ := lr_ds lrN fZN
  have nmZ : NmD Z m := nmd_s (nmd_k hN (fun j j0 j1 => fN _ _ (nbg _ _ (by omega) (by omega))) (fun j => fN _ _ (nbg _ _ (by omega) (by omega)))) fZN
  have zM : ∀ a j, ¬ bgF a j → ¬ dpF a j → Z a j = M a j := fun a j q1 q2 => by rw [fZN a j q2, fN a j q1]
  have drZ : DR Z (δ0 (fun j => M 120 (2560 + j))) := by
    refine ⟨fun j hj => ?_, z23, z24, fun i i0 i1 => by rw [show (δ0 (fun j => M 120 (2560 + j))).2.1 = [] from rfl, List.length_nil] at i1; omega⟩
    show Z 120 (2560 + j) = upd1 (fun j => M 120 (2560 + j)) 9 0 j
    rw [upd1_at]
    by_cases q : j = 9
    · rw [if_pos q, q]; exact z9
    · rw [if_neg q, z _ _ (by omega) (by omega), fN _ _ (nbg _ _ (by omega) (by omega))]
  have z10 : Z 119 10 = 0 := by rw [z _ _ (by omega) (by omega)]; exact n10
  have v119 : ∀ j, (j = 10 ∨ j = 16 ∨ j = 2) → ¬ dpF 119 j := fun j hj q => by unfold dpF rpF at q; omega
  -- what a fault comes to
  have flt : ∀ (X : Mem) (f : Fl), rdD B K x m (fun j => M 120 (2560 + j)) = .error f → ErR X f → FrS Z X → Tot (getf X 119 24 (fun v18 => call (f_X12_taken 119 v18 X) (fun v19 M20 => some (v19, M20)))) Q := fun X f e1 e2 e3 => by
    rw [t_getf, t_call]
    refine ⟨by omega, taken_e (fun _ => ?_) (fun q => ?_) (by rw [e2.1]; have := e2.2.2; omega)⟩
    · rw [t_some]
      dsimp only
      rw [e2.1]
      have y : ∀ a j, ¬ (a = 119 ∧ (j = 2 ∨ j = 16)) → upd2 (upd2 X 119 16 f.1) 119 2 9 a j = X a j := fun a j hh => by rw [upd2_at, if_neg (by omega), upd2_at, if_neg (by omega)]
      refine he c _ f e1 ?_ ?_ ?_ ?_ (fun a j hh => ?_)
      · rw [upd2_at, if_neg (by omega), upd2_at, if_pos ⟨rfl, rfl⟩]
      · rw [y _ _ (by omega)]; exact e2.2.1
      · rw [y _ _ (by omega), e3 _ _ (v119 _ (by omega))]; exact z10
      · rw [upd2_at, if_pos ⟨rfl, rfl⟩]
      · obtain ⟨h1, h2, h3⟩ := dyR_n hh
        rw [y _ _ h3, e3 _ _ h2, zM _ _ h1 h2]
    · rw [e2.1] at q; have := e2.2.2; omega
  refine loopD_e rtZ lrZ hK nmZ drZ (fun X f e1 e2 e3 => ?_) (fun X σ s e1 e2 e3 e4 e5 e6 => ?_)
  · have f0 : f.1 ≠ 0 := by have := e2.2.2; omega
    rw [t_getf, e2.1]
    refine ⟨by omega, ?_⟩
    rw [t_jn, t_ite]
    refine ⟨fun _ => ?_, fun q => absurd f0 q⟩
    rw [t_getf, e2.1]
    refine ⟨by omega, ?_⟩
    rw [t_jn, t_ite]
    exact ⟨fun _ => flt X f e1 e2 e3, fun q => absurd f0 q⟩
  · have x18 := e1.2.2.1
    rw [t_getf, x18.1]
    refine ⟨by omega, ?_⟩
    rw [t_jn, t_ite]
    refine ⟨fun q => absurd rfl q, fun _ => ?_⟩
    rw [t_getf, e2.2.1, t_ite]
    refine ⟨by omega, fun g => ?_, fun g => ?_⟩
    rotate_left
    · -- a block is open
      have hO : σ.2.1 ≠ [] := fun z => g (by rw [z, List.length_nil]; omega)
      rw [t_call]
      refine failsR_e e1 2 (fun P eP fP => ?_)
      have f0 : (flT B x s 2).1 ≠ 0 := by have := eP.2.2; omega
      dsimp only
      rw [t_getf, eP.1]
      refine ⟨by omega, ?_⟩
      rw [t_jn, t_ite]
      exact ⟨fun _ => flt P _ (e6 hO) eP (frs_t e4 (frs_r fP)), fun q => absurd f0 q⟩
    have hO : σ.2.1 = [] := List.eq_nil_of_length_eq_zero (by omega)
    have lrX := lr_ds lrZ e4
    obtain ⟨xa, xl⟩ := lr_a lrX
    have h60 : 0 ≤ σ.1 9 ∧ σ.1 9 ≤ 60 := by obtain ⟨⟨a1, a2, a3, a4, a5⟩, _⟩ := e3; omega
    rw [t_getf, x18.1]
    refine ⟨by omega, ?_⟩
    rw [t_jn, t_ite]
    refine ⟨fun q => absurd rfl q, fun _ => ?_⟩
    have x9 : X 120 2569 = σ.1 9 := e2.1 9 (.inl rfl)
    rw [t_getf, xa, t_getf, xa, t_geti, xl, x9, t_seti, xl]
    have y : ∀ a j, ¬ (a = 120 ∧ j = 9) → upd2 X 120 9 (σ.1 9) a j = X a j := fun a j hh => by rw [upd2_at, if_neg hh]
    have y9 : upd2 X 120 9 (σ.1 9) 120 9 = σ.1 9 := by rw [upd2_at, if_pos ⟨rfl, rfl⟩]
    generalize upd2 X 120 9 (σ.1 9) = Y at y y9 ⊢
    refine ⟨by omega, by omega, by omega, by omega, by omega, by omega, by omega, by omega, ?_⟩
    have lrY : LR Y := lr_p lrX (fun j q1 q2 q3 q4 => y _ _ (by omega)) (fun a q1 q2 => y _ _ (by omega))
    refine dL103_e lrY (fun W wW fW => ?_)
    have wX : ∀ a j, ¬ (a = 120 ∧ (270 ≤ j ∧ j < 640 ∨ j = 9)) → W a j = X a j := fun a j hh => by rw [fW _ _ (by omega), y _ _ (by omega)]
    have w18 : W 119 18 = 0 := by rw [wX _ _ (by omega)]; exact x18.1
    have w24 : W 119 24 = σ.2.2 := by rw [wX _ _ (by omega)]; exact e2.2.2.1
    rw [t_getf, w24, t_call]
    refine ⟨by omega, taken_e (fun q => by omega) (fun _ => ?_) (by omega)⟩
    rw [t_some]
    dsimp only
    have v : ∀ a j, ¬ (a = 119 ∧ (j = 2 ∨ j = 16)) → upd2 (upd2 W 119 16 0) 119 2 0 a j = W a j := fun a j hh => by rw [upd2_at, if_neg (by omega), upd2_at, if_neg (by omega)]
    refine hk c _ σ (e5 hO) e3 hO ?_ ?_ ?_ ?_ (fun j j0 j1 => ?_) (fun a j hh q1 => ?_)
    · rw [upd2_at, if_neg (by omega), upd2_at, if_pos ⟨rfl, rfl⟩]
    · rw [v _ _ (by omega), wX _ _ (by omega)]; exact x18.2
    · rw [v _ _ (by omega), wX _ _ (by omega), e4 _ _ (v119 _ (by omega))]; exact z10
    · rw [upd2_at, if_pos ⟨rfl, rfl⟩]
    · rw [v _ _ (by omega)]
      unfold wD
      by_cases q9 : j = 9
      · rw [if_pos (.inl q9), q9, fW _ _ (by omega)]; exact y9
      · by_cases qs : 270 ≤ j
        · rw [if_pos (.inr ⟨qs, j1⟩), wW j qs j1, y _ _ (by omega)]; exact e2.1 j (.inr ⟨qs, j1⟩)
        · rw [if_neg (by omega), wX _ _ (by omega), e4 _ _ (fun q => by unfold dpF rpF at q; omega), zM _ _ (nbg _ _ (by omega) (by omega)) (fun q => by unfold dpF rpF at q; omega)]
    · obtain ⟨h1, h2, h3⟩ := dyR_n hh
      rw [v _ _ h3, wX _ _ (by omega), e4 _ _ h2, zM _ _ h1 h2]
