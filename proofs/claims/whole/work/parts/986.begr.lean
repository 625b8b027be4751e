/-! the reference begins a text, takes its parts -/
theorem w8_s {x : Int} (h0 : -128 ≤ x) (h1 : x ≤ 127) : w8 x = x := by unfold w8; omega
theorem plain_e {M : Mem} {o : Int} {u : Int → Int} {Q : Mem → Prop} (p0 : M 119 0 = 120) (pl : M 120 (-1) = 3840) (o0 : 0 ≤ o) (o1 : o + 640 ≤ 3840) (hq : ∀ N, (∀ j, 0 ≤ j → j < 640 → N 120 (o + j) = plW u j) → (∀ a j, ¬ (a = 120 ∧ o ≤ j ∧ j < o + 640) → N a j = M a j) → Q N) : Tot (f_X12_plain 119 o M) Q := by
  unfold f_X12_plain
  refine lpIM (fun p X => 0 ≤ p ∧ p ≤ 640 ∧ (∀ j, 0 ≤ j → j < p → X 120 (o + j) = 0) ∧ ∀ a j, ¬ (a = 120 ∧ o ≤ j ∧ j < o + 640) → X a j = M a j) (fun p _ => (640 - p).toNat) ?_ (by unfold KF; omega) ⟨by omega, by omega, fun j a b => by omega, fun _ _ _ => rfl⟩
  rintro fu p X ⟨i0, i1, i2, i3⟩ ih
  have x0 : X 119 0 = 120 := by rw [i3 _ _ (by omega)]; exact p0
  have xl : X 120 (-1) = 3840 := by rw [i3 _ _ (by omega)]; exact pl
  unfold f_X12_plain_L2
  rw [t_ite]
  refine ⟨fun c => ?_, fun c => ?_⟩
  rotate_left
  · rw [t_getf, x0, t_seti, xl, w32_s (x := o + p) (by omega) (by omega), w32_s (x := p + 1) (by omega) (by omega)]
    refine ⟨by omega, by omega, by omega, by omega, ih _ _ (by omega) ⟨by omega, by omega, fun j j0 j1 => ?_, fun a j hh => by rw [upd2_at, if_neg (by omega)]; exact i3 a j hh⟩⟩
    by_cases q : j = p
    · rw [q, upd2_at, if_pos ⟨rfl, rfl⟩]
    · rw [upd2_at, if_neg (by omega)]; exact i2 j j0 (by omega)
  have z : ∀ a j, ¬ (a = 120 ∧ (j = o ∨ j = o + 1 ∨ j = o + 9)) → upd2 (upd2 (upd2 X 120 o 100) 120 (o + 1) 1440) 120 (o + 9) (-1) a j = X a j := fun a j hh => by rw [upd2_at, if_neg (by omega), upd2_at, if_neg (by omega), upd2_at, if_neg (by omega)]
  have z0 : upd2 (upd2 (upd2 X 120 o 100) 120 (o + 1) 1440) 120 (o + 9) (-1) 120 o = 100 := by rw [upd2_at, if_neg (by omega), upd2_at, if_neg (by omega), upd2_at, if_pos ⟨rfl, rfl⟩]
  have z1 : upd2 (upd2 (upd2 X 120 o 100) 120 (o + 1) 1440) 120 (o + 9) (-1) 120 (o + 1) = 1440 := by rw [upd2_at, if_neg (by omega), upd2_at, if_pos ⟨rfl, rfl⟩]
  have z9 : upd2 (upd2 (upd2 X 120 o 100) 120 (o + 1) 1440) 120 (o + 9) (-1) 120 (o + 9) = -1 := by rw [upd2_at, if_pos ⟨rfl, rfl⟩]
  rw [t_getf, x0, t_seti, xl, w32_s (x := o + 0) (by omega) (by omega), Int.add_zero, t_getf, upd2_at, if_neg (by omega), x0, t_seti, upd2_at, if_neg (by omega), xl, w32_s (x := o + 1) (by omega) (by omega), t_getf, upd2_at, if_neg (by omega), upd2_at, if_neg (by omega), x0, t_seti, upd2_at, if_neg (by omega), upd2_at, if_neg (by omega), xl, w32_s (x := o + 9) (by omega) (by omega), t_some]
  generalize upd2 (upd2 (upd2 X 120 o 100) 120 (o + 1) 1440) 120 (o + 9) (-1) = Z at z z0 z1 z9 ⊢
  refine ⟨by omega, by omega, by omega, by omega, by omega, by omega, by omega, by omega, by omega, by omega, by omega, by omega, hq Z (fun j j0 j1 => ?_) (fun a j hh => by rw [z a j (by omega)]; exact i3 a j hh)⟩
  unfold plW
  by_cases q0 : j = 0
  · rw [if_pos q0, q0, Int.add_zero]; exact z0
  rw [if_neg q0]
  by_cases q1 : j = 1
  · rw [if_pos q1, q1]; exact z1
  rw [if_neg q1]
  by_cases q9 : j = 9
  · rw [if_pos q9, q9]; exact z9
  rw [if_neg q9, if_pos ⟨j0, j1⟩, z _ _ (by omega)]
  exact i2 j j0 (by omega)
def bgF (a j : Int) : Prop := (a = 119 ∧ 10 ≤ j ∧ j ≤ 19 ∧ j ≠ 16) ∨ (a = 126 ∧ 0 ≤ j)
theorem begins_e {M : Mem} {B : Int → Int} {x y : Int} {Q : Int × Mem → Prop} (hr : LR M) (ht : 0 ≤ M 119 10 ∧ M 119 10 ≤ 900) (hb : ∀ k, 0 ≤ k → k < M 119 10 → M 125 k = B k ∧ -128 ≤ B k ∧ B k ≤ 127) (he : ¬ (0 ≤ x ∧ x ≤ M 119 10 ∧ x ≤ y) → Q (0, M)) (hk : 0 ≤ x ∧ x ≤ M 119 10 ∧ x ≤ y → ∀ N, RT N B x (rnE blB B x 0) → N 119 10 = 0 → (∀ a j, ¬ bgF a j → N a j = M a j) → Q (1, N)) : Tot (f_X12_begins 119 x y M) Q := by
  have r8 : M 119 8 = 125 := hr.1.2.2.2.2.2.1
  have r9 : M 119 9 = 126 := hr.1.2.2.2.2.2.2.1
  have l5 : M 125 (-1) = 900 := hr.2.2.2.2.2.2.1
  have l6 : M 126 (-1) = 900 := hr.2.2.2.2.2.2.2.1
  unfold f_X12_begins
  refine t_jq (fun J : Option (Int × Mem) => ¬ (0 ≤ x ∧ x ≤ M 119 10 ∧ x ≤ y) → Tot J Q) (fun c => ?_) (fun J hJ => ?_)
  · rw [t_retzm]; exact ⟨by omega, he c⟩
  rw [t_ite]
  refine ⟨fun c => hJ (by omega), fun c => ?_⟩
  rw [t_getf, t_ite]
  refine ⟨by omega, fun c1 => hJ (by omega), fun c1 => ?_⟩
  rw [t_ite]
  refine ⟨fun c2 => ?_, fun c2 => hJ (by omega)⟩
  have ok : 0 ≤ x ∧ x ≤ M 119 10 ∧ x ≤ y := by omega
  rw [t_putf]
  refine ⟨by omega, ?_⟩
  refine lpIM (fun p X => 0 ≤ p ∧ p ≤ x ∧ X 119 11 = x ∧ (∀ k, 0 ≤ k → k < p → X 126 k = B k) ∧ ∀ a j, ¬ (a = 119 ∧ j = 11) → ¬ (a = 126 ∧ 0 ≤ j) → X a j = M a j) (fun p _ => (x - p).toNat) ?_ (by unfold KF; omega) ⟨by omega, by omega, by rw [upd2_at, if_pos ⟨rfl, rfl⟩], fun k a b => by omega, fun a j q1 q2 => by rw [upd2_at, if_neg q1]⟩
  rintro fu p X ⟨i0, i1, i2, i3, i4⟩ ih
  unfold f_X12_begins_L26
  rw [t_ite]
  refine ⟨fun c3 => ?_, fun c3 => ?_⟩
  rotate_left
  · have q := hb p i0 (by omega)
    rw [t_getf, i4 _ _ (by omega) (by omega), r9, t_getf, i4 _ _ (by omega) (by omega), r8, t_geti, i4 125 _ (by omega) (by omega), l5, i4 125 _ (by omega) (by omega), q.1, t_seti, i4 126 _ (by omega) (by omega), l6, w8_s q.2.1 q.2.2, w32_s (by omega) (by omega)]
    refine ⟨by omega, by omega, by omega, by omega, by omega, by omega, by omega, by omega, ih _ _ (by omega) ⟨by omega, by omega, ?_, fun k k0 k1 => ?_, fun a j q1 q2 => by rw [upd2_at, if_neg (by omega)]; exact i4 a j q1 q2⟩⟩
    · rw [upd2_at, if_neg (by omega)]; exact i2
    · by_cases e : k = p
      · rw [e, upd2_at, if_pos ⟨rfl, rfl⟩]
      · rw [upd2_at, if_neg (by omega)]; exact i3 k k0 (by omega)
  have p3 : p = x := by omega
  have z : ∀ a j, ¬ (a = 119 ∧ (j = 10 ∨ j = 14 ∨ j = 17 ∨ j = 18 ∨ j = 19)) → upd2 (upd2 (upd2 (upd2 (upd2 X 119 10 0) 119 18 0) 119 17 (-1)) 119 14 0) 119 19 0 a j = X a j := fun a j hh => by rw [upd2_at, if_neg (by omega), upd2_at, if_neg (by omega), upd2_at, if_neg (by omega), upd2_at, if_neg (by omega), upd2_at, if_neg (by omega)]
  have z10 : upd2 (upd2 (upd2 (upd2 (upd2 X 119 10 0) 119 18 0) 119 17 (-1)) 119 14 0) 119 19 0 119 10 = 0 := by rw [upd2_at, if_neg (by omega), upd2_at, if_neg (by omega), upd2_at, if_neg (by omega), upd2_at, if_neg (by omega), upd2_at, if_pos ⟨rfl, rfl⟩]
  have z18 : upd2 (upd2 (upd2 (upd2 (upd2 X 119 10 0) 119 18 0) 119 17 (-1)) 119 14 0) 119 19 0 119 18 = 0 := by rw [upd2_at, if_neg (by omega), upd2_at, if_neg (by omega), upd2_at, if_neg (by omega), upd2_at, if_pos ⟨rfl, rfl⟩]
  have z17 : upd2 (upd2 (upd2 (upd2 (upd2 X 119 10 0) 119 18 0) 119 17 (-1)) 119 14 0) 119 19 0 119 17 = -1 := by rw [upd2_at, if_neg (by omega), upd2_at, if_neg (by omega), upd2_at, if_pos ⟨rfl, rfl⟩]
  have z14 : upd2 (upd2 (upd2 (upd2 (upd2 X 119 10 0) 119 18 0) 119 17 (-1)) 119 14 0) 119 19 0 119 14 = 0 := by rw [upd2_at, if_neg (by omega), upd2_at, if_pos ⟨rfl, rfl⟩]
  rw [t_putf, t_putf, t_putf, t_putf, t_putf, t_callv]
  generalize upd2 (upd2 (upd2 (upd2 (upd2 X 119 10 0) 119 18 0) 119 17 (-1)) 119 14 0) 119 19 0 = Z at z z10 z18 z17 z14 ⊢
  refine ⟨by omega, by omega, by omega, by omega, by omega, ?_⟩
  have tx : TxR Z B x := by
    refine ⟨⟨⟨?_, ?_⟩, ?_, by omega, by omega⟩, fun k k0 k1 => ⟨?_, (hb k k0 (by omega)).2⟩⟩
    · rw [z _ _ (by omega), i4 _ _ (by omega) (by omega)]; exact r9
    · rw [z _ _ (by omega), i4 _ _ (by omega) (by omega)]; exact l6
    · rw [z _ _ (by omega)]; exact i2
    · rw [z _ _ (by omega)]; exact i3 k k0 (by omega)
  refine ahead_e tx z14 (by omega) (by omega) (fun N kN tN => ?_)
  have nk : ∀ a j, ¬ (a = 119 ∧ 12 ≤ j ∧ j ≤ 15) → N a j = Z a j := fun a j q => kN a j q
  obtain ⟨g1, g2, _, _⟩ := rn_b (C := blB) (B := B) (n := x) (p := 0) (by omega)
  rw [t_retzm]
  refine ⟨by omega, hk ok N ⟨txr_k tx (nk _ _ (by omega)) (nk _ _ (by omega)) (fun j => nk _ _ (by omega)), tN, ⟨?_, ?_⟩, g1, g2⟩ ?_ (fun a j hh => ?_)⟩
  · rw [nk _ _ (by omega)]; exact z18
  · rw [nk _ _ (by omega)]; exact z17
  · rw [nk _ _ (by omega)]; exact z10
  · have h1 : ¬ ((a = 119 ∧ 10 ≤ j ∧ j ≤ 19 ∧ j ≠ 16) ∨ (a = 126 ∧ 0 ≤ j)) := hh
    rw [nk _ _ (by omega), z _ _ (by omega), i4 _ _ (by omega) (by omega)]
theorem loopR_e {M : Mem} {B K : Int → Int} {x : Int} {u : Int → Int} {k : Mem → Option (Int × Mem)} {Q : Int × Mem → Prop} (h : RT M B x (rnE blB B x 0)) (hr : LR M) (hK : KwC K) (hv : VR M (σ0 u)) (he : ∀ N f, rdT B K x u = .error f → ErR N f → FrP M N → Tot (k N) Q) (hk : ∀ N τ, rdT B K x u = .ok τ → WV τ.1 → (N 119 18 = 0 ∧ N 119 17 = -1) → VR N τ → FrP M N → Tot (k N) Q) : Tot (f_X12_valley_L31 119 k KF 1 M) Q := by
  have xn : x ≤ 900 := h.1.1.2.2.2
  have s0 : M 119 13 = rnE blB B x 0 := h.2.1.1
  have g0 : 0 ≤ rnE blB B x 0 := h.2.2.2.1
  refine lpIM (fun p X => FrP M X ∧ ((p = 1 ∧ ∃ σ s, ∃ k : Nat, RT X B x s ∧ VR X σ ∧ WV σ.1 ∧ x - s < k ∧ loT B K x k σ s = rdT B K x u) ∨ (p = 0 ∧ ∃ f, rdT B K x u = .error f ∧ ErR X f))) (fun p X => if p = 0 then 0 else (x - X 119 13).toNat + 1) ?_ (by rw [if_neg (by omega)]; unfold KF; omega) ⟨fun _ _ _ => rfl, .inl ⟨rfl, σ0 u, rnE blB B x 0, (x - rnE blB B x 0).toNat + 1, h, hv, wv_pl u, by omega, rfl⟩⟩
  rintro fu p X ⟨i0, i1⟩ ih
  unfold f_X12_valley_L31
  rw [t_ite]
  rcases i1 with ⟨p1, σ, s, m, i2, i3, i4, i5, i6⟩ | ⟨p0, f, i2, i3⟩
  rotate_left
  · exact ⟨fun _ => he X f i2 i3 i0, fun q => absurd p0 q⟩
  refine ⟨fun q => by omega, fun _ => ?_⟩
  have kr := (kR_2 (k := tkK B x s) tk_r.1 tk_r.2).2.2.2.2
  have te := tk_end (B := B) (n := x) (s := s)
  obtain ⟨m, rfl⟩ : ∃ q, m = q + 1 := ⟨m - 1, by have := i2.2.2.2.2; omega⟩
  rw [t_getf, i2.2.1.2.2.1, t_ite]
  refine ⟨by omega, fun c => ?_, fun c => ?_⟩
  · have hs : x ≤ s := te.mp (kr.mp c)
    have e : loT B K x (m + 1) σ s = .ok σ := by show (if x ≤ s then _ else _) = _; rw [if_pos hs]
    rw [e] at i6
    exact hk X σ i6.symm i4 i2.2.2.1 i3 i0
  have hs : ¬ x ≤ s := fun z => c (kr.mpr (te.mpr z))
  have e : loT B K x (m + 1) σ s = bnd (ptT B K x σ s) fun p => loT B K x m p.1 p.2 := by show (if x ≤ s then _ else _) = _; rw [if_neg hs]
  rw [e] at i6
  rw [t_call]
  refine t_mono (valleyPart_e i2 (lr_f hr i0) hK i3 i4.1) (fun q hq => ?_)
  have xs : X 119 13 = s := i2.2.1.1
  rcases hq with ⟨f, r1, r2, r3, r4⟩ | ⟨τ, t, r1, r2, r3, r4, r5, r6⟩
  · rw [r1, bnd_e] at i6
    exact ih _ _ (by rw [r2, if_pos rfl, if_neg (by omega)]; omega) ⟨frp_t i0 r4, .inr ⟨r2, f, i6.symm, r3⟩⟩
  · rw [r1, bnd_o] at i6
    have nb := (nx_b (B := B) i2.2.2.2.2).2.2 (by omega)
    have qs : q.2 119 13 = t := r4.2.1.1
    have tn := r4.2.2.2.2
    exact ih _ _ (by rw [r2, if_neg (by omega), if_neg (by omega), qs, xs]; omega) ⟨frp_t i0 r6, .inl ⟨r2, τ, t, m, r4, r5, ptT_v r1 i4, by omega, i6⟩⟩
