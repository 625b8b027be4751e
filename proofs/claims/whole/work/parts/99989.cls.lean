/-! the class's constructor -/
def TrN (N : Mem) : Prop := (N 2 0 = 3 ∧ N 2 1 = 8 ∧ N 2 2 = 9) ∧ (N 3 (-1) = 4 ∧ N 8 (-1) = 4 ∧ N 9 (-1) = 4) ∧ (∀ t, 0 ≤ t → t < 4 → N 3 t = 4 + t) ∧ (∀ t, 4 ≤ t → t < 8 → N t (-1) = 60) ∧ ∀ t, 0 ≤ t → t < 4 → N 8 t = 0 ∧ N 9 t = -1
theorem trn_k {M N : Mem} (h : TrN M) (k : ∀ a j, 2 ≤ a → a ≤ 9 → N a j = M a j) : TrN N := by
  obtain ⟨⟨a1, a2, a3⟩, ⟨b1, b2, b3⟩, c, d, e⟩ := h
  refine ⟨⟨?_, ?_, ?_⟩, ⟨?_, ?_, ?_⟩, fun t t0 t1 => ?_, fun t t0 t1 => ?_, fun t t0 t1 => ?_⟩
  · rw [k _ _ (by omega) (by omega)]; exact a1
  · rw [k _ _ (by omega) (by omega)]; exact a2
  · rw [k _ _ (by omega) (by omega)]; exact a3
  · rw [k _ _ (by omega) (by omega)]; exact b1
  · rw [k _ _ (by omega) (by omega)]; exact b2
  · rw [k _ _ (by omega) (by omega)]; exact b3
  · rw [k _ _ (by omega) (by omega)]; exact c t t0 t1
  · rw [k _ _ (by omega) (by omega)]; exact d t t0 t1
  · rw [k 8 _ (by omega) (by omega), k 9 _ (by omega) (by omega)]; exact e t t0 t1
theorem tpn_k {M N : Mem} (h : TpN M) (k : ∀ a j, 10 ≤ a → a ≤ 12 → N a j = M a j) : TpN N := by
  obtain ⟨⟨a1, a2, a3, a4, a5⟩, ⟨b1, b2⟩, c⟩ := h
  refine ⟨⟨?_, ?_, ?_, ?_, ?_⟩, ⟨?_, ?_⟩, fun i i0 i1 => ?_⟩
  · rw [k _ _ (by omega) (by omega)]; exact a1
  · rw [k _ _ (by omega) (by omega)]; exact a2
  · rw [k _ _ (by omega) (by omega)]; exact a3
  · rw [k _ _ (by omega) (by omega)]; exact a4
  · rw [k _ _ (by omega) (by omega)]; exact a5
  · rw [k _ _ (by omega) (by omega)]; exact b1
  · rw [k _ _ (by omega) (by omega)]; exact b2
  · rw [k _ _ (by omega) (by omega)]; exact c i i0 i1
def ctT (i : Int) : Int := if i = 1 then 0 else -1
theorem initTr_e {M : Mem} (h0 : M 0 0 = 2) : Tot (f_X7_init 2 M) (fun N => N 0 0 = 9 ∧ (∀ c j, c ≠ 0 → c < 2 → N c j = M c j) ∧ TrN N) := by
  unfold f_X7_init
  rw [t_newg, t_putf, h0]
  refine ⟨by omega, ?_⟩
  obtain ⟨N1, e1⟩ : ∃ X, X = upd2 (newm2 M 15 11 4 60) 2 0 (2 + 1) := ⟨_, rfl⟩
  have z1 : N1 0 0 = 7 := by rw [e1, upd2_at, if_neg (by omega), ng_0]; omega
  have k1 : ∀ a j, a ≠ 0 → a < 2 → N1 a j = M a j := fun a j x1 x2 => by rw [e1, upd2_at, if_neg (by omega), ng_o x1 (by omega) (by decide)]
  have p0 : N1 2 0 = 3 := by rw [e1, upd2_at, if_pos ⟨rfl, rfl⟩]; rfl
  have l3 : N1 3 (-1) = 4 := by rw [e1, upd2_at, if_neg (by omega), ng_l (by omega) (by omega)]
  have g3 : ∀ t, 0 ≤ t → t < 4 → N1 3 t = 4 + t := fun t t0 t1 => by rw [e1, upd2_at, if_neg (by omega), ng_r (by omega) (by omega) t0 t1]; omega
  have g4 : ∀ t, 4 ≤ t → t < 8 → N1 t (-1) = 60 := fun t t0 t1 => by rw [e1, upd2_at, if_neg (by omega), ng_rl (by omega) (by omega)]
  rw [← e1]
  clear e1
  have r0 : Ob N1 N1 2 7 0 (N1 2) (fun _ => 4) ctT := ob_0 z1 (fun _ => rfl)
  refine ob_n r0 (v := 8) (k' := 1) (by omega) (by omega) (by omega) (by omega) (by omega) rfl rfl (fun N2 r1 => ?_)
  refine ob_m r1 (v := 9) (k' := 2) (by omega) (by omega) (by omega) (by omega) (by omega) rfl rfl (fun N r => ?_)
  rw [t_some]
  clear r0 r1
  obtain ⟨z, k, hF, hr⟩ := r
  have w1 := hr 1 (by omega) (by omega)
  have w2 := hr 2 (by omega) (by omega)
  rw [show (7 : Int) + 1 = 8 from rfl, show ctT 1 = 0 from rfl] at w1
  rw [show (7 : Int) + 2 = 9 from rfl, show ctT 2 = -1 from rfl] at w2
  refine ⟨by omega, fun c j c0 c1 => by rw [k c j c0 (by omega) (by omega)]; exact k1 c j c0 c1, ⟨?_, ?_, ?_⟩, ⟨?_, w1.1, w2.1⟩, fun t t0 t1 => ?_, fun t t0 t1 => ?_, fun t t0 t1 => ⟨w1.2 t t0 t1, w2.2 t t0 t1⟩⟩
  · rw [hF]; simp [upd1_at, p0]
  · rw [hF]; simp [upd1_at]
  · rw [hF]; simp [upd1_at]
  · rw [k _ _ (by omega) (by omega) (by omega)]; exact l3
  · rw [k _ _ (by omega) (by omega) (by omega)]; exact g3 t t0 t1
  · rw [k _ _ (by omega) (by omega) (by omega)]; exact g4 t t0 t1
def SlN (N : Mem) : Prop := (N 56 0 = 57 ∧ N 56 1 = 58 ∧ N 56 2 = 59 ∧ N 56 4 = 60 ∧ N 56 5 = 61 ∧ N 56 6 = 62) ∧ (N 57 (-1) = 10 ∧ N 58 (-1) = 10 ∧ N 59 (-1) = 10 ∧ N 60 (-1) = 22 ∧ N 61 (-1) = 22 ∧ N 62 (-1) = 22)
def lenSl (i : Int) : Int := if i ≤ 3 then 10 else 22
theorem initSl_e {M : Mem} (h0 : M 0 0 = 56) : Tot (f_X3_init 56 M) (fun N => N 0 0 = 62 ∧ (∀ c j, c ≠ 0 → c < 56 → N c j = M c j) ∧ SlN N) := by
  unfold f_X3_init
  have r0 : Ob M M 56 56 0 (M 56) lenSl (fun _ => 0) := ob_0 h0 (fun _ => rfl)
  refine ob_n r0 (v := 57) (k' := 1) (by omega) (by omega) (by omega) (by omega) (by omega) (by decide) rfl (fun N1 r1 => ?_)
  refine ob_n r1 (v := 58) (k' := 2) (by omega) (by omega) (by omega) (by omega) (by omega) (by decide) rfl (fun N2 r2 => ?_)
  refine ob_n r2 (v := 59) (k' := 3) (by omega) (by omega) (by omega) (by omega) (by omega) (by decide) rfl (fun N3 r3 => ?_)
  refine ob_p r3 (by omega) (by omega) (fun N4 r4 => ?_)
  refine ob_n r4 (v := 60) (k' := 4) (by omega) (by omega) (by omega) (by omega) (by omega) (by decide) rfl (fun N5 r5 => ?_)
  refine ob_n r5 (v := 61) (k' := 5) (by omega) (by omega) (by omega) (by omega) (by omega) (by decide) rfl (fun N6 r6 => ?_)
  refine ob_n r6 (v := 62) (k' := 6) (by omega) (by omega) (by omega) (by omega) (by omega) (by decide) rfl (fun N7 r7 => ?_)
  rw [t_some]
  clear r0 r1 r2 r3 r4 r5 r6
  obtain ⟨z, k, hF, hr⟩ := r7
  have l : ∀ c, 57 ≤ c → c ≤ 62 → N7 c (-1) = lenSl (c - 56) := fun c c0 c1 => by have := (hr (c - 56) (by omega) (by omega)).1; rwa [show 56 + (c - 56) = c by omega] at this
  refine ⟨by omega, fun c j c0 c1 => k c j c0 (by omega) (by omega), ⟨?_, ?_, ?_, ?_, ?_, ?_⟩, ⟨?_, ?_, ?_, ?_, ?_, ?_⟩⟩
  · rw [hF]; simp [upd1_at]
  · rw [hF]; simp [upd1_at]
  · rw [hF]; simp [upd1_at]
  · rw [hF]; simp [upd1_at]
  · rw [hF]; simp [upd1_at]
  · rw [hF]; simp [upd1_at]
  · rw [l _ (by omega) (by omega)]; decide
  · rw [l _ (by omega) (by omega)]; decide
  · rw [l _ (by omega) (by omega)]; decide
  · rw [l _ (by omega) (by omega)]; decide
  · rw [l _ (by omega) (by omega)]; decide
  · rw [l _ (by omega) (by omega)]; decide
def lenW (i : Int) : Int := if i ≤ 7 then 10 else 42
theorem initSw_e {M : Mem} (h0 : M 0 0 = 55) : Tot (f_X5_init 55 M) (fun N => N 0 0 = 73 ∧ (∀ c j, c ≠ 0 → c < 55 → N c j = M c j) ∧ LW N) := by
  unfold f_X5_init
  refine newC_e (P := SlN) (e := 62) (F := M 55) h0 (by omega) (by omega) (fun _ => rfl) (v := 56) (by omega) (fun X hX => initSl_e hX) (fun N0 L z0 f0 k0 hL kL => ?_)
  have r0 : Ob N0 N0 55 62 0 _ lenW (fun _ => 0) := ob_0 z0 f0
  refine ob_n r0 (v := 63) (k' := 1) (by omega) (by omega) (by omega) (by omega) (by omega) (by decide) rfl (fun N1 r1 => ?_)
  refine ob_n r1 (v := 64) (k' := 2) (by omega) (by omega) (by omega) (by omega) (by omega) (by decide) rfl (fun N2 r2 => ?_)
  refine ob_n r2 (v := 65) (k' := 3) (by omega) (by omega) (by omega) (by omega) (by omega) (by decide) rfl (fun N3 r3 => ?_)
  refine ob_n r3 (v := 66) (k' := 4) (by omega) (by omega) (by omega) (by omega) (by omega) (by decide) rfl (fun N4 r4 => ?_)
  refine ob_n r4 (v := 67) (k' := 5) (by omega) (by omega) (by omega) (by omega) (by omega) (by decide) rfl (fun N5 r5 => ?_)
  refine ob_n r5 (v := 68) (k' := 6) (by omega) (by omega) (by omega) (by omega) (by omega) (by decide) rfl (fun N6 r6 => ?_)
  refine ob_n r6 (v := 69) (k' := 7) (by omega) (by omega) (by omega) (by omega) (by omega) (by decide) rfl (fun N7 r7 => ?_)
  refine ob_p r7 (by omega) (by omega) (fun N8 r8 => ?_)
  refine ob_n r8 (v := 70) (k' := 8) (by omega) (by omega) (by omega) (by omega) (by omega) (by decide) rfl (fun N9 r9 => ?_)
  refine ob_n r9 (v := 71) (k' := 9) (by omega) (by omega) (by omega) (by omega) (by omega) (by decide) rfl (fun N10 r10 => ?_)
  refine ob_n r10 (v := 72) (k' := 10) (by omega) (by omega) (by omega) (by omega) (by omega) (by decide) rfl (fun N11 r11 => ?_)
  refine ob_n r11 (v := 73) (k' := 11) (by omega) (by omega) (by omega) (by omega) (by omega) (by decide) rfl (fun N12 r12 => ?_)
  rw [t_some]
  clear r0 r1 r2 r3 r4 r5 r6 r7 r8 r9 r10 r11
  obtain ⟨z, k, hF, hr⟩ := r12
  have l : ∀ c, 63 ≤ c → c ≤ 73 → N12 c (-1) = lenW (c - 62) := fun c c0 c1 => by have := (hr (c - 62) (by omega) (by omega)).1; rwa [show 62 + (c - 62) = c by omega] at this
  have g : ∀ c j, 56 ≤ c → c ≤ 62 → N12 c j = L c j := fun c j c0 c1 => by rw [k c j (by omega) c1 (by omega)]; exact kL c j (by omega)
  obtain ⟨⟨s1, s2, s3, s4, s5, s6⟩, ⟨m1, m2, m3, m4, m5, m6⟩⟩ := hL
  refine ⟨by omega, fun c j c0 c1 => by rw [k c j c0 (by omega) (by omega)]; exact k0 c j c0 (by omega) (by omega), ⟨?_, ?_, ?_, ?_, ?_, ?_, ?_, ?_, ?_, ?_, ?_, ?_⟩, ⟨?_, ?_, ?_, ?_, ?_, ?_⟩, ⟨?_, ?_, ?_, ?_, ?_, ?_, ?_, ?_, ?_, ?_, ?_, ?_, ?_, ?_, ?_, ?_, ?_⟩⟩
  · rw [hF]; simp [upd1_at]
  · rw [hF]; simp [upd1_at]
  · rw [hF]; simp [upd1_at]
  · rw [hF]; simp [upd1_at]
  · rw [hF]; simp [upd1_at]
  · rw [hF]; simp [upd1_at]
  · rw [hF]; simp [upd1_at]
  · rw [hF]; simp [upd1_at]
  · rw [hF]; simp [upd1_at]
  · rw [hF]; simp [upd1_at]
  · rw [hF]; simp [upd1_at]
  · rw [hF]; simp [upd1_at]
  · rw [g _ _ (by omega) (by omega)]; exact s1
  · rw [g _ _ (by omega) (by omega)]; exact s2
  · rw [g _ _ (by omega) (by omega)]; exact s3
  · rw [g _ _ (by omega) (by omega)]; exact s4
  · rw [g _ _ (by omega) (by omega)]; exact s5
  · rw [g _ _ (by omega) (by omega)]; exact s6
  · rw [g _ _ (by omega) (by omega)]; exact m1
  · rw [g _ _ (by omega) (by omega)]; exact m2
  · rw [g _ _ (by omega) (by omega)]; exact m3
  · rw [g _ _ (by omega) (by omega)]; exact m4
  · rw [g _ _ (by omega) (by omega)]; exact m5
  · rw [g _ _ (by omega) (by omega)]; exact m6
  · rw [l _ (by omega) (by omega)]; decide
  · rw [l _ (by omega) (by omega)]; decide
  · rw [l _ (by omega) (by omega)]; decide
  · rw [l _ (by omega) (by omega)]; decide
  · rw [l _ (by omega) (by omega)]; decide
  · rw [l _ (by omega) (by omega)]; decide
  · rw [l _ (by omega) (by omega)]; decide
  · rw [l _ (by omega) (by omega)]; decide
  · rw [l _ (by omega) (by omega)]; decide
  · rw [l _ (by omega) (by omega)]; decide
  · rw [l _ (by omega) (by omega)]; decide
def LfN (N : Mem) : Prop := N 74 6 = 75 ∧ N 75 (-1) = 60 ∧ ∀ j, 0 ≤ j → j < 60 → N 75 j = 0
theorem lfn_k {M N : Mem} (h : LfN M) (k : ∀ a j, 74 ≤ a → a ≤ 75 → N a j = M a j) : LfN N := by
  obtain ⟨a, b, c⟩ := h
  refine ⟨?_, ?_, fun j j0 j1 => ?_⟩
  · rw [k _ _ (by omega) (by omega)]; exact a
  · rw [k _ _ (by omega) (by omega)]; exact b
  · rw [k _ _ (by omega) (by omega)]; exact c j j0 j1
theorem initLf_e {M : Mem} (h0 : M 0 0 = 74) : Tot (f_X2_init 74 M) (fun N => N 0 0 = 75 ∧ (∀ c j, c ≠ 0 → c < 74 → N c j = M c j) ∧ LfN N) := by
  unfold f_X2_init
  have r0 : Ob M M 74 74 0 (M 74) (fun _ => 60) (fun _ => 0) := ob_0 h0 (fun _ => rfl)
  refine ob_p r0 (by omega) (by omega) (fun N1 r1 => ?_)
  refine ob_p r1 (by omega) (by omega) (fun N2 r2 => ?_)
  refine ob_p r2 (by omega) (by omega) (fun N3 r3 => ?_)
  refine ob_p r3 (by omega) (by omega) (fun N4 r4 => ?_)
  refine ob_z r4 (by omega) (by omega) (.inl rfl) (fun N5 r5 => ?_)
  refine ob_p r5 (by omega) (by omega) (fun N6 r6 => ?_)
  refine ob_n r6 (v := 75) (k' := 1) (by omega) (by omega) (by omega) (by omega) (by omega) rfl rfl (fun N r => ?_)
  rw [t_some]
  clear r0 r1 r2 r3 r4 r5 r6
  obtain ⟨z, k, hF, hr⟩ := r
  have w := hr 1 (by omega) (by omega)
  rw [show (74 : Int) + 1 = 75 from rfl] at w
  exact ⟨by omega, fun c j c0 c1 => k c j c0 (by omega) (by omega), by rw [hF]; simp [upd1_at], w.1, w.2⟩
def WlN (N : Mem) : Prop := WL N 13 14 40 48 ∧ V0 N 14 ∧ D0 N 40 ∧ S0 N 48
theorem wln_k {M N : Mem} (h : WlN M) (k : ∀ a j, 13 ≤ a → a ≤ 54 → N a j = M a j) : WlN N := by
  obtain ⟨a, b, c, d⟩ := h
  exact ⟨wl_k a (fun j _ _ => k _ _ (by omega) (by omega)) (fun o j _ _ _ => k _ _ (by omega) (by omega)) (fun o j _ _ _ => k _ _ (by omega) (by omega)) (fun o j _ _ _ => k _ _ (by omega) (by omega)), v0_k b (fun j => k _ _ (by omega) (by omega)), d0_k c (fun j => k _ _ (by omega) (by omega)), s0_k d (fun o j _ _ => k _ _ (by omega) (by omega))⟩
theorem initWl_e {M : Mem} (h0 : M 0 0 = 13) : Tot (f_X10_init 13 M) (fun N => N 0 0 = 54 ∧ (∀ c j, c ≠ 0 → c < 13 → N c j = M c j) ∧ WlN N) := by
  refine initW_e (by omega) h0 (fun N z k l v d s => ?_)
  rw [show (13 : Int) + 1 = 14 from rfl, show (13 : Int) + 27 = 40 from rfl, show (13 : Int) + 35 = 48 from rfl] at l
  rw [show (13 : Int) + 1 = 14 from rfl] at v
  rw [show (13 : Int) + 27 = 40 from rfl] at d
  rw [show (13 : Int) + 35 = 48 from rfl] at s
  exact ⟨by omega, k, l, v, d, s⟩
def ArN (N : Mem) : Prop := (N 83 (-1) = 3 ∧ ∀ j, 0 ≤ j → j < 3 → N 83 j = 0) ∧ (N 84 (-1) = 4 ∧ ∀ j, 0 ≤ j → j < 4 → N 84 j = 0)
theorem arn_k {M N : Mem} (h : ArN M) (k : ∀ a j, 83 ≤ a → a ≤ 84 → N a j = M a j) : ArN N := by
  obtain ⟨⟨a, b⟩, ⟨c, d⟩⟩ := h
  refine ⟨⟨?_, fun j j0 j1 => ?_⟩, ⟨?_, fun j j0 j1 => ?_⟩⟩
  · rw [k _ _ (by omega) (by omega)]; exact a
  · rw [k _ _ (by omega) (by omega)]; exact b j j0 j1
  · rw [k _ _ (by omega) (by omega)]; exact c
  · rw [k _ _ (by omega) (by omega)]; exact d j j0 j1
def F1N (N : Mem) : Prop := (N 1 0 = 2 ∧ N 1 1 = 10 ∧ N 1 2 = 13 ∧ N 1 3 = 55 ∧ N 1 4 = 74 ∧ N 1 5 = 76 ∧ N 1 6 = 83 ∧ N 1 7 = 84) ∧ N 1 8 = 85 ∧ N 1 9 = 111 ∧ N 1 10 = 0 ∧ N 1 11 = 0 ∧ N 1 12 = 0 ∧ N 1 13 = 0 ∧ N 1 14 = 1
theorem f1n_k {M N : Mem} (h : F1N M) (k : ∀ j, N 1 j = M 1 j) : F1N N := by
  unfold F1N; simp only [k]; exact h
/-- the class as it is born -/
def CB (N : Mem) : Prop := F1N N ∧ TrN N ∧ TpN N ∧ WlN N ∧ LW N ∧ LfN N ∧ LSt N 76 ∧ ArN N ∧ LV N 85 ∧ LDy N 111
theorem cb_k {M N : Mem} (h : CB M) (k : ∀ a j, 1 ≤ a → a ≤ 118 → N a j = M a j) : CB N := by
  obtain ⟨h1, h2, h3, h4, h5, h6, h7, h8, h9, h10⟩ := h
  exact ⟨f1n_k h1 (fun j => k _ _ (by omega) (by omega)), trn_k h2 (fun a j _ _ => k _ _ (by omega) (by omega)), tpn_k h3 (fun a j _ _ => k _ _ (by omega) (by omega)), wln_k h4 (fun a j _ _ => k _ _ (by omega) (by omega)), lw_keep h5 (fun a j _ _ _ => k _ _ (by omega) (by omega)), lfn_k h6 (fun a j _ _ => k _ _ (by omega) (by omega)), ls_keep h7 (fun a j _ _ => k _ _ (by omega) (by omega)), arn_k h8 (fun a j _ _ => k _ _ (by omega) (by omega)), lv_keep h9 (fun a j _ _ => k _ _ (by omega) (by omega)), ldy_k h10 (fun a j _ _ => k _ _ (by omega) (by omega))⟩
def lenA (i : Int) : Int := if i = 1 then 3 else 4
theorem c_init {M : Mem} (h0 : M 0 0 = 1) : Tot (f_X11_init 1 M) (fun N => N 0 0 = 118 ∧ CB N) := by
  unfold f_X11_init
  refine newC_e (P := TrN) (e := 9) (F := M 1) h0 (by omega) (by omega) (fun _ => rfl) (v := 2) (by omega) (fun X hX => initTr_e hX) (fun N1 L1 z1 f1 k1 p1 g1 => ?_)
  refine newC_e (P := TpN) (e := 12) z1 (by omega) (by omega) f1 (v := 10) (by omega) (fun X hX => initTp_e hX) (fun N2 L2 z2 f2 k2 p2 g2 => ?_)
  refine newC_e (P := WlN) (e := 54) z2 (by omega) (by omega) f2 (v := 13) (by omega) (fun X hX => initWl_e hX) (fun N3 L3 z3 f3 k3 p3 g3 => ?_)
  refine newC_e (P := LW) (e := 73) z3 (by omega) (by omega) f3 (v := 55) (by omega) (fun X hX => initSw_e hX) (fun N4 L4 z4 f4 k4 p4 g4 => ?_)
  refine newC_e (P := LfN) (e := 75) z4 (by omega) (by omega) f4 (v := 74) (by omega) (fun X hX => initLf_e hX) (fun N5 L5 z5 f5 k5 p5 g5 => ?_)
  refine newC_e (P := fun N => LSt N 76) (e := 82) z5 (by omega) (by omega) f5 (v := 76) (by omega) (fun X hX => initS_e (by omega) hX (fun N z k l _ _ => ⟨by omega, k, l⟩)) (fun N6 L6 z6 f6 k6 p6 g6 => ?_)
  have r0 : Ob N6 N6 1 82 0 _ lenA (fun _ => 0) := ob_0 z6 f6
  refine ob_n r0 (v := 83) (k' := 1) (by omega) (by omega) (by omega) (by omega) (by omega) (by decide) rfl (fun N7 r1 => ?_)
  refine ob_n r1 (v := 84) (k' := 2) (by omega) (by omega) (by omega) (by omega) (by omega) (by decide) rfl (fun N8 r2 => ?_)
  clear r0 r1
  obtain ⟨z8, k8, f8, p8⟩ := r2
  have p81 := p8 1 (by omega) (by omega)
  have p82 := p8 2 (by omega) (by omega)
  rw [show (82 : Int) + 1 = 83 from rfl, show lenA 1 = 3 from rfl] at p81
  rw [show (82 : Int) + 2 = 84 from rfl, show lenA 2 = 4 from rfl] at p82
  clear p8
  have z8' : N8 0 0 = 84 := z8
  refine newC_e (P := fun N => LV N 85) (e := 110) z8' (by omega) (by omega) f8 (v := 85) (by omega) (fun X hX => initV_e (by omega) hX (fun N z k l _ => ⟨by omega, k, l⟩)) (fun N9 L9 z9 f9 k9 p9 g9 => ?_)
  refine newC_e (P := fun N => LDy N 111) (e := 118) z9 (by omega) (by omega) f9 (v := 111) (by omega) (fun X hX => initD_e (by omega) hX (fun N z k l _ _ _ => ⟨by omega, k, l⟩)) (fun N10 L10 z10 f10 k10 p10 g10 => ?_)
  have r0 : Ob N10 N10 1 118 0 _ (fun _ => 0) (fun _ => 0) := ob_0 z10 f10
  refine ob_z r0 (by omega) (by omega) (.inl rfl) (fun X1 r1 => ?_)
  refine ob_p r1 (by omega) (by omega) (fun X2 r2 => ?_)
  refine ob_p r2 (by omega) (by omega) (fun X3 r3 => ?_)
  refine ob_p r3 (by omega) (by omega) (fun X4 r4 => ?_)
  refine ob_p r4 (by omega) (by omega) (fun N r => ?_)
  rw [t_some]
  clear r0 r1 r2 r3 r4
  obtain ⟨z, k, hF, _⟩ := r
  have q10 : ∀ a j, 2 ≤ a → a ≤ 118 → N a j = N10 a j := fun a j a0 a1 => k a j (by omega) a1 (by omega)
  have q9 : ∀ a j, 2 ≤ a → a ≤ 110 → N a j = N9 a j := fun a j a0 a1 => by rw [q10 a j a0 (by omega)]; exact k10 a j (by omega) a1 (by omega)
  have q8 : ∀ a j, 2 ≤ a → a ≤ 84 → N a j = N8 a j := fun a j a0 a1 => by rw [q9 a j a0 (by omega)]; exact k9 a j (by omega) a1 (by omega)
  have q6 : ∀ a j, 2 ≤ a → a ≤ 82 → N a j = N6 a j := fun a j a0 a1 => by rw [q8 a j a0 (by omega)]; exact k8 a j (by omega) a1 (by omega)
  have q5 : ∀ a j, 2 ≤ a → a ≤ 75 → N a j = N5 a j := fun a j a0 a1 => by rw [q6 a j a0 (by omega)]; exact k6 a j (by omega) a1 (by omega)
  have q4 : ∀ a j, 2 ≤ a → a ≤ 73 → N a j = N4 a j := fun a j a0 a1 => by rw [q5 a j a0 (by omega)]; exact k5 a j (by omega) a1 (by omega)
  have q3 : ∀ a j, 2 ≤ a → a ≤ 54 → N a j = N3 a j := fun a j a0 a1 => by rw [q4 a j a0 (by omega)]; exact k4 a j (by omega) a1 (by omega)
  have q2 : ∀ a j, 2 ≤ a → a ≤ 12 → N a j = N2 a j := fun a j a0 a1 => by rw [q3 a j a0 (by omega)]; exact k3 a j (by omega) a1 (by omega)
  have q1 : ∀ a j, 2 ≤ a → a ≤ 9 → N a j = N1 a j := fun a j a0 a1 => by rw [q2 a j a0 (by omega)]; exact k2 a j (by omega) a1 (by omega)
  have t1 : F1N N := by
    unfold F1N
    simp only [hF]
    simp [upd1_at]
  refine ⟨by omega, t1, trn_k p1 (fun a j a0 a1 => ?_), tpn_k p2 (fun a j a0 a1 => ?_), wln_k p3 (fun a j a0 a1 => ?_), lw_keep p4 (fun a j a0 a1 _ => ?_), lfn_k p5 (fun a j a0 a1 => ?_), ls_keep p6 (fun a j a0 a1 => ?_), ?_, lv_keep p9 (fun a j a0 a1 => ?_), ldy_k p10 (fun a j a0 a1 => ?_)⟩
  · rw [q1 a j (by omega) (by omega)]; exact g1 a j (by omega)
  · rw [q2 a j (by omega) (by omega)]; exact g2 a j (by omega)
  · rw [q3 a j (by omega) (by omega)]; exact g3 a j (by omega)
  · rw [q4 a j (by omega) (by omega)]; exact g4 a j (by omega)
  · rw [q5 a j (by omega) (by omega)]; exact g5 a j (by omega)
  · rw [q6 a j (by omega) (by omega)]; exact g6 a j (by omega)
  · exact arn_k (M := N8) ⟨p81, p82⟩ (fun a j a0 a1 => q8 a j (by omega) (by omega))
  · rw [q9 a j (by omega) (by omega)]; exact g9 a j (by omega)
  · rw [q10 a j (by omega) (by omega)]; exact g10 a j (by omega)
