/-! mark, back -/
def mkW (w : Int → Int) (j : Int) : Int → Int := fun i => if 0 ≤ i ∧ i < 640 then w (640 * j + i) else w i
/-- the class's marks: m of A made -/
def MkC (M : Mem) (m A : Int) : Prop := (0 ≤ m ∧ m ≤ A ∧ A ≤ 3) ∧ (M 1 6 = 83 ∧ M 83 (-1) = 3 ∧ M 1 11 = m ∧ M 0 0 = 136 + 42 * A) ∧ (∀ i, 0 ≤ i → i < A → M 83 i = 137 + 42 * i) ∧ (∀ i, A ≤ i → i < 3 → M 83 i = 0) ∧ ∀ j, 0 ≤ j → j < A → WL M (137 + 42 * j) (138 + 42 * j) (164 + 42 * j) (172 + 42 * j)
theorem wl_k {M N : Mem} {a v d s : Int} (h : WL M a v d s) (k0 : ∀ j, 0 ≤ j → j < 3 → N a j = M a j) (kv : ∀ o j, 0 ≤ o → o ≤ 25 → ¬ PV o j → N (v + o) j = M (v + o) j) (kd : ∀ o j, 0 ≤ o → o ≤ 7 → ¬ PD o j → N (d + o) j = M (d + o) j) (ks : ∀ o j, 0 ≤ o → o ≤ 6 → ¬ PS o j → N (s + o) j = M (s + o) j) : WL N a v d s := by
  obtain ⟨⟨a1, a2, a3⟩, b, c, e⟩ := h
  exact ⟨⟨by rw [k0 _ (by omega) (by omega)]; exact a1, by rw [k0 _ (by omega) (by omega)]; exact a2, by rw [k0 _ (by omega) (by omega)]; exact a3⟩, lv_p b kv, ldy_p c kd, lst_p e ks⟩
def MarkC (M N : Mem) (m v d : Int) : Prop := N 1 12 = 0 ∧ (∀ a j, a ≠ 0 → a < 137 + 42 * m → ¬ (a = 1 ∧ (j = 11 ∨ j = 12)) → ¬ (a = 83 ∧ j = m) → N a j = M a j) ∧ (∀ o j, PV o j → N (138 + 42 * m + o) j = M (v + o) j) ∧ (∀ o j, PD o j → N (164 + 42 * m + o) j = M (d + o) j) ∧ (∀ o j, PS o j → N (172 + 42 * m + o) j = M (48 + o) j)
theorem mark1_e {M : Mem} {m A v d : Int} (hk : MkC M m A) (hm : m < A) (hw : WL M 13 v d 48) (h12 : M 1 2 = 13) (hv : v = 14 ∨ v = 85) (hd : d = 40 ∨ d = 111) (h01 : M d 0 = 0 ∨ M d 0 = 1) : Tot (getf M 1 6 (fun v6 => getf M 1 11 (fun v7 => geti M v6 v7 (fun v8 => getf M 1 2 (fun v9 => nn v8 (callv (f_X10_take v8 v9 M) (fun M11 => getf M11 1 11 (fun v12 => putf M11 1 11 (w32 (v12 + 1)) (fun M13 => getf M13 1 11 (fun v14 => call (f_X11_answer 1 v14 M13) (fun v15 M16 => some (v15, M16)))))))))))) (fun q => q.1 = m + 1 ∧ MkC q.2 (m + 1) A ∧ MarkC M q.2 m v d) := by
  obtain ⟨⟨m0, m1, m2⟩, ⟨p6, pl, p11, p0⟩, pa, pz, pw⟩ := hk
  have e1 := pa m m0 hm
  have wm := pw m m0 hm
  rw [t_getf, p6, t_getf, p11, t_geti, pl, e1, t_getf, h12, t_nn, t_callv]
  refine ⟨by omega, by omega, by omega, by omega, by omega, by omega, by omega, ?_⟩
  refine takeW_e (B := 137) wm hw h01 ⟨by omega, by omega, by omega, by omega, by omega, by omega, by omega, by omega⟩ (.inr ⟨by omega, by omega, by omega, by omega, by omega, by omega, by omega, by omega⟩) (by omega) (by omega) (by omega) (by omega) (by omega) (by omega) (fun N hN => ?_)
  obtain ⟨n1, n2, n3, n4⟩ := hN
  have nk : ∀ a j, a < 138 + 42 * m ∨ 179 + 42 * m ≤ a → N a j = M a j := fun a j h => n4 a j (fun hh => by have := pv_r hh; omega) (fun hh => by have := pd_r hh; omega) (fun hh => by have := ps_r hh; omega)
  rw [t_getf, nk 1 _ (by omega), p11, t_putf, t_getf, upd2_at, if_pos ⟨rfl, rfl⟩, t_call, w32_s (by omega) (by omega)]
  unfold f_X11_answer
  rw [t_putf, t_some]
  dsimp only
  rw [t_some]
  dsimp only
  have r : ∀ a j, ¬ (a = 1 ∧ (j = 11 ∨ j = 12)) → upd2 (upd2 N 1 11 (m + 1)) 1 12 0 a j = N a j := fun a j h => by rw [upd2_at, if_neg (by omega), upd2_at, if_neg (by omega)]
  have r11 : upd2 (upd2 N 1 11 (m + 1)) 1 12 0 1 11 = m + 1 := by rw [upd2_at, if_neg (by omega), upd2_at, if_pos ⟨rfl, rfl⟩]
  have r12 : upd2 (upd2 N 1 11 (m + 1)) 1 12 0 1 12 = 0 := by rw [upd2_at, if_pos ⟨rfl, rfl⟩]
  generalize upd2 (upd2 N 1 11 (m + 1)) 1 12 0 = X at r r11 r12 ⊢
  refine ⟨by omega, by omega, by omega, by omega, rfl, ⟨⟨by omega, by omega, m2⟩, ⟨?_, ?_, r11, ?_⟩, fun i i0 i1 => ?_, fun i i0 i1 => ?_, fun j j0 j1 => ?_⟩, r12, fun a j h1 h2 h3 h4 => ?_, fun o j h => ?_, fun o j h => ?_, fun o j h => ?_⟩
  · rw [r _ _ (by omega), nk _ _ (by omega)]; exact p6
  · rw [r _ _ (by omega), nk _ _ (by omega)]; exact pl
  · rw [r _ _ (by omega), nk _ _ (by omega)]; exact p0
  · rw [r _ _ (by omega), nk _ _ (by omega)]; exact pa i i0 i1
  · rw [r _ _ (by omega), nk _ _ (by omega)]; exact pz i i0 i1
  · refine wl_k (pw j j0 j1) (fun q q0 q1 => ?_) (fun o q o0 o1 hn => ?_) (fun o q o0 o1 hn => ?_) (fun o q o0 o1 hn => ?_)
    · rw [r _ _ (by omega), nk _ _ (by omega)]
    · rw [r _ _ (by omega)]
      exact n4 _ _ (fun hh => by have hr := pv_r hh; have e : j = m := (by omega); subst e; rw [show 138 + 42 * j + o - (138 + 42 * j) = o by omega] at hh; exact hn hh) (fun hh => by have := pd_r hh; omega) (fun hh => by have := ps_r hh; omega)
    · rw [r _ _ (by omega)]
      exact n4 _ _ (fun hh => by have := pv_r hh; omega) (fun hh => by have hr := pd_r hh; have e : j = m := (by omega); subst e; rw [show 164 + 42 * j + o - (164 + 42 * j) = o by omega] at hh; exact hn hh) (fun hh => by have := ps_r hh; omega)
    · rw [r _ _ (by omega)]
      exact n4 _ _ (fun hh => by have := pv_r hh; omega) (fun hh => by have := pd_r hh; omega) (fun hh => by have hr := ps_r hh; have e : j = m := (by omega); subst e; rw [show 172 + 42 * j + o - (172 + 42 * j) = o by omega] at hh; exact hn hh)
  · rw [r _ _ h3, nk _ _ (by omega)]
  · have := pv_r h; rw [r _ _ (by omega)]; exact n1 o j h
  · have := pd_r h; rw [r _ _ (by omega)]; exact n2 o j h
  · have := ps_r h; rw [r _ _ (by omega)]; exact n3 o j h
def MarkP (M : Mem) (m v d : Int) (q : Int × Mem) : Prop := (m < 3 ∧ q.1 = m + 1 ∧ (∃ A, MkC q.2 (m + 1) A) ∧ MarkC M q.2 m v d) ∨ (m = 3 ∧ q.1 = -1 ∧ q.2 = upd2 M 1 12 4)
theorem c_mark {M : Mem} {m A v d : Int} (hk : MkC M m A) (hw : WL M 13 v d 48) (h12 : M 1 2 = 13) (hv : v = 14 ∨ v = 85) (hd : d = 40 ∨ d = 111) (h01 : M d 0 = 0 ∨ M d 0 = 1) : Tot (f_X11_mark 1 M) (MarkP M m v d) := by
  have hk' := hk
  obtain ⟨⟨m0, m1, m2⟩, ⟨p6, pl, p11, p0⟩, pa, pz, pw⟩ := hk'
  unfold f_X11_mark
  rw [t_getf, p11, t_ite]
  refine ⟨by omega, fun c => ?_, fun c => ?_⟩
  rotate_left
  · rw [t_call]
    unfold f_X11_refuse
    rw [t_putf, t_some, t_some]
    exact ⟨by omega, .inr ⟨by omega, rfl, rfl⟩⟩
  rw [t_getf, p6, t_getf, p11, t_geti, pl]
  refine ⟨by omega, by omega, by omega, m0, by omega, ?_⟩
  refine t_jq (fun K : Mem → Option (Int × Mem) => ∀ N A', MkC N m A' → m < A' → WL N 13 v d 48 → N 1 2 = 13 → (N d 0 = 0 ∨ N d 0 = 1) → Tot (K N) (fun q => q.1 = m + 1 ∧ MkC q.2 (m + 1) A' ∧ MarkC N q.2 m v d)) (fun N A' h1 h2 h3 h4 h5 => mark1_e h1 h2 h3 h4 hv hd h5) (fun K hK => ?_)
  rw [t_ite]
  refine ⟨fun e => ?_, fun e => ?_⟩
  · have hm : m < A := by
      by_cases x : m < A
      · exact x
      · exact absurd (pz m (by omega) c) e
    exact t_mono (hK M A hk hm hw h12 h01) (fun q h => .inl ⟨c, h.1, ⟨A, h.2.1⟩, h.2.2⟩)
  · have hm : m = A := by
      by_cases x : m < A
      · exact absurd (pa m m0 x) (by omega)
      · omega
    rw [t_getf, p6, t_getf, p11, t_newo, p0, t_nn, t_callv]
    refine ⟨by omega, by omega, by omega, ?_⟩
    refine initW_e (by omega) (by rw [new_0, p0]) (fun N z k wl _ _ _ => ?_)
    have kM : ∀ a j, a ≠ 0 → a < 137 + 42 * A → N a j = M a j := fun a j h1 h2 => by rw [k _ _ h1 (by omega), new_o h1 (by omega)]
    clear k
    rw [show 136 + 42 * A + 1 = 137 + 42 * A by omega] at wl ⊢
    rw [t_seta, kM 83 _ (by omega) (by omega), pl]
    refine ⟨by omega, by omega, m0, by omega, ?_⟩
    have r : ∀ a j, ¬ (a = 83 ∧ j = m) → upd2 N 83 m (137 + 42 * A) a j = N a j := fun a j h => by rw [upd2_at, if_neg h]
    have r83 : upd2 N 83 m (137 + 42 * A) 83 m = 137 + 42 * A := by rw [upd2_at, if_pos ⟨rfl, rfl⟩]
    generalize upd2 N 83 m (137 + 42 * A) = X at r r83 ⊢
    have wl' : WL N (137 + 42 * A) (138 + 42 * A) (164 + 42 * A) (172 + 42 * A) := by
      have a1 : 137 + 42 * A + 1 = 138 + 42 * A := by omega
      have a2 : 137 + 42 * A + 27 = 164 + 42 * A := by omega
      have a3 : 137 + 42 * A + 35 = 172 + 42 * A := by omega
      rw [a1, a2, a3] at wl; exact wl
    clear wl
    refine t_mono (hK X (A + 1) ⟨⟨m0, by omega, by omega⟩, ⟨?_, ?_, ?_, ?_⟩, fun i i0 i1 => ?_, fun i i0 i1 => ?_, fun j j0 j1 => ?_⟩ (by omega) ?_ ?_ ?_) (fun q h => .inl ⟨c, h.1, ⟨A + 1, h.2.1⟩, ?_⟩)
    · rw [r _ _ (by omega), kM _ _ (by omega) (by omega)]; exact p6
    · rw [r _ _ (by omega), kM _ _ (by omega) (by omega)]; exact pl
    · rw [r _ _ (by omega), kM _ _ (by omega) (by omega)]; exact p11
    · rw [r _ _ (by omega), z]; omega
    · by_cases x : i = m
      · subst x; rw [r83, hm]
      · rw [r _ _ (by omega), kM _ _ (by omega) (by omega)]; exact pa i i0 (by omega)
    · rw [r _ _ (by omega), kM _ _ (by omega) (by omega)]; exact pz i (by omega) i1
    · by_cases x : j = A
      · subst x
        exact wl_k wl' (fun q _ _ => r _ _ (by omega)) (fun o q _ _ _ => r _ _ (by omega)) (fun o q _ _ _ => r _ _ (by omega)) (fun o q _ _ _ => r _ _ (by omega))
      · exact wl_k (pw j j0 (by omega)) (fun q _ _ => by rw [r _ _ (by omega), kM _ _ (by omega) (by omega)]) (fun o q _ _ _ => by rw [r _ _ (by omega), kM _ _ (by omega) (by omega)]) (fun o q _ _ _ => by rw [r _ _ (by omega), kM _ _ (by omega) (by omega)]) (fun o q _ _ _ => by rw [r _ _ (by omega), kM _ _ (by omega) (by omega)])
    · exact wl_k hw (fun q _ _ => by rw [r _ _ (by omega), kM _ _ (by omega) (by omega)]) (fun o q _ _ _ => by rw [r _ _ (by omega), kM _ _ (by omega) (by omega)]) (fun o q _ _ _ => by rw [r _ _ (by omega), kM _ _ (by omega) (by omega)]) (fun o q _ _ _ => by rw [r _ _ (by omega), kM _ _ (by omega) (by omega)])
    · rw [r _ _ (by omega), kM _ _ (by omega) (by omega)]; exact h12
    · rw [r _ _ (by omega), kM _ _ (by omega) (by omega)]; exact h01
    · obtain ⟨_, _, x0, x1, x2, x3, x4⟩ := h
      refine ⟨x0, fun a j h1 h2 h3 h4 => by rw [x1 a j h1 h2 h3 h4, r _ _ h4, kM _ _ h1 (by omega)], fun o j h => ?_, fun o j h => ?_, fun o j h => ?_⟩
      · have := pv_r h; rw [x2 o j h, r _ _ (by omega), kM _ _ (by omega) (by omega)]
      · have := pd_r h; rw [x3 o j h, r _ _ (by omega), kM _ _ (by omega) (by omega)]
      · have := ps_r h; rw [x4 o j h, r _ _ (by omega), kM _ _ (by omega) (by omega)]
def BackP (M : Mem) (m v d : Int) (q : Int × Mem) : Prop := (1 ≤ m ∧ q.1 = m - 1 ∧ q.2 1 11 = m - 1 ∧ q.2 1 12 = 0 ∧ (∀ o j, PV o j → q.2 (v + o) j = M (96 + 42 * m + o) j) ∧ (∀ o j, PD o j → q.2 (d + o) j = M (122 + 42 * m + o) j) ∧ (∀ o j, PS o j → q.2 (48 + o) j = M (130 + 42 * m + o) j) ∧ ∀ a j, ¬ (a = 1 ∧ (j = 11 ∨ j = 12)) → ¬ PV (a - v) j → ¬ PD (a - d) j → ¬ PS (a - 48) j → q.2 a j = M a j) ∨ (m = 0 ∧ q.1 = -1 ∧ q.2 = upd2 M 1 12 6)
theorem c_back {M : Mem} {m A v d : Int} (hk : MkC M m A) (hw : WL M 13 v d 48) (h12 : M 1 2 = 13) (hv : v = 14 ∨ v = 85) (hd : d = 40 ∨ d = 111) (h01 : 1 ≤ m → M (122 + 42 * m) 0 = 0 ∨ M (122 + 42 * m) 0 = 1) : Tot (f_X11_back 1 M) (BackP M m v d) := by
  obtain ⟨⟨m0, m1, m2⟩, ⟨p6, pl, p11, p0⟩, pa, pz, pw⟩ := hk
  unfold f_X11_back
  rw [t_getf, p11]
  refine ⟨by omega, ?_⟩
  refine t_jq (fun K : Option (Int × Mem) => m = 0 → Tot K (BackP M m v d)) (fun e => ?_) (fun K hK => ?_)
  · rw [t_call]
    unfold f_X11_refuse
    rw [t_putf, t_some, t_some]
    exact ⟨by omega, .inr ⟨e, rfl, rfl⟩⟩
  rw [t_ite]
  refine ⟨fun c => hK (by omega), fun c => ?_⟩
  have e1 := pa (m - 1) (by omega) (by omega)
  have wm := pw (m - 1) (by omega) (by omega)
  rw [show 137 + 42 * (m - 1) = 95 + 42 * m by omega] at e1 wm
  rw [show 138 + 42 * (m - 1) = 96 + 42 * m by omega, show 164 + 42 * (m - 1) = 122 + 42 * m by omega, show 172 + 42 * (m - 1) = 130 + 42 * m by omega] at wm
  have h01' := h01 (by omega)
  rw [t_getf, p6, t_getf, p11, t_geti, pl, w32_s (by omega) (by omega), e1, t_ite]
  refine ⟨by omega, by omega, by omega, by omega, by omega, fun _ => ?_, fun e => by omega⟩
  rw [t_getf, p11, t_putf, w32_s (by omega) (by omega)]
  refine ⟨by omega, by omega, ?_⟩
  have x : ∀ a j, ¬ (a = 1 ∧ j = 11) → upd2 M 1 11 (m - 1) a j = M a j := fun a j h => by rw [upd2_at, if_neg h]
  have x11 : upd2 M 1 11 (m - 1) 1 11 = m - 1 := by rw [upd2_at, if_pos ⟨rfl, rfl⟩]
  generalize upd2 M 1 11 (m - 1) = X at x x11 ⊢
  rw [t_getf, x _ _ (by omega), h12, t_getf, x _ _ (by omega), p6, t_getf, x11, t_geti, x _ _ (by omega), pl, x _ _ (by omega), e1, t_nn, t_callv]
  refine ⟨by omega, by omega, by omega, by omega, by omega, by omega, by omega, ?_⟩
  refine takeW_e (B := 137) (wl_k hw (fun q _ _ => x _ _ (by omega)) (fun o q _ _ _ => x _ _ (by omega)) (fun o q _ _ _ => x _ _ (by omega)) (fun o q _ _ _ => x _ _ (by omega))) (wl_k wm (fun q _ _ => x _ _ (by omega)) (fun o q _ _ _ => x _ _ (by omega)) (fun o q _ _ _ => x _ _ (by omega)) (fun o q _ _ _ => x _ _ (by omega))) (by rw [x _ _ (by omega)]; exact h01') ⟨by omega, by omega, by omega, by omega, by omega, by omega, by omega, by omega⟩ (.inl ⟨by omega, by omega, by omega, by omega, by omega, by omega, by omega, by omega⟩) (by omega) (by omega) (by omega) (by omega) (by omega) (by omega) (fun N hN => ?_)
  obtain ⟨n1, n2, n3, n4⟩ := hN
  have nk : ∀ j, N 1 j = X 1 j := fun j => n4 1 j (fun hh => by have := pv_r hh; omega) (fun hh => by have := pd_r hh; omega) (fun hh => by have := ps_r hh; omega)
  rw [t_getf, nk, x11, t_call]
  unfold f_X11_answer
  rw [t_putf, t_some]
  dsimp only
  rw [t_some]
  have r : ∀ a j, ¬ (a = 1 ∧ j = 12) → upd2 N 1 12 0 a j = N a j := fun a j h => by rw [upd2_at, if_neg h]
  have r12 : upd2 N 1 12 0 1 12 = 0 := by rw [upd2_at, if_pos ⟨rfl, rfl⟩]
  generalize upd2 N 1 12 0 = Y at r r12 ⊢
  refine ⟨by omega, by omega, .inl ⟨by omega, rfl, ?_, r12, fun o j h => ?_, fun o j h => ?_, fun o j h => ?_, fun a j h1 h2 h3 h4 => ?_⟩⟩
  · dsimp only; rw [r _ _ (by omega), nk]; exact x11
  · have := pv_r h; dsimp only; rw [r _ _ (by omega), n1 o j h, x _ _ (by omega)]
  · have := pd_r h; dsimp only; rw [r _ _ (by omega), n2 o j h, x _ _ (by omega)]
  · have := ps_r h; dsimp only; rw [r _ _ (by omega), n3 o j h, x _ _ (by omega)]
  · dsimp only; rw [r _ _ (by omega), n4 a j h2 h3 h4, x _ _ (by omega)]
