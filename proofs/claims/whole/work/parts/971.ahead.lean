/-! the reference's tokens -/
def TxR (M : Mem) (B : Int → Int) (n : Int) : Prop := TpR M n ∧ ∀ k, 0 ≤ k → k < n → M 126 k = B k ∧ -128 ≤ B k ∧ B k ≤ 127
theorem txr_k {M N : Mem} {B : Int → Int} {n : Int} (h : TxR M B n) (k9 : N 119 9 = M 119 9) (k11 : N 119 11 = M 119 11) (kb : ∀ j, N 126 j = M 126 j) : TxR N B n := by
  obtain ⟨⟨⟨h1, h2⟩, hn, n0, n1⟩, hb⟩ := h
  exact ⟨⟨⟨by rw [k9]; exact h1, by rw [kb]; exact h2⟩, by rw [k11]; exact hn, n0, n1⟩, fun k k0 k1 => by rw [kb]; exact hb k k0 k1⟩
def bt8 (B : Int → Int) (n x : Int) : Int := if n ≤ x then -1 else B x % 256
theorem byte_e {M : Mem} {B : Int → Int} {n x : Int} (h : TxR M B n) (x0 : 0 ≤ x) : Tot (f_X12_byteAt 119 x M) (fun u => u = bt8 B n x) := by
  refine t_mono (byteAt_e h.1 x0) (fun u hu => ?_)
  rw [hu]; unfold byR bt8
  by_cases c : n ≤ x
  · rw [if_pos c, if_pos c]
  · have q := h.2 x x0 (by omega)
    rw [if_neg c, if_neg c, q.1, iand255_e q.2.1 q.2.2]
theorem b8_n {B : Int → Int} {n x : Int} (h : n ≤ x) : bt8 B n x = -1 := if_pos h
theorem b8_i {B : Int → Int} {n x : Int} (h : x < n) : bt8 B n x = B x % 256 := if_neg (by omega)
theorem ahL0_e {M : Mem} {B : Int → Int} {n p : Int} {k : Int → Mem → Option Mem} {Q : Mem → Prop} (h : TxR M B n) (hp : M 119 14 = p) (p0 : 0 ≤ p) (p1 : p ≤ n) (hk : ∀ X, X 119 14 = rnE blB B n p → (∀ a j, ¬ (a = 119 ∧ j = 14) → X a j = M a j) → Tot (k 119 X) Q) : Tot (f_X12_ahead_L0 k KF 119 M) Q := by
  have hn : n ≤ 900 := h.1.2.2.2
  refine lpIM (fun q X => q = 119 ∧ p ≤ X 119 14 ∧ X 119 14 ≤ n ∧ rnE blB B n (X 119 14) = rnE blB B n p ∧ ∀ a j, ¬ (a = 119 ∧ j = 14) → X a j = M a j) (fun _ X => (n - X 119 14).toNat) ?_ (by unfold KF; omega) ⟨rfl, by omega, by omega, by rw [hp], fun _ _ _ => rfl⟩
  rintro fu q X ⟨i0, i1, i2, i3, i4⟩ ih
  subst i0
  have tx : TxR X B n := txr_k h (i4 _ _ (by omega)) (i4 _ _ (by omega)) (fun j => i4 _ _ (by omega))
  unfold f_X12_ahead_L0
  rw [t_getf, t_nn, t_callp]
  refine ⟨by omega, by omega, t_mono (byte_e tx (by omega)) (fun u hu => ?_)⟩
  refine t_jq (fun K : Option Mem => (X 119 14 < n ∧ (B (X 119 14) = 10 ∨ B (X 119 14) = 32)) → Tot K Q) (fun d => ?_) (fun K hK => ?_)
  · rw [t_getf, t_putf, w32_s (by omega) (by omega)]
    have k3 : upd2 X 119 14 (X 119 14 + 1) 119 14 = X 119 14 + 1 := by rw [upd2_at, if_pos ⟨rfl, rfl⟩]
    exact ⟨by omega, by omega, ih _ _ (by rw [k3]; omega) ⟨rfl, by rw [k3]; omega, by rw [k3]; omega, by rw [k3, ← i3, rn_s (p := X 119 14) (by omega) (bl_t.mpr d.2)], fun a j hh => by rw [upd2_at, if_neg hh]; exact i4 a j hh⟩⟩
  by_cases c : n ≤ X 119 14
  · rw [b8_n c] at hu
    rw [t_ite, t_getf, t_callp]
    refine ⟨fun a => by omega, fun a => ⟨by omega, t_mono (byte_e tx (by omega)) (fun z hz => ?_)⟩⟩
    rw [b8_n c] at hz
    rw [t_ite]
    exact ⟨fun _ => hk X (by rw [← i3, rn_n c]) i4, fun a => by omega⟩
  · have hb := h.2 (X 119 14) (by omega) (by omega)
    rw [b8_i (by omega)] at hu
    rw [t_ite, t_getf, t_callp]
    refine ⟨fun a => hK ⟨by omega, by omega⟩, fun a => ⟨by omega, t_mono (byte_e tx (by omega)) (fun z hz => ?_)⟩⟩
    rw [b8_i (by omega)] at hz
    rw [t_ite]
    exact ⟨fun d => hk X (by rw [← i3, rn_x (by rw [bl_t]; omega)]) i4, fun d => hK ⟨by omega, by omega⟩⟩
theorem ahL81_e {M : Mem} {B : Int → Int} {n p : Int} {k : Mem → Option Mem} {Q : Mem → Prop} (h : TxR M B n) (hp : M 119 14 = p) (p0 : 0 ≤ p) (p1 : p ≤ n) (hk : ∀ X, X 119 14 = rnE (rgB 97 122) B n p → (∀ a j, ¬ (a = 119 ∧ j = 14) → X a j = M a j) → Tot (k X) Q) : Tot (f_X12_ahead_L81 119 k KF M) Q := by
  have hn : n ≤ 900 := h.1.2.2.2
  refine lpM (fun X => p ≤ X 119 14 ∧ X 119 14 ≤ n ∧ rnE (rgB 97 122) B n (X 119 14) = rnE (rgB 97 122) B n p ∧ ∀ a j, ¬ (a = 119 ∧ j = 14) → X a j = M a j) (fun X => (n - X 119 14).toNat) ?_ (by unfold KF; omega) ⟨by omega, by omega, by rw [hp], fun _ _ _ => rfl⟩
  rintro fu X ⟨i1, i2, i3, i4⟩ ih
  have tx : TxR X B n := txr_k h (i4 _ _ (by omega)) (i4 _ _ (by omega)) (fun j => i4 _ _ (by omega))
  unfold f_X12_ahead_L81
  rw [t_getf, t_nn, t_callp]
  refine ⟨by omega, by omega, t_mono (byte_e tx (by omega)) (fun u hu => ?_)⟩
  rw [t_callp]
  refine t_mono (isSmall_e u) (fun z hz => ?_)
  rw [t_ite]
  by_cases c : n ≤ X 119 14
  · rw [b8_n c] at hu
    rw [if_neg (by omega)] at hz
    exact ⟨fun _ => hk X (by rw [← i3, rn_n c]) i4, fun a => absurd hz a⟩
  · have hb := h.2 (X 119 14) (by omega) (by omega)
    rw [b8_i (by omega)] at hu
    by_cases d : 97 ≤ B (X 119 14) ∧ B (X 119 14) ≤ 122
    · rw [if_pos (by omega)] at hz
      refine ⟨fun a => by omega, fun _ => ?_⟩
      rw [t_getf, t_putf, w32_s (by omega) (by omega)]
      have k3 : upd2 X 119 14 (X 119 14 + 1) 119 14 = X 119 14 + 1 := by rw [upd2_at, if_pos ⟨rfl, rfl⟩]
      exact ⟨by omega, by omega, ih _ (by rw [k3]; omega) ⟨by rw [k3]; omega, by rw [k3]; omega, by rw [k3, ← i3, rn_s (p := X 119 14) (by omega) (rg_t.mpr d)], fun a j hh => by rw [upd2_at, if_neg hh]; exact i4 a j hh⟩⟩
    · rw [if_neg (by omega)] at hz
      exact ⟨fun _ => hk X (by rw [← i3, rn_x (by rw [rg_t]; exact d)]) i4, fun a => absurd hz a⟩
theorem ahL128_e {M : Mem} {B : Int → Int} {n s : Int} {k : Mem → Option Mem} {Q : Mem → Prop} (h : TxR M B n) (hp : M 119 14 = s) (hv : M 119 15 = 0) (p0 : 0 ≤ s) (p1 : s ≤ n) (hk : ∀ X, X 119 14 = rnE (rgB 48 57) B n s → (rnE (rgB 48 57) B n s - s ≤ 4 → X 119 15 = numS B (rnE (rgB 48 57) B n s - s).toNat s 0) → (∀ a j, ¬ (a = 119 ∧ (j = 14 ∨ j = 15)) → X a j = M a j) → Tot (k X) Q) : Tot (f_X12_ahead_L128 119 k KF M) Q := by
  have hn : n ≤ 900 := h.1.2.2.2
  obtain ⟨g1, g2, g3, g4⟩ := rn_b (C := rgB 48 57) (B := B) (n := n) (p := s) p1
  generalize he : rnE (rgB 48 57) B n s = e at g1 g2 g3 g4 hk
  refine lpM (fun X => s ≤ X 119 14 ∧ X 119 14 ≤ e ∧ (0 ≤ X 119 15 ∧ X 119 15 ≤ 100000) ∧ (X 119 14 ≤ s + 4 → numS B (e - X 119 14).toNat (X 119 14) (X 119 15) = numS B (e - s).toNat s 0 ∧ ((X 119 14 = s ∧ X 119 15 ≤ 0) ∨ (X 119 14 = s + 1 ∧ X 119 15 ≤ 9) ∨ (X 119 14 = s + 2 ∧ X 119 15 ≤ 99) ∨ (X 119 14 = s + 3 ∧ X 119 15 ≤ 999) ∨ X 119 14 = s + 4)) ∧ ∀ a j, ¬ (a = 119 ∧ (j = 14 ∨ j = 15)) → X a j = M a j) (fun X => (e - X 119 14).toNat) ?_ (by unfold KF; omega) ⟨by omega, by omega, by omega, fun _ => ⟨by rw [hp, hv], by omega⟩, fun _ _ _ => rfl⟩
  rintro fu X ⟨i1, i2, i3, i4, i5⟩ ih
  have tx : TxR X B n := txr_k h (i5 _ _ (by omega)) (i5 _ _ (by omega)) (fun j => i5 _ _ (by omega))
  unfold f_X12_ahead_L128
  rw [t_getf, t_nn, t_callp]
  refine ⟨by omega, by omega, t_mono (byte_e tx (by omega)) (fun u hu => ?_)⟩
  rw [t_callp]
  refine t_mono (isDigit_e u) (fun z hz => ?_)
  rw [t_ite]
  by_cases c : X 119 14 = e
  · have fin : Tot (k X) Q := hk X c (fun h4 => by
      have q := (i4 (by omega)).1
      rw [num_n (by omega)] at q; exact q) i5
    have z0 : z = 0 := by
      rw [hz, if_neg]
      by_cases d : n ≤ X 119 14
      · rw [b8_n d] at hu; omega
      · rw [b8_i (by omega)] at hu
        have g := g4 (by omega)
        rw [rg_t, ← c] at g
        have hb := h.2 (X 119 14) (by omega) (by omega)
        omega
    exact ⟨fun _ => fin, fun a => absurd z0 a⟩
  · have hb := h.2 (X 119 14) (by omega) (by omega)
    have d := g3 (X 119 14) i1 (by omega)
    rw [rg_t] at d
    rw [b8_i (by omega)] at hu
    have hu2 : u = B (X 119 14) := by omega
    rw [if_pos (by omega)] at hz
    refine ⟨fun a => by omega, fun _ => ?_⟩
    rw [t_getf, t_getf, t_callp]
    refine ⟨by omega, by omega, t_mono (byte_e tx (by omega)) (fun y hy => ?_)⟩
    rw [b8_i (by omega)] at hy
    have hy2 : y = B (X 119 14) := by omega
    rw [t_callp, min_e, t_some, w32_s (x := 10 * X 119 15) (by omega) (by omega), w32_s (x := 10 * X 119 15 + y) (by omega) (by omega), w32_s (x := 10 * X 119 15 + y - 48) (by omega) (by omega)]
    generalize hV : (if 10 * X 119 15 + y - 48 < 100000 then 10 * X 119 15 + y - 48 else 100000) = V
    have v1 : 0 ≤ V ∧ V ≤ 100000 := by
      by_cases q : 10 * X 119 15 + y - 48 < 100000
      · rw [if_pos q] at hV; omega
      · rw [if_neg q] at hV; omega
    have v2 : X 119 15 ≤ 999 → V = X 119 15 * 10 + (B (X 119 14) - 48) := by
      intro q
      rw [if_pos (by omega)] at hV; omega
    rw [t_putf, t_getf, t_putf, upd2_at, if_neg (by omega), w32_s (by omega) (by omega)]
    refine ⟨by omega, by omega, by omega, ?_⟩
    have x : ∀ a j, ¬ (a = 119 ∧ (j = 14 ∨ j = 15)) → upd2 (upd2 X 119 15 V) 119 14 (X 119 14 + 1) a j = X a j := fun a j hh => by rw [upd2_at, if_neg (by omega), upd2_at, if_neg (by omega)]
    have x14 : upd2 (upd2 X 119 15 V) 119 14 (X 119 14 + 1) 119 14 = X 119 14 + 1 := by rw [upd2_at, if_pos ⟨rfl, rfl⟩]
    have x15 : upd2 (upd2 X 119 15 V) 119 14 (X 119 14 + 1) 119 15 = V := by rw [upd2_at, if_neg (by omega), upd2_at, if_pos ⟨rfl, rfl⟩]
    generalize upd2 (upd2 X 119 15 V) 119 14 (X 119 14 + 1) = Y at x x14 x15 ⊢
    refine ih Y (by rw [x14]; omega) ⟨by omega, by omega, by omega, fun q => ?_, fun a j hh => by rw [x a j hh]; exact i5 a j hh⟩
    obtain ⟨q1, q2⟩ := i4 (by omega)
    have v3 := v2 (by omega)
    rw [x14, x15, v3, ← num_s (by omega)]
    exact ⟨q1, by omega⟩
def kR (k : Int) : Int := if k = 4 then 1 else if k = 0 then 0 else k + 1
def TkR (N : Mem) (B : Int → Int) (n s : Int) : Prop := N 119 13 = s ∧ N 119 14 = tkE B n s ∧ N 119 12 = kR (tkK B n s) ∧ (tkK B n s = 2 → N 119 15 = numS B (tkE B n s - s).toNat s 0) ∧ (tkK B n s = 3 → N 119 15 = B s)
def ahF (a j : Int) : Prop := a = 119 ∧ 12 ≤ j ∧ j ≤ 15
theorem ahF_n {a j : Int} (h : ¬ ahF a j) : ¬ (a = 119 ∧ 12 ≤ j ∧ j ≤ 15) := h
theorem ahead_e {M : Mem} {B : Int → Int} {n p : Int} {Q : Mem → Prop} (h : TxR M B n) (hp : M 119 14 = p) (p0 : 0 ≤ p) (p1 : p ≤ n) (hq : ∀ N, (∀ a j, ¬ ahF a j → N a j = M a j) → TkR N B n (rnE blB B n p) → Q N) : Tot (f_X12_ahead 119 M) Q := by
  obtain ⟨g1, g2, g3, g4⟩ := rn_b (C := blB) (B := B) (n := n) (p := p) p1
  have hn : n ≤ 900 := h.1.2.2.2
  unfold f_X12_ahead
  refine ahL0_e h hp p0 p1 (fun X hX kX => ?_)
  generalize rnE blB B n p = s at g1 g2 g3 g4 hX hq
  rw [t_getf, hX, t_putf]
  refine ⟨by omega, by omega, ?_⟩
  have y : ∀ a j, ¬ (a = 119 ∧ (j = 13 ∨ j = 14)) → upd2 X 119 13 s a j = M a j := fun a j hh => by rw [upd2_at, if_neg (by omega)]; exact kX a j (by omega)
  have y13 : upd2 X 119 13 s 119 13 = s := by rw [upd2_at, if_pos ⟨rfl, rfl⟩]
  have y14 : upd2 X 119 13 s 119 14 = s := by rw [upd2_at, if_neg (by omega)]; exact hX
  generalize upd2 X 119 13 s = Y at y y13 y14 ⊢
  have tY : TxR Y B n := txr_k h (y _ _ (by omega)) (y _ _ (by omega)) (fun j => y _ _ (by omega))
  rw [t_getf, y14, t_nn, t_callp]
  refine ⟨by omega, by omega, t_mono (byte_e tY (by omega)) (fun u hu => ?_)⟩
  rw [t_putf]
  refine ⟨by omega, ?_⟩
  have z : ∀ a j, ¬ (a = 119 ∧ (j = 13 ∨ j = 14 ∨ j = 15)) → upd2 Y 119 15 u a j = M a j := fun a j hh => by rw [upd2_at, if_neg (by omega)]; exact y a j (by omega)
  have z13 : upd2 Y 119 15 u 119 13 = s := by rw [upd2_at, if_neg (by omega)]; exact y13
  have z14 : upd2 Y 119 15 u 119 14 = s := by rw [upd2_at, if_neg (by omega)]; exact y14
  have z15 : upd2 Y 119 15 u 119 15 = u := by rw [upd2_at, if_pos ⟨rfl, rfl⟩]
  generalize upd2 Y 119 15 u = Z at z z13 z14 z15 ⊢
  have tZ : TxR Z B n := txr_k h (z _ _ (by omega)) (z _ _ (by omega)) (fun j => z _ _ (by omega))
  refine t_jq (fun K : Mem → Option Mem => K = fun N => some N) rfl (fun K hK => ?_)
  subst hK
  rw [t_ite]
  by_cases c : n ≤ s
  · rw [b8_n c] at hu
    refine ⟨fun a => absurd hu a, fun _ => ?_⟩
    obtain ⟨t1, t2, t3, t4⟩ := tk_0 (B := B) (K := B) (n := n) (s := s) c
    rw [t_putf, t_some]
    have k : ∀ a j, ¬ (a = 119 ∧ j = 12) → upd2 Z 119 12 0 a j = Z a j := fun a j hh => by rw [upd2_at, if_neg hh]
    refine ⟨by omega, hq _ (fun a j hh => by have := ahF_n hh; rw [k _ _ (by omega), z _ _ (by omega)]) ⟨?_, ?_, ?_, fun d => by omega, fun d => by omega⟩⟩
    · rw [k _ _ (by omega)]; exact z13
    · rw [k _ _ (by omega), t1]; exact z14
    · rw [upd2_at, if_pos ⟨rfl, rfl⟩, t2]; rfl
  have hb := h.2 s (by omega) (by omega)
  rw [b8_i (by omega)] at hu
  refine ⟨fun _ => ?_, fun a => by omega⟩
  rw [t_callp]
  refine t_mono (isSmall_e u) (fun v hv => ?_)
  rw [t_ite]
  by_cases w : 97 ≤ B s ∧ B s ≤ 122
  · rw [if_pos (by omega)] at hv
    refine ⟨fun a => by omega, fun _ => ?_⟩
    obtain ⟨t1, t2, t3, t4⟩ := tk_1 (K := B) (n := n) (by omega) w
    refine ahL81_e tZ z14 (by omega) (by omega) (fun W hW kW => ?_)
    rw [t_putf, t_some]
    have k : ∀ a j, ¬ (a = 119 ∧ j = 12) → upd2 W 119 12 2 a j = W a j := fun a j hh => by rw [upd2_at, if_neg hh]
    refine ⟨by omega, hq _ (fun a j hh => by have := ahF_n hh; rw [k _ _ (by omega), kW _ _ (by omega), z _ _ (by omega)]) ⟨?_, ?_, ?_, fun d => by omega, fun d => by omega⟩⟩
    · rw [k _ _ (by omega), kW _ _ (by omega)]; exact z13
    · rw [k _ _ (by omega), t1]; exact hW
    · rw [upd2_at, if_pos ⟨rfl, rfl⟩, t2]; rfl
  rw [if_neg (by omega)] at hv
  refine ⟨fun _ => ?_, fun a => absurd hv a⟩
  rw [t_callp]
  refine t_mono (isDigit_e u) (fun v2 hv2 => ?_)
  rw [t_ite]
  by_cases d : 48 ≤ B s ∧ B s ≤ 57
  · rw [if_pos (by omega)] at hv2
    refine ⟨fun a => by omega, fun _ => ?_⟩
    obtain ⟨t1, t2, t3, t4⟩ := tk_2 (K := B) (n := n) (s := s) (by omega) d
    obtain ⟨r1, r2, _, _⟩ := rn_b (C := rgB 48 57) (B := B) (n := n) (p := s) (by omega)
    rw [t_putf]
    refine ⟨by omega, ?_⟩
    have x : ∀ a j, ¬ (a = 119 ∧ j = 15) → upd2 Z 119 15 0 a j = Z a j := fun a j hh => by rw [upd2_at, if_neg hh]
    have x15 : upd2 Z 119 15 0 119 15 = 0 := by rw [upd2_at, if_pos ⟨rfl, rfl⟩]
    generalize upd2 Z 119 15 0 = V at x x15 ⊢
    have tV : TxR V B n := txr_k tZ (x _ _ (by omega)) (x _ _ (by omega)) (fun j => x _ _ (by omega))
    refine ahL128_e (s := s) tV (by rw [x _ _ (by omega)]; exact z14) x15 (by omega) (by omega) (fun W hW hW2 kW => ?_)
    rw [t_getf, hW, t_getf, kW _ _ (by omega), x _ _ (by omega), z13, w32_s (by omega) (by omega)]
    refine ⟨by omega, by omega, ?_⟩
    rw [← t1] at hW hW2 t2 ⊢
    refine t_jq (fun K : Int → Option Mem => ∀ q, q = kR (tkK B n s) → Tot (K q) Q) (fun q hqq => ?_) (fun K hK => ?_)
    · rw [t_putf, t_some]
      have k : ∀ a j, ¬ (a = 119 ∧ j = 12) → upd2 W 119 12 q a j = W a j := fun a j hh => by rw [upd2_at, if_neg hh]
      refine ⟨by omega, hq _ (fun a j hh => by have := ahF_n hh; rw [k _ _ (by omega), kW _ _ (by omega), x _ _ (by omega), z _ _ (by omega)]) ⟨?_, ?_, ?_, fun e2 => ?_, fun e2 => ?_⟩⟩
      · rw [k _ _ (by omega), kW _ _ (by omega), x _ _ (by omega)]; exact z13
      · rw [k _ _ (by omega)]; exact hW
      · rw [upd2_at, if_pos ⟨rfl, rfl⟩]; exact hqq
      · rw [k _ _ (by omega)]
        refine hW2 ?_
        by_cases l : tkE B n s - s ≤ 4
        · exact l
        · rw [if_neg l] at t2; omega
      · by_cases l : tkE B n s - s ≤ 4
        · rw [if_pos l] at t2; omega
        · rw [if_neg l] at t2; omega
    · rw [t_ite]
      exact ⟨fun l => hK _ (by rw [t2, if_pos l]; rfl), fun l => hK _ (by rw [t2, if_neg l]; rfl)⟩
  rw [if_neg (by omega)] at hv2
  refine ⟨fun _ => ?_, fun a => absurd hv2 a⟩
  obtain ⟨t1, t2, t3, t4⟩ := tk_3 (K := B) (n := n) (s := s) (by omega) w d
  rw [t_getf, z14, t_putf, w32_s (by omega) (by omega)]
  refine ⟨by omega, by omega, ?_⟩
  refine t_jq (fun K : Int → Option Mem => ∀ q, q = kR (tkK B n s) → Tot (K q) Q) (fun q hqq => ?_) (fun K hK => ?_)
  · rw [t_putf, t_some]
    have k : ∀ a j, ¬ (a = 119 ∧ (j = 12 ∨ j = 14)) → upd2 (upd2 Z 119 14 (s + 1)) 119 12 q a j = Z a j := fun a j hh => by rw [upd2_at, if_neg (by omega), upd2_at, if_neg (by omega)]
    refine ⟨by omega, hq _ (fun a j hh => by have := ahF_n hh; rw [k _ _ (by omega), z _ _ (by omega)]) ⟨?_, ?_, ?_, fun e2 => ?_, fun e2 => ?_⟩⟩
    · rw [k _ _ (by omega)]; exact z13
    · rw [upd2_at, if_neg (by omega), upd2_at, if_pos ⟨rfl, rfl⟩, t1]
    · rw [upd2_at, if_pos ⟨rfl, rfl⟩]; exact hqq
    · by_cases l : B s = 59 ∨ B s = 60 ∨ B s = 61 ∨ B s = 62
      · rw [if_pos l] at t2; omega
      · rw [if_neg l] at t2; omega
    · rw [k _ _ (by omega), z15, hu]
      by_cases l : B s = 59 ∨ B s = 60 ∨ B s = 61 ∨ B s = 62
      · omega
      · rw [if_neg l] at t2; omega
  refine t_jq (fun K2 : Option Mem => (B s = 59 ∨ B s = 60 ∨ B s = 61 ∨ B s = 62) → Tot K2 Q) (fun l => hK _ (by rw [t2, if_pos l]; rfl)) (fun K2 hK2 => ?_)
  rw [t_ite]
  refine ⟨fun l => hK2 (by omega), fun l => ?_⟩
  rw [t_ite]
  refine ⟨fun l2 => hK2 (by omega), fun l2 => ?_⟩
  rw [t_ite]
  refine ⟨fun l3 => hK2 (by omega), fun l3 => ?_⟩
  rw [t_ite]
  exact ⟨fun l4 => hK _ (by rw [t2, if_neg (by omega)]; rfl), fun l4 => hK2 (by omega)⟩
