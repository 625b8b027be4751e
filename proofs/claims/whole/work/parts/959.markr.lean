/-! mark, back: the reference -/
def CpR (M N : Mem) (x y : Int) : Prop := (∀ k, 0 ≤ k → k < 640 → N 120 (640 * y + k) = M 120 (640 * x + k)) ∧ (∀ k, 0 ≤ k → k < 26 → N 121 (26 * y + k) = M 121 (26 * x + k)) ∧ ∀ a j, ¬ (a = 120 ∧ 640 * y ≤ j ∧ j < 640 * y + 640) → ¬ (a = 121 ∧ 26 * y ≤ j ∧ j < 26 * y + 26) → N a j = M a j
theorem copies_e {M : Mem} {x y : Int} {Q : Mem → Prop} (hr : LR M) (x0 : 0 ≤ x) (x1 : x ≤ 3) (y0 : 0 ≤ y) (y1 : y ≤ 3) (xy : x ≠ y) (hq : ∀ N, CpR M N x y → Q N) : Tot (f_X12_copies 119 x y M) Q := by
  obtain ⟨⟨r0, r1, _⟩, l0, l1, _⟩ := hr
  unfold f_X12_copies
  have d1 : x + 1 ≤ y ∨ y + 1 ≤ x := by omega
  refine lpIM (fun p N => 0 ≤ p ∧ p ≤ 640 ∧ (∀ k, 0 ≤ k → k < p → N 120 (640 * y + k) = M 120 (640 * x + k)) ∧ ∀ a j, ¬ (a = 120 ∧ 640 * y ≤ j ∧ j < 640 * y + p) → N a j = M a j) (fun p _ => (640 - p).toNat) ?_ (by unfold KF; omega) ⟨by omega, by omega, fun k a b => by omega, fun _ _ _ => rfl⟩
  rintro fu p N ⟨i0, i1, i2, i3⟩ ih
  unfold f_X12_copies_L2
  rw [t_ite]
  refine ⟨fun c => ?_, fun c => ?_⟩
  rotate_left
  · rw [t_getf, t_getf, i3 119 _ (by omega), r0, t_geti, w32_s (x := 640 * x) (by omega) (by omega), w32_s (x := 640 * x + p) (by omega) (by omega), i3 120 (-1) (by omega), l0, t_seti, w32_s (x := 640 * y) (by omega) (by omega), w32_s (x := 640 * y + p) (by omega) (by omega), i3 120 (-1) (by omega), l0, i3 120 (640 * x + p) (by omega), w32_s (x := p + 1) (by omega) (by omega)]
    refine ⟨by omega, by omega, by omega, by omega, by omega, by omega, by omega, by omega, ih _ _ (by omega) ⟨by omega, by omega, fun k k0 k1 => ?_, fun a j h => ?_⟩⟩
    · by_cases e : k = p
      · rw [e, upd2_at, if_pos ⟨rfl, rfl⟩]
      · rw [upd2_at, if_neg (by omega)]; exact i2 k k0 (by omega)
    · rw [upd2_at, if_neg (by omega)]; exact i3 a j (by omega)
  have hp : p = 640 := by omega
  subst hp
  clear ih
  refine lpIM (fun p X => 0 ≤ p ∧ p ≤ 26 ∧ (∀ k, 0 ≤ k → k < p → X 121 (26 * y + k) = M 121 (26 * x + k)) ∧ ∀ a j, ¬ (a = 121 ∧ 26 * y ≤ j ∧ j < 26 * y + p) → X a j = N a j) (fun p _ => (26 - p).toNat) ?_ (by unfold KF; omega) ⟨by omega, by omega, fun k a b => by omega, fun _ _ _ => rfl⟩
  rintro fu2 p X ⟨k0, k1, k2, k3⟩ ih
  unfold f_X12_copies_L41
  rw [t_ite]
  refine ⟨fun c2 => ?_, fun c2 => ?_⟩
  rotate_left
  · rw [t_getf, t_getf, k3 119 _ (by omega), i3 119 _ (by omega), r1, t_geti, w32_s (x := 26 * x) (by omega) (by omega), w32_s (x := 26 * x + p) (by omega) (by omega), k3 121 (-1) (by omega), i3 121 (-1) (by omega), l1, t_seti, w32_s (x := 26 * y) (by omega) (by omega), w32_s (x := 26 * y + p) (by omega) (by omega), k3 121 (-1) (by omega), i3 121 (-1) (by omega), l1, k3 121 (26 * x + p) (by omega), i3 121 (26 * x + p) (by omega), w32_s (x := p + 1) (by omega) (by omega)]
    refine ⟨by omega, by omega, by omega, by omega, by omega, by omega, by omega, by omega, ih _ _ (by omega) ⟨by omega, by omega, fun k h0 h1 => ?_, fun a j h => ?_⟩⟩
    · by_cases e : k = p
      · rw [e, upd2_at, if_pos ⟨rfl, rfl⟩]
      · rw [upd2_at, if_neg (by omega)]; exact k2 k h0 (by omega)
    · rw [upd2_at, if_neg (by omega)]; exact k3 a j (by omega)
  have hp : p = 26 := by omega
  subst hp
  rw [t_some]
  exact hq X ⟨fun k h0 h1 => by rw [k3 _ _ (by omega)]; exact i2 k h0 h1, k2, fun a j h1 h2 => by rw [k3 a j h2, i3 a j h1]⟩
theorem lr_p {M N : Mem} (h : LR M) (k0 : ∀ j, 0 ≤ j → (j < 2 ∨ 5 ≤ j) → j < 41 → (j < 10 ∨ 20 < j) → N 119 j = M 119 j) (kl : ∀ a, 120 ≤ a → a ≤ 136 → N a (-1) = M a (-1)) : LR N := by
  obtain ⟨⟨a1, a2, a3, a4, a5, a6, a7, a8, a9, a10, a11, a12, a13, a14, a15, a16, a17⟩, b1, b2, b3, b4, b5, b6, b7, b8, b9, b10, b11, b12, b13, b14, b15, b16, b17⟩ := h
  unfold LR
  rw [k0 0 (by omega) (by omega) (by omega) (by omega), k0 1 (by omega) (by omega) (by omega) (by omega), k0 5 (by omega) (by omega) (by omega) (by omega), k0 6 (by omega) (by omega) (by omega) (by omega), k0 7 (by omega) (by omega) (by omega) (by omega), k0 8 (by omega) (by omega) (by omega) (by omega), k0 9 (by omega) (by omega) (by omega) (by omega), k0 21 (by omega) (by omega) (by omega) (by omega), k0 22 (by omega) (by omega) (by omega) (by omega), k0 25 (by omega) (by omega) (by omega) (by omega), k0 27 (by omega) (by omega) (by omega) (by omega), k0 28 (by omega) (by omega) (by omega) (by omega), k0 29 (by omega) (by omega) (by omega) (by omega), k0 35 (by omega) (by omega) (by omega) (by omega), k0 38 (by omega) (by omega) (by omega) (by omega), k0 39 (by omega) (by omega) (by omega) (by omega), k0 40 (by omega) (by omega) (by omega) (by omega)]
  rw [kl 120 (by omega) (by omega), kl 121 (by omega) (by omega), kl 122 (by omega) (by omega), kl 123 (by omega) (by omega), kl 124 (by omega) (by omega), kl 125 (by omega) (by omega), kl 126 (by omega) (by omega), kl 127 (by omega) (by omega), kl 128 (by omega) (by omega), kl 129 (by omega) (by omega), kl 130 (by omega) (by omega), kl 131 (by omega) (by omega), kl 132 (by omega) (by omega), kl 133 (by omega) (by omega), kl 134 (by omega) (by omega), kl 135 (by omega) (by omega), kl 136 (by omega) (by omega)]
  exact ⟨⟨a1, a2, a3, a4, a5, a6, a7, a8, a9, a10, a11, a12, a13, a14, a15, a16, a17⟩, b1, b2, b3, b4, b5, b6, b7, b8, b9, b10, b11, b12, b13, b14, b15, b16, b17⟩
/-- what mark and back leave in the reference: copies, the count, the status -/
def CpR2 (M N : Mem) (x y c : Int) : Prop := (∀ k, 0 ≤ k → k < 640 → N 120 (640 * y + k) = M 120 (640 * x + k)) ∧ (∀ k, 0 ≤ k → k < 26 → N 121 (26 * y + k) = M 121 (26 * x + k)) ∧ (N 119 42 = c ∧ N 119 2 = 0) ∧ ∀ a j, ¬ (a = 120 ∧ 640 * y ≤ j ∧ j < 640 * y + 640) → ¬ (a = 121 ∧ 26 * y ≤ j ∧ j < 26 * y + 26) → ¬ (a = 119 ∧ (j = 42 ∨ j = 2)) → N a j = M a j
theorem r_mark {M : Mem} {m : Int} (hr : LR M) (hm : M 119 42 = m) (m0 : 0 ≤ m) (m1 : m ≤ 3) : Tot (f_X12_mark 119 M) (fun q => (m < 3 ∧ q.1 = m + 1 ∧ CpR2 M q.2 0 (m + 1) (m + 1)) ∨ (m = 3 ∧ q.1 = -1 ∧ q.2 = upd2 M 119 2 4)) := by
  unfold f_X12_mark
  rw [t_getf, hm, t_ite]
  refine ⟨by omega, fun c => ?_, fun c => ?_⟩
  rotate_left
  · rw [t_call]
    unfold f_X12_refuse
    rw [t_putf, t_some, t_some]
    exact ⟨by omega, .inr ⟨by omega, rfl, rfl⟩⟩
  rw [t_getf, hm, t_putf, t_getf, upd2_at, if_pos ⟨rfl, rfl⟩, t_callv, w32_s (by omega) (by omega)]
  have x : ∀ a j, ¬ (a = 119 ∧ j = 42) → upd2 M 119 42 (m + 1) a j = M a j := fun a j h => by rw [upd2_at, if_neg h]
  have x42 : upd2 M 119 42 (m + 1) 119 42 = m + 1 := by rw [upd2_at, if_pos ⟨rfl, rfl⟩]
  generalize upd2 M 119 42 (m + 1) = X at x x42 ⊢
  refine ⟨by omega, by omega, by omega, ?_⟩
  refine copies_e (lr_p hr (fun j _ _ _ _ => x _ _ (by omega)) (fun a _ _ => x _ _ (by omega))) (by omega) (by omega) (by omega) (by omega) (by omega) (fun N hN => ?_)
  obtain ⟨n1, n2, n3⟩ := hN
  rw [t_getf, n3 119 _ (by omega) (by omega), x42, t_call]
  unfold f_X12_gives
  rw [t_putf, t_some]
  dsimp only
  rw [t_some]
  refine ⟨by omega, by omega, .inl ⟨by omega, rfl, fun k k0 k1 => ?_, fun k k0 k1 => ?_, ⟨?_, ?_⟩, fun a j h1 h2 h3 => ?_⟩⟩
  · dsimp only; rw [upd2_at, if_neg (by omega), n1 k k0 k1, x _ _ (by omega)]
  · dsimp only; rw [upd2_at, if_neg (by omega), n2 k k0 k1, x _ _ (by omega)]
  · dsimp only; rw [upd2_at, if_neg (by omega), n3 119 _ (by omega) (by omega)]; exact x42
  · dsimp only; rw [upd2_at, if_pos ⟨rfl, rfl⟩]
  · dsimp only; rw [upd2_at, if_neg (by omega), n3 a j h1 h2, x _ _ (by omega)]
theorem r_back {M : Mem} {m : Int} (hr : LR M) (hm : M 119 42 = m) (m0 : 0 ≤ m) (m1 : m ≤ 3) : Tot (f_X12_back 119 M) (fun q => (1 ≤ m ∧ q.1 = m - 1 ∧ CpR2 M q.2 m 0 (m - 1)) ∨ (m = 0 ∧ q.1 = -1 ∧ q.2 = upd2 M 119 2 6)) := by
  unfold f_X12_back
  rw [t_getf, hm, t_ite]
  refine ⟨by omega, fun c => ?_, fun c => ?_⟩
  rotate_left
  · rw [t_call]
    unfold f_X12_refuse
    rw [t_putf, t_some, t_some]
    exact ⟨by omega, .inr ⟨by omega, rfl, rfl⟩⟩
  rw [t_getf, hm, t_callv]
  refine ⟨by omega, ?_⟩
  refine copies_e hr (by omega) (by omega) (by omega) (by omega) (by omega) (fun N hN => ?_)
  obtain ⟨n1, n2, n3⟩ := hN
  rw [t_getf, n3 119 _ (by omega) (by omega), hm, t_putf, t_getf, upd2_at, if_pos ⟨rfl, rfl⟩, t_call, w32_s (by omega) (by omega)]
  unfold f_X12_gives
  rw [t_putf, t_some]
  dsimp only
  rw [t_some]
  refine ⟨by omega, by omega, by omega, by omega, .inl ⟨by omega, rfl, fun k k0 k1 => ?_, fun k k0 k1 => ?_, ⟨?_, ?_⟩, fun a j h1 h2 h3 => ?_⟩⟩
  · dsimp only; rw [upd2_at, if_neg (by omega), upd2_at, if_neg (by omega)]; exact n1 k k0 k1
  · dsimp only; rw [upd2_at, if_neg (by omega), upd2_at, if_neg (by omega)]; exact n2 k k0 k1
  · dsimp only; rw [upd2_at, if_neg (by omega), upd2_at, if_pos ⟨rfl, rfl⟩]
  · dsimp only; rw [upd2_at, if_pos ⟨rfl, rfl⟩]
  · dsimp only; rw [upd2_at, if_neg (by omega), upd2_at, if_neg (by omega), n3 a j h1 h2]
