/-! runs of bytes -/
def skp (C : Int → Bool) (B : Int → Int) : Nat → Int → Int
  | 0, p => p
  | k + 1, p => if C (B p) = true then skp C B k (p + 1) else p
def rnE (C : Int → Bool) (B : Int → Int) (n p : Int) : Int := skp C B (n - p).toNat p
theorem rn_n {C : Int → Bool} {B : Int → Int} {n p : Int} (h : n ≤ p) : rnE C B n p = p := by unfold rnE; rw [show (n - p).toNat = 0 by omega]; rfl
theorem rn_s {C : Int → Bool} {B : Int → Int} {n p : Int} (h : p < n) (hc : C (B p) = true) : rnE C B n p = rnE C B n (p + 1) := by
  unfold rnE
  rw [show (n - p).toNat = (n - (p + 1)).toNat + 1 by omega]
  show (if C (B p) = true then _ else _) = _
  rw [if_pos hc]
theorem rn_x {C : Int → Bool} {B : Int → Int} {n p : Int} (hc : ¬ C (B p) = true) : rnE C B n p = p := by
  unfold rnE
  rcases h : (n - p).toNat with _ | k
  · rfl
  · show (if C (B p) = true then _ else _) = _
    rw [if_neg hc]
theorem skp_b {C : Int → Bool} {B : Int → Int} : ∀ (k : Nat) (p : Int), p ≤ skp C B k p ∧ skp C B k p ≤ p + k ∧ (∀ i, p ≤ i → i < skp C B k p → C (B i) = true) ∧ (skp C B k p < p + k → ¬ C (B (skp C B k p)) = true)
  | 0, p => ⟨Int.le_refl _, by show p ≤ p + ((0 : Nat) : Int); omega, fun i h0 h1 => by have : i < p := h1; omega, fun h => by have : p < p + ((0 : Nat) : Int) := h; omega⟩
  | k + 1, p => by
    have e : skp C B (k + 1) p = if C (B p) = true then skp C B k (p + 1) else p := rfl
    rw [e]
    by_cases c : C (B p) = true
    · rw [if_pos c]
      obtain ⟨h1, h2, h3, h4⟩ := skp_b (C := C) (B := B) k (p + 1)
      refine ⟨by omega, by omega, fun i i0 i1 => ?_, fun h => h4 (by omega)⟩
      by_cases q : i = p
      · rw [q]; exact c
      · exact h3 i (by omega) i1
    · rw [if_neg c]
      exact ⟨Int.le_refl _, by omega, fun i h0 h1 => by omega, fun _ => c⟩
theorem rn_b {C : Int → Bool} {B : Int → Int} {n p : Int} (h : p ≤ n) : p ≤ rnE C B n p ∧ rnE C B n p ≤ n ∧ (∀ i, p ≤ i → i < rnE C B n p → C (B i) = true) ∧ (rnE C B n p < n → ¬ C (B (rnE C B n p)) = true) := by
  have q := skp_b (C := C) (B := B) (n - p).toNat p
  unfold rnE
  refine ⟨q.1, by have := q.2.1; omega, q.2.2.1, fun hh => q.2.2.2 (by omega)⟩
def blB (b : Int) : Bool := decide (b = 10 ∨ b = 32)
def rgB (lo hi b : Int) : Bool := decide (lo ≤ b ∧ b ≤ hi)
theorem bl_t {b : Int} : blB b = true ↔ (b = 10 ∨ b = 32) := by unfold blB; exact decide_eq_true_iff
theorem rg_t {lo hi b : Int} : rgB lo hi b = true ↔ (lo ≤ b ∧ b ≤ hi) := by unfold rgB; exact decide_eq_true_iff
/-- the class's tape stands on the bytes B, n long -/
def TpC (M : Mem) (n : Int) : Prop := (M 1 1 = 10 ∧ M 10 0 = 11 ∧ M 10 1 = 12 ∧ M 11 (-1) = 900 ∧ M 12 (-1) = 30) ∧ M 10 2 = n ∧ 0 ≤ n ∧ n ≤ 900
theorem runEnd_e {M : Mem} {n s lo hi : Int} (h : TpC M n) (hs : M 10 4 = s) (s0 : 0 ≤ s) (s1 : s ≤ n) : Tot (f_X6_runEnd 10 lo hi M) (fun e => e = rnE (rgB lo hi) (M 11) n s) := by
  obtain ⟨⟨h1, h2, h3, h4, h5⟩, hn, n0, n1⟩ := h
  unfold f_X6_runEnd
  rw [t_getf, hs]
  refine ⟨by omega, ?_⟩
  refine lpI (fun p => s ≤ p ∧ p ≤ n ∧ rnE (rgB lo hi) (M 11) n p = rnE (rgB lo hi) (M 11) n s) (fun p => (n - p).toNat) ?_ (by unfold KF; omega) ⟨by omega, s1, rfl⟩
  rintro fu p ⟨i0, i1, i2⟩ ih
  unfold f_X6_runEnd_L5
  rw [t_getf, hn, t_ite]
  refine ⟨by omega, fun c => ?_, fun c => ?_⟩
  · rw [t_some, ← i2, rn_n c]
  rw [t_getf, h2, t_geti, h4, t_ite]
  refine ⟨by omega, by omega, by omega, by omega, fun a => ?_, fun a => ?_⟩
  · rw [t_some, ← i2, rn_x (by rw [rg_t]; omega)]
  rw [t_getf, h2, t_geti, h4, t_ite]
  refine ⟨by omega, by omega, by omega, by omega, fun b => ?_, fun b => ?_⟩
  · rw [t_some, ← i2, rn_x (by rw [rg_t]; omega)]
  rw [w32_s (by omega) (by omega)]
  exact ih _ (by omega) ⟨by omega, by omega, by rw [← i2, rn_s (p := p) (by omega) (by rw [rg_t]; omega)]⟩
def numS (B : Int → Int) : Nat → Int → Int → Int
  | 0, _, a => a
  | k + 1, p, a => numS B k (p + 1) (a * 10 + (B p - 48))
theorem num_s {B : Int → Int} {e p a : Int} (h : p < e) : numS B (e - p).toNat p a = numS B (e - (p + 1)).toNat (p + 1) (a * 10 + (B p - 48)) := by rw [show (e - p).toNat = (e - (p + 1)).toNat + 1 by omega]; rfl
theorem num_n {B : Int → Int} {e p a : Int} (h : e ≤ p) : numS B (e - p).toNat p a = a := by rw [show (e - p).toNat = 0 by omega]; rfl
theorem value_e {M : Mem} {n s e : Int} (h : TpC M n) (hs : M 10 4 = s) (he : M 10 3 = e) (s0 : 0 ≤ s) (s1 : s ≤ e) (e1 : e ≤ n) (e2 : e ≤ s + 4) (hd : ∀ i, s ≤ i → i < e → 48 ≤ M 11 i ∧ M 11 i ≤ 57) : Tot (f_X6_value 10 M) (fun u => u = numS (M 11) (e - s).toNat s 0) := by
  obtain ⟨⟨h1, h2, h3, h4, h5⟩, hn, n0, n1⟩ := h
  unfold f_X6_value
  rw [t_getf, hs]
  refine ⟨by omega, ?_⟩
  refine lpII (fun a p => s ≤ p ∧ p ≤ e ∧ numS (M 11) (e - p).toNat p a = numS (M 11) (e - s).toNat s 0 ∧ 0 ≤ a ∧ ((p = s ∧ a ≤ 0) ∨ (p = s + 1 ∧ a ≤ 9) ∨ (p = s + 2 ∧ a ≤ 99) ∨ (p = s + 3 ∧ a ≤ 999) ∨ p = s + 4)) (fun _ p => (e - p).toNat) ?_ (by unfold KF; omega) ⟨by omega, s1, rfl, by omega, by omega⟩
  rintro fu a p ⟨i0, i1, i2, i3, i4⟩ ih
  unfold f_X6_value_L7
  rw [t_getf, he, t_ite]
  refine ⟨by omega, fun c => ?_, fun c => ?_⟩
  · rw [t_some, ← i2, num_n c]
  have b := hd p i0 (by omega)
  rw [t_getf, h2, t_geti, h4, t_letv, w32_s (x := a * 10) (by omega) (by omega), w32_s (x := M 11 p - 48) (by omega) (by omega), w32_s (x := a * 10 + (M 11 p - 48)) (by omega) (by omega), w32_s (x := p + 1) (by omega) (by omega)]
  exact ⟨by omega, by omega, by omega, by omega, ih _ _ (by omega) ⟨by omega, by omega, by rw [← i2, num_s (p := p) (by omega)], by omega, by omega⟩⟩
