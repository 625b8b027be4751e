/-! numbers; fractions -/
theorem ldiv_p {a b : Int} (h0 : 0 ≤ a) (h1 : 0 < b) (h2 : a < 9223372036854775808) : ldivv a b = a / b := by
  unfold ldivv
  rw [Int.tdiv_eq_ediv_of_nonneg h0]
  have h3 : 0 ≤ a / b := Int.ediv_nonneg h0 (by omega)
  have h4 : a / b ≤ a := Int.ediv_le_self b h0
  exact w64_s (by omega) (by omega)
theorem idiv_p {a b : Int} (h0 : 0 ≤ a) (h1 : 0 < b) (h2 : a < 2147483648) : idivv a b = a / b := by
  unfold idivv
  rw [Int.tdiv_eq_ediv_of_nonneg h0]
  have h3 : 0 ≤ a / b := Int.ediv_nonneg h0 (by omega)
  have h4 : a / b ≤ a := Int.ediv_le_self b h0
  exact w32_s (by omega) (by omega)
theorem lrem_p {a b : Int} (h0 : 0 ≤ a) (h1 : 0 < b) (h2 : a < 9223372036854775808) : lremv a b = a % b := by
  unfold lremv
  rw [Int.tdiv_eq_ediv_of_nonneg h0]
  have h3 : 0 ≤ a / b := Int.ediv_nonneg h0 (by omega)
  have h4 : a / b ≤ a := Int.ediv_le_self b h0
  have h5 : a / b * b ≤ a := Int.ediv_mul_le a (by omega)
  have h6 : 0 ≤ a / b * b := Int.mul_nonneg h3 (by omega)
  have h7 : a % b = a - b * (a / b) := Int.emod_def a b
  rw [Int.mul_comm] at h7
  have h8 : 0 ≤ a % b := Int.emod_nonneg a (by omega)
  rw [w64_s (x := a / b) (by omega) (by omega), w64_s (x := a / b * b) (by omega) (by omega), w64_s (by omega) (by omega), h7]
theorem irem_p {a b : Int} (h0 : 0 ≤ a) (h1 : 0 < b) (h2 : a < 2147483648) : iremv a b = a % b := by
  unfold iremv
  rw [Int.tdiv_eq_ediv_of_nonneg h0]
  have h3 : 0 ≤ a / b := Int.ediv_nonneg h0 (by omega)
  have h4 : a / b ≤ a := Int.ediv_le_self b h0
  have h5 : a / b * b ≤ a := Int.ediv_mul_le a (by omega)
  have h6 : 0 ≤ a / b * b := Int.mul_nonneg h3 (by omega)
  have h7 : a % b = a - b * (a / b) := Int.emod_def a b
  rw [Int.mul_comm] at h7
  have h8 : 0 ≤ a % b := Int.emod_nonneg a (by omega)
  rw [w32_s (x := a / b) (by omega) (by omega), w32_s (x := a / b * b) (by omega) (by omega), w32_s (by omega) (by omega), h7]
def gcdI (a b : Int) : Int := ((Nat.gcd a.toNat b.toNat : Nat) : Int)
theorem gcdI_0 {a : Int} (h : 0 ≤ a) : gcdI a 0 = a := by unfold gcdI; simp; omega
theorem gcdI_s {a b : Int} (h0 : 0 ≤ a) (h1 : 0 < b) : gcdI b (a % b) = gcdI a b := by
  unfold gcdI
  rw [Int.toNat_emod h0 (by omega), Nat.gcd_comm b.toNat, ← Nat.gcd_rec, Nat.gcd_comm]
theorem gcdI_pos {a b : Int} (h1 : 0 < b) : 1 ≤ gcdI a b := by
  unfold gcdI
  have : 0 < Nat.gcd a.toNat b.toNat := Nat.gcd_pos_of_pos_right _ (by omega)
  omega
theorem min_e (a b : Int) (M : Mem) : f_J9_min_7cf53 a b M = some (if b < a then b else a) := by simp only [f_J9_min_7cf53, jn]; grind
theorem minl_e (a b : Int) (M : Mem) : f_J9_min_f86c9 a b M = some (if b < a then b else a) := by simp only [f_J9_min_f86c9, jn]; grind
theorem max_e (a b : Int) (M : Mem) : f_J9_max_7cf53 a b M = some (if a < b then b else a) := by simp only [f_J9_max_7cf53, jn]; grind
theorem maxl_e (a b : Int) (M : Mem) : f_J9_max_f86c9 a b M = some (if a < b then b else a) := by simp only [f_J9_max_f86c9, jn]; grind
theorem cmp_e (a b : Int) (M : Mem) : f_J13_compare_74951 a b M = some (if a < b then -1 else if a = b then 0 else 1) := by simp only [f_J13_compare_74951, jn]; grind
theorem mod_half {b r : Int} (h0 : 0 < r) (h1 : r < b) : 2 * (b % r) < b := by
  have h2 : b % r < r := Int.emod_lt_of_pos b h0
  have h3 : b % r = b - r * (b / r) := Int.emod_def b r
  have h4 : 1 ≤ b / r := (Int.le_ediv_iff_mul_le h0).mpr (by omega)
  have h5 : r * 1 ≤ r * (b / r) := Int.mul_le_mul_of_nonneg_left h4 (by omega)
  omega
theorem cd_L {M : Mem} {k : Int → Option Int} {Q : Int → Prop} : ∀ (j n : Nat) (a b p : Int), 0 ≤ a → 0 ≤ b → a < 9223372036854775808 → b < 9223372036854775808 → b < 2 ^ j → 0 ≤ p → p + 2 * j < 200 → 2 * j < n → Tot (k (gcdI a b)) Q → Tot (f_X11_commonDivisor_L9 M k n a b p) Q := by
  intro j
  induction j with
  | zero =>
    intro n a b p h0 h1 h2 b63 h3 h4 h5 h6 hk
    obtain ⟨n, rfl⟩ : ∃ m, n = m + 1 := ⟨n - 1, by omega⟩
    have hb : b = 0 := by simp at h3; omega
    subst hb
    unfold f_X11_commonDivisor_L9
    rw [if_neg (by omega), if_pos rfl]
    rwa [gcdI_0 h0] at hk
  | succ j ih =>
    intro n a b p h0 h1 h2 b63 h3 h4 h5 h6 hk
    obtain ⟨n, rfl⟩ : ∃ m, n = m + 1 + 1 := ⟨n - 2, by omega⟩
    unfold f_X11_commonDivisor_L9
    rw [if_neg (by omega)]
    by_cases hb : b = 0
    · subst hb
      rw [if_pos rfl]
      rwa [gcdI_0 h0] at hk
    · have hb0 : 0 < b := by omega
      have r0 : 0 ≤ a % b := Int.emod_nonneg a hb
      have r1 : a % b < b := Int.emod_lt_of_pos a hb0
      have r2 : a % b ≤ a := by
        have := Int.ediv_nonneg h0 (Int.le_of_lt hb0)
        have := Int.mul_nonneg (Int.le_of_lt hb0) this
        have := Int.emod_def a b
        omega
      rw [if_neg hb, t_lremc]
      refine ⟨hb, ?_⟩
      rw [lrem_p h0 hb0 h2, w32_s (by omega) (by omega)]
      unfold f_X11_commonDivisor_L9
      rw [if_neg (by omega)]
      rw [← gcdI_s h0 hb0] at hk
      by_cases hr : a % b = 0
      · rw [hr] at hk ⊢
        rw [if_pos rfl]
        rwa [gcdI_0 (by omega)] at hk
      · rw [if_neg hr, t_lremc]
        refine ⟨hr, ?_⟩
        rw [lrem_p (by omega) (by omega) b63, w32_s (by omega) (by omega)]
        have hh := mod_half (b := b) (r := a % b) (by omega) r1
        have e2 : (2 : Int) ^ (j + 1) = 2 * 2 ^ j := by rw [Int.pow_succ]; omega
        refine ih n _ _ _ r0 (Int.emod_nonneg _ hr) (by omega) (by omega) (by omega) (by omega) (by omega) (by omega) ?_
        rwa [gcdI_s (by omega) (by omega)]
theorem tellFraction_e {n d : Int} (M : Mem) (h0 : 0 ≤ n) (h1 : n < 9223372036854775808) (h2 : 0 < d) (h3 : d < 9223372036854775808) : f_X11_tellFraction 1 n d M = some (1, upd2 (upd2 (upd2 M 1 13 (ldivv n (gcdI n d))) 1 14 (ldivv d (gcdI n d))) 1 12 0) := by
  have hg := gcdI_pos (a := n) h2
  have hc : f_X11_commonDivisor n d M = some (gcdI n d) := by
    rw [← t_eq]
    unfold f_X11_commonDivisor
    refine cd_L 64 KF n d 0 h0 (by omega) h1 h3 (by omega) (by omega) (by omega) (by unfold KF; omega) ?_
    simp only [maxl_e, t_ite, t_callp, t_call, t_callv, t_jn, t_retz, t_retzm, t_some, t_getf, t_putf, t_putz, t_seti, t_setz, t_geti, t_alen, t_nn, t_letv, t_idivc, t_iremc, t_ldivc, t_lremc, t_acopy, upd2_at, i10, i11, n10]
    grind
  rw [← t_eq]
  simp only [f_X11_tellFraction, hc, settle_e, t_ite, t_callp, t_call, t_callv, t_jn, t_retz, t_retzm, t_some, t_getf, t_putf, t_putz, t_seti, t_setz, t_geti, t_alen, t_nn, t_letv, t_idivc, t_iremc, t_ldivc, t_lremc, t_acopy, upd2_at, i10, i11, n10]
  simp
  omega
theorem tb_L {M : Mem} {x0 x1 x3 : Int} {k : Int → Option (Int × Mem)} {Q : Int × Mem → Prop} : ∀ (j n : Nat) (a b : Int), 0 ≤ a → 0 ≤ b → a < 9223372036854775808 → b < 9223372036854775808 → b < 2 ^ j → 2 * j < n → Tot (k (gcdI a b)) Q → Tot (f_X12_tellsBy_L6 M x0 x1 x3 k n a b) Q := by
  intro j
  induction j with
  | zero =>
    intro n a b h0 h1 h2 b63 h3 h6 hk
    obtain ⟨n, rfl⟩ : ∃ m, n = m + 1 := ⟨n - 1, by omega⟩
    have hb : b = 0 := by simp at h3; omega
    subst hb
    unfold f_X12_tellsBy_L6
    rw [if_pos rfl]
    rwa [gcdI_0 h0] at hk
  | succ j ih =>
    intro n a b h0 h1 h2 b63 h3 h6 hk
    obtain ⟨n, rfl⟩ : ∃ m, n = m + 1 + 1 := ⟨n - 2, by omega⟩
    unfold f_X12_tellsBy_L6
    by_cases hb : b = 0
    · subst hb
      rw [if_pos rfl]
      rwa [gcdI_0 h0] at hk
    · have hb0 : 0 < b := by omega
      have r0 : 0 ≤ a % b := Int.emod_nonneg a hb
      have r1 : a % b < b := Int.emod_lt_of_pos a hb0
      rw [if_neg hb, t_lremc]
      refine ⟨hb, ?_⟩
      rw [lrem_p h0 hb0 h2]
      unfold f_X12_tellsBy_L6
      rw [← gcdI_s h0 hb0] at hk
      by_cases hr : a % b = 0
      · rw [hr] at hk ⊢
        rw [if_pos rfl]
        rwa [gcdI_0 (by omega)] at hk
      · rw [if_neg hr, t_lremc]
        refine ⟨hr, ?_⟩
        rw [lrem_p (by omega) (by omega) b63]
        have hh := mod_half (b := b) (r := a % b) (by omega) r1
        have e2 : (2 : Int) ^ (j + 1) = 2 * 2 ^ j := by rw [Int.pow_succ]; omega
        refine ih n _ _ r0 (Int.emod_nonneg _ hr) (by omega) (by omega) (by omega) (by omega) ?_
        rwa [gcdI_s (by omega) (by omega)]
theorem tellsBy_e {n d : Int} (M : Mem) (h0 : 0 ≤ n) (h1 : n < 9223372036854775808) (h2 : 0 < d) (h3 : d < 9223372036854775808) : f_X12_tellsBy 119 n d M = some (1, upd2 (upd2 (upd2 M 119 3 (ldivv n (gcdI n d))) 119 4 (ldivv d (gcdI n d))) 119 2 0) := by
  have hg := gcdI_pos (a := n) h2
  rw [← t_eq]
  unfold f_X12_tellsBy
  refine tb_L 64 KF n d h0 (by omega) h1 h3 (by omega) (by unfold KF; omega) ?_
  simp only [is_e, t_ite, t_callp, t_call, t_callv, t_jn, t_retz, t_retzm, t_some, t_getf, t_putf, t_putz, t_seti, t_setz, t_geti, t_alen, t_nn, t_letv, t_idivc, t_iremc, t_ldivc, t_lremc, t_acopy, upd2_at, i10, i11, n10]
  simp
  omega
