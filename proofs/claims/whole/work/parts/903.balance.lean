/-! sums of debts -/
theorem ow_le {w : Int → Int} (hw : WFw w) (hn : WFn w) {i j : Int} (h0 : 0 ≤ i) (h1 : i < 10) (h2 : 0 ≤ j) (h3 : j < 10) : 0 ≤ ow w i j ∧ ow w i j ≤ 1200000 := by
  have := hw.1 i j h0 h1 h2 h3
  unfold WFn at hn; omega
def byS (w : Int → Int) (x : Int) : Int := sumZ (fun k => ow w x k) 10
def toS (w : Int → Int) (x : Int) : Int := sumZ (fun k => ow w k x) 10
theorem byS_le {w : Int → Int} (hw : WFw w) (hn : WFn w) {x : Int} (h0 : 0 ≤ x) (h1 : x < 10) : 0 ≤ byS w x ∧ byS w x ≤ 12000000 := by
  have := sumZ_le (g := fun k => ow w x k) (n := 10) (lo := 0) (hi := 1200000) (fun k a b => ow_le hw hn h0 h1 a b) (p := 10) (by omega) (by omega)
  unfold byS; omega
theorem toS_le {w : Int → Int} (hw : WFw w) (hn : WFn w) {x : Int} (h0 : 0 ≤ x) (h1 : x < 10) : 0 ≤ toS w x ∧ toS w x ≤ 12000000 := by
  have := sumZ_le (g := fun k => ow w k x) (n := 10) (lo := 0) (hi := 1200000) (fun k a b => ow_le hw hn a b h0 h1) (p := 10) (by omega) (by omega)
  unfold toS; omega
theorem allDebtBy_e {M : Mem} {v : Int} {w : Int → Int} (h : CI M v w) (hw : WFw w) (hn : WFn w) {x : Int} (h0 : 0 ≤ x) (h1 : x < 10) : f_X4_allDebtBy 48 x M = some (byS w x) := by
  rw [← t_eq]
  unfold f_X4_allDebtBy
  refine lpII (fun a p => 0 ≤ p ∧ p ≤ 10 ∧ a = sumZ (fun k => ow w x k) p) (fun _ p => (10 - p).toNat) ?_ (by unfold KF; omega) ⟨by omega, by omega, rfl⟩
  rintro n a p ⟨i0, i1, i2⟩ ih
  have q := sumZ_le (g := fun k => ow w x k) (n := 10) (lo := 0) (hi := 1200000) (fun k a b => ow_le hw hn h0 h1 a b) (p := p) (by omega) (by omega)
  unfold f_X4_allDebtBy_L4
  rw [t_ite, t_some]
  refine ⟨fun c => ?_, fun c => ?_⟩
  · have : p = 10 := by omega
    subst this; exact i2
  · have q2 := ow_le hw hn h0 h1 i0 (by omega)
    rw [t_callp, debt_e h h0 h1 i0 (by omega), t_some, t_letv, w32_s (by omega) (by omega), w32_s (by omega) (by omega)]
    exact ih _ _ (by omega) ⟨by omega, by omega, by rw [sumZ_s _ i0, i2]⟩
theorem allDebtTo_e {M : Mem} {v : Int} {w : Int → Int} (h : CI M v w) (hw : WFw w) (hn : WFn w) {x : Int} (h0 : 0 ≤ x) (h1 : x < 10) : f_X4_allDebtTo 48 x M = some (toS w x) := by
  rw [← t_eq]
  unfold f_X4_allDebtTo
  refine lpII (fun a p => 0 ≤ p ∧ p ≤ 10 ∧ a = sumZ (fun k => ow w k x) p) (fun _ p => (10 - p).toNat) ?_ (by unfold KF; omega) ⟨by omega, by omega, rfl⟩
  rintro n a p ⟨i0, i1, i2⟩ ih
  have q := sumZ_le (g := fun k => ow w k x) (n := 10) (lo := 0) (hi := 1200000) (fun k a b => ow_le hw hn a b h0 h1) (p := p) (by omega) (by omega)
  unfold f_X4_allDebtTo_L4
  rw [t_ite, t_some]
  refine ⟨fun c => ?_, fun c => ?_⟩
  · have : p = 10 := by omega
    subst this; exact i2
  · have q2 := ow_le hw hn i0 (by omega) h0 h1
    rw [t_callp, debt_e h i0 (by omega) h0 h1, t_some, t_letv, w32_s (by omega) (by omega), w32_s (by omega) (by omega)]
    exact ih _ _ (by omega) ⟨by omega, by omega, by rw [sumZ_s _ i0, i2]⟩
def balF (w : Int → Int) (o n : Int) : Int := sumZ (fun f => if fc w f 3 = o then toS w f - byS w f else 0) n
def balanceS (w : Int → Int) (o : Int) : Ans := if 0 ≤ o ∧ o < w 4 then (balF w o (w 5), 0, none) else (-1, 1, none)
theorem balF_le {w : Int → Int} (hw : WFw w) (hn : WFn w) (o : Int) {p : Int} (h0 : 0 ≤ p) (h1 : p ≤ 10) : -12000000 * p ≤ balF w o p ∧ balF w o p ≤ 12000000 * p :=
  sumZ_le (n := 10) (fun k a b => by
    have := byS_le hw hn a b
    have := toS_le hw hn a b
    try simp only
    split <;> omega) h0 h1
theorem c_balance {M : Mem} {v : Int} {w : Int → Int} (h : CI M v w) (hw : WFw w) (hn : WFn w) (o : Int) : Tot (f_X11_balance 1 o M) (AC (balanceS w o) M) := by
  have h' := h
  have hn' := hn
  unfold WFn at hn'
  obtain ⟨a, b, c, d, e⟩ := ci_p h
  obtain ⟨hv, _, ⟨⟨l1, l2, l3, l4, l5⟩, ⟨m1, m2, _⟩, lr⟩, _, _, ⟨⟨b1, b2, b3, b4, b5, b6, b7⟩, rr, ff⟩, _⟩ := h
  have s0 := ac_st (kc M)
  unfold f_X11_balance
  rw [t_callp, isOwner_e h', t_some, t_ite, n10, t_call, refuse_e, t_some, t_some]
  unfold balanceS
  refine ⟨fun h1 => ?_, fun h1 => by rw [if_neg h1]; exact s0 _ _⟩
  rw [if_pos h1]
  refine lpII (fun x p => 0 ≤ p ∧ p ≤ w 5 ∧ x = balF w o p) (fun _ p => (w 5 - p).toNat) ?_ (by unfold KF; omega) ⟨by omega, by omega, rfl⟩
  rintro n x p ⟨i0, i1, i2⟩ ih
  have q := balF_le hw hn o (p := p) (by omega) (by omega)
  unfold f_X11_balance_L18
  simp only [t_ite, t_callp, t_call, t_callv, t_jn, t_retz, t_retzm, t_some, t_getf, t_putf, t_putz, t_seti, t_setz, t_geti, t_alen, t_nn, t_letv, t_idivc, t_iremc, t_ldivc, t_lremc, t_acopy, upd2_at, i10, i11, n10, a, c, d, b5, l2, m2, answer_e]
  refine ⟨by decide, by decide, by omega, fun c1 => ?_, fun c1 => ⟨by decide, by decide, by omega, by omega, i0, by omega, ?_⟩⟩
  · have : p = w 5 := by omega
    subst this; rw [i2]; exact s0 _ _
  · have q1 := lr p i0 (by omega)
    have q2 := ff p 3 i0 (by omega) (by omega) (by omega)
    have q3 := byS_le hw hn (x := p) i0 (by omega)
    have q4 := toS_le hw hn (x := p) i0 (by omega)
    have hs : balF w o (p + 1) = balF w o p + _ := sumZ_s _ i0
    rw [allDebtBy_e h' hw hn i0 (by omega), allDebtTo_e h' hw hn i0 (by omega)]
    simp (disch := omega) only [t_some, q1.2.2.1, q1.2.2.2, q2, w32_s]
    refine ⟨by omega, by omega, by omega, fun c2 => ih _ _ (by omega) ⟨by omega, by omega, ?_⟩, fun c2 => ⟨by decide, by decide, by decide, by decide, by decide, by decide, ih _ _ (by omega) ⟨by omega, by omega, ?_⟩⟩⟩
    · rw [hs, if_neg c2, i2]; omega
    · rw [hs, if_pos (by simpa using c2), i2]
theorem r_balance {M : Mem} (h : LR M) (hw : WFw (M 120)) (hn : WFn (M 120)) (o : Int) : Tot (f_X12_balance 119 o M) (AR (balanceS (M 120) o) M) := by
  have hn' := hn
  unfold WFn at hn'
  obtain ⟨a, b⟩ := lr_a h
  have s0 := ar_st (kr M)
  simp only [f_X12_balance, t_ite, t_callp, t_call, t_callv, t_jn, t_retz, t_retzm, t_some, t_getf, t_putf, t_putz, t_seti, t_setz, t_geti, t_alen, t_nn, t_letv, t_idivc, t_iremc, t_ldivc, t_lremc, t_acopy, upd2_at, i10, i11, n10, a, b, refuseR_e]
  unfold balanceS
  refine ⟨fun h1 => by rw [if_neg (by omega)]; exact s0 _ _, fun h1 => ⟨by decide, by decide, by decide, by decide, fun h2 => ?_, fun h2 => by rw [if_neg (by omega)]; exact s0 _ _⟩⟩
  rw [if_pos (by omega)]
  refine lpII (fun x p => 0 ≤ p ∧ p ≤ M 120 5 ∧ x = balF (M 120) o p) (fun _ p => (M 120 5 - p).toNat) ?_ (by unfold KF; omega) ⟨by omega, by omega, rfl⟩
  rintro n x p ⟨i0, i1, i2⟩ ih
  have q := balF_le hw hn o (p := p) (by omega) (by omega)
  have hs : balF (M 120) o (p + 1) = balF (M 120) o p + _ := sumZ_s _ i0
  unfold f_X12_balance_L24
  simp (disch := omega) only [t_ite, t_callp, t_call, t_callv, t_jn, t_retz, t_retzm, t_some, t_getf, t_putf, t_putz, t_seti, t_setz, t_geti, t_alen, t_nn, t_letv, t_idivc, t_iremc, t_ldivc, t_lremc, t_acopy, upd2_at, i10, i11, n10, a, b, gives_e, w32_s]
  refine ⟨by decide, by decide, by decide, by decide, fun c1 => ?_, fun c1 => ?_⟩
  · have : p = M 120 5 := by omega
    subst this; rw [i2]; exact s0 _ _
  · rw [ofField_e h i0 (by omega) (by omega) (by omega), t_some]
    refine ⟨fun c2 => ?_, fun c2 => ?_⟩
    · have e : balF (M 120) o (p + 1) = x + sumZ (fun g => ow (M 120) g p - ow (M 120) p g) 10 := by
        rw [hs, if_pos c2, i2, sumZ_sub _ _ (by omega)]; rfl
      refine lpII (fun y g => 0 ≤ g ∧ g ≤ 10 ∧ y = x + sumZ (fun g => ow (M 120) g p - ow (M 120) p g) g) (fun _ g => (10 - g).toNat) ?_ (by unfold KF; omega) ⟨by omega, by omega, by rw [sumZ_0]; omega⟩
      rintro n2 y g ⟨j0, j1, j2⟩ ih2
      have q2 := sumZ_le (g := fun g => ow (M 120) g p - ow (M 120) p g) (n := 10) (lo := -1200000) (hi := 1200000) (fun k k0 k1 => by
        have := ow_le hw hn k0 k1 i0 (show p < 10 by omega)
        have := ow_le hw hn i0 (show p < 10 by omega) k0 k1
        constructor <;> omega) (p := g) (by omega) (by omega)
      unfold f_X12_balance_L50
      simp only [t_ite, t_callp, t_call, t_callv, t_jn, t_retz, t_retzm, t_some, t_getf, t_putf, t_putz, t_seti, t_setz, t_geti, t_alen, t_nn, t_letv, t_idivc, t_iremc, t_ldivc, t_lremc, t_acopy, upd2_at, i10, i11, n10, a, b]
      refine ⟨fun c3 => ?_, fun c3 => ?_⟩
      · have : g = 10 := by omega
        subst this
        exact ih _ _ (by omega) ⟨by omega, by omega, by rw [e, j2]⟩
      · have q3 := ow_le hw hn j0 (show g < 10 by omega) i0 (show p < 10 by omega)
        have q4 := ow_le hw hn i0 (show p < 10 by omega) j0 (show g < 10 by omega)
        unfold ow at q3 q4
        simp (disch := omega) only [w32_s]
        refine ⟨by decide, by decide, by omega, by omega, by decide, by decide, by omega, by omega, ih2 _ _ (by omega) ⟨by omega, by omega, ?_⟩⟩
        rw [sumZ_s _ j0, j2]; unfold ow; omega
    · exact ih _ _ (by omega) ⟨by omega, by omega, by rw [hs, if_neg c2, i2]; omega⟩
def dbt (w : Int → Int) (x y : Int) : Int := if 0 < ow w x y ∨ 0 < ow w y x then 1 else 0
theorem dbt_c (w : Int → Int) (x y : Int) : dbt w x y = dbt w y x := by unfold dbt; grind
def debC (w : Int → Int) (n : Int) : Int := sumZ (fun x => sumZ (fun y => dbt w x y) x) n
def debR (w : Int → Int) (n : Int) : Int := sumZ (fun x => sumZ (fun y => if x < y then dbt w x y else 0) 10) n
theorem deb_eq {w : Int → Int} (hw : WFw w) (hn : WFn w) : debC w (w 5) = debR w 10 := by
  have hn' := hn
  unfold WFn at hn'
  have z : ∀ x y, 0 ≤ x → x < 10 → 0 ≤ y → y < 10 → (w 5 ≤ x ∨ w 5 ≤ y) → dbt w x y = 0 := by
    intro x y h0 h1 h2 h3 h4
    have p := hw.1 x y h0 h1 h2 h3
    have q := hw.1 y x h2 h3 h0 h1
    unfold dbt
    rw [if_neg (by omega)]
  have e : debC w (w 5) = debC w 10 := by
    have key : ∀ d : Nat, w 5 + d ≤ 10 → debC w (w 5 + d) = debC w (w 5) := by
      intro d
      induction d with
      | zero => intro _; simp
      | succ d ih =>
        intro hd
        have : debC w (w 5 + d + 1) = debC w (w 5 + d) + _ := sumZ_s _ (by omega)
        rw [show w 5 + ((d + 1 : Nat) : Int) = w 5 + d + 1 by omega, this, ih (by omega)]
        rw [sumZ_z (fun k k0 k1 => z _ _ (by omega) (by omega) (by omega) (by omega) (by omega))]; omega
    have := key (10 - w 5).toNat (by omega)
    rw [← this]; congr 1; omega
  rw [e]
  have c := dbt_c w
  unfold debC debR sumZ foldZ
  simp [foldN]
  rw [c 1 0, c 2 0, c 2 1, c 3 0, c 3 1, c 3 2, c 4 0, c 4 1, c 4 2, c 4 3, c 5 0, c 5 1, c 5 2, c 5 3, c 5 4, c 6 0, c 6 1, c 6 2, c 6 3, c 6 4, c 6 5, c 7 0, c 7 1, c 7 2, c 7 3, c 7 4, c 7 5, c 7 6, c 8 0, c 8 1, c 8 2, c 8 3, c 8 4, c 8 5, c 8 6, c 8 7, c 9 0, c 9 1, c 9 2, c 9 3, c 9 4, c 9 5, c 9 6, c 9 7, c 9 8]
  omega
def debtsS (w : Int → Int) : Ans := (debC w (w 5), 0, none)
theorem debI_le (w : Int → Int) (x : Int) {p : Int} (h : 0 ≤ p) : 0 * p ≤ sumZ (fun y => dbt w x y) p ∧ sumZ (fun y => dbt w x y) p ≤ 1 * p :=
  sumZ_le (n := p) (fun k _ _ => by unfold dbt; split <;> omega) h (Int.le_refl _)
theorem debJ_le (w : Int → Int) (x : Int) {p : Int} (h : 0 ≤ p) : 0 * p ≤ sumZ (fun y => if x < y then dbt w x y else 0) p ∧ sumZ (fun y => if x < y then dbt w x y else 0) p ≤ 1 * p :=
  sumZ_le (n := p) (fun k _ _ => by unfold dbt; split <;> (try split) <;> omega) h (Int.le_refl _)
theorem debC_le (w : Int → Int) {p : Int} (h : 0 ≤ p) (h1 : p ≤ 10) : 0 * p ≤ debC w p ∧ debC w p ≤ 10 * p :=
  sumZ_le (n := 10) (fun k k0 k1 => by have := debI_le w k k0; omega) h h1
theorem debR_le (w : Int → Int) {p : Int} (h : 0 ≤ p) (h1 : p ≤ 10) : 0 * p ≤ debR w p ∧ debR w p ≤ 10 * p :=
  sumZ_le (n := 10) (fun k k0 k1 => by have := debJ_le w k (p := 10) (by omega); omega) h h1
theorem c_debts {M : Mem} {v : Int} {w : Int → Int} (h : CI M v w) (hw : WFw w) (hn : WFn w) : Tot (f_X11_debts 1 M) (AC (debtsS w) M) := by
  have hn' := hn
  unfold WFn at hn'
  obtain ⟨a, b, c, d, e⟩ := ci_p h
  have b5 : M v 5 = w 5 := h.2.2.2.2.2.1.1.2.2.2.2.1
  have s0 := ac_st (kc M)
  unfold f_X11_debts debtsS
  refine lpII (fun x p => 0 ≤ p ∧ p ≤ w 5 ∧ x = debC w p) (fun _ p => (w 5 - p).toNat) ?_ (by unfold KF; omega) ⟨by omega, by omega, rfl⟩
  rintro n x p ⟨i0, i1, i2⟩ ih
  have q := debC_le w i0 (by omega)
  have hs : debC w (p + 1) = debC w p + _ := sumZ_s _ i0
  unfold f_X11_debts_L4
  simp (disch := omega) only [t_ite, t_callp, t_call, t_callv, t_jn, t_retz, t_retzm, t_some, t_getf, t_putf, t_putz, t_seti, t_setz, t_geti, t_alen, t_nn, t_letv, t_idivc, t_iremc, t_ldivc, t_lremc, t_acopy, upd2_at, i10, i11, n10, a, c, b5, answer_e, w32_s]
  refine ⟨by decide, by decide, by omega, fun c1 => ?_, fun c1 => ?_⟩
  · have : p = w 5 := by omega
    subst this; rw [i2]; exact s0 _ _
  · refine lpII (fun y g => 0 ≤ g ∧ g ≤ p ∧ y = x + sumZ (fun y => dbt w p y) g) (fun _ g => (p - g).toNat) ?_ (by unfold KF; omega) ⟨by omega, by omega, by rw [sumZ_0]; omega⟩
    rintro n2 y g ⟨j0, j1, j2⟩ ih2
    have q2 := debI_le w p j0
    unfold f_X11_debts_L20
    rw [t_ite]
    refine ⟨fun c3 => ?_, fun c3 => ?_⟩
    · have : g = p := by omega
      subst this
      exact ih _ _ (by omega) ⟨by omega, by omega, by rw [hs, j2, i2]⟩
    · have hd : dbt w p g = if 0 < ow w p g ∨ 0 < ow w g p then 1 else 0 := rfl
      have hs2 : sumZ (fun y => dbt w p y) (g + 1) = _ := sumZ_s _ j0
      have d1 := debt_e h i0 (show p < 10 by omega) j0 (show g < 10 by omega)
      have d2 := debt_e h j0 (show g < 10 by omega) i0 (show p < 10 by omega)
      simp (disch := omega) only [t_ite, t_callp, t_call, t_callv, t_jn, t_retz, t_retzm, t_some, t_getf, t_putf, t_putz, t_seti, t_setz, t_geti, t_alen, t_nn, t_letv, t_idivc, t_iremc, t_ldivc, t_lremc, t_acopy, upd2_at, i10, i11, n10, a, d, d1, d2, w32_s]
      refine ⟨by decide, by decide, by decide, fun c4 => ⟨by simp, fun _ => ih2 _ _ (by omega) ⟨by omega, by omega, ?_⟩⟩, fun c4 => ⟨by decide, by decide, by decide, fun c5 => ⟨fun _ => ih2 _ _ (by omega) ⟨by omega, by omega, ?_⟩, by simp⟩, fun c5 => ⟨by simp, fun _ => ih2 _ _ (by omega) ⟨by omega, by omega, ?_⟩⟩⟩⟩
      · rw [hs2, hd, if_pos (by omega), j2]; omega
      · rw [hs2, hd, if_neg (by omega), j2]; omega
      · rw [hs2, hd, if_pos (by omega), j2]; omega
theorem r_debts {M : Mem} (h : LR M) (hw : WFw (M 120)) (hn : WFn (M 120)) : Tot (f_X12_debts 119 M) (AR (debtsS (M 120)) M) := by
  have hn' := hn
  unfold WFn at hn'
  obtain ⟨a, b⟩ := lr_a h
  have s0 := ar_st (kr M)
  unfold f_X12_debts debtsS
  rw [deb_eq hw hn]
  refine lpII (fun x p => 0 ≤ p ∧ p ≤ 10 ∧ x = debR (M 120) p) (fun _ p => (10 - p).toNat) ?_ (by unfold KF; omega) ⟨by omega, by omega, rfl⟩
  rintro n x p ⟨i0, i1, i2⟩ ih
  have q := debR_le (M 120) i0 (by omega)
  have hs : debR (M 120) (p + 1) = debR (M 120) p + _ := sumZ_s _ i0
  unfold f_X12_debts_L4
  simp (disch := omega) only [t_ite, t_callp, t_call, t_callv, t_jn, t_retz, t_retzm, t_some, t_getf, t_putf, t_putz, t_seti, t_setz, t_geti, t_alen, t_nn, t_letv, t_idivc, t_iremc, t_ldivc, t_lremc, t_acopy, upd2_at, i10, i11, n10, a, b, gives_e, w32_s]
  refine ⟨fun c1 => ?_, fun c1 => ?_⟩
  · have : p = 10 := by omega
    subst this; rw [i2]; exact s0 _ _
  · refine lpII (fun y g => p + 1 ≤ g ∧ g ≤ 10 ∧ y = x + sumZ (fun y => if p < y then dbt (M 120) p y else 0) g) (fun _ g => (10 - g).toNat) ?_ (by unfold KF; omega) ⟨by omega, by omega, by rw [sumZ_z (fun k _ k1 => by rw [if_neg (by omega)])]; omega⟩
    rintro n2 y g ⟨j0, j1, j2⟩ ih2
    have q2 := debJ_le (M 120) p (p := g) (by omega)
    unfold f_X12_debts_L14
    simp only [t_ite]
    refine ⟨fun c3 => ?_, fun c3 => ?_⟩
    · have : g = 10 := by omega
      subst this
      exact ih _ _ (by omega) ⟨by omega, by omega, by rw [hs, j2, i2]⟩
    · have hd : dbt (M 120) p g = if 0 < ow (M 120) p g ∨ 0 < ow (M 120) g p then 1 else 0 := rfl
      have hs2 : sumZ (fun y => if p < y then dbt (M 120) p y else 0) (g + 1) = _ := sumZ_s _ (by omega)
      have q3 := ow_le hw hn i0 (show p < 10 by omega) (show 0 ≤ g by omega) (by omega)
      have q4 := ow_le hw hn (show 0 ≤ g by omega) (show g < 10 by omega) i0 (show p < 10 by omega)
      unfold ow at q3 q4 hd
      simp (disch := omega) only [t_ite, t_callp, t_call, t_callv, t_jn, t_retz, t_retzm, t_some, t_getf, t_putf, t_putz, t_seti, t_setz, t_geti, t_alen, t_nn, t_letv, t_idivc, t_iremc, t_ldivc, t_lremc, t_acopy, upd2_at, i10, i11, n10, a, b, w32_s]
      refine ⟨by decide, by decide, by omega, by omega, by decide, by decide, by omega, by omega, fun c4 => ih2 _ _ (by omega) ⟨by omega, by omega, ?_⟩, fun c4 => ih2 _ _ (by omega) ⟨by omega, by omega, ?_⟩⟩
      · rw [hs2, if_pos (by omega), hd, if_neg (by omega), j2]; omega
      · rw [hs2, if_pos (by omega), hd, if_pos (by omega), j2]; omega
