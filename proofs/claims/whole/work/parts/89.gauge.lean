/-! folds; gauges -/
def foldN {α : Type} (f : Int → α → α) (a : α) : Nat → α
  | 0 => a
  | n + 1 => f n (foldN f a n)
def foldZ {α : Type} (f : Int → α → α) (a : α) (p : Int) : α := foldN f a p.toNat
theorem foldZ_0 {α : Type} (f : Int → α → α) (a : α) : foldZ f a 0 = a := rfl
theorem foldZ_s {α : Type} (f : Int → α → α) (a : α) {p : Int} (h : 0 ≤ p) : foldZ f a (p + 1) = f p (foldZ f a p) := by
  unfold foldZ
  have e : (p + 1).toNat = p.toNat + 1 := by omega
  rw [e]; show f ((p.toNat : Nat) : Int) _ = _
  rw [Int.toNat_of_nonneg h]
theorem foldZ_congr {α : Type} {f g : Int → α → α} {a : α} {p : Int} (h : ∀ k x, 0 ≤ k → k < p → f k x = g k x) : foldZ f a p = foldZ g a p := by
  unfold foldZ
  have key : ∀ n : Nat, (n : Int) ≤ p → foldN f a n = foldN g a n := by
    intro n
    induction n with
    | zero => intro _; rfl
    | succ n ih =>
      intro hn
      show f n (foldN f a n) = g n (foldN g a n)
      rw [ih (by omega), h n _ (by omega) (by omega)]
  by_cases hp : 0 ≤ p
  · exact key _ (by omega)
  · have : p.toNat = 0 := by omega
    rw [this]; rfl
theorem foldZ_inv {α : Type} {f : Int → α → α} {a : α} (P : Int → α → Prop) (h0 : P 0 a) {n : Int} (hs : ∀ k x, 0 ≤ k → k < n → P k x → P (k + 1) (f k x)) {p : Int} (hp : 0 ≤ p) (hpn : p ≤ n) : P p (foldZ f a p) := by
  unfold foldZ
  have key : ∀ m : Nat, (m : Int) ≤ n → P m (foldN f a m) := by
    intro m
    induction m with
    | zero => intro _; exact h0
    | succ m ih =>
      intro hm
      have := hs m _ (by omega) (by omega) (ih (by omega))
      rw [show ((m + 1 : Nat) : Int) = (m : Int) + 1 by omega]
      exact this
  have := key p.toNat (by omega)
  rwa [Int.toNat_of_nonneg hp] at this
def okIn (g : Int → Int) (most : Int) (n : Int) : Bool := foldZ (fun k b => b && (decide (-1 ≤ g k) && decide (g k ≤ most))) true n
theorem okIn_s {g : Int → Int} {most p : Int} (h : 0 ≤ p) : okIn g most (p + 1) = (okIn g most p && (decide (-1 ≤ g p) && decide (g p ≤ most))) := foldZ_s _ _ h
theorem okIn_le {g : Int → Int} {most n : Int} (h : okIn g most n = true) {k : Int} (h0 : 0 ≤ k) (h1 : k < n) : -1 ≤ g k ∧ g k ≤ most := by
  have key : ∀ (d : Nat) (n : Int), n = k + 1 + d → okIn g most n = true → -1 ≤ g k ∧ g k ≤ most := by
    intro d
    induction d with
    | zero =>
      intro n hn h
      rw [show n = k + 1 by omega, okIn_s h0] at h
      simp at h; exact h.2
    | succ d ih =>
      intro n hn h
      rw [show n = k + 1 + d + 1 by omega, okIn_s (by omega)] at h
      simp at h
      exact ih _ rfl h.1
  exact key (n - k - 1).toNat n (by omega) h
theorem okIn_congr {g f : Int → Int} {most n : Int} (h : ∀ k, 0 ≤ k → k < n → g k = f k) : okIn g most n = okIn f most n :=
  foldZ_congr (fun k x h0 h1 => by rw [h k h0 h1])
def whyG (t c n most : Int) (g : Int → Int) : Int := if ¬ (0 ≤ t ∧ t < 4) then 1 else if n = -1 then 2 else if n < c then 3 else if okIn g most c then 0 else 5
theorem whyNoGauge_e {M : Mem} (h : LTr M) (hm : ∀ t, 0 ≤ t → t < 4 → -1 ≤ M 9 t ∧ M 9 t ≤ 60) (t c most : Int) (hc : 0 ≤ c) : f_X7_whyNoGauge 2 t c most M = some (whyG t c (M 9 t) most (M (4 + t))) := by
  rw [← t_eq]
  have h' := h
  obtain ⟨h1, h2, h3, h4, h5, h6, h7, h8, h9⟩ := h
  unfold whyG
  simp only [f_X7_whyNoGauge, isTray_e, t_ite, t_callp, t_call, t_callv, t_jn, t_retz, t_retzm, t_some, t_getf, t_putf, t_putz, t_seti, t_setz, t_geti, t_alen, t_nn, t_letv, t_idivc, t_iremc, t_ldivc, t_lremc, t_acopy, upd2_at, i10, i11, n10, h4, h7]
  refine ⟨fun c1 => ?_, by grind⟩
  rw [isMissing_e h' (by omega) (by omega), t_some]
  simp only [i10]
  have e1 := h8 t (by omega) (by omega)
  have e3 := h9 (4 + t) (by omega) (by omega)
  have e5 := hm t (by omega) (by omega)
  refine ⟨fun c2 => ⟨by decide, by decide, by omega, by omega, fun c3 => ?_, by grind⟩, by grind⟩
  refine lpI (fun p => 0 ≤ p ∧ p ≤ c ∧ okIn (M (4 + t)) most p = true) (fun p => (c - p).toNat) ?_ (by unfold KF; omega) ⟨by omega, by omega, rfl⟩
  rintro n p ⟨i0, i1, i2⟩ ih
  unfold f_X7_whyNoGauge_L34
  simp only [t_ite, t_callp, t_call, t_callv, t_jn, t_retz, t_retzm, t_some, t_getf, t_putf, t_putz, t_seti, t_setz, t_geti, t_alen, t_nn, t_letv, t_idivc, t_iremc, t_ldivc, t_lremc, t_acopy, upd2_at, i10, i11, n10, h2, e1, h5, e3]
  refine ⟨fun c4 => ?_, fun c4 => ⟨by decide, by decide, by omega, by omega, by omega, by omega, by omega, fun c5 => ?_, fun c5 => ⟨by decide, by decide, by omega, by omega, by omega, by omega, by omega, fun c6 => ?_, fun c6 => ?_⟩⟩⟩
  · have : p = c := by omega
    subst this
    grind
  · have : ¬ okIn (M (4 + t)) most c = true := fun q => by have := okIn_le q i0 (by omega); omega
    grind
  · rw [w32_s (by omega) (by omega)]
    refine ih _ (by omega) ⟨by omega, by omega, ?_⟩
    rw [okIn_s i0, i2]; simp; omega
  · have : ¬ okIn (M (4 + t)) most c = true := fun q => by have := okIn_le q i0 (by omega); omega
    grind
theorem wrongGauge_e {M : Mem} (h : LTrR M) (hm : ∀ t, 0 ≤ t → t < 4 → -1 ≤ M 123 t ∧ M 123 t ≤ 60) (t c most : Int) (hc : 0 ≤ c) (hc' : c ≤ 60) : f_X12_wrongGauge 119 t c most M = some (whyG t c (M 123 t) most (fun k => M 124 (60 * t + k))) := by
  rw [← t_eq]
  obtain ⟨h1, h2, h3, h4, h5, h6⟩ := h
  unfold whyG
  simp only [f_X12_wrongGauge, isTrayR_e, t_ite, t_callp, t_call, t_callv, t_jn, t_retz, t_retzm, t_some, t_getf, t_putf, t_putz, t_seti, t_setz, t_geti, t_alen, t_nn, t_letv, t_idivc, t_iremc, t_ldivc, t_lremc, t_acopy, upd2_at, i10, i11, n10, h2, h5]
  refine ⟨by grind, fun c1 => ⟨by omega, fun _ => ⟨fun _ => ⟨by decide, by decide, by omega, by omega, fun c2 => ⟨by decide, by decide, by omega, by omega, fun c3 => ?_, by grind⟩, by grind⟩, by omega⟩⟩⟩
  have e5 := hm t (by omega) (by omega)
  refine lpI (fun p => 0 ≤ p ∧ p ≤ c ∧ okIn (fun k => M 124 (60 * t + k)) most p = true) (fun p => (c - p).toNat) ?_ (by unfold KF; omega) ⟨by omega, by omega, rfl⟩
  rintro n p ⟨i0, i1, i2⟩ ih
  unfold f_X12_wrongGauge_L46
  simp (disch := omega) only [t_ite, t_callp, t_call, t_callv, t_jn, t_retz, t_retzm, t_some, t_getf, t_putf, t_putz, t_seti, t_setz, t_geti, t_alen, t_nn, t_letv, t_idivc, t_iremc, t_ldivc, t_lremc, t_acopy, upd2_at, i10, i11, n10, h3, h6, w32_s]
  refine ⟨fun c4 => ?_, fun c4 => ⟨by decide, by decide, by omega, by omega, fun c5 => ?_, fun c5 => ⟨by decide, by decide, by omega, by omega, fun c6 => ?_, fun c6 => ?_⟩⟩⟩
  · have : p = c := by omega
    subst this
    grind
  · have : ¬ okIn (fun k => M 124 (60 * t + k)) most c = true := fun q => by have := okIn_le q i0 (by omega); omega
    grind
  · have e : w32 (60 * t) = 60 * t := w32_s (by omega) (by omega)
    refine ih _ (by omega) ⟨by omega, by omega, ?_⟩
    rw [okIn_s i0, i2]; simp at c5 c6 ⊢; omega
  · have : ¬ okIn (fun k => M 124 (60 * t + k)) most c = true := fun q => by have := okIn_le q i0 (by omega); omega
    grind
def meanF (g : Int → Int) (n : Int) : Int × Int := foldZ (fun k x => if g k = -1 then x else (x.1 + g k, x.2 + 1)) (0, 0) n
theorem meanF_s {g : Int → Int} {p : Int} (h : 0 ≤ p) : meanF g (p + 1) = if g p = -1 then meanF g p else ((meanF g p).1 + g p, (meanF g p).2 + 1) := foldZ_s _ _ h
theorem meanF_le {g : Int → Int} {n : Int} (h : okIn g 999999 n = true) {p : Int} (h0 : 0 ≤ p) (h1 : p ≤ n) : 0 ≤ (meanF g p).1 ∧ (meanF g p).1 ≤ 999999 * p ∧ 0 ≤ (meanF g p).2 ∧ (meanF g p).2 ≤ p :=
  foldZ_inv (fun p (x : Int × Int) => 0 ≤ x.1 ∧ x.1 ≤ 999999 * p ∧ 0 ≤ x.2 ∧ x.2 ≤ p) (by simp) (n := n) (fun k x hk hk1 hx => by
    have := okIn_le h hk hk1
    try simp only at hx ⊢
    split <;> refine ⟨?_, ?_, ?_, ?_⟩ <;> omega) h0 h1
theorem meanF_congr {g f : Int → Int} {n : Int} (h : ∀ k, 0 ≤ k → k < n → g k = f k) : meanF g n = meanF f n :=
  foldZ_congr (fun k x h0 h1 => by rw [h k h0 h1])
def gapF (g : Int → Int) (n : Int) : Int × Int := foldZ (fun k x => (if x.1 < (if g k = -1 then x.2 + 1 else 0) then (if g k = -1 then x.2 + 1 else 0) else x.1, if g k = -1 then x.2 + 1 else 0)) (0, 0) n
theorem gapF_s {g : Int → Int} {p : Int} (h : 0 ≤ p) : gapF g (p + 1) = (if (gapF g p).1 < (if g p = -1 then (gapF g p).2 + 1 else 0) then (if g p = -1 then (gapF g p).2 + 1 else 0) else (gapF g p).1, if g p = -1 then (gapF g p).2 + 1 else 0) := foldZ_s _ _ h
theorem gapF_le {g : Int → Int} {p : Int} (h0 : 0 ≤ p) : 0 ≤ (gapF g p).2 ∧ (gapF g p).2 ≤ p :=
  foldZ_inv (fun p (x : Int × Int) => 0 ≤ x.2 ∧ x.2 ≤ p) (by simp) (n := p) (fun k x hk hk1 hx => by
    try simp only at hx ⊢
    split <;> omega) h0 (Int.le_refl _)
theorem gapF_congr {g f : Int → Int} {n : Int} (h : ∀ k, 0 ≤ k → k < n → g k = f k) : gapF g n = gapF f n :=
  foldZ_congr (fun k x h0 h1 => by rw [h k h0 h1])
def whyM (t c n : Int) (g : Int → Int) : Int := if 1 ≤ c ∧ c ≤ 60 then whyG t c n 999999 g else 1
theorem whyG_0 {t c n most : Int} {g : Int → Int} (h : whyG t c n most g = 0) : 0 ≤ t ∧ t < 4 ∧ n ≠ -1 ∧ c ≤ n ∧ okIn g most c = true := by unfold whyG at h; grind
theorem whyM_0 {t c n : Int} {g : Int → Int} (h : whyM t c n g = 0) : 1 ≤ c ∧ c ≤ 60 ∧ 0 ≤ t ∧ t < 4 ∧ c ≤ n ∧ okIn g 999999 c = true := by
  unfold whyM at h
  by_cases hc : 1 ≤ c ∧ c ≤ 60
  · rw [if_pos hc] at h
    have := whyG_0 h
    exact ⟨hc.1, hc.2, this.1, this.2.1, this.2.2.2.1, this.2.2.2.2⟩
  · rw [if_neg hc] at h; omega
theorem whyG_ge {t c n most : Int} {g : Int → Int} : 0 ≤ whyG t c n most g := by unfold whyG; grind
/-- what tells a fraction does to the memory: class, reference -/
def frC (M : Mem) (n d : Int) : Mem := upd2 (upd2 (upd2 M 1 13 (ldivv n (gcdI n d))) 1 14 (ldivv d (gcdI n d))) 1 12 0
def frR (M : Mem) (n d : Int) : Mem := upd2 (upd2 (upd2 M 119 3 (ldivv n (gcdI n d))) 119 4 (ldivv d (gcdI n d))) 119 2 0
theorem c_mean {M : Mem} {Q : Int × Mem → Prop} (h : LTr M) (hm : ∀ t, 0 ≤ t → t < 4 → -1 ≤ M 9 t ∧ M 9 t ≤ 60) (t m : Int) (hb : whyM t m (M 9 t) (M (4 + t)) ≠ 0 → Q (0, upd2 M 1 12 (whyM t m (M 9 t) (M (4 + t))))) (h6 : whyM t m (M 9 t) (M (4 + t)) = 0 → (meanF (M (4 + t)) m).2 = 0 → Q (0, upd2 M 1 12 6)) (hg : whyM t m (M 9 t) (M (4 + t)) = 0 → (meanF (M (4 + t)) m).2 ≠ 0 → Q (1, frC M (meanF (M (4 + t)) m).1 (meanF (M (4 + t)) m).2)) : Tot (f_X11_mean 1 t m M) Q := by
  have h' := h
  obtain ⟨h1, h2, h3, h4, h5, h6', h7, h8, h9⟩ := h
  have fin : ∀ y, y = whyM t m (M 9 t) (M (4 + t)) → Tot (if y = 0 then (f_X11_mean_L46 M 1 t m (fun (q19 : Int) (q20 : Int) => jn (fun (q21 : Int) (M22 : Mem) => retzm q21 M22) (fun j120 => if q20 ≠ 0 then (call (f_X11_tellFraction 1 q19 q20 M) (fun v23 M24 => j120 v23 M24)) else (call (f_X11_settle 1 6 M) (fun v25 M26 => j120 v25 M26)))) KF 0 0 0) else (call (f_X11_settle 1 y M) (fun v27 M28 => retzm v27 M28))) Q := by
    intro y hy
    subst hy
    rw [t_ite]
    refine ⟨fun c => ?_, fun c => ?_⟩
    · obtain ⟨g1, g2, g3, g4, g5, g6⟩ := whyM_0 c
      have e1 := h8 t (by omega) (by omega)
      have e3 := h9 (4 + t) (by omega) (by omega)
      have e5 := hm t (by omega) (by omega)
      refine lpIII (fun a b p => 0 ≤ p ∧ p ≤ m ∧ (a, b) = meanF (M (4 + t)) p) (fun a b p => (m - p).toNat) ?_ (by unfold KF; omega) ⟨by omega, by omega, rfl⟩
      rintro n a b p ⟨i0, i1, i2⟩ ih
      have hle := meanF_le g6 i0 i1
      have i3 : (meanF (M (4 + t)) p).1 = a := by rw [← i2]
      have i4 : (meanF (M (4 + t)) p).2 = b := by rw [← i2]
      rw [i3, i4] at hle
      have hs := meanF_s (g := M (4 + t)) i0
      rw [i3, i4, ← i2] at hs
      unfold f_X11_mean_L46
      simp only [t_ite, t_jn]
      refine ⟨fun c4 => ?_, fun c4 => ?_⟩
      · have : p = m := by omega
        subst this
        simp only [i3, i4] at h6 hg
        refine ⟨fun cb => ?_, fun cb => ?_⟩
        · rw [t_call, tellFraction_e M hle.1 (by omega) (by omega) (by omega), t_some, t_retzm]
          exact ⟨by simp, hg c cb⟩
        · rw [t_call, settle_e, t_some, t_retzm]
          exact ⟨by simp, h6 c (by simpa using cb)⟩
      · have q := okIn_le g6 i0 (by omega)
        simp only [t_ite, t_callp, t_call, t_callv, t_jn, t_retz, t_retzm, t_some, t_getf, t_putf, t_putz, t_seti, t_setz, t_geti, t_alen, t_nn, t_letv, t_idivc, t_iremc, t_ldivc, t_lremc, t_acopy, upd2_at, i10, i11, n10, h1, h2, h5, e1, e3]
        simp (disch := omega) only [w32_s, w64_s]
        refine ⟨by decide, by decide, by decide, by omega, by omega, by omega, by omega, by omega, fun c5 => ?_, fun c5 => ⟨by decide, by decide, by decide, by omega, by omega, by omega, by omega, by omega, ?_⟩⟩
        · exact ih _ _ _ (by omega) ⟨by omega, by omega, by rw [hs, if_pos c5]⟩
        · exact ih _ _ _ (by omega) ⟨by omega, by omega, by rw [hs, if_neg c5]⟩
    · rw [t_call, settle_e, t_some, t_retzm, if_neg c]
      exact ⟨by simp, hb c⟩
  simp only [f_X11_mean, isWithin_e, t_callp, t_some, t_jn, t_ite, i10, t_getf, t_nn, h1]
  refine ⟨fun c => t_ite.mp (fin 1 (by unfold whyM; rw [if_neg c])), fun c => ⟨by decide, by decide, ?_⟩⟩
  have c' : 1 ≤ m ∧ m ≤ 60 := by simpa using c
  rw [whyNoGauge_e h' hm t m 999999 (by omega), t_some]
  exact t_ite.mp (fin _ (by unfold whyM; rw [if_pos c']))
theorem c_gaps {M : Mem} {Q : Int × Mem → Prop} (h : LTr M) (hm : ∀ t, 0 ≤ t → t < 4 → -1 ≤ M 9 t ∧ M 9 t ≤ 60) (t m : Int) (hb : whyM t m (M 9 t) (M (4 + t)) ≠ 0 → Q (-1, upd2 M 1 12 (whyM t m (M 9 t) (M (4 + t))))) (hg : whyM t m (M 9 t) (M (4 + t)) = 0 → Q ((gapF (M (4 + t)) m).1, upd2 M 1 12 0)) : Tot (f_X11_gaps 1 t m M) Q := by
  have h' := h
  obtain ⟨h1, h2, h3, h4, h5, h6', h7, h8, h9⟩ := h
  have fin : ∀ y, y = whyM t m (M 9 t) (M (4 + t)) → Tot (if y = 0 then (f_X11_gaps_L46 M 1 t m (fun (q13 : Int) => call (f_X11_answer 1 q13 M) (fun v14 M15 => some (v14, M15))) KF 0 0 0) else (call (f_X11_refuse 1 y M) (fun v16 M17 => some (v16, M17)))) Q := by
    intro y hy
    subst hy
    rw [t_ite]
    refine ⟨fun c => ?_, fun c => ?_⟩
    · obtain ⟨g1, g2, g3, g4, g5, g6⟩ := whyM_0 c
      have e1 := h8 t (by omega) (by omega)
      have e3 := h9 (4 + t) (by omega) (by omega)
      have e5 := hm t (by omega) (by omega)
      refine lpIII (fun a b p => 0 ≤ p ∧ p ≤ m ∧ (a, b) = gapF (M (4 + t)) p) (fun a b p => (m - p).toNat) ?_ (by unfold KF; omega) ⟨by omega, by omega, rfl⟩
      rintro n a b p ⟨i0, i1, i2⟩ ih
      have hle := gapF_le (g := M (4 + t)) i0
      have i3 : (gapF (M (4 + t)) p).1 = a := by rw [← i2]
      have i4 : (gapF (M (4 + t)) p).2 = b := by rw [← i2]
      rw [i4] at hle
      have hs := gapF_s (g := M (4 + t)) i0
      rw [i3, i4] at hs
      unfold f_X11_gaps_L46
      simp only [t_ite, t_callp, t_call, t_callv, t_jn, t_retz, t_retzm, t_some, t_getf, t_putf, t_putz, t_seti, t_setz, t_geti, t_alen, t_nn, t_letv, t_idivc, t_iremc, t_ldivc, t_lremc, t_acopy, upd2_at, i10, i11, n10, h1, h2, h5, e1, e3, max_e, answer_e]
      simp (disch := omega) only [w32_s]
      refine ⟨fun c4 => ?_, fun c4 => ⟨by decide, by decide, by decide, by omega, by omega, by omega, by omega, by omega, fun c5 => ?_, fun c5 => ?_⟩⟩
      · have : p = m := by omega
        subst this
        rw [i3] at hg
        exact hg c
      · refine ih _ _ _ (by omega) ⟨by omega, by omega, ?_⟩
        rw [hs]; simp only [if_neg c5]
      · have c5' : M (4 + t) p = -1 := by simpa using c5
        refine ih _ _ _ (by omega) ⟨by omega, by omega, ?_⟩
        rw [hs]; simp only [if_pos c5']
    · rw [t_call, refuse_e, t_some, t_some]
      exact hb c
  simp only [f_X11_gaps, isWithin_e, t_callp, t_some, t_jn, t_ite, i10, t_getf, t_nn, h1]
  refine ⟨fun c => t_ite.mp (fin 1 (by unfold whyM; rw [if_neg c])), fun c => ⟨by decide, by decide, ?_⟩⟩
  have c' : 1 ≤ m ∧ m ≤ 60 := by simpa using c
  rw [whyNoGauge_e h' hm t m 999999 (by omega), t_some]
  exact t_ite.mp (fin _ (by unfold whyM; rw [if_pos c']))
theorem r_mean {M : Mem} {Q : Int × Mem → Prop} (h : LTrR M) (hm : ∀ t, 0 ≤ t → t < 4 → -1 ≤ M 123 t ∧ M 123 t ≤ 60) (t m : Int) {g : Int → Int} (hgd : g = fun k => M 124 (60 * t + k)) (hb : whyM t m (M 123 t) g ≠ 0 → Q (0, upd2 M 119 2 (whyM t m (M 123 t) g))) (h6 : whyM t m (M 123 t) g = 0 → (meanF g m).2 = 0 → Q (0, upd2 M 119 2 6)) (hg : whyM t m (M 123 t) g = 0 → (meanF g m).2 ≠ 0 → Q (1, frR M (meanF g m).1 (meanF g m).2)) : Tot (f_X12_mean 119 t m M) Q := by
  have h' := h
  obtain ⟨h1, h2, h3, h4, h5, h6'⟩ := h
  have fin : ∀ y, 0 ≤ y → y = whyM t m (M 123 t) g → Tot (if y ≤ 0 then (f_X12_mean_L38 M 119 t m (fun (q12 : Int) (q13 : Int) => jn (fun (q14 : Int) (M15 : Mem) => retzm q14 M15) (fun j109 => if q13 ≠ 0 then (call (f_X12_tellsBy 119 q12 q13 M) (fun v16 M17 => j109 v16 M17)) else (call (f_X12_is 119 6 M) (fun v18 M19 => j109 v18 M19)))) KF 0 0 0) else (call (f_X12_is 119 y M) (fun v20 M21 => retzm v20 M21))) Q := by
    intro y hy0 hy
    subst hy
    rw [t_ite]
    refine ⟨fun c => ?_, fun c => ?_⟩
    · have c : whyM t m (M 123 t) g = 0 := by omega
      obtain ⟨g1, g2, g3, g4, g5, g6⟩ := whyM_0 c
      have e5 := hm t (by omega) (by omega)
      refine lpIII (fun a b p => 0 ≤ p ∧ p ≤ m ∧ (a, b) = meanF g p) (fun a b p => (m - p).toNat) ?_ (by unfold KF; omega) ⟨by omega, by omega, rfl⟩
      rintro n a b p ⟨i0, i1, i2⟩ ih
      have hle := meanF_le g6 i0 i1
      have i3 : (meanF g p).1 = a := by rw [← i2]
      have i4 : (meanF g p).2 = b := by rw [← i2]
      rw [i3, i4] at hle
      have hs := meanF_s (g := g) i0
      rw [i3, i4, ← i2] at hs
      unfold f_X12_mean_L38
      simp only [t_ite, t_jn]
      refine ⟨fun c4 => ?_, fun c4 => ?_⟩
      · have : p = m := by omega
        subst this
        simp only [i3, i4] at h6 hg
        refine ⟨fun cb => ?_, fun cb => ?_⟩
        · rw [t_call, tellsBy_e M hle.1 (by omega) (by omega) (by omega), t_some, t_retzm]
          exact ⟨by simp, hg c cb⟩
        · rw [t_call, is_e, t_some, t_retzm]
          exact ⟨by simp, h6 c (by simpa using cb)⟩
      · have q := okIn_le g6 i0 (by omega)
        have eg : M 124 (60 * t + p) = g p := by rw [hgd]
        simp (disch := omega) only [t_ite, t_callp, t_call, t_callv, t_jn, t_retz, t_retzm, t_some, t_getf, t_putf, t_putz, t_seti, t_setz, t_geti, t_alen, t_nn, t_letv, t_idivc, t_iremc, t_ldivc, t_lremc, t_acopy, upd2_at, i10, i11, n10, h3, h6', w32_s]
        rw [eg]
        simp (disch := omega) only [w64_s]
        refine ⟨by decide, by decide, by omega, by omega, fun c5 => ?_, fun c5 => ?_⟩
        · exact ih _ _ _ (by omega) ⟨by omega, by omega, by rw [hs, if_neg c5]⟩
        · exact ih _ _ _ (by omega) ⟨by omega, by omega, by rw [hs, if_pos (by simpa using c5)]⟩
    · rw [t_call, is_e, t_some, t_retzm, if_neg (by omega)]
      exact ⟨by simp, hb (by omega)⟩
  simp only [f_X12_mean, t_callp, t_jn, t_ite]
  refine ⟨fun c => ?_, fun c => t_ite.mp (fin 1 (by omega) (by unfold whyM; rw [if_neg (by omega)]))⟩
  by_cases c' : m ≤ 60
  · rw [wrongGauge_e h' hm t m 999999 (by omega) c', t_some]
    exact t_ite.mp (fin _ whyG_ge (by unfold whyM; rw [if_pos ⟨c, c'⟩, hgd]))
  · have : f_X12_wrongGauge 119 t m 999999 M = some 1 := by
      rw [← t_eq]
      simp only [f_X12_wrongGauge, isTrayR_e, t_ite, t_callp, t_call, t_callv, t_jn, t_retz, t_retzm, t_some, t_getf, t_putf, t_putz, t_seti, t_setz, t_geti, t_alen, t_nn, t_letv, t_idivc, t_iremc, t_ldivc, t_lremc, t_acopy, upd2_at, i10, i11, n10]
      grind
    rw [this, t_some]
    exact t_ite.mp (fin 1 (by omega) (by unfold whyM; rw [if_neg (by omega)]))
theorem r_gaps {M : Mem} {Q : Int × Mem → Prop} (h : LTrR M) (hm : ∀ t, 0 ≤ t → t < 4 → -1 ≤ M 123 t ∧ M 123 t ≤ 60) (t m : Int) {g : Int → Int} (hgd : g = fun k => M 124 (60 * t + k)) (hb : whyM t m (M 123 t) g ≠ 0 → Q (-1, upd2 M 119 2 (whyM t m (M 123 t) g))) (hg : whyM t m (M 123 t) g = 0 → Q ((gapF g m).1, upd2 M 119 2 0)) : Tot (f_X12_gaps 119 t m M) Q := by
  have h' := h
  obtain ⟨h1, h2, h3, h4, h5, h6'⟩ := h
  have fin : ∀ y, 0 ≤ y → y = whyM t m (M 123 t) g → Tot (if y ≤ 0 then (f_X12_gaps_L38 M 119 t m (fun (q10 : Int) => call (f_X12_gives 119 q10 M) (fun v11 M12 => some (v11, M12))) KF 0 0 0) else (call (f_X12_refuse 119 y M) (fun v13 M14 => some (v13, M14)))) Q := by
    intro y hy0 hy
    subst hy
    rw [t_ite]
    refine ⟨fun c => ?_, fun c => ?_⟩
    · have c : whyM t m (M 123 t) g = 0 := by omega
      obtain ⟨g1, g2, g3, g4, g5, g6⟩ := whyM_0 c
      have e5 := hm t (by omega) (by omega)
      refine lpIII (fun a b p => 0 ≤ p ∧ p ≤ m ∧ (a, b) = gapF g p) (fun a b p => (m - p).toNat) ?_ (by unfold KF; omega) ⟨by omega, by omega, rfl⟩
      rintro n a b p ⟨i0, i1, i2⟩ ih
      have hle := gapF_le (g := g) i0
      have i3 : (gapF g p).1 = a := by rw [← i2]
      have i4 : (gapF g p).2 = b := by rw [← i2]
      rw [i4] at hle
      have hs := gapF_s (g := g) i0
      rw [i3, i4] at hs
      have eg : M 124 (60 * t + p) = g p := by rw [hgd]
      unfold f_X12_gaps_L38
      simp (disch := omega) only [t_ite, t_callp, t_call, t_callv, t_jn, t_retz, t_retzm, t_some, t_getf, t_putf, t_putz, t_seti, t_setz, t_geti, t_alen, t_nn, t_letv, t_idivc, t_iremc, t_ldivc, t_lremc, t_acopy, upd2_at, i10, i11, n10, h3, h6', max_e, gives_e, w32_s]
      rw [eg]
      refine ⟨fun c4 => ?_, fun c4 => ⟨by decide, by decide, by omega, by omega, fun c5 => ?_, fun c5 => ?_⟩⟩
      · have : p = m := by omega
        subst this
        rw [i3] at hg
        exact hg c
      · refine ih _ _ _ (by omega) ⟨by omega, by omega, ?_⟩
        rw [hs]; simp only [if_neg c5]
      · have c5' : g p = -1 := by simpa using c5
        refine ih _ _ _ (by omega) ⟨by omega, by omega, ?_⟩
        rw [hs]; simp only [if_pos c5']
    · rw [t_call, refuseR_e, t_some, t_some]
      exact hb (by omega)
  simp only [f_X12_gaps, t_callp, t_jn, t_ite]
  refine ⟨fun c => ?_, fun c => t_ite.mp (fin 1 (by omega) (by unfold whyM; rw [if_neg (by omega)]))⟩
  by_cases c' : m ≤ 60
  · rw [wrongGauge_e h' hm t m 999999 (by omega) c', t_some]
    exact t_ite.mp (fin _ whyG_ge (by unfold whyM; rw [if_pos ⟨c, c'⟩, hgd]))
  · have : f_X12_wrongGauge 119 t m 999999 M = some 1 := by
      rw [← t_eq]
      simp only [f_X12_wrongGauge, isTrayR_e, t_ite, t_callp, t_call, t_callv, t_jn, t_retz, t_retzm, t_some, t_getf, t_putf, t_putz, t_seti, t_setz, t_geti, t_alen, t_nn, t_letv, t_idivc, t_iremc, t_ldivc, t_lremc, t_acopy, upd2_at, i10, i11, n10]
      grind
    rw [this, t_some]
    exact t_ite.mp (fin 1 (by omega) (by unfold whyM; rw [if_neg (by omega)]))
