/-! slots lie one behind another -/
def cont : List Slo → Int → Int → Prop
  | [], a, b => a = b
  | s :: t, a, b => s.2.1 = a ∧ 0 < s.2.2 ∧ cont t (a + s.2.2) b
theorem cont_app : ∀ {L L' : List Slo} {a b c : Int}, cont L a b → cont L' b c → cont (L ++ L') a c := by
  intro L
  induction L with
  | nil => intro L' a b c h1 h2; unfold cont at h1; subst h1; exact h2
  | cons s t ih => intro L' a b c h1 h2; exact ⟨h1.1, h1.2.1, ih h1.2.2 h2⟩
theorem lsl_cont {w : Int → Int} (f : Int) : ∀ (n : Nat) (a : Int), (∀ i : Int, 0 ≤ i → i < n → 1 ≤ lo w i 2) → cont (lsl w f n a) a (a + sumZ (fun i => if lo w i 0 = f then lo w i 2 else 0) n) := by
  intro n
  induction n with
  | zero => intro a _; show a = a + 0; omega
  | succ n ih =>
    intro a h
    have e : sumZ (fun i => if lo w i 0 = f then lo w i 2 else 0) ((n + 1 : Nat) : Int) = _ := sumZ_s (fun i => if lo w i 0 = f then lo w i 2 else 0) (p := (n : Int)) (by omega)
    rw [e]
    unfold lsl
    have hn := h n (by omega) (by omega)
    split
    · refine ⟨rfl, by simp only; omega, ?_⟩
      have := ih (a + lo w n 2) (fun i h0 h1 => h i h0 (by omega))
      rwa [show a + (sumZ (fun i => if lo w i 0 = f then lo w i 2 else 0) (n : Int) + lo w n 2) = a + lo w n 2 + sumZ (fun i => if lo w i 0 = f then lo w i 2 else 0) (n : Int) by omega]
    · have := ih a (fun i h0 h1 => h i h0 (by omega))
      rwa [Int.add_zero]
theorem slots_cont {w : Int → Int} (hn : WFn w) (hl : WFl w) {k : Int} (h0 : 0 ≤ k) (h1 : k ≤ w 5) : cont (slotsTo w k) 0 (edge w k) := by
  unfold WFn at hn
  have := foldZ_inv (f := fun k (l : List Slo) => l ++ turnS w k) (a := []) (fun p (l : List Slo) => cont l 0 (edge w p)) (by rw [edge_0]; exact rfl) (n := w 5) (fun k x hk hk1 hx => by
    refine cont_app hx ?_
    unfold turnS
    have q := hl.2 k hk hk1
    have c1 : cont (ownS w k) (edge w k) (edge w k + leftK w k) := by
      unfold ownS
      split
      · exact ⟨rfl, by assumption, rfl⟩
      · show edge w k = edge w k + leftK w k; omega
    refine cont_app c1 ?_
    have c2 := lsl_cont (w := w) (od w k) (w 8).toNat (edge w k + leftK w k) (fun i i0 i1 => by have := hl.1 i i0 (by omega); omega)
    have e : edge w k + leftK w k + sumZ (fun i => if lo w i 0 = od w k then lo w i 2 else 0) ((w 8).toNat : Int) = edge w (k + 1) := by
      rw [Int.toNat_of_nonneg (by omega)]
      unfold leftK lentBy; omega
    rwa [e] at c2) h0 h1
  exact this
theorem slotsW_cont {w : Int → Int} (hn : WFn w) (hl : WFl w) : cont (slotsW w) 0 (edge w (w 5)) := slots_cont hn hl (by unfold WFn at hn; omega) (Int.le_refl _)
theorem cont_le : ∀ {L : List Slo} {a b : Int}, cont L a b → a ≤ b := by
  intro L
  induction L with
  | nil => intro a b h; unfold cont at h; omega
  | cons s t ih => intro a b h; have := ih h.2.2; have := h.2.1; omega
/-- the i-th slot -/
def sl (L : List Slo) (i : Int) : Slo := L.getD i.toNat (0, 0, 0)
theorem sl_cons {s : Slo} {t : List Slo} {i : Int} (h : 0 ≤ i) : sl (s :: t) (i + 1) = sl t i := by
  unfold sl; rw [show (i + 1).toNat = i.toNat + 1 by omega]; rfl
theorem sl_0 {s : Slo} {t : List Slo} : sl (s :: t) 0 = s := rfl
theorem cont_at : ∀ {L : List Slo} {a b : Int}, cont L a b → ∀ i : Int, 0 ≤ i → i < L.length → a ≤ (sl L i).2.1 ∧ 0 < (sl L i).2.2 ∧ (sl L i).2.1 + (sl L i).2.2 ≤ b ∧ (i = 0 → (sl L i).2.1 = a) ∧ (i + 1 < L.length → (sl L (i + 1)).2.1 = (sl L i).2.1 + (sl L i).2.2) ∧ (i + 1 = L.length → (sl L i).2.1 + (sl L i).2.2 = b) := by
  intro L
  induction L with
  | nil => intro a b _ i h0 h1; simp at h1; omega
  | cons s t ih =>
    intro a b h i h0 h1
    have hle := cont_le h.2.2
    obtain ⟨c1, c2, c3⟩ := h
    by_cases hi : i = 0
    · subst hi
      rw [sl_0]
      refine ⟨by omega, c2, by omega, fun _ => c1, fun h => ?_, fun h => ?_⟩
      · rw [sl_cons (by omega)]
        have := (ih c3 0 (by omega) (by simp at h; omega)).2.2.2.1 rfl
        omega
      · have : t = [] := by
          cases t with
          | nil => rfl
          | cons _ _ => simp at h; omega
        subst this
        unfold cont at c3; omega
    · obtain ⟨j, rfl⟩ : ∃ j, i = j + 1 := ⟨i - 1, by omega⟩
      have hl : ((s :: t).length : Int) = t.length + 1 := by simp
      have q := ih c3 j (by omega) (by omega)
      rw [sl_cons (by omega)]
      refine ⟨by omega, q.2.1, q.2.2.1, by omega, fun h => ?_, fun h => q.2.2.2.2.2 (by omega)⟩
      rw [show j + 1 + 1 = (j + 1) + 1 from rfl, sl_cons (by omega)]
      exact q.2.2.2.2.1 (by omega)
def whoL : List Slo → Int → Int × Int
  | [], _ => (-1, 6)
  | s :: t, m => if m < s.2.1 + s.2.2 then (s.1, 0) else whoL t m
theorem whoL_c (s : Slo) (t : List Slo) (m : Int) : whoL (s :: t) m = if m < s.2.1 + s.2.2 then (s.1, 0) else whoL t m := rfl
def whoseQ (w : Int → Int) (m : Int) : Ans := if 0 ≤ m ∧ m < w 1 then ((whoL (slotsW w) m).1, (whoL (slotsW w) m).2, none) else (-1, 1, none)
theorem drop_sl {L : List Slo} {i : Int} (h0 : 0 ≤ i) (h1 : i < L.length) : L.drop i.toNat = sl L i :: L.drop (i + 1).toNat := by
  have hk : i.toNat < L.length := by omega
  rw [List.drop_eq_getElem_cons hk, show (i + 1).toNat = i.toNat + 1 by omega]
  unfold sl; simp [List.getD, List.getElem?_eq_getElem hk]
theorem c_whose {M : Mem} {v : Int} {w : Int → Int} (h : CI M v w) (hn : WFn w) (hf : WFf w) (ho : WFo w) (hl : WFl w) (m : Int) : Tot (f_X11_whose 1 m M) (AC (whoseQ w m) M) := by
  have s0 := ac_st (kc M)
  have sw := slotsW_len hn ho
  have ct := slotsW_cont hn hl
  have hn' := hn
  unfold WFn at hn'
  have e5 := edge_le hn hf ho (k := w 5) (by omega) (Int.le_refl _)
  unfold f_X11_whose whoseQ
  rw [t_callp, isMinute_e h, t_some, t_ite, n10, t_call, t_call, refuse_e, t_some, t_some]
  refine ⟨fun h1 => ?_, fun h1 => by rw [if_neg h1]; exact s0 _ _⟩
  rw [if_pos h1]
  refine laidSlots_e h hn hf ho hl (fun M' k1 k2 k3 hc => ?_)
  dsimp only
  have s1 := ac_st (sc_s k1)
  obtain ⟨_, ⟨b1, b2, b3, b4, b5, b6⟩, ⟨c1, c2, c3, c4, c5, c6, _⟩⟩ := hc.2.2.2.2.1
  refine lpI (fun p => 0 ≤ p ∧ p ≤ (slotsW w).length ∧ whoL ((slotsW w).drop p.toNat) m = whoL (slotsW w) m) (fun p => ((slotsW w).length - p).toNat) ?_ (by unfold KF; omega) ⟨by omega, by omega, rfl⟩
  rintro n p ⟨i0, i1, i2⟩ ih
  unfold f_X11_whose_L21
  rw [t_getf, k2.1, t_ite]
  refine ⟨by decide, fun c => ?_, fun c => ?_⟩
  · rw [t_call, refuse_e, t_some, t_some]
    rw [List.drop_of_length_le (by omega)] at i2
    rw [← i2]; exact s1 _ _
  · have q := hc_at k2 i0 (by omega)
    have q2 := cont_at ct p i0 (by omega)
    rw [drop_sl i0 (by omega)] at i2
    unfold sl at q2 i2
    rw [whoL_c] at i2
    simp (disch := omega) only [t_ite, t_callp, t_call, t_callv, t_jn, t_retz, t_retzm, t_some, t_getf, t_putf, t_putz, t_seti, t_setz, t_geti, t_alen, t_nn, t_letv, t_idivc, t_iremc, t_ldivc, t_lremc, t_acopy, upd2_at, i10, i11, n10, b4, b5, b6, c4, c5, c6, q.1, q.2.1, q.2.2, answer_e, w32_s]
    refine ⟨by decide, by decide, by omega, by omega, by decide, by decide, by omega, by omega, fun c2 => ?_, fun c2 => ⟨by decide, by decide, by omega, by omega, ?_⟩⟩
    · rw [if_neg (by omega)] at i2
      exact ih _ (by omega) ⟨by omega, by omega, i2⟩
    · rw [if_pos (by omega)] at i2
      rw [← i2]; exact s1 _ _
theorem r_whose {M : Mem} (h : LR M) (hn : WFn (M 120)) (hf : WFf (M 120)) (ho : WFo (M 120)) (hl : WFl (M 120)) (m : Int) : Tot (f_X12_whose 119 m M) (AR (whoseQ (M 120) m) M) := by
  have s0 := ar_st (kr M)
  obtain ⟨a, b⟩ := lr_a h
  have sw := slotsW_len hn ho
  have ct := slotsW_cont hn hl
  have hn' := hn
  unfold WFn at hn'
  have e5 := edge_le hn hf ho (k := M 120 5) (by omega) (Int.le_refl _)
  unfold f_X12_whose whoseQ
  simp only [t_jn, t_ite, t_call, refuseR_e, t_some, t_callv, t_getf, t_geti, a, b]
  refine ⟨fun h1 => by rw [if_neg (by omega)]; exact s0 _ _, fun h1 => ⟨by decide, by decide, by decide, by decide, fun h2 => ?_, fun h2 => by rw [if_neg (by omega)]; exact s0 _ _⟩⟩
  rw [if_pos (by omega)]
  refine laysSlots_e h hn hf ho hl (fun M' k1 k2 => ?_)
  have s1 := ar_st (sr_s k1)
  have hc : LR M' := lr_s h (sr_s k1)
  obtain ⟨⟨a1, a2, a3, a4, a5, a6, a7, a8, a9, a10, a11, a12, a13, a14, a15, a16, a17⟩, ⟨c1, c2, c3, c4, c5, c6, c7, c8, c9, c10, c11, c12, c13, c14, c15, c16, c17⟩⟩ := hc
  refine lpI (fun p => 0 ≤ p ∧ p ≤ (slotsW (M 120)).length ∧ whoL ((slotsW (M 120)).drop p.toNat) m = whoL (slotsW (M 120)) m ∧ (p < (slotsW (M 120)).length → (sl (slotsW (M 120)) p).2.1 ≤ m)) (fun p => ((slotsW (M 120)).length - p).toNat) ?_ (by unfold KF; omega) ⟨by omega, by omega, rfl, fun hp => by have := (cont_at ct 0 (by omega) hp).2.2.2.1 rfl; omega⟩
  rintro n p ⟨i0, i1, i2, i3⟩ ih
  unfold f_X12_whose_L26
  rw [t_getf, k2.1, t_ite]
  refine ⟨by decide, fun c => ?_, fun c => ?_⟩
  · rw [List.drop_of_length_le (by omega)] at i2
    rw [← i2, t_call, t_some, t_some]; exact s1 _ _
  · have q := hs_at k2 i0 (by omega)
    have q2 := cont_at ct p i0 (by omega)
    have i3' := i3 (by omega)
    rw [drop_sl i0 (by omega)] at i2
    have q3 : (slotsW (M 120)).getD p.toNat (0, 0, 0) = sl (slotsW (M 120)) p := rfl
    rw [q3] at q
    rw [whoL_c] at i2
    simp (disch := omega) only [t_ite, t_callp, t_call, t_callv, t_jn, t_retz, t_retzm, t_some, t_getf, t_putf, t_putz, t_seti, t_setz, t_geti, t_alen, t_nn, t_letv, t_idivc, t_iremc, t_ldivc, t_lremc, t_acopy, upd2_at, i10, i11, n10, a11, a12, a13, c11, c12, c13, q.1, q.2.1, q.2.2, gives_e, w32_s]
    refine ⟨by decide, by decide, by omega, by omega, fun c2 => by omega, fun c2 => ⟨by decide, by decide, by omega, by omega, by decide, by decide, by omega, by omega, fun c3 => ?_, fun c3 => ⟨by decide, by decide, by omega, by omega, ?_⟩⟩⟩
    · rw [if_neg (by omega)] at i2
      exact ih _ (by omega) ⟨by omega, by omega, i2, fun hp => by have := q2.2.2.2.2.1 hp; omega⟩
    · rw [if_pos (by omega)] at i2
      rw [← i2]; exact s1 _ _
