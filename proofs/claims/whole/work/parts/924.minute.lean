/-! minute by minute -/
def fw (w : Int → Int) (m : Int) : Int := (whoL (slotsW w) m).1
theorem who_at : ∀ {L : List Slo} {a b : Int}, cont L a b → ∀ i m : Int, 0 ≤ i → i < L.length → (sl L i).2.1 ≤ m → m < (sl L i).2.1 + (sl L i).2.2 → (whoL L m).1 = (sl L i).1 := by
  intro L
  induction L with
  | nil => intro a b _ i m h0 h1; simp at h1; omega
  | cons s t ih =>
    intro a b h i m h0 h1 h2 h3
    rw [whoL_c]
    by_cases hi : i = 0
    · subst hi
      rw [sl_0] at h2 h3 ⊢
      rw [if_pos h3]
    · obtain ⟨j, rfl⟩ : ∃ j, i = j + 1 := ⟨i - 1, by omega⟩
      have hl : ((s :: t).length : Int) = t.length + 1 := by simp
      rw [sl_cons (by omega)] at h2 h3 ⊢
      obtain ⟨c1, c2, c3⟩ := h
      have q := cont_at c3 j (by omega) (by omega)
      rw [if_neg (by omega)]
      exact ih c3 j m (by omega) (by omega) h2 h3
theorem lsl_mem {w : Int → Int} (f : Int) : ∀ (n : Nat) (a : Int) (x : Slo), x ∈ lsl w f n a → ∃ i : Int, 0 ≤ i ∧ i < n ∧ x.1 = lo w i 1 := by
  intro n
  induction n with
  | zero => intro a x h; simp [lsl] at h
  | succ n ih =>
    intro a x h
    unfold lsl at h
    split at h
    · rcases List.mem_cons.mp h with e | e
      · exact ⟨n, by omega, by omega, by rw [e]⟩
      · obtain ⟨i, i0, i1, i2⟩ := ih _ x e
        exact ⟨i, i0, by omega, i2⟩
    · obtain ⟨i, i0, i1, i2⟩ := ih _ x h
      exact ⟨i, i0, by omega, i2⟩
theorem slots_fld {w : Int → Int} (hn : WFn w) (ho : WFo w) (hl : WFl w) : ∀ x ∈ slotsW w, 0 ≤ x.1 ∧ x.1 < w 5 := by
  unfold WFn at hn
  have := foldZ_inv (f := fun k (l : List Slo) => l ++ turnS w k) (a := []) (fun _ (l : List Slo) => ∀ x ∈ l, 0 ≤ x.1 ∧ x.1 < w 5) (fun x hx => by simp at hx) (n := w 5) (fun k l hk hk1 hx => by
    intro x h
    rcases List.mem_append.mp h with e | e
    · exact hx x e
    · unfold turnS at e
      rcases List.mem_append.mp e with e | e
      · unfold ownS at e
        split at e
        · rw [List.mem_singleton.mp e]; exact ho.1 k hk hk1
        · simp at e
      · obtain ⟨i, i0, i1, i2⟩ := lsl_mem _ _ _ x e
        have := hl.1 i i0 (by omega)
        rw [i2]; omega) (p := w 5) (by omega) (Int.le_refl _)
  exact this
theorem sl_mem {L : List Slo} {i : Int} (h0 : 0 ≤ i) (h1 : i < L.length) : sl L i ∈ L := by
  have hk : i.toNat < L.length := by omega
  unfold sl
  simp [List.getD, List.getElem?_eq_getElem hk]
theorem sumZ_run {g : Int → Int} {t c : Int} (h0 : 0 ≤ t) (d : Nat) (h : ∀ m, t ≤ m → m < t + d → g m = c) : sumZ g (t + d) = sumZ g t + d * c := by
  induction d with
  | zero => simp
  | succ d ih =>
    rw [show t + ((d + 1 : Nat) : Int) = t + d + 1 by omega, sumZ_s _ (by omega), ih (fun m a b => h m a (by omega)), h (t + d) (by omega) (by omega)]
    rw [show ((d + 1 : Nat) : Int) = d + 1 by omega, Int.add_mul]; omega
theorem sumZ_run' {g : Int → Int} {t u c : Int} (h0 : 0 ≤ t) (h1 : t ≤ u) (h : ∀ m, t ≤ m → m < u → g m = c) : sumZ g u = sumZ g t + (u - t) * c := by
  have := sumZ_run (g := g) (t := t) (c := c) h0 (u - t).toNat (fun m a b => h m a (by omega))
  rw [show t + ((u - t).toNat : Int) = u by omega, show ((u - t).toNat : Int) = u - t by omega] at this
  exact this
abbrev gS (w : Int → Int) (f m : Int) : Int := if fw w m = f then 1 else 0
abbrev gO (w : Int → Int) (f m : Int) : Int := if fw w m = f ∧ opn w m (fc w f 0) then 1 else 0
abbrev gT (w : Int → Int) (r m : Int) : Int := if bel w (fw w m) r ∧ opn w m r then 1 else 0
abbrev gP (w : Int → Int) (r m : Int) : Int := if bel w (fw w m) r ∧ opn w m (rc w r 0) ∧ ¬ letsW w r m then 1 else 0
theorem sum01 {g : Int → Int} (h : ∀ k, 0 ≤ g k ∧ g k ≤ 1) {p : Int} (h0 : 0 ≤ p) : 0 ≤ sumZ g p ∧ sumZ g p ≤ p := by
  have := sumZ_le (g := g) (n := p) (lo := 0) (hi := 1) (fun k _ _ => h k) h0 (Int.le_refl _)
  omega
theorem i01 {c : Prop} [Decidable c] : 0 ≤ (if c then (1 : Int) else 0) ∧ (if c then (1 : Int) else 0) ≤ 1 := by split <;> omega
/-! where something changes -/
abbrev cfr (w : Int → Int) (r : Int) : Int := (rc w r 4 - w 2) % 1440
abbrev cto (w : Int → Int) (r : Int) : Int := (rc w r 5 - w 2) % 1440
def cpt (w : Int → Int) (x : Int) : Prop := ∃ r, 0 ≤ r ∧ r < w 3 ∧ rc w r 4 ≠ -1 ∧ (cfr w r = x ∨ cto w r = x)
def cpc (w : Int → Int) (t : Int) : Int := sumZ (fun r => if rc w r 4 = -1 then 0 else (if cfr w r ≤ t then 1 else 0) + (if cto w r ≤ t then 1 else 0)) (w 3)
theorem sumZ_lt {g f : Int → Int} {n k0 : Int} (h : ∀ k, 0 ≤ k → k < n → g k ≤ f k) (h0 : 0 ≤ k0) (h1 : k0 < n) (h2 : g k0 + 1 ≤ f k0) : sumZ g n + 1 ≤ sumZ f n := by
  have := foldZ_inv (f := fun k (x : Int) => x + g k) (a := 0) (fun p (x : Int) => 0 ≤ p ∧ x ≤ sumZ f p ∧ (k0 < p → x + 1 ≤ sumZ f p)) ⟨by omega, by rw [sumZ_0]; omega, by omega⟩ (n := n) (fun k x hk hk1 hx => by
    have q := h k hk hk1
    rw [sumZ_s _ hk]
    refine ⟨by omega, by omega, fun hp => ?_⟩
    by_cases c : k = k0
    · subst c; omega
    · have := hx.2.2 (by omega); omega) (p := n) (by omega) (Int.le_refl _)
  exact this.2.2 h1
theorem cpc_le {w : Int → Int} (hn : WFn w) (t : Int) : 0 ≤ cpc w t ∧ cpc w t ≤ 20 := by
  unfold WFn at hn
  have := sumZ_le (g := fun r => if rc w r 4 = -1 then 0 else (if cfr w r ≤ t then 1 else 0) + (if cto w r ≤ t then 1 else 0)) (n := w 3) (lo := 0) (hi := 2) (fun k _ _ => by split <;> (try split) <;> (try split) <;> omega) (p := w 3) (by omega) (Int.le_refl _)
  unfold cpc; omega
theorem cpc_mono {w : Int → Int} (hn : WFn w) {t u : Int} (h : t ≤ u) : cpc w t ≤ cpc w u := by
  unfold WFn at hn
  have := sumZ_le (g := fun r => (if rc w r 4 = -1 then 0 else (if cfr w r ≤ u then 1 else 0) + (if cto w r ≤ u then 1 else 0)) - (if rc w r 4 = -1 then 0 else (if cfr w r ≤ t then 1 else 0) + (if cto w r ≤ t then 1 else 0))) (n := w 3) (lo := 0) (hi := 2) (fun k _ _ => by grind) (p := w 3) (by omega) (Int.le_refl _)
  rw [sumZ_sub _ _ (by omega)] at this
  unfold cpc; omega
theorem cpc_s {w : Int → Int} {t u : Int} (h : t < u) (hc : cpt w u) : cpc w t + 1 ≤ cpc w u := by
  obtain ⟨r, r0, r1, r2, r3⟩ := hc
  refine sumZ_lt (k0 := r) (fun k _ _ => by grind) r0 r1 ?_
  simp only [if_neg r2]; grind
theorem shut_step {w : Int → Int} (hn : WFn w) (hr : WFr w) {r m : Int} (h0 : 0 ≤ r) (h1 : r < w 3) (m0 : 0 ≤ m) (m1 : m + 1 < 1440) (hc : ¬ cpt w (m + 1)) : shutW w r (m + 1) ↔ shutW w r m := by
  have q := hr r h0 h1
  unfold WFn at hn
  unfold shutW
  by_cases c : rc w r 4 = -1
  · simp [c]
  · have e1 : cfr w r ≠ m + 1 := fun e => hc ⟨r, h0, h1, c, .inl e⟩
    have e2 : cto w r ≠ m + 1 := fun e => hc ⟨r, h0, h1, c, .inr e⟩
    unfold cfr at e1
    unfold cto at e2
    constructor <;> (intro h; refine ⟨c, ?_, ?_⟩ <;> omega)
theorem shut_same {w : Int → Int} (hn : WFn w) (hr : WFr w) {r t : Int} (h0 : 0 ≤ r) (h1 : r < w 3) (t0 : 0 ≤ t) (d : Nat) (hd : t + d < 1440) (hc : ∀ m, t < m → m ≤ t + d → ¬ cpt w m) : shutW w r (t + d) ↔ shutW w r t := by
  induction d with
  | zero => simp
  | succ d ih =>
    rw [show t + ((d + 1 : Nat) : Int) = t + d + 1 by omega, shut_step hn hr h0 h1 (by omega) (by omega) (hc _ (by omega) (by omega))]
    exact ih (by omega) (fun m a b => hc m a (by omega))
theorem opn_same {w : Int → Int} (hn : WFn w) (hr : WFr w) {r t m : Int} (h0 : -1 ≤ r) (h1 : r < w 3) (t0 : 0 ≤ t) (h2 : t ≤ m) (h3 : m < 1440) (hc : ∀ x, t < x → x ≤ m → ¬ cpt w x) : opn w m r ↔ opn w t r := by
  have hn' := hn
  unfold WFn at hn'
  have key : ∀ s ∈ ch w r, (letsW w s m ↔ letsW w s t) := fun s hs => by
    have := ch_mem hr (by omega) 10 r (by omega) h0 h1 s hs
    have q := shut_same hn hr (r := s) this.1 (by omega) t0 (m - t).toNat (by omega) (fun x a b => hc x a (by omega))
    rw [show t + ((m - t).toNat : Int) = m by omega] at q
    unfold letsW; rw [q]
  constructor <;> intro h s hs
  · exact (key s hs).mp (h s hs)
  · exact (key s hs).mpr (h s hs)
theorem lets_same {w : Int → Int} (hn : WFn w) (hr : WFr w) {r t m : Int} (h0 : 0 ≤ r) (h1 : r < w 3) (t0 : 0 ≤ t) (h2 : t ≤ m) (h3 : m < 1440) (hc : ∀ x, t < x → x ≤ m → ¬ cpt w x) : letsW w r m ↔ letsW w r t := by
  have q := shut_same hn hr (r := r) h0 h1 t0 (m - t).toNat (by omega) (fun x a b => hc x a (by omega))
  rw [show t + ((m - t).toNat : Int) = m by omega] at q
  unfold letsW; rw [q]
