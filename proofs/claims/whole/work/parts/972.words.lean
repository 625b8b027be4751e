/-! words of the reference -/
theorem nm_snoc {B : Int → Int} : ∀ (k : Nat) (p a : Int), nmS B (k + 1) p a = nmS B k p a * 32 + (B (p + k) - 96)
  | 0, p, a => by
    show nmS B 0 (p + 1) (a * 32 + (B p - 96)) = a * 32 + (B (p + ((0 : Nat) : Int)) - 96)
    rw [show p + ((0 : Nat) : Int) = p by omega]; rfl
  | k + 1, p, a => by
    show nmS B (k + 1) (p + 1) (a * 32 + (B p - 96)) = nmS B k (p + 1) (a * 32 + (B p - 96)) * 32 + (B (p + ((k + 1 : Nat) : Int)) - 96)
    rw [nm_snoc k, show p + 1 + ((k : Nat) : Int) = p + ((k + 1 : Nat) : Int) by omega]
def ltrs (B : Int → Int) (p : Int) (k : Nat) : Prop := ∀ i, p ≤ i → i < p + k → 97 ≤ B i ∧ B i ≤ 122
theorem ltrs_s {B : Int → Int} {p : Int} {k : Nat} (h : ltrs B p (k + 1)) : ltrs B p k ∧ 97 ≤ B (p + k) ∧ B (p + k) ≤ 122 := ⟨fun i a b => h i a (by omega), h _ (by omega) (by omega)⟩
theorem nm_nn {B : Int → Int} {p : Int} : ∀ (k : Nat), ltrs B p k → 0 ≤ nmS B k p 0
  | 0, _ => Int.le_refl _
  | k + 1, h => by
    obtain ⟨h1, h2⟩ := ltrs_s h
    have := nm_nn k h1
    rw [nm_snoc]; omega
theorem nm_inj {B S : Int → Int} {p q : Int} : ∀ (k l : Nat), ltrs B p k → ltrs S q l → nmS B k p 0 = nmS S l q 0 → k = l ∧ ∀ i : Int, 0 ≤ i → i < k → B (p + i) = S (q + i)
  | 0, 0, _, _, _ => ⟨rfl, fun i a b => by omega⟩
  | 0, l + 1, _, hs, e => by
    obtain ⟨h1, h2⟩ := ltrs_s hs
    have := nm_nn l h1
    rw [nm_snoc] at e
    have e0 : nmS B 0 p 0 = 0 := rfl
    omega
  | k + 1, 0, hb, _, e => by
    obtain ⟨h1, h2⟩ := ltrs_s hb
    have := nm_nn k h1
    rw [nm_snoc] at e
    have e0 : nmS S 0 q 0 = 0 := rfl
    omega
  | k + 1, l + 1, hb, hs, e => by
    obtain ⟨b1, b2⟩ := ltrs_s hb
    obtain ⟨s1, s2⟩ := ltrs_s hs
    rw [nm_snoc, nm_snoc] at e
    obtain ⟨r1, r2⟩ := nm_inj k l b1 s1 (by omega)
    refine ⟨by omega, fun i i0 i1 => ?_⟩
    by_cases c : i = k
    · subst r1; rw [c]; omega
    · exact r2 i i0 (by omega)
theorem nm_cong {B S : Int → Int} : ∀ (k : Nat) (p q a : Int), (∀ i : Int, 0 ≤ i → i < k → B (p + i) = S (q + i)) → nmS B k p a = nmS S k q a
  | 0, _, _, _, _ => rfl
  | k + 1, p, q, a, h => by
    show nmS B k (p + 1) (a * 32 + (B p - 96)) = nmS S k (q + 1) (a * 32 + (S q - 96))
    have h0 := h 0 (by omega) (by omega)
    rw [Int.add_zero, Int.add_zero] at h0
    rw [h0]
    refine nm_cong k _ _ _ (fun i i0 i1 => ?_)
    have := h (i + 1) (by omega) (by omega)
    rw [show p + 1 + i = p + (i + 1) by omega, show q + 1 + i = q + (i + 1) by omega]; exact this
def S2 (i : Int) : Int := sI2.getD i.toNat 0
theorem s2_len : s_len (-2) = some 150 := by decide +kernel
theorem s2_chr {i : Int} (h0 : 0 ≤ i) (h1 : i < 150) : s_chr (-2) i = some (S2 i) := by
  unfold s_chr
  have e : sOf (-2) = sI2 := by decide +kernel
  have l : (sI2.length : Int) = 150 := by decide +kernel
  rw [e, if_pos ⟨.inr rfl, h0, by omega⟩]; rfl
def wS (i : Int) : Int := ([1, 6, 11, 17, 23, 29, 36, 39, 45, 48, 56, 61, 64, 67, 74, 80, 83, 88, 93, 98, 102, 107, 111, 116, 121, 126, 130, 135, 140, 145, 150] : List Int).getD i.toNat 150
theorem ws_n : ∀ i : Nat, i < 30 → (1 ≤ wS i ∧ wS i < wS (i + 1) - 1 ∧ wS (i + 1) ≤ wS i + 8 ∧ wS (i + 1) ≤ 150 ∧ S2 (wS (i + 1) - 1) = 32 ∧ ∀ j : Nat, j < 8 → (j : Int) < wS (i + 1) - 1 - wS i → 97 ≤ S2 (wS i + j) ∧ S2 (wS i + j) ≤ 122) := by decide +kernel
theorem ws_i {i : Int} (h0 : 0 ≤ i) (h1 : i < 30) : 1 ≤ wS i ∧ wS i < wS (i + 1) - 1 ∧ wS (i + 1) ≤ wS i + 8 ∧ wS (i + 1) ≤ 150 ∧ S2 (wS (i + 1) - 1) = 32 ∧ ∀ j, wS i ≤ j → j < wS (i + 1) - 1 → 97 ≤ S2 j ∧ S2 j ≤ 122 := by
  have q := ws_n i.toNat (by omega)
  rw [show ((i.toNat : Nat) : Int) = i by omega] at q
  obtain ⟨q1, q2, q3, q4, q5, q6⟩ := q
  refine ⟨q1, q2, q3, q4, q5, fun j j0 j1 => ?_⟩
  have := q6 (j - wS i).toNat (by omega) (by omega)
  rw [show wS i + (((j - wS i).toNat : Nat) : Int) = j by omega] at this
  exact this
def wC (i : Int) : Int := nmS S2 (wS (i + 1) - 1 - wS i).toNat (wS i) 0
theorem inL25_e {M : Mem} {p2 p3 x0 i : Int} {k : Int → Option Int} {Q : Int → Prop} (i0 : 0 ≤ i) (i1 : i < 30) (hk : Tot (k (wS (i + 1) - 1)) Q) : Tot (f_X12_inWords_L25 M p2 p3 x0 (-2) k KF (wS i)) Q := by
  obtain ⟨q1, q2, q3, q4, q5, q6⟩ := ws_i i0 i1
  refine lpI (fun p => wS i ≤ p ∧ p ≤ wS (i + 1) - 1) (fun p => (150 - p).toNat) ?_ (by unfold KF; omega) ⟨by omega, by omega⟩
  rintro fu p ⟨a0, a1⟩ ih
  unfold f_X12_inWords_L25
  rw [t_callp, s2_chr (by omega) (by omega), t_some, t_ite, w32_s (by omega) (by omega)]
  refine ⟨fun c => ?_, fun c => ?_⟩
  · by_cases d : p < wS (i + 1) - 1
    · have := q6 p a0 d; omega
    · rw [show p = wS (i + 1) - 1 by omega]; exact hk
  · by_cases d : p < wS (i + 1) - 1
    · exact ih _ (by omega) ⟨by omega, by omega⟩
    · rw [show p = wS (i + 1) - 1 by omega] at c; exact absurd q5 c
theorem inL68_e {M : Mem} {B : Int → Int} {n s e p2 i x : Int} {k : Int → Option Int} {Q : Int → Prop} (h : TxR M B n) (hs : M 119 13 = s) (s0 : 0 ≤ s) (se : s < e) (en : e ≤ n) (hl : ∀ j, s ≤ j → j < e → 97 ≤ B j ∧ B j ≤ 122) (i0 : 0 ≤ i) (i1 : i < 30) (hx : x = if wS (i + 1) - 1 - wS i = e - s then 1 else 0) (hk : ∀ u, (u = 0 ∧ nmS B (e - s).toNat s 0 ≠ wC i) ∨ (u = 1 ∧ nmS B (e - s).toNat s 0 = wC i) → Tot (k u) Q) : Tot (f_X12_inWords_L68 M p2 (wS i) (wS (i + 1) - 1) 119 (-2) k KF x (wS i)) Q := by
  obtain ⟨q1, q2, q3, q4, q5, q6⟩ := ws_i i0 i1
  have hn : n ≤ 900 := h.1.2.2.2
  have lB : ltrs B s (e - s).toNat := fun j a b => hl j a (by omega)
  have lS : ltrs S2 (wS i) (wS (i + 1) - 1 - wS i).toNat := fun j a b => q6 j a (by omega)
  have inj : nmS B (e - s).toNat s 0 = wC i → wS (i + 1) - 1 - wS i = e - s ∧ ∀ j, 0 ≤ j → j < e - s → B (s + j) = S2 (wS i + j) := fun hh => by
    obtain ⟨r1, r2⟩ := nm_inj _ _ lB lS hh
    exact ⟨by omega, fun j a b => r2 j a (by omega)⟩
  refine lpII (fun u p => wS i ≤ p ∧ p ≤ wS (i + 1) - 1 ∧ ((u = 0 ∧ nmS B (e - s).toNat s 0 ≠ wC i) ∨ (u = 1 ∧ wS (i + 1) - 1 - wS i = e - s ∧ ∀ j, wS i ≤ j → j < p → S2 j = B (s + (j - wS i))))) (fun _ p => (150 - p).toNat) ?_ (by unfold KF; omega) ⟨by omega, by omega, ?_⟩
  rotate_left
  · by_cases c : wS (i + 1) - 1 - wS i = e - s
    · rw [if_pos c] at hx; exact .inr ⟨hx, c, fun j a b => by omega⟩
    · rw [if_neg c] at hx; exact .inl ⟨hx, fun hh => c (inj hh).1⟩
  rintro fu u p ⟨a0, a1, a2⟩ ih
  unfold f_X12_inWords_L68
  rw [t_ite]
  refine ⟨fun c => ?_, fun c => ?_⟩
  · rcases a2 with ⟨b1, b2⟩ | ⟨b1, b2, b3⟩
    · exact hk u (.inl ⟨b1, b2⟩)
    · refine hk u (.inr ⟨b1, ?_⟩)
      unfold wC
      rw [b2]
      exact nm_cong _ _ _ _ (fun j j0 j1 => by rw [b3 (wS i + j) (by omega) (by omega)]; congr 1; omega)
  rw [t_ite]
  refine ⟨fun d => ?_, fun d => ?_⟩
  · rcases a2 with ⟨b1, b2⟩ | ⟨b1, b2, b3⟩
    · exact hk u (.inl ⟨b1, b2⟩)
    · omega
  rcases a2 with ⟨b1, b2⟩ | ⟨b1, b2, b3⟩
  · exact absurd b1 d
  rw [t_callp, s2_chr (by omega) (by omega), t_some, t_getf, hs, t_callp, w32_s (x := s + p) (by omega) (by omega), w32_s (x := s + p - wS i) (by omega) (by omega)]
  refine ⟨by omega, t_mono (byte_e h (by omega)) (fun y hy => ?_)⟩
  have lb := hl (s + p - wS i) (by omega) (by omega)
  rw [b8_i (by omega)] at hy
  have hy2 : y = B (s + p - wS i) := by omega
  refine t_jq (fun K : Int → Option Int => ∀ v, (v = 0 ∧ S2 p ≠ B (s + p - wS i)) ∨ (v = 1 ∧ S2 p = B (s + p - wS i)) → Tot (K v) Q) (fun v hv => ?_) (fun K hK => ?_)
  · rw [w32_s (by omega) (by omega)]
    refine ih _ _ (by omega) ⟨by omega, by omega, ?_⟩
    rcases hv with ⟨v1, v2⟩ | ⟨v1, v2⟩
    · refine .inl ⟨v1, fun hh => v2 ?_⟩
      have := (inj hh).2 (p - wS i) (by omega) (by omega)
      rw [show wS i + (p - wS i) = p by omega, show s + (p - wS i) = s + p - wS i by omega] at this
      exact this.symm
    · refine .inr ⟨v1, b2, fun j j0 j1 => ?_⟩
      by_cases g : j = p
      · rw [g, v2]; congr 1; omega
      · exact b3 j j0 (by omega)
  · rw [t_ite]
    exact ⟨fun g => hK 0 (.inl ⟨rfl, by rw [← hy2]; exact g⟩), fun g => hK 1 (.inr ⟨rfl, by rw [← hy2]; omega⟩)⟩
def inWQ (c u : Int) : Prop := (u = -1 ∧ ∀ i, 0 ≤ i → i < 30 → c ≠ wC i) ∨ (0 ≤ u ∧ u < 30 ∧ c = wC u)
theorem inW_L {M : Mem} {B : Int → Int} {n s e : Int} (h : TxR M B n) (hs : M 119 13 = s) (he : M 119 14 = e) (s0 : 0 ≤ s) (se : s < e) (en : e ≤ n) (hl : ∀ j, s ≤ j → j < e → 97 ≤ B j ∧ B j ≤ 122) : Tot (f_X12_inWords_L14 M 119 (-2) (some (-1)) KF 0 1) (inWQ (nmS B (e - s).toNat s 0)) := by
  have hn : n ≤ 900 := h.1.2.2.2
  refine lpII (fun i p => 0 ≤ i ∧ i ≤ 30 ∧ p = wS i ∧ ∀ j, 0 ≤ j → j < i → nmS B (e - s).toNat s 0 ≠ wC j) (fun i _ => (30 - i).toNat) ?_ (by unfold KF; omega) ⟨by omega, by omega, rfl, fun j a b => by omega⟩
  rintro fu i p ⟨i0, i1, i2, i3⟩ ih
  subst i2
  unfold f_X12_inWords_L14
  rw [t_callp, s2_len, t_some, t_ite]
  refine ⟨fun c => ?_, fun c => ?_⟩
  · rw [t_some]
    have i30 : i = 30 := by
      by_cases d : i < 30
      · have := ws_i i0 d; omega
      · omega
    exact .inl ⟨rfl, fun j a b => i3 j a (by omega)⟩
  have i30 : i < 30 := by
    by_cases d : i < 30
    · exact d
    · have : i = 30 := by omega
      subst this
      exact absurd (by decide +kernel : (150 : Int) ≤ wS 30) c
  obtain ⟨q1, q2, q3, q4, q5, q6⟩ := ws_i i0 i30
  refine inL25_e i0 i30 ?_
  rw [t_getf, he, t_getf, hs, w32_s (x := wS (i + 1) - 1 - wS i) (by omega) (by omega), w32_s (x := e - s) (by omega) (by omega)]
  refine ⟨by omega, by omega, ?_⟩
  refine t_jq (fun K : Int → Option Int => ∀ x, (x = if wS (i + 1) - 1 - wS i = e - s then 1 else 0) → Tot (K x) (inWQ (nmS B (e - s).toNat s 0))) (fun x hx => ?_) (fun K hK => ?_)
  rotate_left
  · rw [t_ite]
    exact ⟨fun g => hK 0 (by rw [if_neg g]), fun g => hK 1 (by rw [if_pos (by omega)])⟩
  refine inL68_e h hs s0 se en hl i0 i30 hx (fun u hu => ?_)
  rw [t_ite]
  rcases hu with ⟨u1, u2⟩ | ⟨u1, u2⟩
  · refine ⟨fun _ => ?_, fun g => absurd u1 g⟩
    rw [t_letv, w32_s (by omega) (by omega), w32_s (by omega) (by omega)]
    refine ih _ _ (by omega) ⟨by omega, by omega, by omega, fun j j0 j1 => ?_⟩
    by_cases g : j = i
    · rw [g]; exact u2
    · exact i3 j j0 (by omega)
  · refine ⟨fun g => by omega, fun _ => ?_⟩
    rw [t_some]
    exact .inr ⟨i0, i30, u2⟩
