/-! words -/
def nmS (B : Int → Int) : Nat → Int → Int → Int
  | 0, _, a => a
  | k + 1, p, a => nmS B k (p + 1) (a * 32 + (B p - 96))
theorem nm_s {B : Int → Int} {e p a : Int} (h : p < e) : nmS B (e - p).toNat p a = nmS B (e - (p + 1)).toNat (p + 1) (a * 32 + (B p - 96)) := by rw [show (e - p).toNat = (e - (p + 1)).toNat + 1 by omega]; rfl
theorem nm_n {B : Int → Int} {e p a : Int} (h : e ≤ p) : nmS B (e - p).toNat p a = a := by rw [show (e - p).toNat = 0 by omega]; rfl
def nmO (B : Int → Int) (s e : Int) : Int := if e - s ≤ 8 then nmS B (e - s).toNat s 0 else 0
def kyS (K : Int → Int) (nm : Int) : Nat → Int → Int → Int
  | 0, _, y => y
  | k + 1, p, y => kyS K nm k (p + 1) (if K p = nm then p else y)
theorem ky_s {K : Int → Int} {nm p y : Int} (h : p < 30) : kyS K nm (30 - p).toNat p y = kyS K nm (30 - (p + 1)).toNat (p + 1) (if K p = nm then p else y) := by rw [show (30 - p).toNat = (30 - (p + 1)).toNat + 1 by omega]; rfl
theorem ky_n {K : Int → Int} {nm p y : Int} (h : 30 ≤ p) : kyS K nm (30 - p).toNat p y = y := by rw [show (30 - p).toNat = 0 by omega]; rfl
def kyO (K : Int → Int) (nm : Int) : Int := if nm = 0 then -1 else kyS K nm (30 - 0 : Int).toNat 0 (-1)
def nb (p s a : Int) : Prop := (p = s ∧ a < 1) ∨ (p = s + 1 ∧ a < 32) ∨ (p = s + 2 ∧ a < 1024) ∨ (p = s + 3 ∧ a < 32768) ∨ (p = s + 4 ∧ a < 1048576) ∨ (p = s + 5 ∧ a < 33554432) ∨ (p = s + 6 ∧ a < 1073741824) ∨ (p = s + 7 ∧ a < 34359738368) ∨ (p = s + 8 ∧ a < 1099511627776)
theorem nb_s {p s a b : Int} (h : nb p s a) (hb : 97 ≤ b ∧ b ≤ 122) (a0 : 0 ≤ a) (hp : p < s + 8) : nb (p + 1) s (a * 32 + (b - 96)) := by unfold nb at h ⊢; omega
theorem nb_m {p s a : Int} (h : nb p s a) : a < 1099511627776 := by unfold nb at h; omega
theorem spell_e {M : Mem} {n s e : Int} {Q : Mem → Prop} (h : TpC M n) (hs : M 10 4 = s) (he : M 10 3 = e) (h9 : M 10 9 = -1) (h10 : M 10 10 = 0) (s0 : 0 ≤ s) (s1 : s ≤ e) (e1 : e ≤ n) (hd : ∀ i, s ≤ i → i < e → 97 ≤ M 11 i ∧ M 11 i ≤ 122) (hq : ∀ N, (∀ a j, ¬ (a = 10 ∧ (j = 9 ∨ j = 10)) → N a j = M a j) → N 10 10 = nmO (M 11) s e → N 10 9 = kyO (M 12) (nmO (M 11) s e) → Q N) : Tot (f_X6_spell 10 M) Q := by
  obtain ⟨⟨h1, h2, h3, h4, h5⟩, hn, n0, n1⟩ := h
  unfold f_X6_spell
  rw [t_getf, hs]
  refine ⟨by omega, ?_⟩
  have fin : ∀ N : Mem, (∀ a j, ¬ (a = 10 ∧ j = 10) → N a j = M a j) → N 10 10 = nmO (M 11) s e → Tot (f_X6_spell_L60 10 (fun (M23 : Mem) => some M23) KF 0 N) Q := by
    intro N kN hN
    refine lpIM (fun p X => 0 ≤ p ∧ p ≤ 30 ∧ (∀ a j, ¬ (a = 10 ∧ j = 9) → X a j = N a j) ∧ (nmO (M 11) s e = 0 → X 10 9 = -1) ∧ kyS (M 12) (nmO (M 11) s e) (30 - p).toNat p (X 10 9) = kyS (M 12) (nmO (M 11) s e) (30 - 0 : Int).toNat 0 (-1)) (fun p _ => (30 - p).toNat) ?_ (by unfold KF; omega) ⟨by omega, by omega, fun _ _ _ => rfl, fun _ => by rw [kN _ _ (by omega)]; exact h9, by rw [kN _ _ (by omega), h9]⟩
    rintro fu p X ⟨i0, i1, i2, i3, i4⟩ ih
    have x10 : X 10 10 = nmO (M 11) s e := by rw [i2 _ _ (by omega)]; exact hN
    have kX : ∀ a j, ¬ (a = 10 ∧ (j = 9 ∨ j = 10)) → X a j = M a j := fun a j hh => by rw [i2 _ _ (by omega), kN _ _ (by omega)]
    unfold f_X6_spell_L60
    rw [t_ite]
    refine ⟨fun c => ?_, fun c => ?_⟩
    · rw [t_some]
      refine hq X kX x10 ?_
      rw [ky_n c] at i4
      unfold kyO
      by_cases z : nmO (M 11) s e = 0
      · rw [if_pos z]; exact i3 z
      · rw [if_neg z]; exact i4
    rw [t_getf, x10, t_ite]
    refine ⟨by omega, fun z => ?_, fun z => ?_⟩
    · rw [t_some]
      refine hq X kX x10 ?_
      unfold kyO
      rw [if_pos z]; exact i3 z
    rw [t_getf, kX 10 1 (by omega), h3, t_geti, kX 12 (-1) (by omega), h5, kX 12 p (by omega), t_getf, x10]
    refine ⟨by omega, by omega, by omega, by omega, by omega, ?_⟩
    refine t_jq (fun K : Int → Option Mem => ∀ y, y = (if M 12 p = nmO (M 11) s e then p else X 10 9) → Tot (K y) Q) (fun y hy => ?_) (fun K hK => ?_)
    · rw [t_putf, w32_s (by omega) (by omega)]
      refine ⟨by omega, ih _ _ (by omega) ⟨by omega, by omega, fun a j hh => by rw [upd2_at, if_neg hh]; exact i2 a j hh, fun hz => absurd hz z, ?_⟩⟩
      rw [upd2_at, if_pos ⟨rfl, rfl⟩, hy, ← ky_s (by omega)]; exact i4
    · rw [t_ite]
      refine ⟨fun a => ?_, fun a => ?_⟩
      · rw [t_getf]; exact ⟨by omega, hK _ (by rw [if_neg a])⟩
      · exact hK _ (by rw [if_pos (by omega)])
  refine lpIM (fun p X => s ≤ p ∧ p ≤ e ∧ (∀ a j, ¬ (a = 10 ∧ j = 10) → X a j = M a j) ∧ ((8 < e - s ∧ p = s ∧ X 10 10 = 0) ∨ (e - s ≤ 8 ∧ 0 ≤ X 10 10 ∧ nb p s (X 10 10) ∧ nmS (M 11) (e - p).toNat p (X 10 10) = nmS (M 11) (e - s).toNat s 0))) (fun p _ => (e - p).toNat) ?_ (by unfold KF; omega) ⟨by omega, s1, fun _ _ _ => rfl, ?_⟩
  rotate_left
  · by_cases c : e - s ≤ 8
    · exact .inr ⟨c, by omega, by unfold nb; omega, by rw [h10]⟩
    · exact .inl ⟨by omega, rfl, h10⟩
  rintro fu p X ⟨i0, i1, i2, i3⟩ ih
  unfold f_X6_spell_L5
  rw [t_getf, i2 10 3 (by omega), he, t_ite]
  refine ⟨by omega, fun c => ?_, fun c => ?_⟩
  · refine fin X i2 ?_
    unfold nmO
    rcases i3 with ⟨q1, q2, q3⟩ | ⟨q1, q2, q3, q4⟩
    · rw [if_neg (by omega)]; exact q3
    · rw [if_pos q1, ← q4, nm_n c]
  rw [t_getf, i2 10 3 (by omega), he, t_getf, i2 10 4 (by omega), hs, w32_s (x := e - s) (by omega) (by omega), t_ite]
  refine ⟨by omega, by omega, fun q => ?_, fun q => ?_⟩
  · refine fin X i2 ?_
    unfold nmO
    rcases i3 with ⟨q1, q2, q3⟩ | ⟨q1, q2, q3, q4⟩
    · rw [if_neg (by omega)]; exact q3
    · omega
  rcases i3 with ⟨q1, q2, q3⟩ | ⟨q1, q2, q3, q4⟩
  · omega
  have b := hd p i0 (by omega)
  have m := nb_m q3
  have s2 := nb_s q3 b q2 (by omega)
  rw [t_getf, t_getf, i2 10 0 (by omega), h2, t_geti, i2 11 (-1) (by omega), h4, i2 11 p (by omega), t_putf, w32_s (x := M 11 p - 97) (by omega) (by omega), w32_s (x := M 11 p - 97 + 1) (by omega) (by omega), w64_s (x := X 10 10 * 32) (by omega) (by omega), w64_s (by omega) (by omega), w32_s (x := p + 1) (by omega) (by omega), show X 10 10 * 32 + (M 11 p - 97 + 1) = X 10 10 * 32 + (M 11 p - 96) by omega]
  refine ⟨by omega, by omega, by omega, by omega, by omega, by omega, ih _ _ (by omega) ⟨by omega, by omega, fun a j hh => by rw [upd2_at, if_neg hh]; exact i2 a j hh, .inr ⟨q1, ?_, ?_, ?_⟩⟩⟩
  · rw [upd2_at, if_pos ⟨rfl, rfl⟩]; omega
  · rw [upd2_at, if_pos ⟨rfl, rfl⟩]; exact s2
  · rw [upd2_at, if_pos ⟨rfl, rfl⟩, ← q4, nm_s (p := p) (by omega)]
