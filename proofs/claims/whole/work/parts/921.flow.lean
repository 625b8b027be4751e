/-! flow, pure -/
def carR (w : Int → Int) (r x : Int) : Int := if rc w r 3 = -1 then x else if rc w r 3 * litre w < x then rc w r 3 * litre w else x
def outR (w : Int → Int) (m r x : Int) : Int := if r = m then x else x / rc w r 2 * (rc w r 2 - rc w r 1)
def lvF (w : Int → Int) (h m : Int) : Nat → Int → Int
  | 0, _ => 0
  | n + 1, r => outR w m r (carR w r (if rc w r 0 = -1 then h * litre w else lvF w h m n (rc w r 0)))
def lvW (w : Int → Int) (h m r : Int) : Int := lvF w h m 12 r
def cmW (w : Int → Int) (h m r : Int) : Int := if rc w r 0 = -1 then h * litre w else lvW w h m (rc w r 0)
def caW (w : Int → Int) (h m r : Int) : Int := carR w r (cmW w h m r)
theorem lvF_u {w : Int → Int} (hr : WFr w) (h m : Int) : ∀ (n : Nat) (r : Int), 0 ≤ r → r < n → r < w 3 → lvF w h m n r = lvF w h m (n + 1) r := by
  intro n
  induction n with
  | zero => intro r h0 h1 h2; omega
  | succ n ih =>
    intro r h0 h1 h2
    have q := hr r (by omega) h2
    by_cases c : rc w r 0 = -1
    · show outR w m r (carR w r (if rc w r 0 = -1 then _ else _)) = outR w m r (carR w r (if rc w r 0 = -1 then _ else _))
      rw [if_pos c, if_pos c]
    · have := ih (rc w r 0) (by omega) (by omega) (by omega)
      show outR w m r (carR w r (if rc w r 0 = -1 then _ else lvF w h m n (rc w r 0))) = outR w m r (carR w r (if rc w r 0 = -1 then _ else lvF w h m (n + 1) (rc w r 0)))
      rw [this]
theorem lvW_s {w : Int → Int} (hr : WFr w) (hn : w 3 ≤ 10) (h m : Int) {r : Int} (h0 : 0 ≤ r) (h1 : r < w 3) : lvW w h m r = outR w m r (caW w h m r) := by
  have q := hr r h0 h1
  show outR w m r (carR w r (if rc w r 0 = -1 then h * litre w else lvF w h m 11 (rc w r 0))) = outR w m r (carR w r (if rc w r 0 = -1 then h * litre w else lvF w h m 12 (rc w r 0)))
  by_cases c : rc w r 0 = -1
  · rw [if_pos c, if_pos c]
  · rw [if_neg c, if_neg c, lvF_u hr h m 11 (rc w r 0) (by omega) (by omega) (by omega)]
def prP (w : Int → Int) (r : Int) : Int := foldZ (fun r x => x * rc w r 2) 1 r
theorem prP_s (w : Int → Int) {r : Int} (h : 0 ≤ r) : prP w (r + 1) = prP w r * rc w r 2 := foldZ_s _ _ h
theorem prP_0 (w : Int → Int) : prP w 0 = 1 := rfl
theorem prP_le {w : Int → Int} (hr : WFr w) (d : Nat) : ∀ r : Int, 0 ≤ r → r ≤ d → r ≤ w 3 → 1 ≤ prP w r ∧ prP w r ≤ 12 ^ r.toNat := by
  induction d with
  | zero => intro r h0 h1 h2; rw [show r = 0 by omega, prP_0]; exact ⟨by decide, by decide⟩
  | succ d ih =>
    intro r h0 h1 h2
    by_cases c : r = 0
    · rw [c, prP_0]; exact ⟨by decide, by decide⟩
    · obtain ⟨s, rfl⟩ : ∃ s, r = s + 1 := ⟨r - 1, by omega⟩
      have q := ih s (by omega) (by omega) (by omega)
      have q2 := hr s (by omega) (by omega)
      rw [prP_s w (by omega), show (s + 1).toNat = s.toNat + 1 by omega, Int.pow_succ]
      have m1 := mul_le (x := prP w s) (y := rc w s 2) (a := 12 ^ s.toNat) (b := 12) (by omega) (by omega) (by omega) (by omega)
      have m2 : 1 * 1 ≤ prP w s * rc w s 2 := Int.mul_le_mul (by omega) (by omega) (by omega) (by omega)
      exact ⟨by omega, m1.2⟩
theorem litre_le {w : Int → Int} (hr : WFr w) (h0 : 0 ≤ w 3) (hn : w 3 ≤ 10) : 1 ≤ litre w ∧ litre w ≤ 61917364224 := by
  have q := prP_le hr (w 3).toNat (w 3) h0 (by omega) (Int.le_refl _)
  have e : litre w = prP w (w 3) := rfl
  rw [e]
  have m : (12 : Int) ^ (w 3).toNat ≤ 12 ^ 10 := by
    have : (12 : Nat) ^ (w 3).toNat ≤ 12 ^ 10 := Nat.pow_le_pow_right (by decide) (by omega)
    exact_mod_cast this
  have e2 : (12 : Int) ^ 10 = 61917364224 := by decide
  omega
theorem prP_dvd {w : Int → Int} {r : Int} (h0 : 0 ≤ r) (d : Nat) : prP w r ∣ prP w (r + d) := by
  induction d with
  | zero => simp
  | succ d ih =>
    rw [show r + ((d + 1 : Nat) : Int) = r + d + 1 by omega, prP_s w (by omega)]
    exact Int.dvd_trans ih (Int.dvd_mul_right _ _)
theorem out_le {w : Int → Int} (hr : WFr w) {m r x : Int} (h0 : 0 ≤ r) (h1 : r < w 3) (hx : 0 ≤ x) : 0 ≤ outR w m r x ∧ outR w m r x ≤ x := by
  have q := hr r h0 h1
  unfold outR
  split
  · omega
  · have d0 : 0 ≤ x / rc w r 2 := Int.ediv_nonneg hx (by omega)
    have d1 : x / rc w r 2 * rc w r 2 ≤ x := Int.ediv_mul_le x (by omega)
    have d2 : x / rc w r 2 * (rc w r 2 - rc w r 1) ≤ x / rc w r 2 * rc w r 2 := Int.mul_le_mul_of_nonneg_left (by omega) d0
    have d3 : 0 ≤ x / rc w r 2 * (rc w r 2 - rc w r 1) := Int.mul_nonneg d0 (by omega)
    omega
theorem car_le {w : Int → Int} (hr : WFr w) (hl : 1 ≤ litre w) {r x : Int} (h0 : 0 ≤ r) (h1 : r < w 3) (hx : 0 ≤ x) : 0 ≤ carR w r x ∧ carR w r x ≤ x := by
  have q := hr r h0 h1
  unfold carR
  split
  · omega
  · have : 0 ≤ rc w r 3 * litre w := Int.mul_nonneg (by omega) (by omega)
    split <;> omega
theorem flow_le {w : Int → Int} (hr : WFr w) (hw0 : 0 ≤ w 3) (hn : w 3 ≤ 10) {h : Int} (hh : 0 ≤ h) (m : Int) : ∀ (d : Nat) (r : Int), 0 ≤ r → r < d → r < w 3 → 0 ≤ cmW w h m r ∧ cmW w h m r ≤ h * litre w ∧ 0 ≤ caW w h m r ∧ caW w h m r ≤ cmW w h m r ∧ 0 ≤ lvW w h m r ∧ lvW w h m r ≤ caW w h m r := by
  have L := litre_le hr hw0 hn
  intro d
  induction d with
  | zero => intro r h0 h1 h2; omega
  | succ d ih =>
    intro r h0 h1 h2
    have q := hr r h0 h2
    have c0 : 0 ≤ cmW w h m r ∧ cmW w h m r ≤ h * litre w := by
      unfold cmW
      by_cases c : rc w r 0 = -1
      · rw [if_pos c]; exact ⟨Int.mul_nonneg hh (by omega), Int.le_refl _⟩
      · rw [if_neg c]
        have := ih (rc w r 0) (by omega) (by omega) (by omega)
        omega
    have c1 : 0 ≤ caW w h m r ∧ caW w h m r ≤ cmW w h m r := car_le hr L.1 h0 h2 c0.1
    have c2 := out_le hr (m := m) h0 h2 c1.1
    rw [lvW_s hr hn h m h0 h2]
    omega
/-- no loss leaves a rest -/
theorem flow_dvd {w : Int → Int} (hr : WFr w) (hw0 : 0 ≤ w 3) (hn : w 3 ≤ 10) (h m : Int) : ∀ (d : Nat) (r : Int), 0 ≤ r → r < d → r < w 3 → litre w ∣ caW w h m r * prP w r ∧ rc w r 2 ∣ caW w h m r ∧ litre w ∣ lvW w h m r * prP w (r + 1) := by
  intro d
  induction d with
  | zero => intro r h0 h1 h2; omega
  | succ d ih =>
    intro r h0 h1 h2
    have q := hr r h0 h2
    have d0 : litre w ∣ cmW w h m r * prP w r := by
      unfold cmW
      by_cases c : rc w r 0 = -1
      · rw [if_pos c, Int.mul_comm h, Int.mul_assoc]; exact Int.dvd_mul_right _ _
      · rw [if_neg c]
        obtain ⟨x, hx⟩ := (ih (rc w r 0) (by omega) (by omega) (by omega)).2.2
        obtain ⟨y, hy⟩ := prP_dvd (w := w) (r := rc w r 0 + 1) (by omega) (r - (rc w r 0 + 1)).toNat
        rw [show rc w r 0 + 1 + ((r - (rc w r 0 + 1)).toNat : Int) = r by omega] at hy
        rw [hy, ← Int.mul_assoc, hx, Int.mul_assoc]; exact Int.dvd_mul_right _ _
    have d1 : litre w ∣ caW w h m r * prP w r := by
      unfold caW carR
      split
      · exact d0
      · split
        · rw [Int.mul_comm (rc w r 3), Int.mul_assoc]; exact Int.dvd_mul_right _ _
        · exact d0
    have pp := prP_le hr (w 3).toNat r h0 (by omega) (by omega)
    have d2 : rc w r 2 ∣ caW w h m r := by
      obtain ⟨x, hx⟩ := d1
      obtain ⟨y, hy⟩ := prP_dvd (w := w) (r := r + 1) (by omega) (w 3 - (r + 1)).toNat
      rw [show r + 1 + ((w 3 - (r + 1)).toNat : Int) = w 3 by omega, prP_s w h0] at hy
      have e : litre w = prP w r * rc w r 2 * y := hy
      rw [e, Int.mul_comm (caW w h m r), Int.mul_assoc, Int.mul_assoc] at hx
      have := Int.eq_of_mul_eq_mul_left (by omega) hx
      exact ⟨y * x, this⟩
    refine ⟨d1, d2, ?_⟩
    rw [lvW_s hr hn h m h0 h2, prP_s w h0]
    unfold outR
    split
    · rw [← Int.mul_assoc]; exact Int.dvd_trans d1 (Int.dvd_mul_right _ _)
    · have e : caW w h m r / rc w r 2 * rc w r 2 = caW w h m r := Int.ediv_mul_cancel d2
      have e2 : caW w h m r / rc w r 2 * (rc w r 2 - rc w r 1) * (prP w r * rc w r 2) = caW w h m r * prP w r * (rc w r 2 - rc w r 1) := by
        conv => rhs; rw [← e]
        ac_rfl
      rw [e2]; exact Int.dvd_trans d1 (Int.dvd_mul_right _ _)
/-- what the class reckons instead -/
theorem out_class {w : Int → Int} (hr : WFr w) (hw0 : 0 ≤ w 3) (hn : w 3 ≤ 10) (h m : Int) {r : Int} (h0 : 0 ≤ r) (h1 : r < w 3) : caW w h m r - caW w h m r / rc w r 2 * rc w r 1 = caW w h m r / rc w r 2 * (rc w r 2 - rc w r 1) := by
  have d2 := (flow_dvd hr hw0 hn h m 10 r h0 (by omega) h1).2.1
  have e : caW w h m r / rc w r 2 * rc w r 2 = caW w h m r := Int.ediv_mul_cancel d2
  rw [Int.mul_sub, e]
/-- more at the head is never less -/
theorem flow_mono {w : Int → Int} (hr : WFr w) (hw0 : 0 ≤ w 3) (hn : w 3 ≤ 10) {h g : Int} (hg : h ≤ g) (m : Int) : ∀ (d : Nat) (r : Int), 0 ≤ r → r < d → r < w 3 → cmW w h m r ≤ cmW w g m r ∧ lvW w h m r ≤ lvW w g m r := by
  have L := litre_le hr hw0 hn
  intro d
  induction d with
  | zero => intro r h0 h1 h2; omega
  | succ d ih =>
    intro r h0 h1 h2
    have q := hr r h0 h2
    have c0 : cmW w h m r ≤ cmW w g m r := by
      unfold cmW
      by_cases c : rc w r 0 = -1
      · rw [if_pos c, if_pos c]; exact Int.mul_le_mul_of_nonneg_right hg (by omega)
      · rw [if_neg c, if_neg c]
        exact (ih (rc w r 0) (by omega) (by omega) (by omega)).2
    refine ⟨c0, ?_⟩
    have c1 : caW w h m r ≤ caW w g m r := by
      unfold caW carR
      split
      · exact c0
      · split <;> split <;> omega
    rw [lvW_s hr hn h m h0 h2, lvW_s hr hn g m h0 h2]
    unfold outR
    split
    · exact c1
    · exact Int.mul_le_mul_of_nonneg_right (Int.ediv_le_ediv (by omega) c1) (by omega)
