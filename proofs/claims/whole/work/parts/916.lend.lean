/-! lending -/
def paidW (w : Int → Int) (f t m : Int) : Int := if ow w f t < m then ow w f t else m
def lendO (w : Int → Int) (f t m : Int) : Int → Int := fun j =>
  if j = 158 + 10 * t + f then ow w t f + (m - paidW w f t m) else if j = 158 + 10 * f + t then ow w f t - paidW w f t m
  else if j = 8 then w 8 + 1 else if j = 122 + 3 * w 8 + 2 then m else if j = 122 + 3 * w 8 + 1 then t else if j = 122 + 3 * w 8 then f else w j
theorem lendO_o {w : Int → Int} {f t m j : Int} (hf0 : 0 ≤ f) (hf1 : f < 10) (ht0 : 0 ≤ t) (ht1 : t < 10) (h0 : 0 ≤ w 8) (h1 : w 8 < 12) (h : j < 8 ∨ 8 < j ∧ j < 122 ∨ 258 ≤ j) : lendO w f t m j = w j := by
  unfold lendO
  rw [if_neg (by omega), if_neg (by omega), if_neg (by omega), if_neg (by omega), if_neg (by omega), if_neg (by omega)]
theorem lendO_8 {w : Int → Int} {f t m : Int} (hf0 : 0 ≤ f) (ht0 : 0 ≤ t) : lendO w f t m 8 = w 8 + 1 := by
  unfold lendO
  rw [if_neg (by omega), if_neg (by omega), if_pos rfl]
theorem lendO_lo {w : Int → Int} {f t m i : Int} (hf0 : 0 ≤ f) (ht0 : 0 ≤ t) (h0 : 0 ≤ w 8) (h1 : w 8 < 12) (i0 : 0 ≤ i) (i1 : i ≤ w 8) : lo (lendO w f t m) i 0 = (if i = w 8 then f else lo w i 0) ∧ lo (lendO w f t m) i 1 = (if i = w 8 then t else lo w i 1) ∧ lo (lendO w f t m) i 2 = (if i = w 8 then m else lo w i 2) := by
  unfold lo lendO
  by_cases h : i = w 8
  · subst h
    refine ⟨?_, ?_, ?_⟩
    · rw [if_neg (by omega), if_neg (by omega), if_neg (by omega), if_neg (by omega), if_neg (by omega), if_pos (by omega), if_pos rfl]
    · rw [if_neg (by omega), if_neg (by omega), if_neg (by omega), if_neg (by omega), if_pos (by omega), if_pos rfl]
    · rw [if_neg (by omega), if_neg (by omega), if_neg (by omega), if_pos (by omega), if_pos rfl]
  · refine ⟨?_, ?_, ?_⟩ <;> rw [if_neg (by omega), if_neg (by omega), if_neg (by omega), if_neg (by omega), if_neg (by omega), if_neg (by omega), if_neg h]
theorem lendO_ow {w : Int → Int} {f t m i j : Int} (hf0 : 0 ≤ f) (hf1 : f < 10) (ht0 : 0 ≤ t) (ht1 : t < 10) (h0 : 0 ≤ w 8) (h1 : w 8 < 12) (i0 : 0 ≤ i) (i1 : i < 10) (j0 : 0 ≤ j) (j1 : j < 10) (hft : f ≠ t) : ow (lendO w f t m) i j = if i = t ∧ j = f then ow w t f + (m - paidW w f t m) else if i = f ∧ j = t then ow w f t - paidW w f t m else ow w i j := by
  unfold lendO
  show (if 158 + 10 * i + j = _ then _ else _) = _
  by_cases c1 : i = t ∧ j = f
  · rw [if_pos (by omega), if_pos c1]
  · rw [if_neg (by omega), if_neg c1]
    by_cases c2 : i = f ∧ j = t
    · rw [if_pos (by omega), if_pos c2]
    · rw [if_neg (by omega), if_neg c2, if_neg (by omega), if_neg (by omega), if_neg (by omega), if_neg (by omega)]; rfl
