/-! the world: what both sides stand for, over the reference's array w -/
def rc (w : Int → Int) (r k : Int) : Int := w (12 + 6 * r + k)
def fc (w : Int → Int) (f k : Int) : Int := w (72 + 4 * f + k)
def od (w : Int → Int) (k : Int) : Int := w (112 + k)
def lo (w : Int → Int) (i k : Int) : Int := w (122 + 3 * i + k)
def ow (w : Int → Int) (i j : Int) : Int := w (158 + 10 * i + j)
def ac (w : Int → Int) (f : Int) : Int := w (258 + f)
def sumZ (g : Int → Int) (n : Int) : Int := foldZ (fun k x => x + g k) 0 n
theorem sumZ_0 (g : Int → Int) : sumZ g 0 = 0 := rfl
theorem sumZ_s (g : Int → Int) {p : Int} (h : 0 ≤ p) : sumZ g (p + 1) = sumZ g p + g p := foldZ_s _ _ h
theorem sumZ_congr {g f : Int → Int} {n : Int} (h : ∀ k, 0 ≤ k → k < n → g k = f k) : sumZ g n = sumZ f n :=
  foldZ_congr (fun k x h0 h1 => by rw [h k h0 h1])
theorem sumZ_le {g : Int → Int} {n lo hi : Int} (h : ∀ k, 0 ≤ k → k < n → lo ≤ g k ∧ g k ≤ hi) {p : Int} (h0 : 0 ≤ p) (h1 : p ≤ n) : lo * p ≤ sumZ g p ∧ sumZ g p ≤ hi * p :=
  foldZ_inv (fun p (x : Int) => lo * p ≤ x ∧ x ≤ hi * p) (by simp) (n := n) (fun k x hk hk1 hx => by
    have := h k hk hk1
    simp only [Int.mul_add, Int.mul_one] at hx ⊢
    omega) h0 h1
def allSh (w : Int → Int) : Int := sumZ (fun f => fc w f 1) (w 5)
def litre (w : Int → Int) : Int := foldZ (fun r x => x * rc w r 2) 1 (w 3)
def ahead (w : Int → Int) (k : Int) : Int := sumZ (fun i => fc w (od w i) 1) k
def edge (w : Int → Int) (k : Int) : Int := w 1 * ahead w k / allSh w
def lentBy (w : Int → Int) (f : Int) : Int := sumZ (fun i => if lo w i 0 = f then lo w i 2 else 0) (w 8)
def leftK (w : Int → Int) (k : Int) : Int := edge w (k + 1) - edge w k - lentBy w (od w k)
def WFn (w : Int → Int) : Prop := 0 ≤ w 0 ∧ w 0 ≤ 999 ∧ 1 ≤ w 1 ∧ w 1 ≤ 1440 ∧ 0 ≤ w 2 ∧ w 2 ≤ 1439 ∧ 0 ≤ w 3 ∧ w 3 ≤ 10 ∧ 0 ≤ w 4 ∧ w 4 ≤ 6 ∧ 0 ≤ w 5 ∧ w 5 ≤ 10 ∧ 0 ≤ w 6 ∧ w 6 ≤ 99 ∧ 0 ≤ w 8 ∧ w 8 ≤ 12
def WFr (w : Int → Int) : Prop := ∀ r, 0 ≤ r → r < w 3 → -1 ≤ rc w r 0 ∧ rc w r 0 < r ∧ 0 ≤ rc w r 1 ∧ rc w r 1 < rc w r 2 ∧ rc w r 2 ≤ 12 ∧ (rc w r 3 = -1 ∨ 1 ≤ rc w r 3 ∧ rc w r 3 ≤ 999) ∧ (rc w r 4 = -1 ∧ rc w r 5 = -1 ∨ 0 ≤ rc w r 4 ∧ rc w r 4 < rc w r 5 ∧ rc w r 5 ≤ 1440)
def WFf (w : Int → Int) : Prop := ∀ f, 0 ≤ f → f < w 5 → 0 ≤ fc w f 0 ∧ fc w f 0 < w 3 ∧ 1 ≤ fc w f 1 ∧ fc w f 1 ≤ 99 ∧ 0 ≤ fc w f 2 ∧ fc w f 2 ≤ 9999 ∧ -1 ≤ fc w f 3 ∧ fc w f 3 < w 4
def WFo (w : Int → Int) : Prop := (∀ k, 0 ≤ k → k < w 5 → 0 ≤ od w k ∧ od w k < w 5) ∧ (∀ f, 0 ≤ f → f < w 5 → ∃ k, 0 ≤ k ∧ k < w 5 ∧ od w k = f) ∧ (∀ j k, 0 ≤ j → j < w 5 → 0 ≤ k → k < w 5 → od w j = od w k → j = k) ∧ ahead w (w 5) = allSh w
def WFl (w : Int → Int) : Prop := (∀ i, 0 ≤ i → i < w 8 → 0 ≤ lo w i 0 ∧ lo w i 0 < w 5 ∧ 0 ≤ lo w i 1 ∧ lo w i 1 < w 5 ∧ lo w i 0 ≠ lo w i 1 ∧ 1 ≤ lo w i 2 ∧ lo w i 2 ≤ 1440) ∧ (∀ k, 0 ≤ k → k < w 5 → 0 ≤ leftK w k)
def WFw (w : Int → Int) : Prop := (∀ i j, 0 ≤ i → i < 10 → 0 ≤ j → j < 10 → 0 ≤ ow w i j ∧ ow w i j ≤ 999 * (12 * w 6 + w 8) ∧ (ow w i j ≠ 0 → i < w 5 ∧ j < w 5 ∧ i ≠ j)) ∧ (∀ f, 0 ≤ f → f < 10 → 0 ≤ ac w f ∧ ac w f ≤ 143856000)
def WF (w : Int → Int) : Prop := WFn w ∧ WFr w ∧ WFf w ∧ WFo w ∧ WFl w ∧ WFw w
/-! the class's cells -/
def LV (M : Mem) (v : Int) : Prop := (M v 8 = v + 1 ∧ M v 9 = v + 12 ∧ M v 10 = v + 23 ∧ M v 11 = v + 24 ∧ M v 12 = v + 25) ∧ (M (v + 1) (-1) = 10 ∧ M (v + 12) (-1) = 10 ∧ M (v + 23) (-1) = 10 ∧ M (v + 24) (-1) = 6 ∧ M (v + 25) (-1) = 10) ∧ (∀ r, 0 ≤ r → r < 10 → M (v + 1) r = v + 2 + r ∧ M (v + 2 + r) (-1) = 6 ∧ M (v + 12) r = v + 13 + r ∧ M (v + 13 + r) (-1) = 4)
def LSt (M : Mem) (s : Int) : Prop := (M s 4 = s + 1 ∧ M s 5 = s + 2 ∧ M s 6 = s + 3 ∧ M s 7 = s + 4 ∧ M s 8 = s + 5 ∧ M s 9 = s + 6) ∧ (M (s + 1) (-1) = 10 ∧ M (s + 2) (-1) = 12 ∧ M (s + 3) (-1) = 12 ∧ M (s + 4) (-1) = 12 ∧ M (s + 5) (-1) = 100 ∧ M (s + 6) (-1) = 10)
def LO (M : Mem) (v d : Int) : Prop := M 1 0 = 2 ∧ M 1 1 = 10 ∧ M 1 2 = 13 ∧ M 1 3 = 55 ∧ M 1 4 = 74 ∧ M 1 5 = 76 ∧ M 1 6 = 83 ∧ M 1 7 = 84 ∧ M 13 0 = v ∧ M 13 1 = d ∧ M 13 2 = 48
def LW (M : Mem) : Prop := (M 55 0 = 56 ∧ M 55 1 = 63 ∧ M 55 2 = 64 ∧ M 55 3 = 65 ∧ M 55 4 = 66 ∧ M 55 5 = 67 ∧ M 55 6 = 68 ∧ M 55 7 = 69 ∧ M 55 9 = 70 ∧ M 55 10 = 71 ∧ M 55 11 = 72 ∧ M 55 12 = 73) ∧ (M 56 0 = 57 ∧ M 56 1 = 58 ∧ M 56 2 = 59 ∧ M 56 4 = 60 ∧ M 56 5 = 61 ∧ M 56 6 = 62) ∧ (M 57 (-1) = 10 ∧ M 58 (-1) = 10 ∧ M 59 (-1) = 10 ∧ M 60 (-1) = 22 ∧ M 61 (-1) = 22 ∧ M 62 (-1) = 22 ∧ M 63 (-1) = 10 ∧ M 64 (-1) = 10 ∧ M 65 (-1) = 10 ∧ M 66 (-1) = 10 ∧ M 67 (-1) = 10 ∧ M 68 (-1) = 10 ∧ M 69 (-1) = 10 ∧ M 70 (-1) = 42 ∧ M 71 (-1) = 42 ∧ M 72 (-1) = 42 ∧ M 73 (-1) = 42)
/-- a valley of the class is that of w -/
def RV (M : Mem) (v : Int) (w : Int → Int) : Prop := (M v 1 = w 1 ∧ M v 2 = w 2 ∧ M v 3 = w 3 ∧ M v 4 = w 4 ∧ M v 5 = w 5 ∧ M v 6 = allSh w ∧ M v 7 = litre w) ∧ (∀ r k, 0 ≤ r → r < w 3 → 0 ≤ k → k < 6 → M (v + 2 + r) k = rc w r k) ∧ (∀ f k, 0 ≤ f → f < w 5 → 0 ≤ k → k < 4 → M (v + 13 + f) k = fc w f k)
/-- a standing of the class is that of w -/
def RS (M : Mem) (s : Int) (w : Int → Int) : Prop := (M s 0 = w 0 ∧ M s 1 = w 6 ∧ M s 2 = w 7 ∧ M s 3 = w 8) ∧ (∀ k, 0 ≤ k → k < w 5 → M (s + 1) k = od w k) ∧ (∀ i, 0 ≤ i → i < w 8 → M (s + 2) i = lo w i 0 ∧ M (s + 3) i = lo w i 1 ∧ M (s + 4) i = lo w i 2) ∧ (∀ i j, 0 ≤ i → i < 10 → 0 ≤ j → j < 10 → M (s + 5) (i * 10 + j) = ow w i j) ∧ (∀ f, 0 ≤ f → f < 10 → M (s + 6) f = ac w f)
/-- all that a question of the class needs -/
def CI (M : Mem) (v : Int) (w : Int → Int) : Prop := (v = 14 ∨ v = 85) ∧ (M 1 2 = 13 ∧ M 1 3 = 55 ∧ M 13 0 = v ∧ M 13 2 = 48) ∧ LV M v ∧ LSt M 48 ∧ LW M ∧ RV M v w ∧ RS M 48 w
/-- the reference's cells -/
def LR (M : Mem) : Prop := (M 119 0 = 120 ∧ M 119 1 = 121 ∧ M 119 5 = 122 ∧ M 119 6 = 123 ∧ M 119 7 = 124 ∧ M 119 8 = 125 ∧ M 119 9 = 126 ∧ M 119 21 = 127 ∧ M 119 22 = 128 ∧ M 119 25 = 129 ∧ M 119 27 = 130 ∧ M 119 28 = 131 ∧ M 119 29 = 132 ∧ M 119 35 = 133 ∧ M 119 38 = 134 ∧ M 119 39 = 135 ∧ M 119 40 = 136) ∧ (M 120 (-1) = 3840 ∧ M 121 (-1) = 140 ∧ M 122 (-1) = 4 ∧ M 123 (-1) = 4 ∧ M 124 (-1) = 240 ∧ M 125 (-1) = 900 ∧ M 126 (-1) = 900 ∧ M 127 (-1) = 12 ∧ M 128 (-1) = 3 ∧ M 129 (-1) = 10 ∧ M 130 (-1) = 24 ∧ M 131 (-1) = 24 ∧ M 132 (-1) = 24 ∧ M 133 (-1) = 1440 ∧ M 134 (-1) = 80 ∧ M 135 (-1) = 4 ∧ M 136 (-1) = 4)
def SC (a k : Int) : Prop := (a = 55 ∧ k = 8) ∨ (a = 56 ∧ k = 3) ∨ (57 ≤ a ∧ a ≤ 73 ∧ 0 ≤ k)
def SR (a k : Int) : Prop := (a = 119 ∧ (k = 26 ∨ 30 ≤ k ∧ k ≤ 33)) ∨ (129 ≤ a ∧ a ≤ 133 ∧ 0 ≤ k)
abbrev Ans : Type := Int × Int × Option (Int × Int)
/-- what a question leaves behind: class, reference -/
def QC (M M' : Mem) (o : Ans) : Prop := M' 1 12 = o.2.1 ∧ (match o.2.2 with | none => M' 1 13 = M 1 13 ∧ M' 1 14 = M 1 14 | some (n, d) => M' 1 13 = ldivv n (gcdI n d) ∧ M' 1 14 = ldivv d (gcdI n d)) ∧ ∀ a k, ¬ SC a k → ¬ (a = 1 ∧ 12 ≤ k ∧ k ≤ 14) → M' a k = M a k
def QR (M M' : Mem) (o : Ans) : Prop := M' 119 2 = o.2.1 ∧ (match o.2.2 with | none => M' 119 3 = M 119 3 ∧ M' 119 4 = M 119 4 | some (n, d) => M' 119 3 = ldivv n (gcdI n d) ∧ M' 119 4 = ldivv d (gcdI n d)) ∧ ∀ a k, ¬ SR a k → ¬ (a = 119 ∧ 2 ≤ k ∧ k ≤ 4) → M' a k = M a k
def AC (o : Ans) (M : Mem) (q : Int × Mem) : Prop := q.1 = o.1 ∧ QC M q.2 o
def AR (o : Ans) (M : Mem) (q : Int × Mem) : Prop := q.1 = o.1 ∧ QR M q.2 o
/-- the last steps of a question -/
theorem ac_st {M N : Mem} (hK : ∀ a k, ¬ SC a k → N a k = M a k) (v st : Int) : AC (v, st, none) M (v, upd2 N 1 12 st) := by
  have h1 : N 1 13 = M 1 13 := hK _ _ (by unfold SC; omega)
  have h2 : N 1 14 = M 1 14 := hK _ _ (by unfold SC; omega)
  refine ⟨rfl, ?_, ?_, ?_⟩
  · simp [upd2_at]
  · simp [upd2_at, h1, h2]
  · intro a k h3 h4
    simp only [upd2_at]
    rw [if_neg (by omega)]; exact hK a k h3
theorem ar_st {M N : Mem} (hK : ∀ a k, ¬ SR a k → N a k = M a k) (v st : Int) : AR (v, st, none) M (v, upd2 N 119 2 st) := by
  have h1 : N 119 3 = M 119 3 := hK _ _ (by unfold SR; omega)
  have h2 : N 119 4 = M 119 4 := hK _ _ (by unfold SR; omega)
  refine ⟨rfl, ?_, ?_, ?_⟩
  · simp [upd2_at]
  · simp [upd2_at, h1, h2]
  · intro a k h3 h4
    simp only [upd2_at]
    rw [if_neg (by omega)]; exact hK a k h3
theorem ac_fr {M N : Mem} (hK : ∀ a k, ¬ SC a k → N a k = M a k) (v n d : Int) : AC (v, 0, some (n, d)) M (v, frC N n d) := by
  unfold frC
  refine ⟨rfl, ?_, ?_, ?_⟩
  · simp [upd2_at]
  · simp [upd2_at]
  · intro a k h3 h4
    simp only [upd2_at]
    rw [if_neg (by omega), if_neg (by omega), if_neg (by omega)]; exact hK a k h3
theorem ar_fr {M N : Mem} (hK : ∀ a k, ¬ SR a k → N a k = M a k) (v n d : Int) : AR (v, 0, some (n, d)) M (v, frR N n d) := by
  unfold frR
  refine ⟨rfl, ?_, ?_, ?_⟩
  · simp [upd2_at]
  · simp [upd2_at]
  · intro a k h3 h4
    simp only [upd2_at]
    rw [if_neg (by omega), if_neg (by omega), if_neg (by omega)]; exact hK a k h3
theorem lv_keep {M N : Mem} {v : Int} (h : LV M v) (e : ∀ a k, v ≤ a → a ≤ v + 25 → N a k = M a k) : LV N v := by
  obtain ⟨⟨a1, a2, a3, a4, a5⟩, ⟨b1, b2, b3, b4, b5⟩, c⟩ := h
  refine ⟨⟨?_, ?_, ?_, ?_, ?_⟩, ⟨?_, ?_, ?_, ?_, ?_⟩, fun r h1 h2 => ⟨?_, ?_, ?_, ?_⟩⟩ <;> rw [e _ _ (by omega) (by omega)] <;> first | assumption | exact (c r h1 h2).1 | exact (c r h1 h2).2.1 | exact (c r h1 h2).2.2.1 | exact (c r h1 h2).2.2.2
theorem ls_keep {M N : Mem} {s : Int} (h : LSt M s) (e : ∀ a k, s ≤ a → a ≤ s + 6 → N a k = M a k) : LSt N s := by
  obtain ⟨⟨a1, a2, a3, a4, a5, a6⟩, ⟨b1, b2, b3, b4, b5, b6⟩⟩ := h
  refine ⟨⟨?_, ?_, ?_, ?_, ?_, ?_⟩, ⟨?_, ?_, ?_, ?_, ?_, ?_⟩⟩ <;> rw [e _ _ (by omega) (by omega)] <;> assumption
theorem lw_keep {M N : Mem} (h : LW M) (e : ∀ a k, 55 ≤ a → a ≤ 73 → (k < 0 ∨ (a = 55 ∧ k ≠ 8) ∨ (a = 56 ∧ k ≠ 3)) → N a k = M a k) : LW N := by
  obtain ⟨⟨a1, a2, a3, a4, a5, a6, a7, a8, a9, a10, a11, a12⟩, ⟨b1, b2, b3, b4, b5, b6⟩, ⟨c1, c2, c3, c4, c5, c6, c7, c8, c9, c10, c11, c12, c13, c14, c15, c16, c17⟩⟩ := h
  refine ⟨⟨?_, ?_, ?_, ?_, ?_, ?_, ?_, ?_, ?_, ?_, ?_, ?_⟩, ⟨?_, ?_, ?_, ?_, ?_, ?_⟩, ⟨?_, ?_, ?_, ?_, ?_, ?_, ?_, ?_, ?_, ?_, ?_, ?_, ?_, ?_, ?_, ?_, ?_⟩⟩ <;> rw [e _ _ (by omega) (by omega) (by omega)] <;> assumption
theorem rv_keep {M N : Mem} {v : Int} {w : Int → Int} (hn : w 3 ≤ 10) (hf : w 5 ≤ 10) (h : RV M v w) (e : ∀ a k, v ≤ a → a ≤ v + 25 → N a k = M a k) : RV N v w := by
  obtain ⟨⟨a1, a2, a3, a4, a5, a6, a7⟩, b, c⟩ := h
  refine ⟨⟨?_, ?_, ?_, ?_, ?_, ?_, ?_⟩, fun r k h1 h2 h3 h4 => ?_, fun f k h1 h2 h3 h4 => ?_⟩ <;> rw [e _ _ (by omega) (by omega)] <;> first | assumption | exact b r k h1 h2 h3 h4 | exact c f k h1 h2 h3 h4
theorem rs_keep {M N : Mem} {s : Int} {w : Int → Int} (h : RS M s w) (e : ∀ a k, s ≤ a → a ≤ s + 6 → N a k = M a k) : RS N s w := by
  obtain ⟨⟨a1, a2, a3, a4⟩, b, c, d, g⟩ := h
  refine ⟨⟨?_, ?_, ?_, ?_⟩, fun k h1 h2 => ?_, fun i h1 h2 => ⟨?_, ?_, ?_⟩, fun i j h1 h2 h3 h4 => ?_, fun f h1 h2 => ?_⟩ <;> rw [e _ _ (by omega) (by omega)] <;> first | assumption | exact b k h1 h2 | exact (c i h1 h2).1 | exact (c i h1 h2).2.1 | exact (c i h1 h2).2.2 | exact d i j h1 h2 h3 h4 | exact g f h1 h2
/-- the state behind a question still fits -/
theorem ci_keep {M N : Mem} {v : Int} {w : Int → Int} (hn : w 3 ≤ 10) (hf : w 5 ≤ 10) (h : CI M v w) (hK : ∀ a k, ¬ SC a k → ¬ (a = 1 ∧ 12 ≤ k ∧ k ≤ 14) → N a k = M a k) : CI N v w := by
  have hv := h.1
  have e : ∀ a k, (a < 55 ∨ 85 ≤ a) → (a = 1 → k < 12) → N a k = M a k := fun a k h1 h2 => hK a k (by unfold SC; omega) (by omega)
  have e2 : ∀ a k, 55 ≤ a → a ≤ 73 → (k < 0 ∨ (a = 55 ∧ k ≠ 8) ∨ (a = 56 ∧ k ≠ 3)) → N a k = M a k := fun a k h1 h2 h3 => hK a k (by unfold SC; omega) (by omega)
  obtain ⟨_, h2, h3, h4, h5, h6, h7⟩ := h
  refine ⟨hv, ?_, lv_keep h3 (fun a k h1 h2 => e a k (by omega) (by omega)), ls_keep h4 (fun a k h1 h2 => e a k (by omega) (by omega)), lw_keep h5 e2, rv_keep hn hf h6 (fun a k h1 h2 => e a k (by omega) (by omega)), rs_keep h7 (fun a k h1 h2 => e a k (by omega) (by omega))⟩
  obtain ⟨a1, a2, a3, a4⟩ := h2
  refine ⟨?_, ?_, ?_, ?_⟩ <;> rw [e _ _ (by omega) (by omega)] <;> assumption
theorem lr_keep {M N : Mem} (h : LR M) (e : ∀ a k, (119 ≤ a ∧ a ≤ 136) → (k < 0 ∨ a = 119 ∧ (k < 2 ∨ 5 ≤ k ∧ k < 10 ∨ k = 21 ∨ k = 22 ∨ k = 25 ∨ 27 ≤ k ∧ k < 30 ∨ k = 35 ∨ 38 ≤ k ∧ k < 41)) → N a k = M a k) : LR N := by
  obtain ⟨⟨a1, a2, a3, a4, a5, a6, a7, a8, a9, a10, a11, a12, a13, a14, a15, a16, a17⟩, ⟨c1, c2, c3, c4, c5, c6, c7, c8, c9, c10, c11, c12, c13, c14, c15, c16, c17⟩⟩ := h
  refine ⟨⟨?_, ?_, ?_, ?_, ?_, ?_, ?_, ?_, ?_, ?_, ?_, ?_, ?_, ?_, ?_, ?_, ?_⟩, ⟨?_, ?_, ?_, ?_, ?_, ?_, ?_, ?_, ?_, ?_, ?_, ?_, ?_, ?_, ?_, ?_, ?_⟩⟩ <;> rw [e _ _ (by omega) (by omega)] <;> assumption
theorem lr_q {M N : Mem} (h : LR M) (hK : ∀ a k, ¬ SR a k → ¬ (a = 119 ∧ 2 ≤ k ∧ k ≤ 4) → N a k = M a k) : LR N :=
  lr_keep h (fun a k h1 h2 => hK a k (by unfold SR; omega) (by omega))
theorem w_q {M N : Mem} (hK : ∀ a k, ¬ SR a k → N a k = M a k) : N 120 = M 120 := funext fun k => hK 120 k (by unfold SR; omega)
