/-! the text of the days, pure -/
abbrev Rw5 : Type := Int × Int × Int × Int × Int
def r5 (q : Rw5) (k : Int) : Int := if k = 0 then q.1 else if k = 1 then q.2.1 else if k = 2 then q.2.2.1 else if k = 3 then q.2.2.2.1 else if k = 4 then 0 else q.2.2.2.2
abbrev DS : Type := (Int → Int) × List Int × Int
def addD (w : Int → Int) (q : Rw5) : Int → Int := fun j => if j = 9 then w 9 + 1 else if 270 + 6 * w 9 ≤ j ∧ j < 276 + 6 * w 9 then r5 q (j - (270 + 6 * w 9)) else w j
def lnk (w : Int → Int) (n o : Int) : Int → Int := upd1 (upd1 w (270 + 6 * n + 4) o) (270 + 6 * o + 4) n
/-- the names and counts that a text of days looks up -/
abbrev Nms : Type := (Int → Int) × Int × (Int → Int) × Int
def sgT (B : Int → Int) (n s : Int) : Except Fl (Int × Int) := if tkK B n s = 3 ∧ B s ≠ 59 then .ok (B s, nx B n s) else .error (flT B n s 2)
def tsT (B K : Int → Int) (n : Int) (m : Nms) (s : Int) : Except Fl (Rw5 × Int) :=
  if tkY B K n s = 8 then (bnd (knT B K n m.1 m.2.1 (nx B n s)) fun p => .ok ((2310, p.1, 0, 0, 0), p.2))
  else if tkY B K n s = 25 then (bnd (knT B K n m.2.2.1 m.2.2.2 (nx B n s)) fun p => bnd (sgT B n p.2) fun q => bnd (nuT B n 0 999 q.2) fun r => .ok ((2328, p.1, r.1, 0, q.1), r.2))
  else if tkY B K n s = 26 then (bnd (knT B K n m.2.2.1 m.2.2.2 (nx B n s)) fun p => bnd (sgT B n p.2) fun q => bnd (nuT B n 0 9999 q.2) fun r => .ok ((2329, p.1, r.1, 0, q.1), r.2))
  else .error (flT B n s 2)
def a1T (B K : Int → Int) (n : Int) (m : Nms) (y s : Int) : Except Fl (Rw5 × Int) :=
  if y = 8 ∨ y = 16 then (bnd (knT B K n m.1 m.2.1 s) fun p => .ok ((pR y, p.1, 0, 0, 0), p.2))
  else if y = 23 then tsT B K n m s
  else if y = 17 ∨ y = 18 ∨ y = 19 then (bnd (knT B K n m.2.2.1 m.2.2.2 s) fun p => bnd (knT B K n m.2.2.1 m.2.2.2 p.2) fun q => .ok ((y, p.1, q.1, 0, 0), q.2))
  else .ok ((pR y, 0, 0, 0, 0), s)
def a2T (B : Int → Int) (n y : Int) (q : Rw5 × Int) : Except Fl (Rw5 × Int) :=
  if y = 18 then (bnd (nuT B n 1 999 q.2) fun p => .ok ((q.1.1, q.1.2.1, q.1.2.2.1, p.1, 0), p.2))
  else if y = 20 then (bnd (nuT B n 0 999 q.2) fun p => .ok ((20, p.1, 0, 0, 0), p.2))
  else if y = 21 then (bnd (nuT B n 0 16 q.2) fun p => .ok ((21, p.1, 0, 0, 0), p.2))
  else if y = 27 then (bnd (nuT B n 1 99 q.2) fun p => .ok ((24, p.1, 0, 0, 0), p.2))
  else .ok q
abbrev swd (y : Int) : Prop := y = 8 ∨ (16 ≤ y ∧ y ≤ 23) ∨ y = 27 ∨ y = 29
def dsT (B K : Int → Int) (n : Int) (m : Nms) (σ : DS) (s : Int) : Except Fl (DS × Int) :=
  if tkY B K n s = 28 then (match σ.2.1 with | [] => .error (flT B n s 2) | o :: O => bnd (smT B n (nx B n s)) fun t => .ok ((lnk (addD σ.1 (25, 0, 0, 0, 0)) (σ.1 9) o, O, σ.2.2), t))
  else if ¬ swd (tkY B K n s) then .error (flT B n s 2)
  else if σ.2.2 = 30 then .error (flT B n s 6)
  else if (tkY B K n s = 23 ∨ tkY B K n s = 27) ∧ σ.2.1.length = 3 then .error (flT B n s 7)
  else bnd (a1T B K n m (tkY B K n s) (nx B n s)) fun p => bnd (a2T B n (tkY B K n s) p) fun q => bnd (smT B n q.2) fun t => .ok ((addD σ.1 q.1, if tkY B K n s = 23 ∨ tkY B K n s = 27 then σ.1 9 :: σ.2.1 else σ.2.1, σ.2.2 + 1), t)
def dlT (B K : Int → Int) (n : Int) (m : Nms) : Nat → DS → Int → Except Fl DS
  | 0, σ, _ => .ok σ
  | k + 1, σ, s => if n ≤ s then (match σ.2.1 with | [] => .ok σ | _ :: _ => .error (flT B n s 2)) else bnd (dsT B K n m σ s) fun p => dlT B K n m k p.1 p.2
def δ0 (u : Int → Int) : DS := (upd1 u 9 0, [], 0)
def rdD (B K : Int → Int) (x : Int) (m : Nms) (u : Int → Int) : Except Fl DS := dlT B K x m ((x - rnE blB B x 0).toNat + 1) (δ0 u) (rnE blB B x 0)
/-! what holds of it -/
def rOK (m : Nms) (q : Rw5) : Prop :=
  ((q.1 = 10 ∨ q.1 = 16) ∧ 0 ≤ q.2.1 ∧ q.2.1 < m.2.1) ∨
  ((q.1 = 17 ∨ q.1 = 19) ∧ 0 ≤ q.2.1 ∧ q.2.1 < m.2.2.2 ∧ 0 ≤ q.2.2.1 ∧ q.2.2.1 < m.2.2.2) ∨
  (q.1 = 18 ∧ 0 ≤ q.2.1 ∧ q.2.1 < m.2.2.2 ∧ 0 ≤ q.2.2.1 ∧ q.2.2.1 < m.2.2.2 ∧ 1 ≤ q.2.2.2.1 ∧ q.2.2.2.1 ≤ 999) ∨
  (q.1 = 20 ∧ 0 ≤ q.2.1 ∧ q.2.1 ≤ 999) ∨ (q.1 = 21 ∧ 0 ≤ q.2.1 ∧ q.2.1 ≤ 16) ∨ q.1 = 22 ∨ q.1 = 26 ∨ (q.1 = 24 ∧ 1 ≤ q.2.1 ∧ q.2.1 ≤ 99) ∨ q.1 = 25 ∨
  (q.1 = 2310 ∧ 0 ≤ q.2.1 ∧ q.2.1 < m.2.1) ∨
  ((q.1 = 2328 ∨ q.1 = 2329) ∧ 0 ≤ q.2.1 ∧ q.2.1 < m.2.2.2 ∧ 0 ≤ q.2.2.1 ∧ q.2.2.1 ≤ 9999 ∧ (q.2.2.2.2 = 60 ∨ q.2.2.2.2 = 61 ∨ q.2.2.2.2 = 62))
theorem sgT_i {B : Int → Int} {n s : Int} {p : Int × Int} (h : sgT B n s = .ok p) : p.1 = 60 ∨ p.1 = 61 ∨ p.1 = 62 := by
  unfold sgT at h
  by_cases c : tkK B n s = 3 ∧ B s ≠ 59
  · rw [if_pos c] at h
    injection h with h
    rw [← h]
    show B s = 60 ∨ B s = 61 ∨ B s = 62
    have k3 := c.1
    by_cases e : n ≤ s
    · rw [(tk_0 (K := B) e).2.1] at k3; omega
    by_cases w : 97 ≤ B s ∧ B s ≤ 122
    · rw [(tk_1 (K := B) (by omega) w).2.1] at k3; omega
    by_cases d : 48 ≤ B s ∧ B s ≤ 57
    · rw [(tk_2 (K := B) (by omega) d).2.1] at k3
      by_cases g : rnE (rgB 48 57) B n s - s ≤ 4
      · rw [if_pos g] at k3; omega
      · rw [if_neg g] at k3; omega
    · rw [(tk_3 (K := B) (by omega) w d).2.1] at k3
      by_cases g : B s = 59 ∨ B s = 60 ∨ B s = 61 ∨ B s = 62
      · omega
      · rw [if_neg g] at k3; omega
  · rw [if_neg c] at h; exact nomatch h
theorem tsT_i {B K : Int → Int} {n : Int} {m : Nms} {s : Int} {p : Rw5 × Int} (m3 : 0 ≤ m.2.1) (m5 : 0 ≤ m.2.2.2) (h : tsT B K n m s = .ok p) : rOK m p.1 ∧ (p.1.1 = 2310 ∨ p.1.1 = 2328 ∨ p.1.1 = 2329) := by
  unfold tsT at h
  by_cases c8 : tkY B K n s = 8
  · rw [if_pos c8] at h
    obtain ⟨⟨a, t⟩, e1, h⟩ := bnd_i h
    injection h with h
    have := knT_i m3 e1
    rw [← h]; exact ⟨.inr (.inr (.inr (.inr (.inr (.inr (.inr (.inr (.inr (.inl ⟨rfl, this⟩))))))))), .inl rfl⟩
  rw [if_neg c8] at h
  by_cases c25 : tkY B K n s = 25
  · rw [if_pos c25] at h
    obtain ⟨⟨a, t⟩, e1, h⟩ := bnd_i h
    obtain ⟨⟨g, t2⟩, e2, h⟩ := bnd_i h
    obtain ⟨⟨v, t3⟩, e3, h⟩ := bnd_i h
    injection h with h
    have b1 := knT_i m5 e1
    have b2 := sgT_i e2
    have b3 := nuT_i e3
    rw [← h]
    exact ⟨.inr (.inr (.inr (.inr (.inr (.inr (.inr (.inr (.inr (.inr ⟨.inl rfl, b1.1, b1.2, b3.1, by show v ≤ 9999; omega, b2⟩))))))))), .inr (.inl rfl)⟩
  rw [if_neg c25] at h
  by_cases c26 : tkY B K n s = 26
  · rw [if_pos c26] at h
    obtain ⟨⟨a, t⟩, e1, h⟩ := bnd_i h
    obtain ⟨⟨g, t2⟩, e2, h⟩ := bnd_i h
    obtain ⟨⟨v, t3⟩, e3, h⟩ := bnd_i h
    injection h with h
    have b1 := knT_i m5 e1
    have b2 := sgT_i e2
    have b3 := nuT_i e3
    rw [← h]
    exact ⟨.inr (.inr (.inr (.inr (.inr (.inr (.inr (.inr (.inr (.inr ⟨.inr rfl, b1.1, b1.2, b3.1, b3.2, b2⟩))))))))), .inr (.inr rfl)⟩
  · rw [if_neg c26] at h; exact nomatch h
/-- a step's row: its code belongs to its word -/
def cdY (y c : Int) : Prop := (y ≠ 23 → c = pR y) ∧ (y = 23 → c = 2310 ∨ c = 2328 ∨ c = 2329)
theorem dsA_i {B K : Int → Int} {n : Int} {m : Nms} {y s : Int} {p q : Rw5 × Int} (m3 : 0 ≤ m.2.1) (m5 : 0 ≤ m.2.2.2) (hy : swd y) (h1 : a1T B K n m y s = .ok p) (h2 : a2T B n y p = .ok q) : rOK m q.1 ∧ cdY y q.1.1 ∧ q.1.1 ≠ 25 := by
  unfold a1T at h1
  by_cases c8 : y = 8 ∨ y = 16
  · rw [if_pos c8] at h1
    obtain ⟨⟨a, t⟩, e1, h1⟩ := bnd_i h1
    injection h1 with h1
    unfold a2T at h2
    rw [if_neg (by omega), if_neg (by omega), if_neg (by omega), if_neg (by omega)] at h2
    injection h2 with h2
    have b := knT_i m3 e1
    rw [← h2, ← h1]
    rcases c8 with e | e <;> subst e
    · exact ⟨.inl ⟨.inl rfl, b⟩, ⟨fun _ => rfl, fun z => by omega⟩, by show (10 : Int) ≠ 25; decide⟩
    · exact ⟨.inl ⟨.inr rfl, b⟩, ⟨fun _ => rfl, fun z => by omega⟩, by show (16 : Int) ≠ 25; decide⟩
  rw [if_neg c8] at h1
  by_cases c23 : y = 23
  · rw [if_pos c23] at h1
    unfold a2T at h2
    rw [if_neg (by omega), if_neg (by omega), if_neg (by omega), if_neg (by omega)] at h2
    injection h2 with h2
    have b := tsT_i m3 m5 h1
    rw [← h2]
    exact ⟨b.1, ⟨fun z => absurd c23 z, fun _ => b.2⟩, by have := b.2; omega⟩
  rw [if_neg c23] at h1
  by_cases c17 : y = 17 ∨ y = 18 ∨ y = 19
  · rw [if_pos c17] at h1
    obtain ⟨⟨a, t⟩, e1, h1⟩ := bnd_i h1
    obtain ⟨⟨b, t2⟩, e2, h1⟩ := bnd_i h1
    injection h1 with h1
    have b1 := knT_i m5 e1
    have b2 := knT_i m5 e2
    unfold a2T at h2
    by_cases c18 : y = 18
    · rw [if_pos c18] at h2
      obtain ⟨⟨v, t3⟩, e3, h2⟩ := bnd_i h2
      injection h2 with h2
      have b3 := nuT_i e3
      rw [← h2, ← h1]
      subst c18
      exact ⟨.inr (.inr (.inl ⟨rfl, b1.1, b1.2, b2.1, b2.2, b3.1, b3.2⟩)), ⟨fun _ => rfl, fun z => by omega⟩, by show (18 : Int) ≠ 25; decide⟩
    · rw [if_neg c18, if_neg (by omega), if_neg (by omega), if_neg (by omega)] at h2
      injection h2 with h2
      rw [← h2, ← h1]
      have c : y = 17 ∨ y = 19 := by omega
      rcases c with e | e <;> subst e
      · exact ⟨.inr (.inl ⟨.inl rfl, b1.1, b1.2, b2.1, b2.2⟩), ⟨fun _ => rfl, fun z => by omega⟩, by show (17 : Int) ≠ 25; decide⟩
      · exact ⟨.inr (.inl ⟨.inr rfl, b1.1, b1.2, b2.1, b2.2⟩), ⟨fun _ => rfl, fun z => by omega⟩, by show (19 : Int) ≠ 25; decide⟩
  rw [if_neg c17] at h1
  injection h1 with h1
  unfold a2T at h2
  rw [if_neg (by omega)] at h2
  by_cases c20 : y = 20
  · rw [if_pos c20] at h2
    obtain ⟨⟨v, t3⟩, e3, h2⟩ := bnd_i h2
    injection h2 with h2
    have b3 := nuT_i e3
    rw [← h2]
    subst c20
    exact ⟨.inr (.inr (.inr (.inl ⟨rfl, b3⟩))), ⟨fun _ => rfl, fun z => by omega⟩, by show (20 : Int) ≠ 25; decide⟩
  rw [if_neg c20] at h2
  by_cases c21 : y = 21
  · rw [if_pos c21] at h2
    obtain ⟨⟨v, t3⟩, e3, h2⟩ := bnd_i h2
    injection h2 with h2
    have b3 := nuT_i e3
    rw [← h2]
    subst c21
    exact ⟨.inr (.inr (.inr (.inr (.inl ⟨rfl, b3⟩)))), ⟨fun _ => rfl, fun z => by omega⟩, by show (21 : Int) ≠ 25; decide⟩
  rw [if_neg c21] at h2
  by_cases c27 : y = 27
  · rw [if_pos c27] at h2
    obtain ⟨⟨v, t3⟩, e3, h2⟩ := bnd_i h2
    injection h2 with h2
    have b3 := nuT_i e3
    rw [← h2]
    subst c27
    exact ⟨.inr (.inr (.inr (.inr (.inr (.inr (.inr (.inl ⟨rfl, b3⟩))))))), ⟨fun _ => rfl, fun z => by omega⟩, by show (24 : Int) ≠ 25; decide⟩
  rw [if_neg c27] at h2
  injection h2 with h2
  rw [← h2, ← h1]
  have c : y = 22 ∨ y = 29 := by omega
  rcases c with e | e <;> subst e
  · exact ⟨.inr (.inr (.inr (.inr (.inr (.inl rfl))))), ⟨fun _ => rfl, fun z => by omega⟩, by show (22 : Int) ≠ 25; decide⟩
  · exact ⟨.inr (.inr (.inr (.inr (.inr (.inr (.inl rfl)))))), ⟨fun _ => rfl, fun z => by omega⟩, by show (26 : Int) ≠ 25; decide⟩
