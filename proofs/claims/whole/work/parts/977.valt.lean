/-! a valley's text, pure -/
def bnd {α β : Type} (r : Except Fl α) (f : α → Except Fl β) : Except Fl β := match r with | .error e => .error e | .ok x => f x
theorem bnd_e {α β : Type} {e : Fl} {f : α → Except Fl β} : bnd (.error e) f = .error e := rfl
theorem bnd_o {α β : Type} {x : α} {f : α → Except Fl β} : bnd (.ok x) f = f x := rfl
theorem bnd_i {α β : Type} {r : Except Fl α} {f : α → Except Fl β} {y : β} (h : bnd r f = .ok y) : ∃ x, r = .ok x ∧ f x = .ok y := by
  cases r with
  | error e => exact absurd h (by rw [bnd_e]; exact fun z => nomatch z)
  | ok x => exact ⟨x, rfl, h⟩
abbrev VS : Type := (Int → Int) × (Int → Int) × Bool × Bool
def opT (B K : Int → Int) (n y : Int) (p : Int → Except Fl (Int × Int)) (s : Int) : Except Fl (Int × Int) := if tkY B K n s = y then p (nx B n s) else .ok (-1, s)
def laT (B K : Int → Int) (n s : Int) : Except Fl ((Int × Int) × Int) := bnd (skT B K n 5 s) fun s => bnd (nuT B n 0 11 s) fun p => bnd (skT B K n 6 p.2) fun s => bnd (nuT B n (p.1 + 1) 12 s) fun q => .ok ((p.1, q.1), q.2)
def shT (B K : Int → Int) (n s : Int) : Except Fl ((Int × Int) × Int) := if tkY B K n s = 8 then (bnd (nuT B n 0 1439 (nx B n s)) fun p => bnd (skT B K n 9 p.2) fun s => bnd (nuT B n (p.1 + 1) 1440 s) fun q => .ok ((p.1, q.1), q.2)) else .ok ((-1, -1), s)
abbrev Rw6 : Type := Int × Int × Int × Int × Int × Int
def r6 (q : Rw6) (k : Int) : Int := if k = 0 then q.1 else if k = 1 then q.2.1 else if k = 2 then q.2.2.1 else if k = 3 then q.2.2.2.1 else if k = 4 then q.2.2.2.2.1 else q.2.2.2.2.2
def reT (B K : Int → Int) (n : Int) (w nm : Int → Int) (s : Int) : Except Fl (Rw6 × Int) := bnd (opT B K n 4 (knT B K n nm (w 3)) s) fun o => bnd (laT B K n o.2) fun l => bnd (opT B K n 7 (nuT B n 1 999) l.2) fun c => bnd (shT B K n c.2) fun h => .ok ((o.1, l.1.1, l.1.2, c.1, h.1.1, h.1.2), h.2)
abbrev Rw4 : Type := Int × Int × Int × Int
def r4 (q : Rw4) (k : Int) : Int := if k = 0 then q.1 else if k = 1 then q.2.1 else if k = 2 then q.2.2.1 else q.2.2.2
def clT (B K : Int → Int) (n s : Int) : Except Fl ((Int × Int) × Int) := bnd (skT B K n 13 s) fun s => bnd (nuT B n 1 99 s) fun p => bnd (skT B K n 14 p.2) fun s => bnd (nuT B n 0 9999 s) fun q => .ok ((p.1, q.1), q.2)
def fiT (B K : Int → Int) (n : Int) (w nm : Int → Int) (s : Int) : Except Fl (Rw4 × Int) := bnd (skT B K n 12 s) fun s => bnd (knT B K n nm (w 3) s) fun o => bnd (clT B K n o.2) fun l => bnd (opT B K n 15 (knT B K n (fun k => nm (10 + k)) (w 4)) l.2) fun c => .ok ((o.1, l.1.1, l.1.2, c.1), c.2)
def addR (w : Int → Int) (q : Rw6) : Int → Int := fun j => if j = 3 then w 3 + 1 else if 12 + 6 * w 3 ≤ j ∧ j < 18 + 6 * w 3 then r6 q (j - (12 + 6 * w 3)) else w j
def addF (w : Int → Int) (q : Rw4) : Int → Int := fun j => if j = 5 then w 5 + 1 else if 72 + 4 * w 5 ≤ j ∧ j < 76 + 4 * w 5 then r4 q (j - (72 + 4 * w 5)) else w j
def hdT (B : Int → Int) (n : Int) (σ : VS) (s : Int) : Except Fl (VS × Int) := if σ.2.2.1 = true then .error (flT B n s 5) else bnd (nuT B n 0 999 (nx B n s)) fun p => bnd (smT B n p.2) fun t => .ok ((upd1 σ.1 0 p.1, σ.2.1, true, σ.2.2.2), t)
def spT (B K : Int → Int) (n : Int) (σ : VS) (s : Int) : Except Fl (VS × Int) := if σ.2.2.2 = true then .error (flT B n s 5) else bnd (nuT B n 1 1440 (nx B n s)) fun p => bnd (skT B K n 2 p.2) fun t => bnd (nuT B n 0 1439 t) fun q => bnd (smT B n q.2) fun t => .ok ((upd1 (upd1 σ.1 1 p.1) 2 q.1, σ.2.1, σ.2.2.1, true), t)
def rrT (B K : Int → Int) (n : Int) (σ : VS) (s : Int) : Except Fl (VS × Int) := bnd (noT B K n σ.1 σ.2.1 3 10 s) fun p => bnd (reT B K n σ.1 σ.2.1 p.2) fun q => bnd (smT B n q.2) fun t => .ok ((addR σ.1 q.1, upd1 σ.2.1 (σ.1 3) p.1, σ.2.2), t)
def owT (B K : Int → Int) (n : Int) (σ : VS) (s : Int) : Except Fl (VS × Int) := bnd (noT B K n σ.1 σ.2.1 4 6 s) fun p => bnd (smT B n p.2) fun t => .ok ((upd1 σ.1 4 (σ.1 4 + 1), upd1 σ.2.1 (10 + σ.1 4) p.1, σ.2.2), t)
def ffT (B K : Int → Int) (n : Int) (σ : VS) (s : Int) : Except Fl (VS × Int) := bnd (noT B K n σ.1 σ.2.1 5 10 s) fun p => bnd (fiT B K n σ.1 σ.2.1 p.2) fun q => bnd (smT B n q.2) fun t => .ok ((addF σ.1 q.1, upd1 σ.2.1 (16 + σ.1 5) p.1, σ.2.2), t)
def ptT (B K : Int → Int) (n : Int) (σ : VS) (s : Int) : Except Fl (VS × Int) :=
  if tkY B K n s = 0 then hdT B n σ s else if tkY B K n s = 1 then spT B K n σ s else if tkY B K n s = 3 then rrT B K n σ s
  else if tkY B K n s = 10 then owT B K n σ s else if tkY B K n s = 11 then ffT B K n σ s else .error (flT B n s 2)
def loT (B K : Int → Int) (n : Int) : Nat → VS → Int → Except Fl VS
  | 0, σ, _ => .ok σ
  | k + 1, σ, s => if n ≤ s then .ok σ else bnd (ptT B K n σ s) fun p => loT B K n k p.1 p.2
def plW (u : Int → Int) : Int → Int := fun j => if j = 0 then 100 else if j = 1 then 1440 else if j = 9 then -1 else if 0 ≤ j ∧ j < 640 then 0 else u j
theorem addR_3 {w : Int → Int} {q : Rw6} : addR w q 3 = w 3 + 1 := if_pos rfl
theorem addR_o {w : Int → Int} {q : Rw6} {j : Int} (h : j ≠ 3) (h2 : ¬ (12 + 6 * w 3 ≤ j ∧ j < 18 + 6 * w 3)) : addR w q j = w j := by unfold addR; rw [if_neg h, if_neg h2]
theorem addR_i {w : Int → Int} {q : Rw6} {k : Int} (h0 : 0 ≤ w 3) (k0 : 0 ≤ k) (k1 : k < 6) : rc (addR w q) (w 3) k = r6 q k := by
  unfold rc addR; rw [if_neg (by omega), if_pos (by omega)]; congr 1; omega
theorem addF_5 {w : Int → Int} {q : Rw4} : addF w q 5 = w 5 + 1 := if_pos rfl
theorem addF_o {w : Int → Int} {q : Rw4} {j : Int} (h : j ≠ 5) (h2 : ¬ (72 + 4 * w 5 ≤ j ∧ j < 76 + 4 * w 5)) : addF w q j = w j := by unfold addF; rw [if_neg h, if_neg h2]
theorem addF_i {w : Int → Int} {q : Rw4} {k : Int} (h0 : 0 ≤ w 5) (k0 : 0 ≤ k) (k1 : k < 4) : fc (addF w q) (w 5) k = r4 q k := by
  unfold fc addF; rw [if_neg (by omega), if_pos (by omega)]; congr 1; omega
/-- what holds of a valley while it is read -/
def WV (w : Int → Int) : Prop := cntW w ∧ (0 ≤ w 0 ∧ w 0 ≤ 999 ∧ 1 ≤ w 1 ∧ w 1 ≤ 1440 ∧ 0 ≤ w 2 ∧ w 2 ≤ 1439) ∧ WFr w ∧ WFf w ∧ ∀ j, (6 ≤ j ∧ j < 12) ∨ (112 ≤ j ∧ j < 640) → w j = if j = 9 then -1 else 0
theorem nuT_i {B : Int → Int} {n l m s v t : Int} (h : nuT B n l m s = .ok (v, t)) : l ≤ v ∧ v ≤ m := by
  unfold nuT at h
  by_cases c : tkK B n s = 2
  · rw [if_pos c] at h
    by_cases d : l ≤ numV B n s ∧ numV B n s ≤ m
    · rw [if_pos d] at h
      injection h with h
      injection h with h1 h2
      omega
    · rw [if_neg d] at h; exact nomatch h
  · rw [if_neg c] at h; exact nomatch h
theorem knT_i {B K g : Int → Int} {n m s v t : Int} (m0 : 0 ≤ m) (h : knT B K n g m s = .ok (v, t)) : 0 ≤ v ∧ v < m := by
  unfold knT at h
  by_cases c : tkY B K n s = -1 ∧ tkN B n s ≠ 0
  · rw [if_pos c] at h
    by_cases d : fdO g m (tkN B n s) = -1
    · rw [if_pos d] at h; exact nomatch h
    · rw [if_neg d] at h
      injection h with h
      injection h with h1 h2
      rcases fdO_b (g := g) (c := tkN B n s) m0 with q | q
      · exact absurd q.1 d
      · rw [h1] at q; exact ⟨q.1, q.2.1⟩
  · rw [if_neg c] at h; exact nomatch h
theorem noT_i {B K w nm : Int → Int} {n i x s : Int} {p : Int × Int} (h : noT B K n w nm i x s = .ok p) : w i ≠ x := by
  intro c
  unfold noT at h; rw [if_pos c] at h; exact nomatch h
theorem opT_i {B K : Int → Int} {n y s : Int} {p : Int → Except Fl (Int × Int)} {q : Int × Int} (h : opT B K n y p s = .ok q) : q.1 = -1 ∨ p (nx B n s) = .ok q := by
  unfold opT at h
  by_cases c : tkY B K n s = y
  · rw [if_pos c] at h; exact .inr h
  · rw [if_neg c] at h
    injection h with h
    exact .inl (by rw [← h])
theorem laT_i {B K : Int → Int} {n s : Int} {q : (Int × Int) × Int} (h : laT B K n s = .ok q) : 0 ≤ q.1.1 ∧ q.1.1 < q.1.2 ∧ q.1.2 ≤ 12 := by
  unfold laT at h
  obtain ⟨s1, _, h⟩ := bnd_i h
  obtain ⟨⟨l, s2⟩, e1, h⟩ := bnd_i h
  obtain ⟨s3, _, h⟩ := bnd_i h
  obtain ⟨⟨i, s4⟩, e2, h⟩ := bnd_i h
  injection h with h
  have := nuT_i e1
  have := nuT_i e2
  rw [← h]; dsimp only at *; omega
theorem shT_i {B K : Int → Int} {n s : Int} {q : (Int × Int) × Int} (h : shT B K n s = .ok q) : (q.1.1 = -1 ∧ q.1.2 = -1) ∨ (0 ≤ q.1.1 ∧ q.1.1 < q.1.2 ∧ q.1.2 ≤ 1440) := by
  unfold shT at h
  by_cases c : tkY B K n s = 8
  · rw [if_pos c] at h
    obtain ⟨⟨l, s2⟩, e1, h⟩ := bnd_i h
    obtain ⟨s3, _, h⟩ := bnd_i h
    obtain ⟨⟨i, s4⟩, e2, h⟩ := bnd_i h
    injection h with h
    have := nuT_i e1
    have := nuT_i e2
    rw [← h]; dsimp only at *; omega
  · rw [if_neg c] at h
    injection h with h
    rw [← h]; exact .inl ⟨rfl, rfl⟩
theorem clT_i {B K : Int → Int} {n s : Int} {q : (Int × Int) × Int} (h : clT B K n s = .ok q) : 1 ≤ q.1.1 ∧ q.1.1 ≤ 99 ∧ 0 ≤ q.1.2 ∧ q.1.2 ≤ 9999 := by
  unfold clT at h
  obtain ⟨s1, _, h⟩ := bnd_i h
  obtain ⟨⟨l, s2⟩, e1, h⟩ := bnd_i h
  obtain ⟨s3, _, h⟩ := bnd_i h
  obtain ⟨⟨i, s4⟩, e2, h⟩ := bnd_i h
  injection h with h
  have := nuT_i e1
  have := nuT_i e2
  rw [← h]; dsimp only at *; omega
theorem reT_i {B K w nm : Int → Int} {n s : Int} {q : Rw6 × Int} (m0 : 0 ≤ w 3) (h : reT B K n w nm s = .ok q) : -1 ≤ q.1.1 ∧ q.1.1 < w 3 ∧ 0 ≤ q.1.2.1 ∧ q.1.2.1 < q.1.2.2.1 ∧ q.1.2.2.1 ≤ 12 ∧ (q.1.2.2.2.1 = -1 ∨ 1 ≤ q.1.2.2.2.1 ∧ q.1.2.2.2.1 ≤ 999) ∧ ((q.1.2.2.2.2.1 = -1 ∧ q.1.2.2.2.2.2 = -1) ∨ (0 ≤ q.1.2.2.2.2.1 ∧ q.1.2.2.2.2.1 < q.1.2.2.2.2.2 ∧ q.1.2.2.2.2.2 ≤ 1440)) := by
  unfold reT at h
  obtain ⟨⟨o, s1⟩, e1, h⟩ := bnd_i h
  obtain ⟨⟨⟨l, i⟩, s2⟩, e2, h⟩ := bnd_i h
  obtain ⟨⟨c, s3⟩, e3, h⟩ := bnd_i h
  obtain ⟨⟨⟨f, t⟩, s4⟩, e4, h⟩ := bnd_i h
  injection h with h
  have a2 := laT_i e2
  have a4 := shT_i e4
  have a1 : o = -1 ∨ 0 ≤ o ∧ o < w 3 := by
    rcases opT_i e1 with q | q
    · exact .inl q
    · exact .inr (knT_i m0 q)
  have a3 : c = -1 ∨ 1 ≤ c ∧ c ≤ 999 := by
    rcases opT_i e3 with q | q
    · exact .inl q
    · exact .inr (nuT_i q)
  rw [← h]; dsimp only at *
  exact ⟨by omega, by omega, a2.1, a2.2.1, a2.2.2, a3, a4⟩
theorem fiT_i {B K w nm : Int → Int} {n s : Int} {q : Rw4 × Int} (m0 : 0 ≤ w 3) (m4 : 0 ≤ w 4) (h : fiT B K n w nm s = .ok q) : 0 ≤ q.1.1 ∧ q.1.1 < w 3 ∧ 1 ≤ q.1.2.1 ∧ q.1.2.1 ≤ 99 ∧ 0 ≤ q.1.2.2.1 ∧ q.1.2.2.1 ≤ 9999 ∧ -1 ≤ q.1.2.2.2 ∧ q.1.2.2.2 < w 4 := by
  unfold fiT at h
  obtain ⟨s0, _, h⟩ := bnd_i h
  obtain ⟨⟨o, s1⟩, e1, h⟩ := bnd_i h
  obtain ⟨⟨⟨l, i⟩, s2⟩, e2, h⟩ := bnd_i h
  obtain ⟨⟨c, s3⟩, e3, h⟩ := bnd_i h
  injection h with h
  have a2 := clT_i e2
  have a1 := knT_i m0 e1
  have a3 : c = -1 ∨ 0 ≤ c ∧ c < w 4 := by
    rcases opT_i e3 with q | q
    · exact .inl q
    · exact .inr (knT_i m4 q)
  rw [← h]; dsimp only at *
  omega
theorem wv_u {w : Int → Int} (h : WV w) {i x : Int} (hi : (i = 0 ∧ 0 ≤ x ∧ x ≤ 999) ∨ (i = 1 ∧ 1 ≤ x ∧ x ≤ 1440) ∨ (i = 2 ∧ 0 ≤ x ∧ x ≤ 1439)) : WV (upd1 w i x) := by
  obtain ⟨⟨c3, c4, c5⟩, ⟨b1, b2, b3, b4, b5, b6⟩, hr, hf, hz⟩ := h
  have e : ∀ j, j ≠ 0 → j ≠ 1 → j ≠ 2 → upd1 w i x j = w j := fun j _ _ _ => by rw [upd1_at, if_neg (by omega)]
  have e0 : 0 ≤ upd1 w i x 0 ∧ upd1 w i x 0 ≤ 999 := by rw [upd1_at]; by_cases c : (0 : Int) = i <;> simp only [c, if_true, if_false] <;> omega
  have e1 : 1 ≤ upd1 w i x 1 ∧ upd1 w i x 1 ≤ 1440 := by rw [upd1_at]; by_cases c : (1 : Int) = i <;> simp only [c, if_true, if_false] <;> omega
  have e2 : 0 ≤ upd1 w i x 2 ∧ upd1 w i x 2 ≤ 1439 := by rw [upd1_at]; by_cases c : (2 : Int) = i <;> simp only [c, if_true, if_false] <;> omega
  refine ⟨⟨?_, ?_, ?_⟩, ⟨e0.1, e0.2, e1.1, e1.2, e2.1, e2.2⟩, fun r r0 r1 => ?_, fun f f0 f1 => ?_, fun j hj => ?_⟩
  · rw [e 3 (by omega) (by omega) (by omega)]; exact c3
  · rw [e 4 (by omega) (by omega) (by omega)]; exact c4
  · rw [e 5 (by omega) (by omega) (by omega)]; exact c5
  · rw [e 3 (by omega) (by omega) (by omega)] at r1
    have q := hr r r0 r1
    have g : ∀ k, 0 ≤ k → rc (upd1 w i x) r k = rc w r k := fun k k0 => e _ (by omega) (by omega) (by omega)
    rw [g 0 (by omega), g 1 (by omega), g 2 (by omega), g 3 (by omega), g 4 (by omega), g 5 (by omega)]; exact q
  · rw [e 5 (by omega) (by omega) (by omega)] at f1
    have q := hf f f0 f1
    have g : ∀ k, 0 ≤ k → fc (upd1 w i x) f k = fc w f k := fun k k0 => e _ (by omega) (by omega) (by omega)
    rw [g 0 (by omega), g 1 (by omega), g 2 (by omega), g 3 (by omega), e 3 (by omega) (by omega) (by omega), e 4 (by omega) (by omega) (by omega)]; exact q
  · rw [e j (by omega) (by omega) (by omega)]; exact hz j hj
theorem wv_o {w : Int → Int} (h : WV w) (h6 : w 4 ≠ 6) : WV (upd1 w 4 (w 4 + 1)) := by
  obtain ⟨⟨c3, c4, c5⟩, ⟨b1, b2, b3, b4, b5, b6⟩, hr, hf, hz⟩ := h
  have e : ∀ j, j ≠ 4 → upd1 w 4 (w 4 + 1) j = w j := fun j _ => by rw [upd1_at, if_neg (by omega)]
  have e4 : upd1 w 4 (w 4 + 1) 4 = w 4 + 1 := by rw [upd1_at, if_pos rfl]
  refine ⟨⟨?_, ?_, ?_⟩, ?_, fun r r0 r1 => ?_, fun f f0 f1 => ?_, fun j hj => ?_⟩
  · rw [e 3 (by omega)]; exact c3
  · rw [e4]; omega
  · rw [e 5 (by omega)]; exact c5
  · rw [e 0 (by omega), e 1 (by omega), e 2 (by omega)]; exact ⟨b1, b2, b3, b4, b5, b6⟩
  · rw [e 3 (by omega)] at r1
    have q := hr r r0 r1
    have g : ∀ k, 0 ≤ k → rc (upd1 w 4 (w 4 + 1)) r k = rc w r k := fun k k0 => e _ (by omega)
    rw [g 0 (by omega), g 1 (by omega), g 2 (by omega), g 3 (by omega), g 4 (by omega), g 5 (by omega)]; exact q
  · rw [e 5 (by omega)] at f1
    have q := hf f f0 f1
    have g : ∀ k, 0 ≤ k → fc (upd1 w 4 (w 4 + 1)) f k = fc w f k := fun k k0 => e _ (by omega)
    rw [g 0 (by omega), g 1 (by omega), g 2 (by omega), g 3 (by omega), e 3 (by omega), e4]; omega
  · rw [e j (by omega)]; exact hz j hj
theorem wv_r {w : Int → Int} (h : WV w) (h6 : w 3 ≠ 10) {q : Rw6} (hq : -1 ≤ q.1 ∧ q.1 < w 3 ∧ 0 ≤ q.2.1 ∧ q.2.1 < q.2.2.1 ∧ q.2.2.1 ≤ 12 ∧ (q.2.2.2.1 = -1 ∨ 1 ≤ q.2.2.2.1 ∧ q.2.2.2.1 ≤ 999) ∧ ((q.2.2.2.2.1 = -1 ∧ q.2.2.2.2.2 = -1) ∨ (0 ≤ q.2.2.2.2.1 ∧ q.2.2.2.2.1 < q.2.2.2.2.2 ∧ q.2.2.2.2.2 ≤ 1440))) : WV (addR w q) := by
  obtain ⟨⟨c3, c4, c5⟩, ⟨b1, b2, b3, b4, b5, b6⟩, hr, hf, hz⟩ := h
  have e : ∀ j, j ≠ 3 → ¬ (12 + 6 * w 3 ≤ j ∧ j < 18 + 6 * w 3) → addR w q j = w j := fun j a b => addR_o a b
  refine ⟨⟨?_, ?_, ?_⟩, ?_, fun r r0 r1 => ?_, fun f f0 f1 => ?_, fun j hj => ?_⟩
  · rw [addR_3]; omega
  · rw [e 4 (by omega) (by omega)]; exact c4
  · rw [e 5 (by omega) (by omega)]; exact c5
  · rw [e 0 (by omega) (by omega), e 1 (by omega) (by omega), e 2 (by omega) (by omega)]; exact ⟨b1, b2, b3, b4, b5, b6⟩
  · rw [addR_3] at r1
    by_cases c : r = w 3
    · subst c
      rw [addR_i (by omega) (by omega) (by omega), addR_i (by omega) (by omega) (by omega), addR_i (by omega) (by omega) (by omega), addR_i (by omega) (by omega) (by omega), addR_i (by omega) (by omega) (by omega), addR_i (by omega) (by omega) (by omega)]
      exact hq
    · have g : ∀ k, 0 ≤ k → k < 6 → rc (addR w q) r k = rc w r k := fun k k0 k1 => e _ (by omega) (by omega)
      rw [g 0 (by omega) (by omega), g 1 (by omega) (by omega), g 2 (by omega) (by omega), g 3 (by omega) (by omega), g 4 (by omega) (by omega), g 5 (by omega) (by omega)]
      exact hr r r0 (by omega)
  · rw [e 5 (by omega) (by omega)] at f1
    have q := hf f f0 f1
    have g : ∀ k, 0 ≤ k → k < 4 → fc (addR w _) f k = fc w f k := fun k k0 k1 => e _ (by omega) (by omega)
    rw [g 0 (by omega) (by omega), g 1 (by omega) (by omega), g 2 (by omega) (by omega), g 3 (by omega) (by omega), addR_3, e 4 (by omega) (by omega)]; omega
  · rw [e j (by omega) (by omega)]; exact hz j hj
theorem wv_f {w : Int → Int} (h : WV w) (h6 : w 5 ≠ 10) {q : Rw4} (hq : 0 ≤ q.1 ∧ q.1 < w 3 ∧ 1 ≤ q.2.1 ∧ q.2.1 ≤ 99 ∧ 0 ≤ q.2.2.1 ∧ q.2.2.1 ≤ 9999 ∧ -1 ≤ q.2.2.2 ∧ q.2.2.2 < w 4) : WV (addF w q) := by
  obtain ⟨⟨c3, c4, c5⟩, ⟨b1, b2, b3, b4, b5, b6⟩, hr, hf, hz⟩ := h
  have e : ∀ j, j ≠ 5 → ¬ (72 + 4 * w 5 ≤ j ∧ j < 76 + 4 * w 5) → addF w q j = w j := fun j a b => addF_o a b
  refine ⟨⟨?_, ?_, ?_⟩, ?_, fun r r0 r1 => ?_, fun f f0 f1 => ?_, fun j hj => ?_⟩
  · rw [e 3 (by omega) (by omega)]; exact c3
  · rw [e 4 (by omega) (by omega)]; exact c4
  · rw [addF_5]; omega
  · rw [e 0 (by omega) (by omega), e 1 (by omega) (by omega), e 2 (by omega) (by omega)]; exact ⟨b1, b2, b3, b4, b5, b6⟩
  · rw [e 3 (by omega) (by omega)] at r1
    have q := hr r r0 r1
    have g : ∀ k, 0 ≤ k → k < 6 → rc (addF w _) r k = rc w r k := fun k k0 k1 => e _ (by omega) (by omega)
    rw [g 0 (by omega) (by omega), g 1 (by omega) (by omega), g 2 (by omega) (by omega), g 3 (by omega) (by omega), g 4 (by omega) (by omega), g 5 (by omega) (by omega)]; exact q
  · rw [addF_5] at f1
    by_cases c : f = w 5
    · subst c
      rw [addF_i (by omega) (by omega) (by omega), addF_i (by omega) (by omega) (by omega), addF_i (by omega) (by omega) (by omega), addF_i (by omega) (by omega) (by omega), e 3 (by omega) (by omega), e 4 (by omega) (by omega)]
      exact hq
    · have g : ∀ k, 0 ≤ k → k < 4 → fc (addF w q) f k = fc w f k := fun k k0 k1 => e _ (by omega) (by omega)
      rw [g 0 (by omega) (by omega), g 1 (by omega) (by omega), g 2 (by omega) (by omega), g 3 (by omega) (by omega), e 3 (by omega) (by omega), e 4 (by omega) (by omega)]
      exact hf f f0 (by omega)
  · rw [e j (by omega) (by omega)]; exact hz j hj
theorem wv_pl (u : Int → Int) : WV (plW u) := by
  have p3 : plW u 3 = 0 := rfl
  have p4 : plW u 4 = 0 := rfl
  have p5 : plW u 5 = 0 := rfl
  have p0 : plW u 0 = 100 := rfl
  have p1 : plW u 1 = 1440 := rfl
  have p2 : plW u 2 = 0 := rfl
  refine ⟨⟨by omega, by omega, by omega⟩, by omega, fun r r0 r1 => by omega, fun f f0 f1 => by omega, fun j hj => ?_⟩
  unfold plW
  rw [if_neg (by omega), if_neg (by omega)]
  by_cases c : j = 9
  · rw [if_pos c, if_pos c]
  · rw [if_neg c, if_neg c, if_pos (by omega)]
theorem ptT_v {B K : Int → Int} {n s : Int} {σ : VS} {p : VS × Int} (h : ptT B K n σ s = .ok p) (hw : WV σ.1) : WV p.1.1 := by
  unfold ptT at h
  by_cases c0 : tkY B K n s = 0
  · rw [if_pos c0] at h
    unfold hdT at h
    by_cases d : σ.2.2.1 = true
    · rw [if_pos d] at h; exact nomatch h
    · rw [if_neg d] at h
      obtain ⟨⟨x, t⟩, e1, h⟩ := bnd_i h
      obtain ⟨t2, _, h⟩ := bnd_i h
      injection h with h
      have := nuT_i e1
      rw [← h]
      exact wv_u hw (.inl ⟨rfl, this.1, this.2⟩)
  rw [if_neg c0] at h
  by_cases c1 : tkY B K n s = 1
  · rw [if_pos c1] at h
    unfold spT at h
    by_cases d : σ.2.2.2 = true
    · rw [if_pos d] at h; exact nomatch h
    · rw [if_neg d] at h
      obtain ⟨⟨x, t⟩, e1, h⟩ := bnd_i h
      obtain ⟨t2, _, h⟩ := bnd_i h
      obtain ⟨⟨y, t3⟩, e2, h⟩ := bnd_i h
      obtain ⟨t4, _, h⟩ := bnd_i h
      injection h with h
      have a := nuT_i e1
      have b := nuT_i e2
      rw [← h]
      exact wv_u (wv_u hw (.inr (.inl ⟨rfl, a.1, a.2⟩))) (.inr (.inr ⟨rfl, b.1, b.2⟩))
  rw [if_neg c1] at h
  by_cases c2 : tkY B K n s = 3
  · rw [if_pos c2] at h
    unfold rrT at h
    obtain ⟨p1, e1, h⟩ := bnd_i h
    obtain ⟨q, e2, h⟩ := bnd_i h
    obtain ⟨t4, _, h⟩ := bnd_i h
    injection h with h
    rw [← h]
    exact wv_r hw (noT_i e1) (reT_i hw.1.1.1 e2)
  rw [if_neg c2] at h
  by_cases c3 : tkY B K n s = 10
  · rw [if_pos c3] at h
    unfold owT at h
    obtain ⟨p1, e1, h⟩ := bnd_i h
    obtain ⟨t4, _, h⟩ := bnd_i h
    injection h with h
    rw [← h]
    exact wv_o hw (noT_i e1)
  rw [if_neg c3] at h
  by_cases c4 : tkY B K n s = 11
  · rw [if_pos c4] at h
    unfold ffT at h
    obtain ⟨p1, e1, h⟩ := bnd_i h
    obtain ⟨q, e2, h⟩ := bnd_i h
    obtain ⟨t4, _, h⟩ := bnd_i h
    injection h with h
    rw [← h]
    exact wv_f hw (noT_i e1) (fiT_i hw.1.1.1 hw.1.2.1.1 e2)
  rw [if_neg c4] at h; exact nomatch h
theorem loT_v {B K : Int → Int} {n : Int} : ∀ (k : Nat) (σ τ : VS) (s : Int), loT B K n k σ s = .ok τ → WV σ.1 → WV τ.1
  | 0, σ, τ, s, h, hw => by
    have h : Except.ok σ = (Except.ok τ : Except Fl VS) := h
    injection h with h; rw [← h]; exact hw
  | k + 1, σ, τ, s, h, hw => by
    have h : (if n ≤ s then .ok σ else bnd (ptT B K n σ s) fun p => loT B K n k p.1 p.2) = (Except.ok τ : Except Fl VS) := h
    by_cases c : n ≤ s
    · rw [if_pos c] at h
      injection h with h; rw [← h]; exact hw
    · rw [if_neg c] at h
      obtain ⟨p, e, h⟩ := bnd_i h
      exact loT_v k p.1 τ p.2 h (ptT_v e hw)
