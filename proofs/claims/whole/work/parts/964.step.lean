/-! tokens of the class -/
def tkE (B : Int → Int) (n s : Int) : Int := if n ≤ s then s else if 97 ≤ B s ∧ B s ≤ 122 then rnE (rgB 97 122) B n s else if 48 ≤ B s ∧ B s ≤ 57 then rnE (rgB 48 57) B n s else s + 1
def tkK (B : Int → Int) (n s : Int) : Int := if n ≤ s then 0 else if 97 ≤ B s ∧ B s ≤ 122 then 1 else if 48 ≤ B s ∧ B s ≤ 57 then (if rnE (rgB 48 57) B n s - s ≤ 4 then 2 else 4) else if B s = 59 ∨ B s = 60 ∨ B s = 61 ∨ B s = 62 then 3 else 4
def tkN (B : Int → Int) (n s : Int) : Int := if s < n ∧ 97 ≤ B s ∧ B s ≤ 122 then nmO B s (tkE B n s) else 0
def tkY (B K : Int → Int) (n s : Int) : Int := if s < n ∧ 97 ≤ B s ∧ B s ≤ 122 then kyO K (tkN B n s) else -1
def TkC (N : Mem) (B K : Int → Int) (n s : Int) : Prop := N 10 4 = s ∧ N 10 3 = tkE B n s ∧ N 10 7 = tkK B n s ∧ (tkK B n s = 2 → N 10 5 = numS B (tkE B n s - s).toNat s 0) ∧ (tkK B n s = 3 → N 10 8 = B s) ∧ N 10 10 = tkN B n s ∧ N 10 9 = tkY B K n s
theorem tk_0 {B K : Int → Int} {n s : Int} (h : n ≤ s) : tkE B n s = s ∧ tkK B n s = 0 ∧ tkN B n s = 0 ∧ tkY B K n s = -1 := by
  unfold tkY tkN tkK tkE; rw [if_pos h, if_pos h, if_neg (by omega), if_neg (by omega)]; exact ⟨rfl, rfl, rfl, rfl⟩
theorem tk_1 {B K : Int → Int} {n s : Int} (h : s < n) (hb : 97 ≤ B s ∧ B s ≤ 122) : tkE B n s = rnE (rgB 97 122) B n s ∧ tkK B n s = 1 ∧ tkN B n s = nmO B s (tkE B n s) ∧ tkY B K n s = kyO K (tkN B n s) := by
  refine ⟨?_, ?_, ?_, ?_⟩
  · unfold tkE; rw [if_neg (by omega), if_pos hb]
  · unfold tkK; rw [if_neg (by omega), if_pos hb]
  · unfold tkN; rw [if_pos ⟨h, hb⟩]
  · unfold tkY; rw [if_pos ⟨h, hb⟩]
theorem tk_2 {B K : Int → Int} {n s : Int} (h : s < n) (hb : 48 ≤ B s ∧ B s ≤ 57) : tkE B n s = rnE (rgB 48 57) B n s ∧ tkK B n s = (if rnE (rgB 48 57) B n s - s ≤ 4 then 2 else 4) ∧ tkN B n s = 0 ∧ tkY B K n s = -1 := by
  refine ⟨?_, ?_, ?_, ?_⟩
  · unfold tkE; rw [if_neg (by omega), if_neg (by omega), if_pos hb]
  · unfold tkK; rw [if_neg (by omega), if_neg (by omega), if_pos hb]
  · unfold tkN; rw [if_neg (by omega)]
  · unfold tkY; rw [if_neg (by omega)]
theorem tk_3 {B K : Int → Int} {n s : Int} (h : s < n) (hb : ¬ (97 ≤ B s ∧ B s ≤ 122)) (hc : ¬ (48 ≤ B s ∧ B s ≤ 57)) : tkE B n s = s + 1 ∧ tkK B n s = (if B s = 59 ∨ B s = 60 ∨ B s = 61 ∨ B s = 62 then 3 else 4) ∧ tkN B n s = 0 ∧ tkY B K n s = -1 := by
  refine ⟨?_, ?_, ?_, ?_⟩
  · unfold tkE; rw [if_neg (by omega), if_neg hb, if_neg hc]
  · unfold tkK; rw [if_neg (by omega), if_neg hb, if_neg hc]
  · unfold tkN; rw [if_neg (by omega)]
  · unfold tkY; rw [if_neg (by omega)]
def stF (a j : Int) : Prop := a = 10 ∧ (j = 3 ∨ j = 4 ∨ j = 5 ∨ j = 7 ∨ j = 8 ∨ j = 9 ∨ j = 10)
theorem stF_n {a j : Int} (h : ¬ stF a j) : ¬ (a = 10 ∧ (j = 3 ∨ j = 4 ∨ j = 5 ∨ j = 7 ∨ j = 8 ∨ j = 9 ∨ j = 10)) := h
/-- behind the blanks, before the token -/
def AtT (M Y : Mem) (s : Int) : Prop := (Y 10 3 = s ∧ Y 10 4 = s ∧ Y 10 9 = -1 ∧ Y 10 10 = 0) ∧ ∀ a j, ¬ (a = 10 ∧ (j = 3 ∨ j = 4 ∨ j = 9 ∨ j = 10)) → Y a j = M a j
theorem step1_e {M Y : Mem} {n s : Int} {Q : Mem → Prop} (h : TpC M n) (hy : AtT M Y s) (s0 : 0 ≤ s) (s1 : s < n) (hb : 97 ≤ M 11 s ∧ M 11 s ≤ 122) (hq : ∀ N, (∀ a j, ¬ stF a j → N a j = M a j) → TkC N (M 11) (M 12) n s → Q N) : Tot (callp (f_X6_runEnd 10 97 122 Y) (fun v60 => putf Y 10 3 v60 (fun M61 => putf M61 10 7 1 (fun M62 => callv (f_X6_spell 10 M62) (fun M63 => some M63))))) Q := by
  obtain ⟨⟨y3, y4, y9, y10⟩, yk⟩ := hy
  have hB : Y 11 = M 11 := funext (fun j => yk 11 j (by omega))
  obtain ⟨⟨h1, h2, h3, h4, h5⟩, hn, n0, n1⟩ := h
  have tY : TpC Y n := ⟨⟨by rw [yk _ _ (by omega)]; exact h1, by rw [yk _ _ (by omega)]; exact h2, by rw [yk _ _ (by omega)]; exact h3, by rw [yk _ _ (by omega)]; exact h4, by rw [yk _ _ (by omega)]; exact h5⟩, by rw [yk _ _ (by omega)]; exact hn, n0, n1⟩
  obtain ⟨t1, t2, t3, t4⟩ := tk_1 (K := M 12) s1 hb
  rw [t_callp]
  refine t_mono (runEnd_e tY y4 s0 (by omega)) (fun e he => ?_)
  rw [hB] at he
  obtain ⟨r1, r2, r3, _⟩ := rn_b (C := rgB 97 122) (B := M 11) (n := n) (p := s) (by omega)
  rw [← he] at r1 r2 r3 t1
  rw [t_putf, t_putf, t_callv]
  refine ⟨by omega, by omega, ?_⟩
  have z : ∀ a j, ¬ (a = 10 ∧ (j = 3 ∨ j = 7)) → upd2 (upd2 Y 10 3 e) 10 7 1 a j = Y a j := fun a j hh => by rw [upd2_at, if_neg (by omega), upd2_at, if_neg (by omega)]
  have z3 : upd2 (upd2 Y 10 3 e) 10 7 1 10 3 = e := by rw [upd2_at, if_neg (by omega), upd2_at, if_pos ⟨rfl, rfl⟩]
  have z7 : upd2 (upd2 Y 10 3 e) 10 7 1 10 7 = 1 := by rw [upd2_at, if_pos ⟨rfl, rfl⟩]
  generalize upd2 (upd2 Y 10 3 e) 10 7 1 = Z at z z3 z7 ⊢
  have zk : ∀ a j, ¬ stF a j → Z a j = M a j := fun a j hh => by have := stF_n hh; rw [z _ _ (by omega), yk _ _ (by omega)]
  have zB : Z 11 = M 11 := funext (fun j => by rw [z _ _ (by omega), yk _ _ (by omega)])
  have zK : Z 12 = M 12 := funext (fun j => by rw [z _ _ (by omega), yk _ _ (by omega)])
  refine spell_e (n := n) (s := s) (e := e) ⟨⟨by rw [z _ _ (by omega), yk _ _ (by omega)]; exact h1, by rw [z _ _ (by omega), yk _ _ (by omega)]; exact h2, by rw [z _ _ (by omega), yk _ _ (by omega)]; exact h3, by rw [zB]; exact h4, by rw [zK]; exact h5⟩, by rw [z _ _ (by omega), yk _ _ (by omega)]; exact hn, n0, n1⟩ (by rw [z _ _ (by omega)]; exact y4) z3 (by rw [z _ _ (by omega)]; exact y9) (by rw [z _ _ (by omega)]; exact y10) s0 r1 r2 (fun i i0 i1 => by rw [zB]; exact rg_t.mp (r3 i i0 i1)) (fun N kN x10 x9 => ?_)
  rw [zB] at x10 x9
  rw [zK] at x9
  rw [t_some]
  refine hq N (fun a j hh => by have := stF_n hh; rw [kN _ _ (by omega)]; exact zk a j hh) ⟨?_, ?_, ?_, fun c => ?_, fun c => ?_, ?_, ?_⟩
  · rw [kN _ _ (by omega), z _ _ (by omega)]; exact y4
  · rw [kN _ _ (by omega), z3, t1]
  · rw [kN _ _ (by omega), z7, t2]
  · rw [t2] at c; omega
  · rw [t2] at c; omega
  · rw [t3, t1]; exact x10
  · rw [t4, t3, t1]; exact x9
