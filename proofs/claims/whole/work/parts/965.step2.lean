/-! numbers, signs -/
theorem step2_e {M Y : Mem} {n s : Int} {Q : Mem → Prop} (h : TpC M n) (hy : AtT M Y s) (s0 : 0 ≤ s) (s1 : s < n) (hb : 48 ≤ M 11 s ∧ M 11 s ≤ 57) (hq : ∀ N, (∀ a j, ¬ stF a j → N a j = M a j) → TkC N (M 11) (M 12) n s → Q N) : Tot (callp (f_X6_runEnd 10 48 57 Y) (fun v46 => putf Y 10 3 v46 (fun M47 => getf M47 10 3 (fun v48 => getf M47 10 4 (fun v49 => jn (fun (q50 : Int) => putf M47 10 7 q50 (fun M51 => getf M51 10 7 (fun v52 => jn (fun (q53 : Int) => putf M51 10 5 q53 (fun M54 => some M54)) (fun j220 => if v52 ≠ 2 then (j220 0) else (callp (f_X6_value 10 M51) (fun v55 => j220 v55)))))) (fun j200 => if 4 < w32 (v48 - v49) then (j200 4) else (j200 2))))))) Q := by
  obtain ⟨⟨y3, y4, y9, y10⟩, yk⟩ := hy
  have hB : Y 11 = M 11 := funext (fun j => yk 11 j (by omega))
  obtain ⟨⟨h1, h2, h3, h4, h5⟩, hn, n0, n1⟩ := h
  have tY : TpC Y n := ⟨⟨by rw [yk _ _ (by omega)]; exact h1, by rw [yk _ _ (by omega)]; exact h2, by rw [yk _ _ (by omega)]; exact h3, by rw [yk _ _ (by omega)]; exact h4, by rw [yk _ _ (by omega)]; exact h5⟩, by rw [yk _ _ (by omega)]; exact hn, n0, n1⟩
  obtain ⟨t1, t2, t3, t4⟩ := tk_2 (K := M 12) s1 hb
  rw [t_callp]
  refine t_mono (runEnd_e tY y4 s0 (by omega)) (fun e he => ?_)
  rw [hB] at he
  obtain ⟨r1, r2, r3, _⟩ := rn_b (C := rgB 48 57) (B := M 11) (n := n) (p := s) (by omega)
  rw [← he] at r1 r2 r3 t1 t2
  rw [t_putf]
  refine ⟨by omega, ?_⟩
  have z : ∀ a j, ¬ (a = 10 ∧ j = 3) → upd2 Y 10 3 e a j = Y a j := fun a j hh => by rw [upd2_at, if_neg hh]
  have z3 : upd2 Y 10 3 e 10 3 = e := by rw [upd2_at, if_pos ⟨rfl, rfl⟩]
  generalize upd2 Y 10 3 e = Z at z z3 ⊢
  rw [t_getf, z3, t_getf, z _ _ (by omega), y4, w32_s (by omega) (by omega)]
  refine ⟨by omega, by omega, ?_⟩
  refine t_jq (fun K : Int → Option Mem => ∀ q, q = (if e - s ≤ 4 then 2 else 4) → Tot (K q) Q) (fun q hqq => ?_) (fun K hK => ?_)
  rotate_left
  · rw [t_ite]
    exact ⟨fun c => hK _ (by rw [if_neg (by omega)]), fun c => hK _ (by rw [if_pos (by omega)])⟩
  rw [t_putf]
  refine ⟨by omega, ?_⟩
  have x : ∀ a j, ¬ (a = 10 ∧ j = 7) → upd2 Z 10 7 q a j = Z a j := fun a j hh => by rw [upd2_at, if_neg hh]
  have x7 : upd2 Z 10 7 q 10 7 = q := by rw [upd2_at, if_pos ⟨rfl, rfl⟩]
  generalize upd2 Z 10 7 q = X at x x7 ⊢
  have xM : ∀ a j, ¬ (a = 10 ∧ (j = 3 ∨ j = 4 ∨ j = 7 ∨ j = 9 ∨ j = 10)) → X a j = M a j := fun a j hh => by rw [x _ _ (by omega), z _ _ (by omega), yk _ _ (by omega)]
  have xB : X 11 = M 11 := funext (fun j => xM _ _ (by omega))
  rw [t_getf, x7]
  refine ⟨by omega, ?_⟩
  refine t_jq (fun K : Int → Option Mem => ∀ u, (q = 2 → u = numS (M 11) (e - s).toNat s 0) → Tot (K u) Q) (fun u hu => ?_) (fun K hK => ?_)
  · rw [t_putf, t_some]
    have k : ∀ a j, ¬ (a = 10 ∧ j = 5) → upd2 X 10 5 u a j = X a j := fun a j hh => by rw [upd2_at, if_neg hh]
    have k5 : upd2 X 10 5 u 10 5 = u := by rw [upd2_at, if_pos ⟨rfl, rfl⟩]
    generalize upd2 X 10 5 u = N at k k5 ⊢
    refine ⟨by omega, hq N (fun a j hh => by have := stF_n hh; rw [k _ _ (by omega), xM _ _ (by omega)]) ⟨?_, ?_, ?_, fun c => ?_, fun c => ?_, ?_, ?_⟩⟩
    · rw [k _ _ (by omega), x _ _ (by omega), z _ _ (by omega)]; exact y4
    · rw [k _ _ (by omega), x _ _ (by omega), z3, t1]
    · rw [k _ _ (by omega), x7, t2]; exact hqq
    · rw [k5, t1]; exact hu (by rw [hqq, ← t2]; exact c)
    · rw [t2, ← hqq] at c
      by_cases d : e - s ≤ 4
      · rw [if_pos d] at hqq; omega
      · rw [if_neg d] at hqq; omega
    · rw [k _ _ (by omega), x _ _ (by omega), z _ _ (by omega), t3]; exact y10
    · rw [k _ _ (by omega), x _ _ (by omega), z _ _ (by omega), t4]; exact y9
  · rw [t_ite]
    refine ⟨fun c => hK _ (fun c2 => absurd c2 c), fun c => ?_⟩
    have e4 : e - s ≤ 4 := by
      by_cases d : e - s ≤ 4
      · exact d
      · rw [if_neg d] at hqq; omega
    rw [t_callp]
    refine t_mono (value_e (n := n) (s := s) (e := e) ⟨⟨by rw [xM _ _ (by omega)]; exact h1, by rw [xM _ _ (by omega)]; exact h2, by rw [xM _ _ (by omega)]; exact h3, by rw [xM _ _ (by omega)]; exact h4, by rw [xM _ _ (by omega)]; exact h5⟩, by rw [xM _ _ (by omega)]; exact hn, n0, n1⟩ (by rw [x _ _ (by omega), z _ _ (by omega)]; exact y4) (by rw [x _ _ (by omega)]; exact z3) s0 r1 r2 (by omega) (fun i i0 i1 => by rw [xB]; exact rg_t.mp (r3 i i0 i1))) (fun u hu => hK u (fun _ => by rw [hu, xB]))
theorem step3_e {M Y : Mem} {n s : Int} {Q : Mem → Prop} (h : TpC M n) (hy : AtT M Y s) (s0 : 0 ≤ s) (s1 : s < n) (hb : ¬ (97 ≤ M 11 s ∧ M 11 s ≤ 122)) (hc : ¬ (48 ≤ M 11 s ∧ M 11 s ≤ 57)) (hq : ∀ N, (∀ a j, ¬ stF a j → N a j = M a j) → TkC N (M 11) (M 12) n s → Q N) : Tot (getf Y 10 0 (fun v30 => getf Y 10 3 (fun v31 => geti Y v30 v31 (fun v32 => putf Y 10 8 v32 (fun M33 => getf M33 10 3 (fun v34 => putf M33 10 3 (w32 (v34 + 1)) (fun M35 => getf M35 10 8 (fun v36 => jn (fun (q37 : Int) => putf M35 10 7 q37 (fun M38 => some M38)) (fun j291 => jn (j291 3) (fun j286 => if v36 = 59 then (j286) else (getf M35 10 8 (fun v39 => if v39 = 60 then (j286) else (getf M35 10 8 (fun v40 => if v40 = 62 then (j286) else (getf M35 10 8 (fun v41 => if v41 ≠ 61 then (j291 4) else (j286)))))))))))))))) ) Q := by
  obtain ⟨⟨y3, y4, y9, y10⟩, yk⟩ := hy
  obtain ⟨⟨h1, h2, h3, h4, h5⟩, hn, n0, n1⟩ := h
  obtain ⟨t1, t2, t3, t4⟩ := tk_3 (K := M 12) s1 hb hc
  rw [t_getf, yk 10 0 (by omega), h2, t_getf, y3, t_geti, yk 11 _ (by omega), yk 11 _ (by omega), h4, t_putf]
  refine ⟨by omega, by omega, by omega, s0, by omega, by omega, ?_⟩
  rw [t_getf, upd2_at, if_neg (by omega), y3, t_putf, w32_s (by omega) (by omega)]
  refine ⟨by omega, by omega, ?_⟩
  have z : ∀ a j, ¬ (a = 10 ∧ (j = 3 ∨ j = 8)) → upd2 (upd2 Y 10 8 (M 11 s)) 10 3 (s + 1) a j = Y a j := fun a j hh => by rw [upd2_at, if_neg (by omega), upd2_at, if_neg (by omega)]
  have z3 : upd2 (upd2 Y 10 8 (M 11 s)) 10 3 (s + 1) 10 3 = s + 1 := by rw [upd2_at, if_pos ⟨rfl, rfl⟩]
  have z8 : upd2 (upd2 Y 10 8 (M 11 s)) 10 3 (s + 1) 10 8 = M 11 s := by rw [upd2_at, if_neg (by omega), upd2_at, if_pos ⟨rfl, rfl⟩]
  generalize upd2 (upd2 Y 10 8 (M 11 s)) 10 3 (s + 1) = Z at z z3 z8 ⊢
  rw [t_getf, z8]
  refine ⟨by omega, ?_⟩
  refine t_jq (fun K : Int → Option Mem => ∀ q, q = tkK (M 11) n s → Tot (K q) Q) (fun q hqq => ?_) (fun K hK => ?_)
  · rw [t_putf, t_some]
    have k : ∀ a j, ¬ (a = 10 ∧ j = 7) → upd2 Z 10 7 q a j = Z a j := fun a j hh => by rw [upd2_at, if_neg hh]
    have k7 : upd2 Z 10 7 q 10 7 = q := by rw [upd2_at, if_pos ⟨rfl, rfl⟩]
    generalize upd2 Z 10 7 q = N at k k7 ⊢
    refine ⟨by omega, hq N (fun a j hh => by have := stF_n hh; rw [k _ _ (by omega), z _ _ (by omega), yk _ _ (by omega)]) ⟨?_, ?_, ?_, fun c => ?_, fun c => ?_, ?_, ?_⟩⟩
    · rw [k _ _ (by omega), z _ _ (by omega)]; exact y4
    · rw [k _ _ (by omega), z3, t1]
    · rw [k7]; exact hqq
    · rw [t2] at c
      by_cases d : M 11 s = 59 ∨ M 11 s = 60 ∨ M 11 s = 61 ∨ M 11 s = 62
      · rw [if_pos d] at c; omega
      · rw [if_neg d] at c; omega
    · rw [k _ _ (by omega)]; exact z8
    · rw [k _ _ (by omega), z _ _ (by omega), t3]; exact y10
    · rw [k _ _ (by omega), z _ _ (by omega), t4]; exact y9
  refine t_jq (fun K2 : Option Mem => (M 11 s = 59 ∨ M 11 s = 60 ∨ M 11 s = 61 ∨ M 11 s = 62) → Tot K2 Q) (fun c => hK _ (by rw [t2, if_pos c])) (fun K2 hK2 => ?_)
  rw [t_ite]
  refine ⟨fun c => hK2 (by omega), fun c => ?_⟩
  rw [t_getf, z8, t_ite]
  refine ⟨by omega, fun c2 => hK2 (by omega), fun c2 => ?_⟩
  rw [t_getf, z8, t_ite]
  refine ⟨by omega, fun c3 => hK2 (by omega), fun c3 => ?_⟩
  rw [t_getf, z8, t_ite]
  exact ⟨by omega, fun c4 => hK _ (by rw [t2, if_neg (by omega)]), fun c4 => hK2 (by omega)⟩
