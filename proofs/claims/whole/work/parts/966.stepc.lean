/-! the class's step -/
theorem step_e {M : Mem} {n p : Int} {Q : Mem → Prop} (h : TpC M n) (hp : M 10 3 = p) (p0 : 0 ≤ p) (p1 : p ≤ n) (hq : ∀ N, (∀ a j, ¬ stF a j → N a j = M a j) → TkC N (M 11) (M 12) n (rnE blB (M 11) n p) → Q N) : Tot (f_X6_step 10 M) Q := by
  have h' := h
  obtain ⟨⟨h1, h2, h3, h4, h5⟩, hn, n0, n1⟩ := h'
  obtain ⟨g1, g2, g3, g4⟩ := rn_b (C := blB) (B := M 11) (n := n) (p := p) p1
  unfold f_X6_step
  refine lpIM (fun q X => q = 10 ∧ p ≤ X 10 3 ∧ X 10 3 ≤ n ∧ rnE blB (M 11) n (X 10 3) = rnE blB (M 11) n p ∧ ∀ a j, ¬ (a = 10 ∧ j = 3) → X a j = M a j) (fun _ X => (n - X 10 3).toNat) ?_ (by unfold KF; omega) ⟨rfl, by omega, by omega, by rw [hp], fun _ _ _ => rfl⟩
  rintro fu q X ⟨i0, i1, i2, i3, i4⟩ ih
  subst i0
  have fin : X 10 3 = rnE blB (M 11) n p → Tot (getf X 10 3 (fun v17 => putf X 10 4 v17 (fun M18 => putf M18 10 9 (-1) (fun M19 => putf M19 10 10 0 (fun Y => getf Y 10 3 (fun v21 => getf Y 10 2 (fun v22 => jn (fun (M23 : Mem) => some M23) (fun j294 => if v21 < v22 then (getf Y 10 0 (fun v24 => getf Y 10 3 (fun v25 => geti Y v24 v25 (fun v26 => jn (getf Y 10 0 (fun v27 => getf Y 10 3 (fun v28 => geti Y v27 v28 (fun v29 => jn (getf Y 10 0 (fun v30 => getf Y 10 3 (fun v31 => geti Y v30 v31 (fun v32 => putf Y 10 8 v32 (fun M33 => getf M33 10 3 (fun v34 => putf M33 10 3 (w32 (v34 + 1)) (fun M35 => getf M35 10 8 (fun v36 => jn (fun (q37 : Int) => putf M35 10 7 q37 (fun M38 => j294 M38)) (fun j291 => jn (j291 3) (fun j286 => if v36 = 59 then (j286)
      else (getf M35 10 8 (fun v39 => if v39 = 60 then (j286)
      else (getf M35 10 8 (fun v40 => if v40 = 62 then (j286)
      else (getf M35 10 8 (fun v41 => if v41 ≠ 61 then (j291 4)
      else (j286))))))))))))))))) (fun j226 => if v29 < 48 then (j226)
      else (getf Y 10 0 (fun v42 => getf Y 10 3 (fun v43 => geti Y v42 v43 (fun v44 => if 57 < v44 then (j226)
      else (nn 10 (callp (f_X6_runEnd 10 48 57 Y) (fun v46 => putf Y 10 3 v46 (fun M47 => getf M47 10 3 (fun v48 => getf M47 10 4 (fun v49 => jn (fun (q50 : Int) => putf M47 10 7 q50 (fun M51 => getf M51 10 7 (fun v52 => jn (fun (q53 : Int) => putf M51 10 5 q53 (fun M54 => j294 M54)) (fun j220 => if v52 ≠ 2 then (j220 0)
      else (callp (f_X6_value 10 M51) (fun v55 => j220 v55)))))) (fun j200 => if 4 < w32 (v48 - v49) then (j200 4)
      else (j200 2))))))))))))))))) (fun j141 => if v26 < 97 then (j141)
      else (getf Y 10 0 (fun v56 => getf Y 10 3 (fun v57 => geti Y v56 v57 (fun v58 => if 122 < v58 then (j141)
      else (nn 10 (callp (f_X6_runEnd 10 97 122 Y) (fun v60 => putf Y 10 3 v60 (fun M61 => putf M61 10 7 1 (fun M62 => callv (f_X6_spell 10 M62) (fun M63 => j294 M63)))))))))))))))
      else (putf Y 10 7 0 (fun M64 => j294 M64)))))))))) Q := by
    intro hs
    generalize rnE blB (M 11) n p = s at g1 g2 g3 g4 i3 hs hq
    rw [t_getf, hs, t_putf, t_putf, t_putf]
    refine ⟨by omega, by omega, by omega, by omega, ?_⟩
    have y : AtT M (upd2 (upd2 (upd2 X 10 4 s) 10 9 (-1)) 10 10 0) s := by
      refine ⟨⟨?_, ?_, ?_, ?_⟩, fun a j hh => ?_⟩
      · rw [upd2_at, if_neg (by omega), upd2_at, if_neg (by omega), upd2_at, if_neg (by omega)]; exact hs
      · rw [upd2_at, if_neg (by omega), upd2_at, if_neg (by omega), upd2_at, if_pos ⟨rfl, rfl⟩]
      · rw [upd2_at, if_neg (by omega), upd2_at, if_pos ⟨rfl, rfl⟩]
      · rw [upd2_at, if_pos ⟨rfl, rfl⟩]
      · rw [upd2_at, if_neg (by omega), upd2_at, if_neg (by omega), upd2_at, if_neg (by omega)]; exact i4 a j (by omega)
    generalize upd2 (upd2 (upd2 X 10 4 s) 10 9 (-1)) 10 10 0 = Y at y ⊢
    have y' := y
    obtain ⟨⟨y3, y4, y9, y10⟩, yk⟩ := y'
    have y0 : Y 10 0 = 11 := by rw [yk _ _ (by omega)]; exact h2
    have yl : Y 11 (-1) = 900 := by rw [yk _ _ (by omega)]; exact h4
    have yb : Y 11 s = M 11 s := yk _ _ (by omega)
    rw [t_getf, y3, t_getf, yk 10 2 (by omega), hn]
    refine ⟨by omega, by omega, ?_⟩
    refine t_jq (fun K : Mem → Option Mem => K = fun N => some N) rfl (fun K hK => ?_)
    subst hK
    rw [t_ite]
    refine ⟨fun c => ?_, fun c => ?_⟩
    rotate_left
    · obtain ⟨t1, t2, t3, t4⟩ := tk_0 (B := M 11) (K := M 12) (n := n) (s := s) (by omega)
      rw [t_putf, t_some]
      have k : ∀ a j, ¬ (a = 10 ∧ j = 7) → upd2 Y 10 7 0 a j = Y a j := fun a j hh => by rw [upd2_at, if_neg hh]
      refine ⟨by omega, hq _ (fun a j hh => by have := stF_n hh; rw [k _ _ (by omega), yk _ _ (by omega)]) ⟨?_, ?_, ?_, fun d => by omega, fun d => by omega, ?_, ?_⟩⟩
      · rw [k _ _ (by omega)]; exact y4
      · rw [k _ _ (by omega), y3, t1]
      · rw [upd2_at, if_pos ⟨rfl, rfl⟩, t2]
      · rw [k _ _ (by omega), y10, t3]
      · rw [k _ _ (by omega), y9, t4]
    rw [t_getf, y0, t_getf, y3, t_geti, yl, yb]
    refine ⟨by omega, by omega, by omega, by omega, by omega, ?_⟩
    refine t_jq (fun K : Option Mem => ¬ (97 ≤ M 11 s ∧ M 11 s ≤ 122) → Tot K Q) (fun d => ?_) (fun K hK => ?_)
    · rw [t_getf, y0, t_getf, y3, t_geti, yl, yb]
      refine ⟨by omega, by omega, by omega, by omega, by omega, ?_⟩
      refine t_jq (fun K : Option Mem => ¬ (48 ≤ M 11 s ∧ M 11 s ≤ 57) → Tot K Q) (fun d2 => step3_e h y (by omega) c d d2 hq) (fun K hK => ?_)
      rw [t_ite]
      refine ⟨fun a => hK (by omega), fun a => ?_⟩
      rw [t_getf, y0, t_getf, y3, t_geti, yl, yb, t_ite]
      refine ⟨by omega, by omega, by omega, by omega, by omega, fun b => hK (by omega), fun b => ?_⟩
      rw [t_nn]
      exact ⟨by omega, step2_e h y (by omega) c (by omega) hq⟩
    rw [t_ite]
    refine ⟨fun a => hK (by omega), fun a => ?_⟩
    rw [t_getf, y0, t_getf, y3, t_geti, yl, yb, t_ite]
    refine ⟨by omega, by omega, by omega, by omega, by omega, fun b => hK (by omega), fun b => ?_⟩
    rw [t_nn]
    exact ⟨by omega, step1_e h y (by omega) c (by omega) hq⟩
  unfold f_X6_step_L0
  rw [t_getf, t_getf, i4 10 2 (by omega), hn, t_ite]
  refine ⟨by omega, by omega, fun c => fin (by rw [← i3, rn_n c]), fun c => ?_⟩
  rw [t_getf, i4 10 0 (by omega), h2, t_getf, t_geti, i4 11 _ (by omega), i4 11 _ (by omega), h4]
  refine ⟨by omega, by omega, by omega, by omega, by omega, ?_⟩
  refine t_jq (fun K : Option Mem => (M 11 (X 10 3) = 10 ∨ M 11 (X 10 3) = 32) → Tot K Q) (fun d => ?_) (fun K hK => ?_)
  · rw [t_getf, t_putf, w32_s (by omega) (by omega)]
    have k3 : upd2 X 10 3 (X 10 3 + 1) 10 3 = X 10 3 + 1 := by rw [upd2_at, if_pos ⟨rfl, rfl⟩]
    exact ⟨by omega, by omega, ih _ _ (by rw [k3]; omega) ⟨rfl, by rw [k3]; omega, by rw [k3]; omega, by rw [k3, ← i3, rn_s (p := X 10 3) (by omega) (bl_t.mpr d)], fun a j hh => by rw [upd2_at, if_neg hh]; exact i4 a j hh⟩⟩
  rw [t_ite]
  refine ⟨fun a => hK (.inl a), fun a => ?_⟩
  rw [t_getf, i4 10 0 (by omega), h2, t_getf, t_geti, i4 11 _ (by omega), i4 11 _ (by omega), h4, t_ite]
  refine ⟨by omega, by omega, by omega, by omega, by omega, fun b => fin (by rw [← i3, rn_x (by rw [bl_t]; omega)]), fun b => hK (by omega)⟩
