/-! the class reads a step -/
/-- what stands in a line behind its names -/
def A1 (M : Mem) (d k y : Int) (q : Rw5) : Prop := M (d + 1) k = y ∧ (¬ (y = 18 ∨ y = 20 ∨ y = 21 ∨ y = 27) → lnB M d k q) ∧ (y = 18 → q.1 = 18 ∧ M (d + 3) k = q.2.1 ∧ M (d + 4) k = q.2.2.1)
theorem args1_e {W : Mem} {B K : Int → Int} {n s k v d y : Int} {m : Nms} {J : Int → Mem → Option (Int × Mem)} {Q : Int × Mem → Prop} (h : CT W B K n s) (hD : LDy W d) (hV : NV W v m) (hvd : VDa v d) (k0 : 0 ≤ k) (k1 : k < 60) (hy : swd y) (hw : W (d + 1) k = y) (hE : ∀ N f, a1T B K n m y s = .error f → ErC N f → FrL W N d k → Tot (J 0 N) Q) (hK : ∀ N q t, a1T B K n m y s = .ok (q, t) → s ≤ t → CT N B K n t → A1 N d k y q → FrL W N d k → Tot (J 1 N) Q) : Tot (jn (call (f_X1_readReachName 10 v d k W) (fun v26 M27 => J v26 M27)) (fun j92 => if y = 8 then (j92)
      else (if y ≠ 16 then (if y ≠ 23 then (jn (call (f_X1_readTwoFields 10 v d k W) (fun v28 M29 => J v28 M29)) (fun j142 => if y = 17 then (j142)
      else (if y = 19 then (j142)
      else (if y ≠ 18 then (J 1 W)
      else (j142)))))
      else (call (f_X1_readTest 10 v d k W) (fun v30 M31 => J v30 M31)))
      else (j92)))) Q := by
  have d13 : 12 < d := by unfold VDa at hvd; omega
  refine t_jq (fun T : Option (Int × Mem) => (y = 8 ∨ y = 16) → Tot T Q) (fun c => ?_) (fun T hT => ?_)
  · have aE : a1T B K n m y s = bnd (knT B K n m.1 m.2.1 s) fun p => .ok ((pR y, p.1, 0, 0, 0), p.2) := by unfold a1T; rw [if_pos c]
    rw [aE] at hE hK
    rw [t_call]
    refine readReachName_e h hD hV hvd k0 k1 (fun N g e1 e2 e3 => ?_) (fun N x t e1 e2 e3 e4 e5 => ?_)
    · exact hE N g (by rw [e1, bnd_e]) e2 (fun a j q1 q2 => e3 a j q1 (by omega))
    · have w1 : N (d + 1) k = y := by rw [e5 _ _ (tpF_a (by omega)) (by omega)]; exact hw
      have pc : (y = 8 ∧ pR y = 10) ∨ (y = 16 ∧ pR y = 16) := by
        rcases c with c | c <;> subst c
        · exact .inl ⟨rfl, rfl⟩
        · exact .inr ⟨rfl, rfl⟩
      have kw : kwOf (pR y) = y := by
        rcases c with c | c <;> subst c <;> rfl
      generalize pR y = p at pc kw hK
      refine hK N _ _ (by rw [e1, bnd_o]) e2 e3 ⟨w1, fun _ => ⟨?_, fun _ => e4, ?_, ?_, ?_, ?_, ?_, ?_, ?_⟩, fun z => by omega⟩ (fun a j q1 q2 => e5 a j q1 (by omega))
      · show N (d + 1) k = kwOf p
        rw [w1, kw]
      all_goals (intro z; dsimp only at z; omega)
  rw [t_ite]
  refine ⟨fun c => hT (.inl c), fun c8 => ?_⟩
  rw [t_ite]
  refine ⟨fun c16 => ?_, fun c16 => hT (.inr (by omega))⟩
  rw [t_ite]
  refine ⟨fun c23 => ?_, fun c23 => ?_⟩
  rotate_left
  · have e23 : y = 23 := by omega
    have aE : a1T B K n m y s = tsT B K n m s := by unfold a1T; rw [if_neg (by omega), if_pos e23]
    rw [aE] at hE hK
    rw [t_call]
    refine readTest_e h hD hV hvd k0 k1 (by rw [hw]; exact e23) (fun N g e1 e2 e3 => hE N g e1 e2 e3) (fun N q t e1 e2 e3 e4 e5 => hK N q t e1 e2 e3 ⟨?_, fun _ => e4, fun z => by omega⟩ e5)
    rw [e5 _ _ (tpF_a (by omega)) (by omega)]; exact hw
  refine t_jq (fun T : Option (Int × Mem) => (y = 17 ∨ y = 18 ∨ y = 19) → Tot T Q) (fun c => ?_) (fun T hT2 => ?_)
  · have aE : a1T B K n m y s = bnd (knT B K n m.2.2.1 m.2.2.2 s) fun p => bnd (knT B K n m.2.2.1 m.2.2.2 p.2) fun q => .ok ((y, p.1, q.1, 0, 0), q.2) := by unfold a1T; rw [if_neg (by omega), if_neg (by omega), if_pos c]
    rw [aE] at hE hK
    rw [t_call]
    refine readTwoFields_e h hD hV hvd k0 k1 (fun N g e1 e2 e3 => ?_) (fun N x x' t u e1 e2 e3 e4 e5 e6 e7 => ?_)
    · refine hE N g ?_ e2 (fun a j q1 q2 => e3 a j q1 (by omega))
      rcases hs : knT B K n m.2.2.1 m.2.2.2 s with e | p
      · rw [hs, bnd_e] at e1
        rw [bnd_e]; injection e1 with e1; rw [e1]
      · rw [hs, bnd_o] at e1
        rw [bnd_o, e1, bnd_e]
    · have w1 : N (d + 1) k = y := by rw [e7 _ _ (tpF_a (by omega)) (by omega)]; exact hw
      refine hK N _ _ (by rw [e1, bnd_o, e2, bnd_o]) e3 e4 ⟨w1, fun c18 => ⟨?_, fun _ => e5, fun _ => e6, ?_, ?_, ?_, ?_, ?_, ?_⟩, fun z => ⟨z, e5, e6⟩⟩ (fun a j q1 q2 => e7 a j q1 (by omega))
      · show N (d + 1) k = kwOf y
        rw [w1]
        have : y = 17 ∨ y = 19 := by omega
        rcases this with e | e <;> subst e <;> rfl
      all_goals (intro z; dsimp only at z; omega)
  rw [t_ite]
  refine ⟨fun c => hT2 (by omega), fun c17 => ?_⟩
  rw [t_ite]
  refine ⟨fun c => hT2 (by omega), fun c19 => ?_⟩
  rw [t_ite]
  refine ⟨fun c18 => ?_, fun c18 => hT2 (by omega)⟩
  have aE : a1T B K n m y s = .ok ((pR y, 0, 0, 0, 0), s) := by unfold a1T; rw [if_neg (by omega), if_neg (by omega), if_neg (by omega)]
  have pc : (y = 20 ∨ y = 21 ∨ y = 27) ∨ (y = 22 ∧ pR y = 22) ∨ (y = 29 ∧ pR y = 26) := by
    have : y = 20 ∨ y = 21 ∨ y = 27 ∨ y = 22 ∨ y = 29 := by unfold swd at hy; omega
    rcases this with e | e | e | e | e
    · exact .inl (.inl e)
    · exact .inl (.inr (.inl e))
    · exact .inl (.inr (.inr e))
    · subst e; exact .inr (.inl ⟨rfl, rfl⟩)
    · subst e; exact .inr (.inr ⟨rfl, rfl⟩)
  have kw : kwOf 22 = 22 ∧ kwOf 26 = 29 := ⟨rfl, rfl⟩
  generalize pR y = p at pc aE
  refine hK W _ _ aE (by omega) h ⟨hw, fun c => ⟨?_, ?_, ?_, ?_, ?_, ?_, ?_, ?_, ?_⟩, fun z => by omega⟩ (fun _ _ _ _ => rfl)
  · show W (d + 1) k = kwOf p
    rw [hw]
    rcases pc with pc | pc | pc
    · omega
    · rw [pc.2]; exact pc.1
    · rw [pc.2]; exact pc.1
  all_goals (intro z; dsimp only at z; omega)
theorem args2_e {W : Mem} {B K : Int → Int} {n s k d y : Int} {q : Rw5} {J : Int → Mem → Option (Int × Mem)} {Q : Int × Mem → Prop} (h : CT W B K n s) (hD : LDy W d) (d0 : 12 < d) (k0 : 0 ≤ k) (k1 : k < 60) (hA : A1 W d k y q) (hE : ∀ N f, a2T B n y (q, s) = .error f → ErC N f → FrL W N d k → Tot (J 0 N) Q) (hK : ∀ N q' t, a2T B n y (q, s) = .ok (q', t) → s ≤ t → CT N B K n t → lnB N d k q' → N (d + 1) k = y → FrL W N d k → Tot (J 1 N) Q) : Tot (callp (f_X1_mostOf y W) (fun v21 => if v21 = (-1) then (J 1 W)
      else (callp (f_X1_leastOf y W) (fun v22 => callp (f_X1_mostOf y W) (fun v23 => call (f_X1_readNumber 10 d k v22 v23 W) (fun v24 M25 => J v24 M25)))))) Q := by
  obtain ⟨hw, hB, h18⟩ := hA
  -- one kind of number
  have num : ∀ l mx (f : Int → Rw5), 0 ≤ l → a2T B n y (q, s) = (bnd (nuT B n l mx s) fun p => .ok (f p.1, p.2)) → (∀ N x, N (d + 1) k = y → N (d + 3) k = W (d + 3) k → N (d + 4) k = W (d + 4) k → N (d + 6) k = x → lnB N d k (f x)) → Tot (call (f_X1_readNumber 10 d k l mx W) (fun v24 M25 => J v24 M25)) Q := fun l mx f l0 e hf => by
    rw [e] at hE hK
    rw [t_call]
    refine readNumber_e h hD d0 k0 k1 l0 (fun N g e1 e2 e3 => ?_) (fun N x t e1 e2 e3 e4 e5 => ?_)
    · exact hE N g (by rw [e1, bnd_e]) e2 (fun a j q1 q2 => e3 a j q1 (by omega))
    · have w1 : N (d + 1) k = y := by rw [e5 _ _ (tpF_a (by omega)) (by omega)]; exact hw
      exact hK N _ _ (by rw [e1, bnd_o]) e2 e3 (hf N x w1 (e5 _ _ (tpF_a (by omega)) (by omega)) (e5 _ _ (tpF_a (by omega)) (by omega)) e4) w1 (fun a j q1 q2 => e5 a j q1 (by omega))
  by_cases c18 : y = 18
  · subst c18
    rw [t_callp, show f_X1_mostOf 18 W = some 999 from rfl, t_some, if_neg (by omega), t_callp, show f_X1_leastOf 18 W = some 1 from rfl, t_some, t_callp, t_some]
    obtain ⟨g1, g2, g3⟩ := h18 rfl
    refine num 1 999 (fun x => (q.1, q.2.1, q.2.2.1, x, 0)) (by omega) (by unfold a2T; rw [if_pos rfl]) (fun N x n1 n3 n4 n6 => ?_)
    rw [g1]
    refine ⟨n1, fun _ => by rw [n3]; exact g2, fun _ => by rw [n4]; exact g3, fun _ => n6, ?_, ?_, ?_, ?_, ?_⟩
    all_goals (intro z; dsimp only at z; omega)
  by_cases c20 : y = 20
  · subst c20
    rw [t_callp, show f_X1_mostOf 20 W = some 999 from rfl, t_some, if_neg (by omega), t_callp, show f_X1_leastOf 20 W = some 0 from rfl, t_some, t_callp, t_some]
    refine num 0 999 (fun x => (20, x, 0, 0, 0)) (by omega) (by unfold a2T; rw [if_neg (by omega), if_pos rfl]) (fun N x n1 n3 n4 n6 => ?_)
    refine ⟨n1, ?_, ?_, ?_, fun _ => n6, ?_, ?_, ?_, ?_⟩
    all_goals (intro z; dsimp only at z; omega)
  by_cases c21 : y = 21
  · subst c21
    rw [t_callp, show f_X1_mostOf 21 W = some 16 from rfl, t_some, if_neg (by omega), t_callp, show f_X1_leastOf 21 W = some 0 from rfl, t_some, t_callp, t_some]
    refine num 0 16 (fun x => (21, x, 0, 0, 0)) (by omega) (by unfold a2T; rw [if_neg (by omega), if_neg (by omega), if_pos rfl]) (fun N x n1 n3 n4 n6 => ?_)
    refine ⟨n1, ?_, ?_, ?_, fun _ => n6, ?_, ?_, ?_, ?_⟩
    all_goals (intro z; dsimp only at z; omega)
  by_cases c27 : y = 27
  · subst c27
    rw [t_callp, show f_X1_mostOf 27 W = some 99 from rfl, t_some, if_neg (by omega), t_callp, show f_X1_leastOf 27 W = some 1 from rfl, t_some, t_callp, t_some]
    refine num 1 99 (fun x => (24, x, 0, 0, 0)) (by omega) (by unfold a2T; rw [if_neg (by omega), if_neg (by omega), if_neg (by omega), if_pos rfl]) (fun N x n1 n3 n4 n6 => ?_)
    refine ⟨n1, ?_, ?_, ?_, fun _ => n6, ?_, ?_, ?_, ?_⟩
    all_goals (intro z; dsimp only at z; omega)
  have mo : f_X1_mostOf y W = some (-1) := by rw [mostOf_e, if_neg (by omega), if_neg c21, if_neg c27]
  rw [t_callp, mo, t_some, if_pos rfl]
  exact hK W q s (by unfold a2T; rw [if_neg c18, if_neg c20, if_neg c21, if_neg c27]) (by omega) h (hB (by omega)) hw (fun _ _ _ _ => rfl)
theorem readStep_e {M : Mem} {B K : Int → Int} {n s v d : Int} {m : Nms} {σ : DS} (h : CT M B K n s) (hc : DC M d σ) (hV : NV M v m) (hvd : VDa v d) (hw : WDs m σ) (hy : tkY B K n s ≠ 28) : Tot (f_X1_readStep 10 v d M) (StE M B K n s d (dsT B K n m σ s)) := by
  obtain ⟨w, O, c⟩ := σ
  have hc' := hc
  obtain ⟨hD, ⟨h1, h2⟩, hR, hl⟩ := hc'
  have hw' := hw
  obtain ⟨⟨w1, w2, w3, w4, w5⟩, wp, wo, wl⟩ := hw'
  dsimp only at h1 h2 hR hl w1 w2 w3 w4 w5 wp wo wl
  have hvd' := hvd
  unfold VDa at hvd'
  have nb := nx_b (B := B) h.2.2.2.2.2
  have t7 : M 10 9 = tkY B K n s := h.2.2.1.2.2.2.2.2.2
  have ds : dsT B K n m (w, O, c) s = if ¬ swd (tkY B K n s) then .error (flT B n s 2) else if c = 30 then .error (flT B n s 6) else if (tkY B K n s = 23 ∨ tkY B K n s = 27) ∧ O.length = 3 then .error (flT B n s 7) else bnd (a1T B K n m (tkY B K n s) (nx B n s)) fun p => bnd (a2T B n (tkY B K n s) p) fun q => bnd (smT B n q.2) fun t => .ok ((addD w q.1, if tkY B K n s = 23 ∨ tkY B K n s = 27 then w 9 :: O else O, c + 1), t) := by unfold dsT; rw [if_neg hy]
  rw [ds]
  generalize hyy : tkY B K n s = y at hy t7
  unfold f_X1_readStep
  rw [t_getf, t7, t_callp, isStepWord_e, t_some, t_ite]
  refine ⟨by omega, fun c1 => ?_, fun c1 => ?_⟩
  rotate_left
  · have ns : ¬ swd y := fun z => by rw [if_pos z] at c1; omega
    rw [t_nn, t_call, if_pos ns]
    refine ⟨by omega, blameC_e h 2 (fun N eN fN => ?_)⟩
    rw [t_retzm]
    exact ⟨by omega, ste_e rfl eN (frd_c fN)⟩
  have sw : swd y := by
    by_cases z : swd y
    · exact z
    · rw [if_neg z] at c1; exact absurd rfl c1
  clear c1
  rw [if_neg (fun z => z sw)]
  rw [t_getf, h1, t_ite]
  refine ⟨by omega, fun c2 => ?_, fun c2 => ?_⟩
  rotate_left
  · rw [t_nn, t_call, if_pos (by omega)]
    refine ⟨by omega, blameC_e h 6 (fun N eN fN => ?_)⟩
    rw [t_retzm]
    exact ⟨by omega, ste_e rfl eN (frd_c fN)⟩
  rw [if_neg (by omega), t_callp, isBlock_e, t_some]
  refine t_jq (fun T : Option (Int × Mem) => ¬ ((y = 23 ∨ y = 27) ∧ O.length = 3) → Tot T (StE M B K n s d (if (y = 23 ∨ y = 27) ∧ O.length = 3 then .error (flT B n s 7) else bnd (a1T B K n m y (nx B n s)) fun p => bnd (a2T B n y p) fun q => bnd (smT B n q.2) fun t => .ok ((addD w q.1, if y = 23 ∨ y = 27 then w 9 :: O else O, c + 1), t)))) (fun c3 => ?_) (fun T hT => ?_)
  rotate_left
  · rw [t_ite]
    refine ⟨fun e => hT (fun z => by rw [if_pos z.1] at e; omega), fun e => ?_⟩
    have by' : y = 23 ∨ y = 27 := by
      by_cases z : y = 23 ∨ y = 27
      · exact z
      · rw [if_neg z] at e; exact absurd rfl e
    rw [t_nn, t_callp]
    refine ⟨by omega, t_mono (openBlocks_e hc (by omega) ⟨w3, by show w 9 ≤ 60; omega⟩) (fun u hu => ?_)⟩
    have hu : u = (O.length : Int) := hu
    rw [t_ite]
    refine ⟨fun g => hT (fun z => by omega), fun g => ?_⟩
    rw [t_nn, t_call, if_pos ⟨by', by omega⟩]
    refine ⟨by omega, blameC_e h 7 (fun N eN fN => ?_)⟩
    rw [t_retzm]
    exact ⟨by omega, ste_e rfl eN (frd_c fN)⟩
  rw [if_neg c3, t_nn, t_callv]
  refine ⟨by omega, stepC_e h (fun Y hY fY => ?_)⟩
  have y1 : Y d 1 = c := by rw [fY _ _ (tpF_a (by omega))]; exact h1
  have y2 : Y d 2 = w 9 := by rw [fY _ _ (tpF_a (by omega))]; exact h2
  have dY : LDy Y d := ldy_k hD (fun a j q1 q2 => fY a j (tpF_a (by omega)))
  have z : ∀ a j, ¬ (a = d ∧ j = 1) → upd2 Y d 1 (c + 1) a j = Y a j := fun a j hh => by rw [upd2_at, if_neg hh]
  have z1 : upd2 Y d 1 (c + 1) d 1 = c + 1 := by rw [upd2_at, if_pos ⟨rfl, rfl⟩]
  rw [t_getf, y1, t_putf, w32_s (by omega) (by omega), t_nn, t_call]
  generalize upd2 Y d 1 (c + 1) = Z at z z1 ⊢
  refine ⟨by omega, by omega, by omega, ?_⟩
  have dZ : LDy Z d := ⟨⟨by rw [z _ _ (by omega)]; exact dY.1.1, by rw [z _ _ (by omega)]; exact dY.1.2.1, by rw [z _ _ (by omega)]; exact dY.1.2.2.1, by rw [z _ _ (by omega)]; exact dY.1.2.2.2.1, by rw [z _ _ (by omega)]; exact dY.1.2.2.2.2.1, by rw [z _ _ (by omega)]; exact dY.1.2.2.2.2.2.1, by rw [z _ _ (by omega)]; exact dY.1.2.2.2.2.2.2⟩, fun i i0 i1 => by rw [z _ _ (by omega)]; exact dY.2 i i0 i1⟩
  refine addLine_e dZ (by omega) (by rw [z _ _ (by omega)]; exact y2) w3 (by omega) (fun W n2 n1 n7 fW => ?_)
  have wY : ∀ a j, ¬ (a = d ∧ (j = 1 ∨ j = 2)) → ¬ ((a = d + 1 ∨ a = d + 7) ∧ j = w 9) → W a j = Y a j := fun a j q1 q2 => by rw [fW _ _ (by omega) q2, z _ _ (by omega)]
  have dW : LDy W d := ⟨⟨by rw [wY _ _ (by omega) (by omega)]; exact dY.1.1, by rw [wY _ _ (by omega) (by omega)]; exact dY.1.2.1, by rw [wY _ _ (by omega) (by omega)]; exact dY.1.2.2.1, by rw [wY _ _ (by omega) (by omega)]; exact dY.1.2.2.2.1, by rw [wY _ _ (by omega) (by omega)]; exact dY.1.2.2.2.2.1, by rw [wY _ _ (by omega) (by omega)]; exact dY.1.2.2.2.2.2.1, by rw [wY _ _ (by omega) (by omega)]; exact dY.1.2.2.2.2.2.2⟩, fun i i0 i1 => by rw [wY _ _ (by omega) (by omega)]; exact dY.2 i i0 i1⟩
  have vW : NV W v m := nv_k hV (fun a j q1 q2 => by rw [wY _ _ (by omega) (by omega), fY _ _ (tpF_a (by omega))])
  have cW : CT W B K n (nx B n s) := ct_k hY (fun a j hh => wY a j (by omega) (by omega))
  have fWM : FrD M W d := fun a j q1 q2 => by rw [wY _ _ (fun q => q2 (by unfold PD; omega)) (fun q => q2 (by unfold PD; omega)), fY _ _ q1]
  have w11 : W d 1 = c + 1 := by rw [fW _ _ (by omega) (by omega)]; exact z1
  have flD : ∀ N, FrL W N d (w 9) → FrD M N d := fun N fN a j q1 q2 => by rw [fN a j q1 (fun q => q2 (by unfold PD; omega)), fWM a j q1 q2]
  have dN : ∀ N, FrL W N d (w 9) → LDy N d := fun N fN => (dyk (k := w 9) dW vW hvd (fun a j q1 q2 => fN a j (tpF_a (by omega)) q2) w3).1
  dsimp only
  -- the end of it
  refine t_jvm (fun x N => (x = 0 ∧ ∃ f, a1T B K n m y (nx B n s) = .error f ∧ ErC N f ∧ FrL W N d (w 9)) ∨ (x = 1 ∧ ∃ q t, a1T B K n m y (nx B n s) = .ok (q, t) ∧ nx B n s ≤ t ∧ CT N B K n t ∧ A1 N d (w 9) y q ∧ FrL W N d (w 9))) (fun x N hx => ?_) (fun J hJ => ?_)
  rotate_left
  · exact args1_e cW dW vW hvd w3 (by omega) sw n1 (fun N f e1 e2 e3 => hJ 0 N (.inl ⟨rfl, f, e1, e2, e3⟩)) (fun N q t e1 e2 e3 e4 e5 => hJ 1 N (.inr ⟨rfl, q, t, e1, e2, e3, e4, e5⟩))
  refine t_jvm (fun x N => (x = 0 ∧ ∃ f, (bnd (a1T B K n m y (nx B n s)) fun p => a2T B n y p) = .error f ∧ ErC N f ∧ FrL W N d (w 9)) ∨ (x = 1 ∧ ∃ q1 q t, a1T B K n m y (nx B n s) = .ok q1 ∧ a2T B n y q1 = .ok (q, t) ∧ nx B n s ≤ t ∧ CT N B K n t ∧ lnB N d (w 9) q ∧ N (d + 1) (w 9) = y ∧ FrL W N d (w 9))) (fun x2 N2 hx2 => ?_) (fun J hJ => ?_)
  rotate_left
  · rcases hx with ⟨x0, f, e1, e2, e3⟩ | ⟨x0, q, t, e1, e2, e3, e4, e5⟩
    · rw [if_pos x0, x0]
      exact hJ 0 N (.inl ⟨rfl, f, by rw [e1, bnd_e], e2, e3⟩)
    · rw [if_neg (by omega), x0]
      refine args2_e e3 (dN N e5) (by omega) w3 (by omega) e4 (fun P f g1 g2 g3 => hJ 0 P (.inl ⟨rfl, f, by rw [e1, bnd_o]; exact g1, g2, fun a j q1 q2 => by rw [g3 a j q1 q2, e5 a j q1 q2]⟩)) (fun P q' t' g1 g2 g3 g4 g5 g6 => hJ 1 P (.inr ⟨rfl, _, q', t', e1, g1, by omega, g3, g4, g5, fun a j q1 q2 => by rw [g6 a j q1 q2, e5 a j q1 q2]⟩))
  clear hx
  rw [t_jn, t_jn, t_ite]
  rcases hx2 with ⟨x0, f, e1, e2, e3⟩ | ⟨x0, q1, q, t, e1, e2, e3, e4, e5, e6, e7⟩
  · refine ⟨fun _ => ?_, fun z => absurd x0 z⟩
    rw [t_retzm]
    refine ⟨by omega, ste_e ?_ e2 (flD N2 e3)⟩
    rcases ha : a1T B K n m y (nx B n s) with e | p
    · rw [ha, bnd_e] at e1
      rw [bnd_e]; injection e1 with e1; rw [e1]
    · rw [ha, bnd_o] at e1
      rw [bnd_o, e1, bnd_e]
  · refine ⟨fun z => by omega, fun _ => ?_⟩
    rw [t_call]
    obtain ⟨r1, r2, r3⟩ := dsA_i hV.2.2.2.2.1.1 hV.2.2.2.2.2.1 sw e1 e2
    refine semi_e e4 (fun P f g1 g2 g3 => ?_) (fun P t' g1 g2 g3 g4 => ?_)
    · dsimp only
      rw [t_ite, t_retzm]
      exact ⟨fun _ => ⟨by omega, ste_e (by rw [e1, bnd_o, e2, bnd_o, g1, bnd_e]) g2 (frd_t (flD N2 e7) (frd_c g3))⟩, fun z => absurd rfl z⟩
    · dsimp only
      rw [t_ite, t_retzm, t_retzm]
      have pN : ∀ a j, 12 < a → P a j = N2 a j := fun a j q => g4 a j (tpF_a (by omega))
      have pW : ∀ a j, 12 < a → ¬ (d + 2 ≤ a ∧ a ≤ d + 6 ∧ j = w 9) → P a j = W a j := fun a j q1 q2 => by rw [pN a j q1, e7 a j (tpF_a (by omega)) q2]
      refine ⟨fun z => by omega, fun _ => ⟨by omega, ste_o (by rw [e1, bnd_o, e2, bnd_o, g1, bnd_o]) (by omega) g3 (dc_step hc (by omega) ⟨w3, by omega⟩ (fun o ho => (wo o ho).2.1) sw r2 r3 (dyk (k := w 9) dW vW hvd pW w3).1 ?_ ?_ ?_ ?_ (lnB_k e5 (fun i i0 i1 => pN _ _ (by omega))) (fun i j i0 i1 j0 j1 => ?_)) (frd_t (flD N2 e7) (frd_c g4))⟩⟩
      · rw [pW _ _ (by omega) (by omega)]; exact w11
      · rw [pW _ _ (by omega) (by omega)]; exact n2
      · rw [pW _ _ (by omega) (by omega)]; exact n1
      · rw [pW _ _ (by omega) (by omega)]; exact n7
      · rw [pW _ _ (by omega) (by omega), wY _ _ (by omega) (by omega), fY _ _ (tpF_a (by omega))]
