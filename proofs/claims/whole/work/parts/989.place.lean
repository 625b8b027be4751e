/-! the class lays the order -/
theorem sel_le {p : Int → Bool} {lo : Int} {k : Nat} : ∀ (d : Nat), (selC p lo k).length ≤ (selC p lo (k + d)).length
  | 0 => Nat.le_refl _
  | d + 1 => by
    rw [show k + (d + 1) = (k + d) + 1 by omega, sel_snoc, List.length_append]
    have := sel_le (p := p) (lo := lo) (k := k) d
    omega
theorem fmsel_le {p : Int → Bool} {g : Int → List Int} {lo : Int} {k : Nat} : ∀ (d : Nat), ((selC p lo k).flatMap g).length ≤ ((selC p lo (k + d)).flatMap g).length
  | 0 => Nat.le_refl _
  | d + 1 => by
    rw [show k + (d + 1) = (k + d) + 1 by omega, sel_snoc, List.flatMap_append, List.length_append]
    have := fmsel_le (p := p) (g := g) (lo := lo) (k := k) d
    omega
def CL (X : Mem) (b o : Int) (L : List Int) : Prop := ∀ i : Int, 0 ≤ i → i < L.length → X b (o + i) = lg L i
theorem cl_nil {X : Mem} {b o : Int} : CL X b o [] := fun i i0 i1 => by rw [List.length_nil] at i1; omega
theorem cl_app {X : Mem} {b o : Int} {L R : List Int} (h : CL X b o L) (h2 : CL X b (o + L.length) R) : CL X b o (L ++ R) := fun i i0 i1 => by
  rw [List.length_append] at i1
  rw [lg_app L i i0]
  by_cases c : i < L.length
  · rw [if_pos c]; exact h i i0 c
  · rw [if_neg c, ← h2 (i - L.length) (by omega) (by omega)]; congr 1; omega
theorem cl_one {X : Mem} {b o x : Int} (h : X b o = x) : CL X b o [x] := fun i i0 i1 => by
  rw [List.length_singleton] at i1
  rw [show i = 0 by omega, Int.add_zero, h]; rfl
theorem cl_k {X Y : Mem} {b o : Int} {L : List Int} (h : CL X b o L) (k : ∀ j, o ≤ j → j < o + L.length → Y b j = X b j) : CL Y b o L := fun i i0 i1 => by rw [k _ (by omega) (by omega)]; exact h i i0 i1
/-- what placeBelow looks at -/
def PB (M : Mem) (v : Int) (w : Int → Int) : Prop := (M 13 0 = v ∧ M 13 2 = 48 ∧ M 48 4 = 49 ∧ M 49 (-1) = 10) ∧ (M v 8 = v + 1 ∧ M v 9 = v + 12 ∧ M (v + 1) (-1) = 10 ∧ M (v + 12) (-1) = 10 ∧ M v 3 = w 3 ∧ M v 5 = w 5) ∧ (∀ r, 0 ≤ r → r < w 3 → M (v + 1) r = v + 2 + r ∧ M (v + 2 + r) (-1) = 6 ∧ M (v + 2 + r) 0 = rc w r 0) ∧ ∀ f, 0 ≤ f → f < w 5 → M (v + 12) f = v + 13 + f ∧ M (v + 13 + f) (-1) = 4 ∧ M (v + 13 + f) 0 = fc w f 0
theorem pb_k {M N : Mem} {v : Int} {w : Int → Int} (hv : v = 14 ∨ v = 85) (h3 : w 3 ≤ 10) (h5 : w 5 ≤ 10) (h : PB M v w) (k : ∀ a j, ¬ (a = 49 ∧ 0 ≤ j) → N a j = M a j) : PB N v w := by
  obtain ⟨⟨a1, a2, a3, a4⟩, ⟨b1, b2, b3, b4, b5, b6⟩, c, d⟩ := h
  refine ⟨⟨?_, ?_, ?_, ?_⟩, ⟨?_, ?_, ?_, ?_, ?_, ?_⟩, fun r r0 r1 => ?_, fun f f0 f1 => ?_⟩
  · rw [k _ _ (by omega)]; exact a1
  · rw [k _ _ (by omega)]; exact a2
  · rw [k _ _ (by omega)]; exact a3
  · rw [k _ _ (by omega)]; exact a4
  · rw [k _ _ (by omega)]; exact b1
  · rw [k _ _ (by omega)]; exact b2
  · rw [k _ _ (by omega)]; exact b3
  · rw [k _ _ (by omega)]; exact b4
  · rw [k _ _ (by omega)]; exact b5
  · rw [k _ _ (by omega)]; exact b6
  · rw [k _ _ (by omega), k _ _ (by omega), k _ _ (by omega)]; exact c r r0 r1
  · rw [k _ _ (by omega), k _ _ (by omega), k _ _ (by omega)]; exact d f f0 f1
theorem pbL12_e {M : Mem} {v r x3 pl : Int} {w : Int → Int} {rcf : Int → Int → Int → Int → Mem → Option (Int × Mem)} {k : Int → Mem → Option (Int × Mem)} {Q : Int × Mem → Prop} (hv : v = 14 ∨ v = 85) (h3 : w 3 ≤ 10) (h5 : 0 ≤ w 5 ∧ w 5 ≤ 10) (h : PB M v w) (p0 : 0 ≤ pl) (p1 : pl + (fld w r).length ≤ 10) (hk : ∀ N, CL N 49 pl (fld w r) → (∀ a j, ¬ (a = 49 ∧ pl ≤ j ∧ j < pl + (fld w r).length) → N a j = M a j) → Tot (k (pl + (fld w r).length) N) Q) : Tot (f_X10_placeBelow_L12 rcf v 13 r x3 k KF pl 0 M) Q := by
  have ef : fld w r = selC (fun f => decide (fc w f 0 = r)) 0 (w 5).toNat := rfl
  generalize hP : (fun f => decide (fc w f 0 = r)) = P at ef
  have hp : ∀ f, P f = true ↔ fc w f 0 = r := fun f => by rw [← hP]; exact decide_eq_true_iff
  refine lpIIM (fun a b X => ∃ q : Nat, b = q ∧ (q : Int) ≤ w 5 ∧ a = pl + (selC P 0 q).length ∧ CL X 49 pl (selC P 0 q) ∧ ∀ c j, ¬ (c = 49 ∧ pl ≤ j ∧ j < a) → X c j = M c j) (fun _ b _ => (w 5 - b).toNat) ?_ (by unfold KF; omega) ⟨0, by omega, by omega, by show pl = pl + ((0 : Nat) : Int); omega, cl_nil, fun _ _ _ => rfl⟩
  rintro fu a b X ⟨q, rfl, i1, i2, i3, i4⟩ ih
  have hX : PB X v w := pb_k hv h3 h5.2 h (fun c j hh => i4 c j (by omega))
  obtain ⟨⟨a1, a2, a3, a4⟩, ⟨b1, b2, b3, b4, b5, b6⟩, cc, dd⟩ := hX
  unfold f_X10_placeBelow_L12
  rw [t_getf, b6, t_ite]
  refine ⟨by omega, fun c => ?_, fun c => ?_⟩
  · have e : selC P 0 q = fld w r := by rw [ef]; congr 1; omega
    rw [e] at i2 i3
    rw [i2]
    exact hk X i3 (fun c j hh => i4 c j (by omega))
  obtain ⟨d1, d2, d3⟩ := dd q (by omega) (by omega)
  have sn := sel_snoc (p := P) q 0
  rw [Int.zero_add] at sn
  have le : (selC P 0 (q + 1)).length ≤ (fld w r).length := by
    rw [ef]
    have := sel_le (p := P) (lo := 0) (k := q + 1) ((w 5).toNat - (q + 1))
    rw [show q + 1 + ((w 5).toNat - (q + 1)) = (w 5).toNat by omega] at this
    exact this
  rw [t_getf, b2, t_geti, b4, d1, t_geti, d2, d3]
  refine ⟨by omega, by omega, by omega, by omega, by omega, by omega, by omega, ?_⟩
  have nx : ∀ Y : Mem, ∀ a', a' = pl + (selC P 0 (q + 1)).length → CL Y 49 pl (selC P 0 (q + 1)) → (∀ c j, ¬ (c = 49 ∧ pl ≤ j ∧ j < a') → Y c j = M c j) → Tot (f_X10_placeBelow_L12 rcf v 13 r x3 k fu a' (w32 ((q : Int) + 1)) Y) Q := fun Y a' e1 e2 e3 => by
    rw [w32_s (by omega) (by omega)]
    exact ih _ _ _ (by omega) ⟨q + 1, by omega, by omega, e1, e2, e3⟩
  refine t_jvm (fun a' Y => a' = pl + (selC P 0 (q + 1)).length ∧ CL Y 49 pl (selC P 0 (q + 1)) ∧ ∀ c j, ¬ (c = 49 ∧ pl ≤ j ∧ j < a') → Y c j = M c j) (fun a' Y hY => nx Y a' hY.1 hY.2.1 hY.2.2) (fun J hJ => ?_)
  rw [t_ite]
  refine ⟨fun e => hJ _ _ ?_, fun e => ?_⟩
  · rw [sn, if_neg (fun z => e ((hp _).mp z)), List.append_nil]
    exact ⟨i2, i3, i4⟩
  have e' : fc w q 0 = r := Classical.not_not.mp e
  rw [if_pos ((hp _).mpr e')] at sn
  rw [sn, List.length_append, List.length_singleton] at le
  rw [t_ite]
  refine ⟨fun z => by omega, fun _ => ?_⟩
  rw [t_getf, a2, t_getf, a3, t_seti, a4, w32_s (by omega) (by omega)]
  refine ⟨by omega, by omega, by omega, by omega, by omega, hJ _ _ ⟨by rw [sn, List.length_append, List.length_singleton]; omega, ?_, fun c j hh => by rw [upd2_at, if_neg (by omega)]; exact i4 c j (by omega)⟩⟩
  rw [sn]
  refine cl_app (cl_k i3 (fun j j0 j1 => by rw [upd2_at, if_neg (by omega)])) (cl_one ?_)
  rw [upd2_at, if_pos ⟨rfl, by omega⟩]
theorem pbd_e {v : Int} {w : Int → Int} (hv : v = 14 ∨ v = 85) (hr : WFr w) (h3 : 0 ≤ w 3 ∧ w 3 ≤ 10) (h5 : 0 ≤ w 5 ∧ w 5 ≤ 10) : ∀ (d : Nat) (r pl x3 : Int) (M : Mem) (Q : Int × Mem → Prop), x3 + d = 12 → 0 ≤ x3 → x3 ≤ r + 1 → -1 ≤ r → r < w 3 ∨ r = -1 → 0 ≤ pl → pl + (dfs w d r).length ≤ 10 → PB M v w → (∀ N, CL N 49 pl (dfs w d r) → (∀ a j, ¬ (a = 49 ∧ pl ≤ j ∧ j < pl + (dfs w d r).length) → N a j = M a j) → Q (pl + (dfs w d r).length, N)) → Tot (pbd d 13 r pl x3 M) Q := by
  intro d
  induction d with
  | zero => intro r pl x3 M Q e1 e2 e3 e4 e5; omega
  | succ d ihd =>
    intro r pl x3 M Q e1 e2 e3 e4 e5 p0 p1 h hq
    have ed : dfs w (d + 1) r = fld w r ++ (chl w r).flatMap (dfs w d) := rfl
    rw [ed, List.length_append] at p1
    rw [ed] at hq
    show Tot (getf M 13 0 (fun v1 => f_X10_placeBelow_L12 (pbd d) v1 13 r x3 (fun (q16 : Int) (M17 : Mem) => f_X10_placeBelow_L67 (pbd d) v1 13 r x3 (fun (q31 : Int) (M32 : Mem) => some (q31, M32)) KF q16 0 M17) KF pl 0 M)) Q
    rw [t_getf, h.1.1]
    refine ⟨by omega, ?_⟩
    refine pbL12_e hv h3.2 h5 h p0 (by omega) (fun N1 c1 f1 => ?_)
    have hN1 : PB N1 v w := pb_k hv h3.2 h5.2 h (fun c j hh => f1 c j (by omega))
    have ec : chl w r = selC (fun q => decide (rc w q 0 = r)) 0 (w 3).toNat := rfl
    generalize hP : (fun q => decide (rc w q 0 = r)) = P at ec
    have hp : ∀ q, P q = true ↔ rc w q 0 = r := fun q => by rw [← hP]; exact decide_eq_true_iff
    generalize hpl2 : pl + ((fld w r).length : Int) = pl2 at f1 ⊢
    refine lpIIM (fun a b X => ∃ q : Nat, b = q ∧ (q : Int) ≤ w 3 ∧ a = pl2 + ((selC P 0 q).flatMap (dfs w d)).length ∧ CL X 49 pl2 ((selC P 0 q).flatMap (dfs w d)) ∧ ∀ c j, ¬ (c = 49 ∧ pl2 ≤ j ∧ j < a) → X c j = N1 c j) (fun _ b _ => (w 3 - b).toNat) ?_ (by unfold KF; omega) ⟨0, by omega, by omega, by show pl2 = pl2 + ((0 : Nat) : Int); omega, cl_nil, fun _ _ _ => rfl⟩
    rintro fu a b X ⟨q, rfl, i1, i2, i3, i4⟩ ih
    have hX : PB X v w := pb_k hv h3.2 h5.2 hN1 (fun c j hh => i4 c j (by omega))
    have hX' := hX
    obtain ⟨⟨a1, a2, a3, a4⟩, ⟨b1, b2, b3, b4, b5, b6⟩, cc, dd⟩ := hX'
    unfold f_X10_placeBelow_L67
    rw [t_getf, b5, t_ite]
    refine ⟨by omega, fun c => ?_, fun c => ?_⟩
    · have e : selC P 0 q = chl w r := by rw [ec]; congr 1; omega
      rw [e] at i2 i3
      rw [t_some]
      have := hq X (cl_app (cl_k c1 (fun j j0 j1 => i4 _ _ (by omega))) (by rw [hpl2]; exact i3)) (fun a j hh => by
        rw [List.length_append] at hh
        rw [i4 _ _ (by omega), f1 _ _ (by omega)])
      rw [List.length_append] at this
      rw [i2, show pl2 + (((chl w r).flatMap (dfs w d)).length : Int) = pl + (((fld w r).length + ((chl w r).flatMap (dfs w d)).length : Nat) : Int) by omega]
      exact this
    rw [t_ite]
    have x10 : x3 ≤ 10 := by rcases e5 with e5 | e5 <;> omega
    refine ⟨fun z => by omega, fun _ => ?_⟩
    obtain ⟨d1, d2, d3⟩ := cc q (by omega) (by omega)
    have wq := hr q (by omega) (by omega)
    have sn := sel_snoc (p := P) q 0
    rw [Int.zero_add] at sn
    have le : ((selC P 0 (q + 1)).flatMap (dfs w d)).length ≤ ((chl w r).flatMap (dfs w d)).length := by
      rw [ec]
      have := fmsel_le (p := P) (g := dfs w d) (lo := 0) (k := q + 1) ((w 3).toNat - (q + 1))
      rw [show q + 1 + ((w 3).toNat - (q + 1)) = (w 3).toNat by omega] at this
      exact this
    rw [t_getf, b1, t_geti, b3, d1, t_geti, d2, d3]
    refine ⟨by omega, by omega, by omega, by omega, by omega, by omega, by omega, ?_⟩
    have nx : ∀ Y : Mem, ∀ a', a' = pl2 + ((selC P 0 (q + 1)).flatMap (dfs w d)).length → CL Y 49 pl2 ((selC P 0 (q + 1)).flatMap (dfs w d)) → (∀ c j, ¬ (c = 49 ∧ pl2 ≤ j ∧ j < a') → Y c j = N1 c j) → Tot (f_X10_placeBelow_L67 (pbd d) v 13 r x3 (fun (q31 : Int) (M32 : Mem) => some (q31, M32)) fu a' (w32 ((q : Int) + 1)) Y) Q := fun Y a' e1 e2 e3 => by
      rw [w32_s (by omega) (by omega)]
      exact ih _ _ _ (by omega) ⟨q + 1, by omega, by omega, e1, e2, e3⟩
    refine t_jvm (fun a' Y => a' = pl2 + ((selC P 0 (q + 1)).flatMap (dfs w d)).length ∧ CL Y 49 pl2 ((selC P 0 (q + 1)).flatMap (dfs w d)) ∧ ∀ c j, ¬ (c = 49 ∧ pl2 ≤ j ∧ j < a') → Y c j = N1 c j) (fun a' Y hY => nx Y a' hY.1 hY.2.1 hY.2.2) (fun J hJ => ?_)
    rw [t_ite]
    refine ⟨fun e => hJ _ _ ?_, fun e => ?_⟩
    · rw [sn, if_neg (fun z => e ((hp _).mp z)), List.append_nil]
      exact ⟨i2, i3, i4⟩
    have e' : rc w q 0 = r := Classical.not_not.mp e
    rw [if_pos ((hp _).mpr e')] at sn
    have sf : (selC P 0 (q + 1)).flatMap (dfs w d) = (selC P 0 q).flatMap (dfs w d) ++ dfs w d q := by
      rw [sn, List.flatMap_append, List.flatMap_cons, List.flatMap_nil, List.append_nil]
    rw [sf, List.length_append] at le
    rw [t_call, w32_s (by omega) (by omega)]
    refine ihd q a (x3 + 1) X _ (by omega) (by omega) (by omega) (by omega) (.inl (by omega)) (by omega) (by omega) hX (fun Y cY fY => hJ _ _ ⟨by rw [sf, List.length_append]; omega, ?_, fun c j hh => ?_⟩)
    · rw [sf]
      refine cl_app (cl_k i3 (fun j j0 j1 => fY _ _ (by omega))) ?_
      rw [← i2]; exact cY
    · dsimp only at hh ⊢
      rw [fY _ _ (by omega)]; exact i4 _ _ (by omega)
