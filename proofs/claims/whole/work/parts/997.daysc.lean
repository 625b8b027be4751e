/-! the class reads a step, an end -/
theorem lnB_k {M N : Mem} {d k : Int} {q : Rw5} (h : lnB M d k q) (e : ∀ i, 1 ≤ i → i ≤ 6 → N (d + i) k = M (d + i) k) : lnB N d k q := by
  unfold lnB at h ⊢
  rw [e 1 (by omega) (by omega), e 2 (by omega) (by omega), e 3 (by omega) (by omega), e 4 (by omega) (by omega), e 5 (by omega) (by omega), e 6 (by omega) (by omega)]
  exact h
theorem dc_step {M N : Mem} {d y : Int} {w : Int → Int} {O : List Int} {c : Int} {q : Rw5} (h : DC M d (w, O, c)) (d0 : 12 < d) (h9 : 0 ≤ w 9 ∧ w 9 < 60) (hO : ∀ o, o ∈ O → o < w 9) (hy : swd y) (hcd : cdY y q.1) (h25 : q.1 ≠ 25) (hD : LDy N d) (e1 : N d 1 = c + 1) (e2 : N d 2 = w 9 + 1) (e3 : N (d + 1) (w 9) = y) (e7 : N (d + 7) (w 9) = -1) (eq : lnB N d (w 9) q) (fr : ∀ i j, 1 ≤ i → i ≤ 7 → 0 ≤ j → j < w 9 → N (d + i) j = M (d + i) j) : DC N d (addD w q, if y = 23 ∨ y = 27 then w 9 :: O else O, c + 1) := by
  obtain ⟨hD', ⟨h1, h2⟩, hR, hl⟩ := h
  dsimp only at h1 h2 hR hl
  have cb := cdY_b hy hcd
  refine ⟨hD, ⟨e1, by dsimp only; rw [addD_9]; exact e2⟩, ?_, fun k k0 k1 => ?_⟩ <;> dsimp only at *
  · rw [addD_9, show (w 9 + 1).toNat = (w 9).toNat + 1 by omega, sel_snoc, show (0 : Int) + (((w 9).toNat : Nat) : Int) = w 9 by omega]
    have ec : selC (opnC N d) 0 (w 9).toNat = O.reverse := by
      rw [hR]
      exact sel_congr _ _ (fun x x0 x1 => by unfold opnC; rw [fr 1 x (by omega) (by omega) (by omega) (by omega), fr 7 x (by omega) (by omega) (by omega) (by omega)])
    rw [ec]
    by_cases b : y = 23 ∨ y = 27
    · have on : opnC N d (w 9) = true := by rw [opn_t, e3]; exact ⟨b, e7⟩
      rw [if_pos b, if_pos on, List.reverse_cons]
    · have on : ¬ opnC N d (w 9) = true := by rw [opn_t, e3]; exact fun z => b z.1
      rw [if_neg b, if_neg on, List.append_nil]
  · rw [addD_9] at k1
    by_cases ck : k = w 9
    · subst ck
      have rw5 : rowS (addD w q) (w 9) = q := by
        unfold rowS
        rw [addD_n h9.1 (by omega) (by omega), addD_n h9.1 (by omega) (by omega), addD_n h9.1 (by omega) (by omega), addD_n h9.1 (by omega) (by omega), addD_n h9.1 (by omega) (by omega)]
        rfl
      rw [rw5]
      refine ⟨eq, fun z => ?_⟩
      rw [addD_n h9.1 (by omega) (by omega)] at z
      have z : q.1 = 25 ∨ (blk q.1 ∧ w 9 ∉ (if y = 23 ∨ y = 27 then w 9 :: O else O)) := z
      rcases z with z | z
      · exact absurd z h25
      · rw [if_pos (cb.mp z.1)] at z
        exact absurd (List.mem_cons_self ..) z.2
    · have k1' : k < w 9 := by omega
      have rwk : rowS (addD w q) k = rowS w k := by
        unfold rowS
        rw [addD_o k0 k1' (by omega) (by omega), addD_o k0 k1' (by omega) (by omega), addD_o k0 k1' (by omega) (by omega), addD_o k0 k1' (by omega) (by omega), addD_o k0 k1' (by omega) (by omega)]
      rw [rwk, addD_o k0 k1' (by omega) (by omega), addD_o k0 k1' (by omega) (by omega)]
      obtain ⟨l1, l2⟩ := hl k k0 k1'
      refine ⟨lnB_k l1 (fun i i0 i1 => fr i k i0 (by omega) k0 k1'), fun z => ?_⟩
      rw [fr 7 k (by omega) (by omega) k0 k1']
      refine l2 (z.imp id (fun z => ⟨z.1, fun m => z.2 ?_⟩))
      by_cases b : y = 23 ∨ y = 27
      · rw [if_pos b]; exact List.mem_cons_of_mem _ m
      · rw [if_neg b]; exact m
theorem dc_end {M N : Mem} {d o : Int} {w : Int → Int} {O : List Int} {c : Int} (h : DC M d (w, o :: O, c)) (d0 : 12 < d) (h9 : 0 ≤ w 9 ∧ w 9 < 60) (o0 : 0 ≤ o) (o1 : o < w 9) (hb : blk (stp w o 0)) (hD : LDy N d) (e1 : N d 1 = c) (e2 : N d 2 = w 9 + 1) (e3 : N (d + 1) (w 9) = 28) (e7 : N (d + 7) (w 9) = o) (e8 : N (d + 7) o = w 9) (fr : ∀ i j, 1 ≤ i → i ≤ 7 → 0 ≤ j → j < w 9 → ¬ (i = 7 ∧ j = o) → N (d + i) j = M (d + i) j) : DC N d (lnk (addD w (25, 0, 0, 0, 0)) (w 9) o, O, c) := by
  obtain ⟨hD', ⟨h1, h2⟩, hR, hl⟩ := h
  dsimp only at h1 h2 hR hl
  have no : o ≠ w 9 := by omega
  have s9 : lnk (addD w (25, 0, 0, 0, 0)) (w 9) o 9 = w 9 + 1 := by rw [lnk_9 h9.1 o0, addD_9]
  have nd := sel_nd (p := opnC M d) (w 9).toNat 0
  rw [← hR, List.reverse_cons, nd_app] at nd
  refine ⟨hD, ⟨e1, by dsimp only; rw [s9]; exact e2⟩, ?_, fun k k0 k1 => ?_⟩ <;> dsimp only at *
  · rw [s9, show (w 9 + 1).toNat = (w 9).toNat + 1 by omega, sel_snoc, show (0 : Int) + (((w 9).toNat : Nat) : Int) = w 9 by omega]
    have on : ¬ opnC N d (w 9) = true := by rw [opn_t, e3]; omega
    have oo : opnC N d o = false := by
      have : ¬ opnC N d o = true := by rw [opn_t, e8]; omega
      exact Bool.eq_false_iff.mpr this
    rw [if_neg on, List.append_nil, sel_fil (p := opnC M d) (o := o) (w 9).toNat 0 (fun x x0 x1 x2 => by unfold opnC; rw [fr 1 x (by omega) (by omega) (by omega) (by omega) (by omega), fr 7 x (by omega) (by omega) (by omega) (by omega) (by omega)]) oo, ← hR, List.reverse_cons, List.filter_append]
    have f1 : O.reverse.filter (fun x => decide (x ≠ o)) = O.reverse := by
      rw [List.filter_eq_self]
      intro a ha
      exact decide_eq_true (nd.2.2 a ha o (List.mem_singleton.mpr rfl))
    rw [f1]; simp
  · rw [s9] at k1
    have es : ∀ i, 0 ≤ i → i < 6 → stp (lnk (addD w (25, 0, 0, 0, 0)) (w 9) o) k i = if i = 4 ∧ k = o then w 9 else if i = 4 ∧ k = w 9 then o else stp (addD w (25, 0, 0, 0, 0)) k i := fun i i0 i1 => lnk_s no k0 i0 i1
    have rwl : rowS (lnk (addD w (25, 0, 0, 0, 0)) (w 9) o) k = rowS (addD w (25, 0, 0, 0, 0)) k := by
      unfold rowS
      rw [es 0 (by omega) (by omega), if_neg (by omega), if_neg (by omega), es 1 (by omega) (by omega), if_neg (by omega), if_neg (by omega), es 2 (by omega) (by omega), if_neg (by omega), if_neg (by omega), es 3 (by omega) (by omega), if_neg (by omega), if_neg (by omega), es 5 (by omega) (by omega), if_neg (by omega), if_neg (by omega)]
    rw [rwl, es 4 (by omega) (by omega), es 0 (by omega) (by omega), if_neg (by omega), if_neg (by omega)]
    by_cases ck : k = w 9
    · subst ck
      have rw5 : rowS (addD w (25, 0, 0, 0, 0)) (w 9) = (25, 0, 0, 0, 0) := by
        unfold rowS
        rw [addD_n h9.1 (by omega) (by omega), addD_n h9.1 (by omega) (by omega), addD_n h9.1 (by omega) (by omega), addD_n h9.1 (by omega) (by omega), addD_n h9.1 (by omega) (by omega)]
        rfl
      rw [rw5, if_neg (by omega), if_pos ⟨rfl, rfl⟩]
      refine ⟨⟨e3, ?_, ?_, ?_, ?_, ?_, ?_, ?_, ?_⟩, fun _ => e7⟩ <;> (intro z; dsimp only at z; omega)
    · have k1' : k < w 9 := by omega
      have rwk : rowS (addD w (25, 0, 0, 0, 0)) k = rowS w k := by
        unfold rowS
        rw [addD_o k0 k1' (by omega) (by omega), addD_o k0 k1' (by omega) (by omega), addD_o k0 k1' (by omega) (by omega), addD_o k0 k1' (by omega) (by omega), addD_o k0 k1' (by omega) (by omega)]
      obtain ⟨l1, l2⟩ := hl k k0 k1'
      rw [rwk]
      refine ⟨lnB_k l1 (fun i i0 i1 => fr i k i0 (by omega) k0 k1' (by omega)), fun z => ?_⟩
      by_cases co : k = o
      · rw [co, e8, if_pos ⟨rfl, rfl⟩]
      · rw [if_neg (by omega), if_neg (by omega), addD_o k0 k1' (by omega) (by omega), fr 7 k (by omega) (by omega) k0 k1' (by omega)]
        rw [addD_o k0 k1' (by omega) (by omega)] at z
        refine l2 (z.imp id (fun z => ⟨z.1, fun m => ?_⟩))
        rw [List.mem_cons] at m
        rcases m with m | m
        · exact co m
        · exact z.2 m
/-- how a step ends -/
def StE (M : Mem) (B K : Int → Int) (n s d : Int) (r : Except Fl (DS × Int)) (q : Int × Mem) : Prop := (∃ f, r = .error f ∧ q.1 = 0 ∧ ErC q.2 f ∧ FrD M q.2 d) ∨ (∃ τ t, r = .ok (τ, t) ∧ q.1 = 1 ∧ nx B n s ≤ t ∧ CT q.2 B K n t ∧ DC q.2 d τ ∧ FrD M q.2 d)
theorem ste_e {M N : Mem} {B K : Int → Int} {n s d : Int} {r : Except Fl (DS × Int)} {f : Fl} (h : r = .error f) (he : ErC N f) (hf : FrD M N d) : StE M B K n s d r (0, N) := .inl ⟨f, h, rfl, he, hf⟩
theorem ste_o {M N : Mem} {B K : Int → Int} {n s d t : Int} {r : Except Fl (DS × Int)} {τ : DS} (h : r = .ok (τ, t)) (hn : nx B n s ≤ t) (hc : CT N B K n t) (hv : DC N d τ) (hf : FrD M N d) : StE M B K n s d r (1, N) := .inr ⟨τ, t, h, rfl, hn, hc, hv, hf⟩
theorem ste_r {M : Mem} {B K : Int → Int} {n s d : Int} {r : Except Fl (DS × Int)} {q : Int × Mem} (h : StE M B K n s d r q) : q.1 = 0 ∨ q.1 = 1 := by
  rcases h with ⟨f, _, h, _⟩ | ⟨τ, t, _, h, _⟩
  · exact .inl h
  · exact .inr h
theorem readEnd_e {M : Mem} {B K : Int → Int} {n s d : Int} {m : Nms} {σ : DS} (h : CT M B K n s) (hc : DC M d σ) (hw : WDs m σ) (hd : d = 40 ∨ d = 111) (hy : tkY B K n s = 28) : Tot (f_X1_readEnd 10 d M) (StE M B K n s d (dsT B K n m σ s)) := by
  obtain ⟨w, O, c⟩ := σ
  have hc' := hc
  obtain ⟨hD, ⟨h1, h2⟩, hR, hl⟩ := hc'
  have hw' := hw
  obtain ⟨⟨w1, w2, w3, w4, w5⟩, wp, wo, wl⟩ := hw'
  dsimp only at h1 h2 hR hl w1 w2 w3 w4 w5 wp wo wl
  have nb := nx_b (B := B) h.2.2.2.2.2
  unfold f_X1_readEnd
  rw [t_nn, t_callp]
  refine ⟨by omega, t_mono (innermost_e hc (by omega) ⟨w3, by show w 9 ≤ 60; omega⟩) (fun u hu => ?_)⟩
  rw [t_ite]
  rcases hu with ⟨u1, u2⟩ | ⟨O', u1⟩
  · have u1 : O = [] := u1
    refine ⟨fun q => absurd u2 q, fun _ => ?_⟩
    rw [t_nn, t_call]
    refine ⟨by omega, blameC_e h 2 (fun N eN fN => ?_)⟩
    rw [t_retzm]
    exact ⟨by omega, ste_e (by unfold dsT; rw [if_pos hy]; dsimp only; rw [u1]) eN (frd_c fN)⟩
  have u1 : O = u :: O' := u1
  subst u1
  obtain ⟨o0, o1, o2, o3⟩ := wo u (List.mem_cons_self ..)
  rw [List.length_cons] at w4
  refine ⟨fun _ => ?_, fun q => absurd (by omega) q⟩
  rw [t_nn, t_callv]
  refine ⟨by omega, stepC_e h (fun Y hY fY => ?_)⟩
  have dY : LDy Y d := ldy_k hD (fun a j q1 q2 => fY a j (tpF_a (by omega)))
  have y2 : Y d 2 = w 9 := by rw [fY _ _ (tpF_a (by omega))]; exact h2
  rw [t_call]
  refine addLine_e dY (by omega) y2 w3 (by omega) (fun N n2 n1 n7 fN => ?_)
  have nY : ∀ a j, ¬ (a = d ∧ j = 2) → ¬ ((a = d + 1 ∨ a = d + 7) ∧ j = w 9) → N a j = Y a j := fN
  obtain ⟨p3, p9, l1, l7⟩ := ldy_f dY
  have z : ∀ a j, ¬ (a = d + 7 ∧ (j = w 9 ∨ j = u)) → upd2 (upd2 N (d + 7) (w 9) u) (d + 7) u (w 9) a j = N a j := fun a j hh => by rw [upd2_at, if_neg (by omega), upd2_at, if_neg (by omega)]
  have zn : upd2 (upd2 N (d + 7) (w 9) u) (d + 7) u (w 9) (d + 7) (w 9) = u := by rw [upd2_at, if_neg (by omega), upd2_at, if_pos ⟨rfl, rfl⟩]
  have zu : upd2 (upd2 N (d + 7) (w 9) u) (d + 7) u (w 9) (d + 7) u = w 9 := by rw [upd2_at, if_pos ⟨rfl, rfl⟩]
  dsimp only
  rw [t_getf, nY _ _ (by omega) (by omega), p9, t_seti, nY _ _ (by omega) (by omega), l7, t_getf, upd2_at, if_neg (by omega), nY _ _ (by omega) (by omega), p9, t_seti, upd2_at, if_neg (by omega), nY _ _ (by omega) (by omega), l7, t_call]
  generalize upd2 (upd2 N (d + 7) (w 9) u) (d + 7) u (w 9) = Z at z zn zu ⊢
  refine ⟨by omega, by omega, w3, by omega, by omega, by omega, o0, by omega, ?_⟩
  have zY : ∀ a j, ¬ (a = d ∧ j = 2) → ¬ ((a = d + 1 ∨ a = d + 7) ∧ j = w 9) → ¬ (a = d + 7 ∧ j = u) → Z a j = Y a j := fun a j q1 q2 q3 => by rw [z _ _ (by omega), nY _ _ q1 q2]
  have hZ : CT Z B K n (nx B n s) := ct_k hY (fun a j hh => zY a j (by omega) (by omega) (by omega))
  have fZ : FrD M Z d := fun a j q1 q2 => by rw [zY _ _ (fun q => q2 (by unfold PD; omega)) (fun q => q2 (by unfold PD; omega)) (fun q => q2 (by unfold PD; omega)), fY _ _ q1]
  have dsE : dsT B K n m (w, u :: O', c) s = bnd (smT B n (nx B n s)) fun t => .ok ((lnk (addD w (25, 0, 0, 0, 0)) (w 9) u, O', c), t) := by unfold dsT; rw [if_pos hy]
  refine semi_e hZ (fun P f g1 g2 g3 => ?_) (fun P t g1 g2 g3 g4 => ?_)
  · dsimp only
    rw [t_retzm]
    exact ⟨by omega, ste_e (by rw [dsE, g1, bnd_e]) g2 (frd_t fZ (frd_c g3))⟩
  · dsimp only
    rw [t_retzm]
    have pZ : ∀ a j, 12 < a → P a j = Z a j := fun a j q => g4 a j (tpF_a (by omega))
    have pM : ∀ i j, 1 ≤ i → i ≤ 7 → 0 ≤ j → j < w 9 → ¬ (i = 7 ∧ j = u) → P (d + i) j = M (d + i) j := fun i j i0 i1 j0 j1 hh => by rw [pZ _ _ (by omega), zY _ _ (by omega) (by omega) (by omega), fY _ _ (tpF_a (by omega))]
    refine ⟨by omega, ste_o (by rw [dsE, g1, bnd_o]) (by omega) g3 (dc_end hc (by omega) ⟨w3, by omega⟩ o0 o1 o2 ?_ ?_ ?_ ?_ ?_ ?_ pM) (frd_t fZ (frd_c g4))⟩
    · exact ⟨⟨by rw [pZ _ _ (by omega), zY _ _ (by omega) (by omega) (by omega)]; exact dY.1.1, by rw [pZ _ _ (by omega), zY _ _ (by omega) (by omega) (by omega)]; exact dY.1.2.1, by rw [pZ _ _ (by omega), zY _ _ (by omega) (by omega) (by omega)]; exact dY.1.2.2.1, by rw [pZ _ _ (by omega), zY _ _ (by omega) (by omega) (by omega)]; exact dY.1.2.2.2.1, by rw [pZ _ _ (by omega), zY _ _ (by omega) (by omega) (by omega)]; exact dY.1.2.2.2.2.1, by rw [pZ _ _ (by omega), zY _ _ (by omega) (by omega) (by omega)]; exact dY.1.2.2.2.2.2.1, by rw [pZ _ _ (by omega), zY _ _ (by omega) (by omega) (by omega)]; exact dY.1.2.2.2.2.2.2⟩, fun i i0 i1 => by rw [pZ _ _ (by omega), zY _ _ (by omega) (by omega) (by omega)]; exact dY.2 i i0 i1⟩
    · rw [pZ _ _ (by omega), zY _ _ (by omega) (by omega) (by omega), fY _ _ (tpF_a (by omega))]; exact h1
    · rw [pZ _ _ (by omega), z _ _ (by omega)]; exact n2
    · rw [pZ _ _ (by omega), z _ _ (by omega)]; exact n1
    · rw [pZ _ _ (by omega)]; exact zn
    · rw [pZ _ _ (by omega)]; exact zu
