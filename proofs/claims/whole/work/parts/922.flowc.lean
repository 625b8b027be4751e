/-! flow: the class -/
theorem t_jq {α ρ : Type} {K : α} {b : α → Option ρ} {Q : ρ → Prop} (P : α → Prop) (hk : P K) (hb : ∀ j, P j → Tot (b j) Q) : Tot (jn K b) Q := hb K hk
def FL (M : Mem) (w : Int → Int) (h m n : Int) : Prop := ∀ r, 0 ≤ r → r < n → M 63 r = cmW w h m r ∧ M 64 r = caW w h m r ∧ M 65 r = lvW w h m r
def SCf (a j : Int) : Prop := 63 ≤ a ∧ a ≤ 65 ∧ 0 ≤ j
/-- what stands in the rows of the valley -/
theorem ci_r {M : Mem} {v : Int} {w : Int → Int} (h : CI M v w) (hn : WFn w) {r : Int} (h0 : 0 ≤ r) (h1 : r < w 3) : M v 8 = v + 1 ∧ M (v + 1) (-1) = 10 ∧ M (v + 1) r = v + 2 + r ∧ M (v + 2 + r) (-1) = 6 ∧ (∀ k, 0 ≤ k → k < 6 → M (v + 2 + r) k = rc w r k) ∧ v + 1 ≠ 0 ∧ v + 2 + r ≠ 0 := by
  unfold WFn at hn
  obtain ⟨hv, _, ⟨⟨l1, l2, l3, l4, l5⟩, ⟨m1, m2, _⟩, lr⟩, _, _, ⟨_, rr, ff⟩, _⟩ := h
  have q := lr r h0 (by omega)
  exact ⟨l1, m1, q.1, q.2.1, fun k k0 k1 => rr r k h0 h1 k0 k1, by omega, by omega⟩
theorem ci_f {M : Mem} {v : Int} {w : Int → Int} (h : CI M v w) (hn : WFn w) {f : Int} (h0 : 0 ≤ f) (h1 : f < w 5) : M v 9 = v + 12 ∧ M (v + 12) (-1) = 10 ∧ M (v + 12) f = v + 13 + f ∧ M (v + 13 + f) (-1) = 4 ∧ (∀ k, 0 ≤ k → k < 4 → M (v + 13 + f) k = fc w f k) ∧ v + 12 ≠ 0 ∧ v + 13 + f ≠ 0 := by
  unfold WFn at hn
  obtain ⟨hv, _, ⟨⟨l1, l2, l3, l4, l5⟩, ⟨m1, m2, _⟩, lr⟩, _, _, ⟨_, rr, ff⟩, _⟩ := h
  have q := lr f h0 (by omega)
  exact ⟨l2, m2, q.2.2.1, q.2.2.2, fun k k0 k1 => ff f k h0 h1 k0 k1, by omega, by omega⟩
theorem ci_n {M : Mem} {v : Int} {w : Int → Int} (h : CI M v w) : M v 1 = w 1 ∧ M v 2 = w 2 ∧ M v 3 = w 3 ∧ M v 4 = w 4 ∧ M v 5 = w 5 ∧ M v 6 = allSh w ∧ M v 7 = litre w := h.2.2.2.2.2.1.1
theorem flow_e {M : Mem} {v : Int} {w : Int → Int} {Q : Mem → Prop} (hc : CI M v w) (hn : WFn w) (hr : WFr w) {h m : Int} (hh : 0 ≤ h) (hh1 : h ≤ 999) (hq : ∀ M', (∀ a j, ¬ SCf a j → M' a j = M a j) → FL M' w h m (w 3) → CI M' v w → Q M') : Tot (f_X5_flow 55 v h m M) Q := by
  have hn' := hn
  unfold WFn at hn'
  have L := litre_le hr (by omega) (by omega)
  have HL := mul_le (x := h) (y := litre w) (a := 999) (b := 61917364224) hh hh1 (by omega) L.2
  unfold f_X5_flow
  refine lpIM (fun p N => 0 ≤ p ∧ p ≤ w 3 ∧ (∀ a j, ¬ SCf a j → N a j = M a j) ∧ FL N w h m p) (fun p _ => (w 3 - p).toNat) ?_ (by unfold KF; omega) ⟨by omega, by omega, fun _ _ _ => rfl, fun r r0 r1 => by omega⟩
  rintro n p N ⟨i0, i1, i2, i3⟩ ih
  have hN : CI N v w := ci_s hn hc (fun a j ha => i2 a j (by unfold SC at ha; unfold SCf; omega))
  obtain ⟨na, nb, nc, nd, ne⟩ := ci_p hN
  obtain ⟨g1, g2, g3, g4, g5, g6, g7⟩ := ci_n hN
  obtain ⟨⟨a1, a2, a3, a4, a5, a6, a7, a8, a9, a10, a11, a12⟩, _, ⟨c1, c2, c3, c4, c5, c6, c7, c8, c9, _⟩⟩ := hN.2.2.2.2.1
  have hv := hN.1
  unfold f_X5_flow_L3
  rw [t_getf, g3, t_ite]
  refine ⟨ne, fun c => ?_, fun c => ?_⟩
  · have : p = w 3 := by omega
    subst this
    rw [t_some]; exact hq N i2 i3 hN
  obtain ⟨r1, r2, r3, r4, r5, r6, r7⟩ := ci_r hN hn i0 (by omega)
  have q := hr p i0 (by omega)
  have fl := flow_le hr (by omega) (by omega) hh m 10 p i0 (by omega) (by omega)
  have s0 := r5 0 (by omega) (by omega)
  have s1 := r5 1 (by omega) (by omega)
  have s2 := r5 2 (by omega) (by omega)
  have s3 := r5 3 (by omega) (by omega)
  simp only [t_getf, t_geti, r1, r2, r3, r4, s0, a2]
  refine ⟨ne, r6, i0, by omega, by decide, r7, by decide, by omega, t_jq (fun j => Tot (j (cmW w h m p)) Q) ?_ (fun j hj => ?_)⟩
  rotate_left
  · simp only [t_ite, t_getf, t_geti, r4, s0, a4, g7]
    refine ⟨fun c => ?_, fun c => ?_⟩
    · have e := (i3 (rc w p 0) (by omega) (by omega)).2.2
      have e2 : cmW w h m p = lvW w h m (rc w p 0) := by unfold cmW; rw [if_neg c]
      rw [e, ← e2, c9]
      exact ⟨by decide, r7, by decide, by omega, by decide, by omega, by omega, hj⟩
    · have c : rc w p 0 = -1 := by simpa using c
      have e2 : cmW w h m p = h * litre w := by unfold cmW; rw [if_pos c]
      rw [w64_s (by omega) (by omega), ← e2]
      exact ⟨ne, hj⟩
  obtain ⟨N1, e1⟩ : ∃ X, X = upd2 N 63 p (cmW w h m p) := ⟨_, rfl⟩
  have k1 : ∀ a j, ¬ (a = 63 ∧ j = p) → N1 a j = N a j := fun a j hj => by rw [e1, upd2_at, if_neg hj]
  have v1 : N1 63 p = cmW w h m p := by rw [e1, upd2_at, if_pos ⟨rfl, rfl⟩]
  simp only [t_seti, ← e1]
  rw [c7]
  refine ⟨by decide, i0, by omega, ?_⟩
  have z1 : N1 55 2 = 64 := by rw [k1 _ _ (by omega)]; exact a3
  have z2 : N1 (v + 2 + p) (-1) = 6 := by rw [k1 _ _ (by omega)]; exact r4
  have z3 : N1 (v + 2 + p) 3 = rc w p 3 := by rw [k1 _ _ (by omega)]; exact s3
  have z4 : N1 55 1 = 63 := by rw [k1 _ _ (by omega)]; exact a2
  have z5 : N1 63 (-1) = 10 := by rw [k1 _ _ (by omega)]; exact c7
  have z6 : N1 v 7 = litre w := by rw [k1 _ _ (by omega)]; exact g7
  have z7 : N1 64 (-1) = 10 := by rw [k1 _ _ (by omega)]; exact c8
  simp only [t_getf, t_geti, z1, z2, z3]
  refine ⟨by decide, r7, by decide, by omega, t_jq (fun j => Tot (j (caW w h m p)) Q) ?_ (fun j hj => ?_)⟩
  rotate_left
  · simp only [t_ite, t_getf, t_geti, t_callp, minl_e, t_some, z2, z3, z4, z5, z6, v1]
    refine ⟨fun c => ?_, fun c => ?_⟩
    · have b3 := mul_le (x := rc w p 3) (y := litre w) (a := 999) (b := 61917364224) (by omega) (by omega) (by omega) L.2
      rw [w64_s (by omega) (by omega)]
      refine ⟨by decide, by decide, i0, by omega, r7, by decide, by omega, ne, ?_⟩
      have e2 : caW w h m p = if rc w p 3 * litre w < cmW w h m p then rc w p 3 * litre w else cmW w h m p := by unfold caW carR; rw [if_neg c]
      rw [← e2]; exact hj
    · have c : rc w p 3 = -1 := by simpa using c
      have e2 : caW w h m p = cmW w h m p := by unfold caW carR; rw [if_pos c]
      rw [← e2]
      exact ⟨by decide, by decide, i0, by omega, hj⟩
  obtain ⟨N2, e2⟩ : ∃ X, X = upd2 N1 64 p (caW w h m p) := ⟨_, rfl⟩
  have k2 : ∀ a j, ¬ (a = 63 ∧ j = p) → ¬ (a = 64 ∧ j = p) → N2 a j = N a j := fun a j hj hk => by rw [e2, upd2_at, if_neg hk, k1 _ _ hj]
  have v2 : N2 64 p = caW w h m p := by rw [e2, upd2_at, if_pos ⟨rfl, rfl⟩]
  have v2' : N2 63 p = cmW w h m p := by rw [e2, upd2_at, if_neg (by omega)]; exact v1
  simp only [t_seti, ← e2]
  rw [z7]
  refine ⟨by decide, i0, by omega, ?_⟩
  have y1 : N2 55 2 = 64 := by rw [k2 _ _ (by omega) (by omega)]; exact a3
  have y2 : N2 (v + 2 + p) (-1) = 6 := by rw [k2 _ _ (by omega) (by omega)]; exact r4
  have y3 : N2 (v + 2 + p) 2 = rc w p 2 := by rw [k2 _ _ (by omega) (by omega)]; exact s2
  have y4 : N2 (v + 2 + p) 1 = rc w p 1 := by rw [k2 _ _ (by omega) (by omega)]; exact s1
  have y5 : N2 55 3 = 65 := by rw [k2 _ _ (by omega) (by omega)]; exact a4
  have y6 : N2 65 (-1) = 10 := by rw [k2 _ _ (by omega) (by omega)]; exact c9
  have y7 : N2 64 (-1) = 10 := by rw [k2 _ _ (by omega) (by omega)]; exact c8
  have mx : (if (1 : Int) < rc w p 2 then rc w p 2 else 1) = rc w p 2 := by split <;> omega
  simp only [t_getf, t_geti, t_callp, max_e, t_some, t_ldivc, t_letv, y1, y2, y3, y4, y5, y7, v2, mx]
  rw [ldiv_p fl.2.2.1 (by omega) (by omega)]
  have dd : 0 ≤ caW w h m p / rc w p 2 := Int.ediv_nonneg fl.2.2.1 (by omega)
  have dm : caW w h m p / rc w p 2 * rc w p 2 ≤ caW w h m p := Int.ediv_mul_le _ (by omega)
  have dn : caW w h m p / rc w p 2 * rc w p 1 ≤ caW w h m p / rc w p 2 * rc w p 2 := Int.mul_le_mul_of_nonneg_left (by omega) dd
  have d0 : 0 ≤ caW w h m p / rc w p 2 * rc w p 1 := Int.mul_nonneg dd (by omega)
  rw [w64_s (x := caW w h m p / rc w p 2 * rc w p 1) (by omega) (by omega)]
  refine ⟨by decide, by decide, i0, by omega, r7, by decide, by omega, by omega, r7, by decide, by omega, by decide, t_jq (fun j => Tot (j (lvW w h m p)) Q) ?_ (fun j hj => ?_)⟩
  rotate_left
  · simp only [t_ite, t_getf, t_geti, y1, y7, v2]
    have es := lvW_s hr (by omega) h m i0 (show p < w 3 by omega)
    refine ⟨fun c => ?_, fun c => ?_⟩
    · rw [w64_s (by omega) (by omega), out_class hr (by omega) (by omega) h m i0 (by omega)]
      have : lvW w h m p = caW w h m p / rc w p 2 * (rc w p 2 - rc w p 1) := by rw [es]; unfold outR; rw [if_neg c]
      rw [← this]
      exact ⟨by decide, by decide, i0, by omega, hj⟩
    · have : lvW w h m p = caW w h m p := by rw [es]; unfold outR; rw [if_pos (by simpa using c)]
      rw [← this]
      exact ⟨by decide, by decide, i0, by omega, hj⟩
  rw [t_seti, y6, w32_s (by omega) (by omega)]
  refine ⟨by decide, i0, by omega, ih _ _ (by omega) ⟨by omega, by omega, fun a j ha => ?_, fun r r0 r1 => ?_⟩⟩
  · unfold SCf at ha
    rw [upd2_at, if_neg (by omega), k2 _ _ (by omega) (by omega)]; exact i2 a j (by unfold SCf; omega)
  · by_cases c : r = p
    · subst c
      exact ⟨by rw [upd2_at, if_neg (by omega)]; exact v2', by rw [upd2_at, if_neg (by omega)]; exact v2, by rw [upd2_at, if_pos ⟨rfl, rfl⟩]⟩
    · have := i3 r r0 (by omega)
      exact ⟨by rw [upd2_at, if_neg (by omega), k2 _ _ (by omega) (by omega)]; exact this.1, by rw [upd2_at, if_neg (by omega), k2 _ _ (by omega) (by omega)]; exact this.2.1, by rw [upd2_at, if_neg (by omega), k2 _ _ (by omega) (by omega)]; exact this.2.2⟩
