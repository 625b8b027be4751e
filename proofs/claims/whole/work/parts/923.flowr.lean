/-! flow: the reference -/
theorem ch_l {w : Int → Int} (hr : WFr w) (hn : w 3 ≤ 10) {r : Int} (h0 : 0 ≤ r) (h1 : r < w 3) : ((ch w r).length : Int) = 1 + (ch w (rc w r 0)).length := by
  rw [ch_s hr hn h0 h1, List.length_cons]; omega
theorem ch_len {w : Int → Int} (hr : WFr w) (hn : w 3 ≤ 10) : ∀ (n : Nat) (r : Int), r < n → -1 ≤ r → r < w 3 → ((ch w r).length : Int) ≤ r + 1 := by
  intro n
  induction n with
  | zero => intro r h1 h2 h3; rw [show r = -1 by omega, ch_neg]; simp
  | succ n ih =>
    intro r h1 h2 h3
    by_cases c : r = -1
    · rw [c, ch_neg]; simp
    · have q := hr r (by omega) h3
      have := ih (rc w r 0) (by omega) (by omega) (by omega)
      rw [ch_l hr hn (by omega) h3]; omega
theorem prP_b {w : Int → Int} (hr : WFr w) (hn : w 3 ≤ 10) {r : Int} (h0 : 0 ≤ r) (h1 : r ≤ w 3) : 1 ≤ prP w r ∧ prP w r ≤ 61917364224 := by
  have q := prP_le hr r.toNat r h0 (by omega) h1
  have m : (12 : Int) ^ r.toNat ≤ 12 ^ 10 := by
    have : (12 : Nat) ^ r.toNat ≤ 12 ^ 10 := Nat.pow_le_pow_right (by decide) (by omega)
    exact_mod_cast this
  have e2 : (12 : Int) ^ 10 = 61917364224 := by decide
  omega
theorem litreR_e {N : Mem} (h : LR N) (hn : WFn (N 120)) (hr : WFr (N 120)) : f_X12_litre 119 N = some (litre (N 120)) := by
  have hn' := hn
  unfold WFn at hn'
  obtain ⟨a, b⟩ := lr_a h
  rw [← t_eq]
  unfold f_X12_litre
  refine lpII (fun x p => 0 ≤ p ∧ p ≤ N 120 3 ∧ x = prP (N 120) p) (fun _ p => (N 120 3 - p).toNat) ?_ (by unfold KF; omega) ⟨by omega, by omega, rfl⟩
  rintro n x p ⟨i0, i1, i2⟩ ih
  unfold f_X12_litre_L4
  simp only [t_getf, t_geti, t_ite, a, b, t_callp]
  refine ⟨by decide, by decide, by decide, by decide, fun c => ?_, fun c => ?_⟩
  · rw [t_some, i2, show p = N 120 3 by omega]; rfl
  · have q := prP_b hr (by omega) (r := p + 1) (by omega) (by omega)
    rw [prP_s _ i0] at q
    rw [ofReach_e h i0 (by omega) (by omega) (by omega), t_some, t_letv, i2, w64_s (by omega) (by omega), w32_s (by omega) (by omega)]
    exact ih _ _ (by omega) ⟨by omega, by omega, by rw [prP_s _ i0]⟩
def SRw (a k : Int) : Prop := (a = 119 ∧ (k = 26 ∨ 31 ≤ k ∧ k ≤ 33)) ∨ (a = 129 ∧ 0 ≤ k)
theorem sr_w {M N : Mem} (h : ∀ a j, ¬ SRw a j → N a j = M a j) : ∀ a k, ¬ SR a k → N a k = M a k := fun a k ha => h a k (by unfold SR at ha; unfold SRw; omega)
theorem laysWay_e {M : Mem} {w : Int → Int} {Q : Mem → Prop} (h : LR M) (ew : M 120 = w) (hn : WFn w) (hr : WFr w) {r : Int} (h0 : 0 ≤ r) (h1 : r < w 3) (hq : ∀ M' n, (∀ a j, ¬ SRw a j → M' a j = M a j) → 1 ≤ n → n ≤ 10 → M' 119 26 = n → M' 129 (n - 1) = r → (∀ i, 0 ≤ i → i < n → 0 ≤ M' 129 i ∧ M' 129 i < w 3 ∧ rc w (M' 129 i) 0 = if i = 0 then -1 else M' 129 (i - 1)) → Q M') : Tot (f_X12_laysWay 119 r M) Q := by
  have hn' := hn
  unfold WFn at hn'
  have hl := ch_len hr (by omega) 10 r (by omega) (by omega) h1
  have hl2 := ch_l hr (by omega) h0 h1
  unfold f_X12_laysWay
  rw [t_putf]
  refine ⟨by decide, ?_⟩
  refine lpIM (fun p N => -1 ≤ p ∧ p < w 3 ∧ (∀ a j, ¬ (a = 119 ∧ j = 26) → N a j = M a j) ∧ N 119 26 + (ch w p).length = (ch w r).length) (fun p _ => (p + 1).toNat) ?_ (by unfold KF; omega) ⟨by omega, h1, fun a j ha => by rw [upd2_at, if_neg ha], by rw [upd2_at, if_pos ⟨rfl, rfl⟩]; omega⟩
  rintro n p N ⟨i0, i1, i2, i3⟩ ih
  have hN : LR N := lr_s h (fun a j ha => i2 a j (by unfold SR at ha; omega))
  have eN : N 120 = w := by rw [← ew]; exact funext fun j => i2 120 j (by omega)
  unfold f_X12_laysWay_L7
  rw [t_ite]
  refine ⟨fun c => ?_, fun c => ?_⟩
  · subst c
    rw [ch_neg] at i3
    have e : N 119 26 = (ch w r).length := by simpa using i3
    have s1 : N 119 25 = 129 := hN.1.2.2.2.2.2.2.2.2.2.1
    have s2 : N 129 (-1) = 10 := hN.2.2.2.2.2.2.2.2.2.2.1
    rw [t_getf, e, t_letv, w32_s (by omega) (by omega)]
    refine ⟨by decide, ?_⟩
    refine lpIIM (fun k p R => -1 ≤ p ∧ p < w 3 ∧ -1 ≤ k ∧ k < (ch w r).length ∧ k + 1 = (ch w p).length ∧ (∀ a j, ¬ (a = 129 ∧ 0 ≤ j) → R a j = N a j) ∧ (k + 1 = (ch w r).length → p = r) ∧ (k + 1 < (ch w r).length → R 129 ((ch w r).length - 1) = r) ∧ ∀ i, k < i → i < (ch w r).length → 0 ≤ R 129 i ∧ R 129 i < w 3 ∧ rc w (R 129 i) 0 = if i = k + 1 then p else R 129 (i - 1)) (fun _ p _ => (p + 1).toNat) ?_ (by unfold KF; omega) ⟨by omega, h1, by omega, by omega, by omega, fun _ _ _ => rfl, fun _ => rfl, fun hx => by omega, fun i x y => by omega⟩
    rintro n2 k p R ⟨j0, j1, j2, j3, j4, j5, j6, j7, j8⟩ ih2
    have hR : LR R := lr_s hN (fun a j ha => j5 a j (by unfold SR at ha; omega))
    have eR : R 120 = w := by rw [← eN]; exact funext fun j => j5 120 j (by omega)
    unfold f_X12_laysWay_L41
    rw [t_ite]
    refine ⟨fun c => ?_, fun c => ?_⟩
    · subst c
      rw [ch_neg] at j4
      have hk : k = -1 := by simp at j4; omega
      subst hk
      rw [t_some]
      refine hq R (ch w r).length (fun a j ha => ?_) (by omega) (by omega) ?_ (j7 (by omega)) (fun i x y => ?_)
      · unfold SRw at ha
        rw [j5 a j (by omega), i2 a j (by omega)]
      · rw [j5 _ _ (by omega)]; exact e
      · have := j8 i (by omega) y
        simpa using this
    · have q := hr p (by omega) j1
      have hk := ch_l hr (by omega) (show 0 ≤ p by omega) j1
      rw [t_getf, j5 119 25 (by omega), s1, t_seti, j5 129 (-1) (by omega), s2]
      have hU : LR (upd2 R 129 k p) := lr_s hR (fun a j ha => by rw [upd2_at, if_neg (by unfold SR at ha; omega)])
      have eU : upd2 R 129 k p 120 = w := by rw [upd2_o (by omega)]; exact eR
      have of := ofReach_e hU (r := p) (k := 0) (by omega) (by omega) (by omega) (by omega)
      rw [eU] at of
      rw [t_callp, of, t_some, w32_s (by omega) (by omega)]
      refine ⟨by decide, by decide, by omega, by omega, ih2 _ _ _ (by omega) ⟨by omega, by omega, by omega, by omega, by omega, fun a j ha => by rw [upd2_at, if_neg (by omega), j5 a j ha], fun hx => by omega, fun hx => ?_, fun i x y => ?_⟩⟩
      · by_cases c2 : k + 1 = (ch w r).length
        · rw [upd2_at, if_pos ⟨rfl, by omega⟩]; exact j6 c2
        · rw [upd2_at, if_neg (by omega)]; exact j7 (by omega)
      · by_cases c2 : i = k
        · subst c2
          rw [upd2_at, if_pos ⟨rfl, rfl⟩, if_pos (by omega)]
          exact ⟨by omega, j1, rfl⟩
        · have := j8 i (by omega) y
          rw [upd2_at, if_neg (by omega), if_neg (by omega)]
          refine ⟨this.1, this.2.1, ?_⟩
          rw [this.2.2]
          by_cases c3 : i = k + 1
          · rw [if_pos c3, upd2_at, if_pos (by omega)]
          · rw [if_neg c3, upd2_at, if_neg (by omega)]
  · have q := hr p (by omega) i1
    have hk := ch_l hr (by omega) (show 0 ≤ p by omega) i1
    have hpl := ch_len hr (by omega) 10 p (by omega) (by omega) i1
    have hU : LR (upd2 N 119 26 (N 119 26 + 1)) := lr_s hN (fun a j ha => by rw [upd2_at, if_neg (by unfold SR at ha; omega)])
    have eU : upd2 N 119 26 (N 119 26 + 1) 120 = w := by rw [upd2_o (by omega)]; exact eN
    have of := ofReach_e hU (r := p) (k := 0) (by omega) (by omega) (by omega) (by omega)
    rw [eU] at of
    rw [t_getf, t_putf, w32_s (by omega) (by omega), t_callp, of, t_some]
    refine ⟨by decide, by decide, ih _ _ (by omega) ⟨by omega, by omega, fun a j ha => by rw [upd2_at, if_neg ha, i2 a j ha], ?_⟩⟩
    rw [upd2_at, if_pos ⟨rfl, rfl⟩]; omega
theorem flowsTo_e {M : Mem} {w : Int → Int} {Q : Mem → Prop} (h : LR M) (ew : M 120 = w) (hn : WFn w) (hr : WFr w) {m : Int} (hm : M 119 34 = m) {r : Int} (h0 : 0 ≤ r) (h1 : r < w 3) (hq : ∀ M', (∀ a j, ¬ SRw a j → M' a j = M a j) → M' 119 31 = cmW w (w 0) m r → M' 119 32 = caW w (w 0) m r → M' 119 33 = lvW w (w 0) m r → Q M') : Tot (f_X12_flowsTo 119 r M) Q := by
  have hn' := hn
  unfold WFn at hn'
  have L := litre_le hr (by omega) (by omega)
  have HL := mul_le (x := w 0) (y := litre w) (a := 999) (b := 61917364224) (by omega) (by omega) (by omega) L.2
  unfold f_X12_flowsTo
  rw [t_callv]
  refine laysWay_e h ew hn hr h0 h1 (fun M1 n k1 n0 n1 wm wl ww => ?_)
  have h1' : LR M1 := lr_s h (sr_w k1)
  have e1 : M1 120 = w := by rw [← ew]; exact funext fun j => k1 120 j (by unfold SRw; omega)
  obtain ⟨a, b⟩ := lr_a h1'
  have lit := litreR_e h1' (by rw [e1]; exact hn) (by rw [e1]; exact hr)
  rw [e1] at lit
  rw [lit, t_callp, t_some, t_getf, a, t_geti, b, e1, t_putf, w64_s (by omega) (by omega)]
  refine ⟨by decide, by decide, by decide, by decide, by decide, ?_⟩
  refine lpIM (fun p N => 0 ≤ p ∧ p ≤ n ∧ (∀ a j, ¬ (a = 119 ∧ 31 ≤ j ∧ j ≤ 33) → N a j = M1 a j) ∧ (p = 0 → N 119 31 = w 0 * litre w) ∧ (0 < p → N 119 31 = cmW w (w 0) m (M1 129 (p - 1)) ∧ N 119 32 = caW w (w 0) m (M1 129 (p - 1)) ∧ N 119 33 = lvW w (w 0) m (M1 129 (p - 1)))) (fun p _ => (n - p).toNat) ?_ (by unfold KF; omega) ⟨by omega, by omega, fun a j ha => by rw [upd2_at, if_neg (by omega)], fun _ => by rw [upd2_at, if_pos ⟨rfl, rfl⟩], fun hx => by omega⟩
  rintro f p N ⟨i0, i1, i2, i3, i4⟩ ih
  have hN : LR N := lr_s h1' (fun a j ha => i2 a j (by unfold SR at ha; omega))
  have eN : N 120 = w := by rw [← e1]; exact funext fun j => i2 120 j (by omega)
  unfold f_X12_flowsTo_L26
  rw [t_getf, i2 _ _ (by omega), wm, t_ite]
  refine ⟨by decide, fun c => ?_, fun c => ?_⟩
  · have hp : p = n := by omega
    subst hp
    have q := i4 (by omega)
    rw [wl] at q
    rw [t_some]
    exact hq N (fun a j ha => by rw [i2 a j (by unfold SRw at ha; omega), k1 a j ha]) q.1 q.2.1 q.2.2
  · have s1 : N 119 25 = 129 := hN.1.2.2.2.2.2.2.2.2.2.1
    have s2 : N 129 (-1) = 10 := hN.2.2.2.2.2.2.2.2.2.2.1
    have wp := ww p i0 (by omega)
    obtain ⟨x, ex⟩ : ∃ x, x = M1 129 p := ⟨_, rfl⟩
    rw [← ex] at wp
    have qx := hr x wp.1 wp.2.1
    have fl := flow_le hr (by omega) (by omega) (h := w 0) (by omega) m 10 x wp.1 (by omega) wp.2.1
    rw [t_getf, s1, t_geti, s2, i2 129 p (by omega), ← ex]
    refine ⟨by decide, by decide, i0, by omega, t_jq (fun j => ∀ R : Mem, (∀ a j, ¬ (a = 119 ∧ 31 ≤ j ∧ j ≤ 33) → R a j = M1 a j) → R 119 31 = cmW w (w 0) m x → Tot (j R) Q) (fun R kR vR => ?_) (fun j hj => ?_)⟩
    rotate_left
    · rw [t_ite]
      refine ⟨fun c2 => hj N i2 ?_, fun c2 => ?_⟩
      · have hp : p = 0 := by omega
        rw [if_pos hp] at wp
        rw [i3 hp]; unfold cmW; rw [if_pos wp.2.2]
      · rw [if_neg (by omega)] at wp
        have q0 := ww (p - 1) (by omega) (by omega)
        rw [t_getf, t_putf, (i4 (by omega)).2.2]
        refine ⟨by decide, by decide, hj _ (fun a j ha => by rw [upd2_at, if_neg (by omega), i2 a j ha]) ?_⟩
        rw [upd2_at, if_pos ⟨rfl, rfl⟩]; unfold cmW; rw [if_neg (by rw [wp.2.2]; omega), wp.2.2]
    have hR : LR R := lr_s h1' (fun a j ha => kR a j (by unfold SR at ha; omega))
    have eR : R 120 = w := by rw [← e1]; exact funext fun j => kR 120 j (by omega)
    have of3 := ofReach_e hR (r := x) (k := 3) wp.1 (by omega) (by omega) (by omega)
    rw [eR] at of3
    rw [t_callp, of3, t_some]
    refine t_jq (fun j => Tot (j (caW w (w 0) m x)) Q) ?_ (fun j hj => ?_)
    rotate_left
    · rw [t_ite]
      refine ⟨fun c2 => ?_, fun c2 => ?_⟩
      · have b3 := mul_le (x := rc w x 3) (y := litre w) (a := 999) (b := 61917364224) (by omega) (by omega) (by omega) L.2
        rw [t_getf, vR, t_callp, t_some, t_callp, minl_e, t_some, w64_s (by omega) (by omega)]
        have e2 : caW w (w 0) m x = if rc w x 3 * litre w < cmW w (w 0) m x then rc w x 3 * litre w else cmW w (w 0) m x := by unfold caW carR; rw [if_neg c2]
        rw [← e2]; exact ⟨by decide, hj⟩
      · have e2 : caW w (w 0) m x = cmW w (w 0) m x := by unfold caW carR; rw [if_pos (by simpa using c2)]
        rw [t_getf, vR, ← e2]; exact ⟨by decide, hj⟩
    obtain ⟨R2, er2⟩ : ∃ X, X = upd2 R 119 32 (caW w (w 0) m x) := ⟨_, rfl⟩
    have kR2 : ∀ a j, ¬ (a = 119 ∧ j = 32) → R2 a j = R a j := fun a j ha => by rw [er2, upd2_at, if_neg ha]
    have hR2 : LR R2 := lr_s hR (fun a j ha => kR2 a j (by unfold SR at ha; omega))
    have eR2 : R2 120 = w := by rw [← eR]; exact funext fun j => kR2 120 j (by omega)
    have vm : R2 119 34 = m := by rw [kR2 _ _ (by omega), kR _ _ (by omega), k1 _ _ (by unfold SRw; omega)]; exact hm
    have v32 : R2 119 32 = caW w (w 0) m x := by rw [er2, upd2_at, if_pos ⟨rfl, rfl⟩]
    have v31 : R2 119 31 = cmW w (w 0) m x := by rw [kR2 _ _ (by omega)]; exact vR
    have of2 := ofReach_e hR2 (r := x) (k := 2) wp.1 (by omega) (by omega) (by omega)
    have of1 := ofReach_e hR2 (r := x) (k := 1) wp.1 (by omega) (by omega) (by omega)
    rw [eR2] at of2 of1
    have es := lvW_s hr (by omega) (w 0) m wp.1 wp.2.1
    rw [t_putf, ← er2, t_getf, vm]
    refine ⟨by decide, by decide, t_jq (fun j => Tot (j (lvW w (w 0) m x)) Q) ?_ (fun j hj => ?_)⟩
    rotate_left
    · rw [t_ite]
      refine ⟨fun c2 => ?_, fun c2 => ?_⟩
      · have e3 : lvW w (w 0) m x = caW w (w 0) m x / rc w x 2 * (rc w x 2 - rc w x 1) := by rw [es]; unfold outR; rw [if_neg c2]
        rw [t_getf, v32, t_callp, of2, t_some, t_ldivc, ldiv_p fl.2.2.1 (by omega) (by omega), t_callp, t_some, of1, t_callp, t_some, w32_s (x := rc w x 2 - rc w x 1) (by omega) (by omega), ← e3, w64_s (by omega) (by omega)]
        exact ⟨by decide, by omega, hj⟩
      · have e3 : lvW w (w 0) m x = caW w (w 0) m x := by rw [es]; unfold outR; rw [if_pos (by simpa using c2)]
        rw [t_getf, v32, ← e3]; exact ⟨by decide, hj⟩
    rw [t_putf, w32_s (by omega) (by omega)]
    refine ⟨by decide, ih _ _ (by omega) ⟨by omega, by omega, fun a j ha => by rw [upd2_at, if_neg (by omega), kR2 _ _ (by omega), kR a j ha], fun hx => by omega, fun _ => ?_⟩⟩
    rw [show p + 1 - 1 = p by omega, ← ex]
    exact ⟨by rw [upd2_at, if_neg (by omega)]; exact v31, by rw [upd2_at, if_neg (by omega)]; exact v32, by rw [upd2_at, if_pos ⟨rfl, rfl⟩]⟩
theorem rateOfR_e {M : Mem} {w : Int → Int} {Q : Int × Mem → Prop} (h : LR M) (ew : M 120 = w) (hn : WFn w) (hr : WFr w) (hf : WFf w) {m : Int} (hm : M 119 34 = m) {f : Int} (h0 : 0 ≤ f) (h1 : f < w 5) (hq : ∀ M', (∀ a j, ¬ SRw a j → M' a j = M a j) → Q (lvW w (w 0) m (fc w f 0), M')) : Tot (f_X12_rateOf 119 f M) Q := by
  have hn' := hn
  unfold WFn at hn'
  have q := hf f h0 h1
  have of := ofField_e h (r := f) (k := 0) h0 (by omega) (by omega) (by omega)
  rw [ew] at of
  unfold f_X12_rateOf
  rw [of, t_callp, t_some, t_callv]
  refine flowsTo_e h ew hn hr hm q.1 q.2.1 (fun M' k1 _ _ k4 => ?_)
  rw [t_getf, k4, t_some]
  exact ⟨by decide, hq M' k1⟩
