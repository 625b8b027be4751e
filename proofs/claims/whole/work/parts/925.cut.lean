/-! the class: what changes next, what is open -/
theorem xor_s {x : Int} (h0 : -2147483648 ≤ x) (h1 : x ≤ 2147483647) : 0 ≤ ixorv x 1440 ↔ 0 ≤ x := by
  unfold ixorv
  have e : (Int32.ofInt x).toInt = x := Int32.toInt_ofInt_of_le (by simpa using h0) (by omega)
  show 0 ≤ ((Int32.ofInt x).toBitVec ^^^ (Int32.ofInt 1440).toBitVec).toInt ↔ _
  have m1 := BitVec.msb_eq_toInt (x := (Int32.ofInt x).toBitVec ^^^ (Int32.ofInt 1440).toBitVec)
  rw [BitVec.msb_xor] at m1
  have m2 := BitVec.msb_eq_toInt (x := (Int32.ofInt x).toBitVec)
  have m3 : (Int32.ofInt 1440).toBitVec.msb = false := by decide
  have e' : (Int32.ofInt x).toBitVec.toInt = x := e
  rw [m3, m2, e', Bool.xor_false] at m1
  have m4 := decide_eq_decide.mp m1
  omega
theorem floorMod_e {x : Int} (M : Mem) (h0 : -1440 ≤ x) (h1 : x ≤ 1440) : f_J9_floorMod_7cf53 x 1440 M = some (x % 1440) := by
  rw [← t_eq]
  have hx := xor_s (x := x) (by omega) (by omega)
  unfold f_J9_floorMod_7cf53
  rw [t_iremc, t_jn, t_ite, hx]
  refine ⟨by decide, fun c => ?_, fun c => ?_⟩
  · rw [t_some, irem_p c (by decide) (by omega)]
  · have e : iremv x 1440 = -((-x) % 1440) := by
      unfold iremv
      have t : x.tdiv 1440 = -((-x) / 1440) := by
        have : (-(-x)).tdiv 1440 = -((-x).tdiv 1440) := Int.neg_tdiv (-x) 1440
        rw [Int.neg_neg] at this
        rw [this, Int.tdiv_eq_ediv_of_nonneg (by omega)]
      rw [t, w32_s (x := -((-x) / 1440)) (by omega) (by omega), w32_s (x := -((-x) / 1440) * 1440) (by omega) (by omega), w32_s (by omega) (by omega)]
      omega
    rw [e, t_ite, t_some, t_some]
    refine ⟨fun c2 => by omega, fun c2 => ?_⟩
    rw [w32_s (by omega) (by omega)]
    omega
theorem nextChange_e {M : Mem} {v : Int} {w : Int → Int} (hc : CI M v w) (hn : WFn w) (hr : WFr w) {t b : Int} {Q : Int → Prop} (t0 : 0 ≤ t) (t1 : t < b) (b1 : b ≤ 1440) (hq : ∀ x, t < x → x ≤ b → (x = b ∨ cpt w x) → (∀ m, t < m → m < x → ¬ cpt w m) → Q x) : Tot (f_X8_nextChange v t b M) Q := by
  have hn' := hn
  unfold WFn at hn'
  obtain ⟨na, nb, nc, nd, ne⟩ := ci_p hc
  obtain ⟨g1, g2, g3, g4, g5, g6, g7⟩ := ci_n hc
  unfold f_X8_nextChange
  refine lpII (fun x p => 0 ≤ p ∧ p ≤ w 3 ∧ t < x ∧ x ≤ b ∧ (x = b ∨ cpt w x) ∧ ∀ r, 0 ≤ r → r < p → rc w r 4 ≠ -1 → ¬ (t < cfr w r ∧ cfr w r < x) ∧ ¬ (t < cto w r ∧ cto w r < x)) (fun _ p => (w 3 - p).toNat) ?_ (by unfold KF; omega) ⟨by omega, by omega, t1, by omega, .inl rfl, fun r x y => by omega⟩
  rintro n x p ⟨i0, i1, i2, i3, i4, i5⟩ ih
  unfold f_X8_nextChange_L5
  rw [t_getf, g3, t_ite]
  refine ⟨ne, fun c => ?_, fun c => ?_⟩
  · rw [t_some]
    refine hq x i2 i3 i4 ?_
    rintro m m0 m1 ⟨r, r0, r1, r2, r3⟩
    have := i5 r r0 (by omega) r2
    omega
  · obtain ⟨r1, r2, r3, r4, r5, r6, r7⟩ := ci_r hc hn i0 (show p < w 3 by omega)
    have q := hr p i0 (by omega)
    have s4 := r5 4 (by omega) (by omega)
    have s5 := r5 5 (by omega) (by omega)
    simp only [t_getf, t_geti, r1, r2, r3, r4, s4]
    refine ⟨ne, r6, i0, by omega, r7, by decide, by omega, ?_⟩
    rw [w32_s (x := p + 1) (by omega) (by omega)]
    refine t_jq (fun j => ∀ y, t < y → y ≤ b → y ≤ x → (y = b ∨ cpt w y) → (rc w p 4 ≠ -1 → ¬ (t < cfr w p ∧ cfr w p < y) ∧ ¬ (t < cto w p ∧ cto w p < y)) → Tot (j y) Q) (fun y y0 y1 y2 y3 y4 => ?_) (fun j hj => ?_)
    · refine ih _ _ (by omega) ⟨by omega, by omega, y0, y1, y3, fun r r0 r1 r2 => ?_⟩
      by_cases e : r = p
      · subst e; exact y4 r2
      · have := i5 r r0 (by omega) r2
        omega
    · rw [t_ite]
      refine ⟨fun c2 => hj x i2 i3 (by omega) i4 (fun h => absurd c2 h), fun c2 => ?_⟩
      simp only [t_getf, t_geti, t_callp, r1, r2, r3, r4, s4, s5, g2]
      rw [w32_s (x := rc w p 4 - w 2) (by omega) (by omega), w32_s (x := rc w p 5 - w 2) (by omega) (by omega), floorMod_e M (by omega) (by omega), t_some]
      refine ⟨ne, r6, i0, by omega, r7, by decide, by omega, ne, ne, r6, i0, by omega, r7, by decide, by omega, ne, ?_⟩
      rw [floorMod_e M (by omega) (by omega), t_some]
      have p1 : cpt w (cfr w p) := ⟨p, i0, by omega, c2, .inl rfl⟩
      have p2 : cpt w (cto w p) := ⟨p, i0, by omega, c2, .inr rfl⟩
      refine t_jq (fun j => ∀ y, t < y → y ≤ b → y ≤ x → (y = b ∨ cpt w y) → ¬ (t < cfr w p ∧ cfr w p < y) → Tot (j y) Q) (fun y y0 y1 y2 y3 y4 => ?_) (fun j2 hj2 => ?_)
      · rw [t_jn, t_ite, t_callp, min_e, t_some]
        refine ⟨fun c3 => hj y y0 y1 y2 y3 (fun _ => ⟨y4, by unfold cto; omega⟩), fun c3 => ?_⟩
        by_cases c4 : (rc w p 5 - w 2) % 1440 < y
        · rw [if_pos c4]
          exact hj _ (by omega) (by omega) (by omega) (.inr p2) (fun _ => ⟨by unfold cfr cto at *; omega, by unfold cto; omega⟩)
        · rw [if_neg c4]
          exact hj y y0 y1 y2 y3 (fun _ => ⟨y4, by unfold cto; omega⟩)
      · rw [t_ite, t_callp, min_e, t_some]
        refine ⟨fun c3 => hj2 x i2 i3 (by omega) i4 (by unfold cfr; omega), fun c3 => ?_⟩
        by_cases c4 : (rc w p 4 - w 2) % 1440 < x
        · rw [if_pos c4]
          exact hj2 _ (by omega) (by omega) (by omega) (.inr p1) (by unfold cfr; omega)
        · rw [if_neg c4]
          exact hj2 x i2 i3 (by omega) i4 (by unfold cfr; omega)
theorem openAt_e {M : Mem} {v : Int} {w : Int → Int} (hc : CI M v w) (hn : WFn w) (hr : WFr w) {t : Int} {Q : Int → Prop} (t0 : 0 ≤ t) (t1 : t < 1440) (hq : ∀ x, (∀ r, 0 ≤ r → r < w 3 → (bt x r ↔ opn w t r)) → Q x) : Tot (f_X5_openAt 55 13 t M) Q := by
  have hn' := hn
  unfold WFn at hn'
  obtain ⟨na, nb, nc, nd, ne⟩ := ci_p hc
  obtain ⟨g1, g2, g3, g4, g5, g6, g7⟩ := ci_n hc
  unfold f_X5_openAt
  rw [t_getf, nc]
  refine ⟨by decide, ?_⟩
  refine lpII (fun x p => 0 ≤ p ∧ p ≤ w 3 ∧ ∀ r, 0 ≤ r → r < 10 → (bt x r ↔ r < p ∧ opn w t r)) (fun _ p => (w 3 - p).toNat) ?_ (by unfold KF; omega) ⟨by omega, by omega, fun r r0 r1 => ⟨fun h => absurd h (bt_0 r0 r1), fun h => by omega⟩⟩
  rintro n x p ⟨i0, i1, i2⟩ ih
  unfold f_X5_openAt_L11
  rw [t_getf, g3, t_ite]
  refine ⟨ne, fun c => ?_, fun c => ?_⟩
  · rw [t_some]
    refine hq x (fun r r0 r1 => ?_)
    rw [i2 r r0 (by omega)]
    exact ⟨fun h => h.2, fun h => ⟨by omega, h⟩⟩
  · obtain ⟨r1, r2, r3, r4, r5, r6, r7⟩ := ci_r hc hn i0 (show p < w 3 by omega)
    have q := hr p i0 (by omega)
    have s0 := r5 0 (by omega) (by omega)
    have os := opn_s hr (by omega) i0 (show p < w 3 by omega) t
    simp only [t_getf, t_geti, r1, r2, r3, r4, s0]
    refine ⟨ne, r6, i0, by omega, r7, by decide, by omega, ?_⟩
    rw [w32_s (x := p + 1) (by omega) (by omega)]
    refine t_jq (fun j => Tot (j (if opn w t (rc w p 0) then 1 else 0)) Q) ?_ (fun j hj => ?_)
    · refine t_jq (fun j => Tot (j (if opn w t p then iorv x (ishlv 1 p) else x)) Q) ?_ (fun j hj => ?_)
      · refine ih _ _ (by omega) ⟨by omega, by omega, fun r r0 r1 => ?_⟩
        by_cases co : opn w t p
        · rw [if_pos co, bt_or i0 (by omega) r0 r1, i2 r r0 r1]
          constructor
          · rintro (⟨x1, x2⟩ | x1)
            · exact ⟨by omega, x2⟩
            · rw [x1]; exact ⟨by omega, co⟩
          · rintro ⟨x1, x2⟩
            by_cases e : r = p
            · exact .inr e
            · exact .inl ⟨by omega, x2⟩
        · rw [if_neg co, i2 r r0 r1]
          constructor
          · rintro ⟨x1, x2⟩; exact ⟨by omega, x2⟩
          · rintro ⟨x1, x2⟩
            by_cases e : r = p
            · rw [e] at x2; exact absurd x2 co
            · exact ⟨by omega, x2⟩
      · rw [t_ite, i10]
        refine ⟨fun c2 => ?_, fun c2 => ?_⟩
        · rw [if_neg (fun h => c2 (os.mp h).2)] at hj; exact hj
        · have c2' : opn w t (rc w p 0) := Classical.not_not.mp c2
          simp only [t_getf, t_nn, t_callp, nd, isClosed_e hc, isShut_e hc hn i0 (show p < w 3 by omega) t0 (show t ≤ 1440 by omega), t_some, t_ite, n10, t_letv]
          refine ⟨by decide, by decide, fun c3 => ?_, fun c3 => ⟨ne, fun c4 => ?_, fun c4 => ?_⟩⟩
          · rw [if_neg (fun h => (os.mp h).1.1 c3)] at hj; exact hj
          · rw [if_neg (fun h => (os.mp h).1.2 c4)] at hj; exact hj
          · rw [if_pos (os.mpr ⟨⟨c3, c4⟩, c2'⟩)] at hj; exact hj
    · rw [t_jn, t_ite, t_ite]
      refine ⟨fun c2 => ?_, fun c2 => ⟨fun c3 => ?_, fun c3 => ?_⟩⟩
      · rw [c2, if_pos (opn_neg w t)] at hj; exact hj
      · have := i2 (rc w p 0) (by omega) (by omega)
        rw [if_neg (fun h => c3 (this.mpr ⟨by omega, h⟩))] at hj; exact hj
      · have := i2 (rc w p 0) (by omega) (by omega)
        have c3' : bt x (rc w p 0) := Classical.not_not.mp c3
        rw [if_pos (this.mp c3').2] at hj; exact hj
