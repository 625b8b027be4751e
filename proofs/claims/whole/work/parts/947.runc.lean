/-! the class lives: the loop -/
def EncC (M0 M : Mem) (v d : Int) (s : LfS) (B : Int) : Prop := (∀ a j, ¬ SW a j → a ≠ 74 → a ≠ 75 → M a j = M0 a j) ∧ CI M v s.1 ∧ CD M d s.1 ∧ (M 74 0 = s.2.2.2.1 ∧ M 74 2 = s.2.2.2.2.1 ∧ M 74 3 = s.2.2.2.2.2.1 ∧ M 74 4 = s.2.2.2.2.2.2.1 ∧ M 74 5 = s.2.2.2.2.2.2.2) ∧ (M 74 6 = 75 ∧ M 75 (-1) = 60) ∧ ∀ k, 0 ≤ k → k < 60 → RLB B (M 75 k) (s.2.1 k)
theorem rlb_m {B C x y : Int} (h : RLB B x y) (hb : B ≤ C) : RLB C x y := by
  rcases h with h | h
  · exact .inl h
  · exact .inr ⟨h.1, h.2.1, by omega⟩
theorem kw28 {c : Int} (h : 10 ≤ c) (h2 : c ≤ 26 ∨ 2300 ≤ c) : kwOf c = 28 ↔ c = 25 := by
  unfold kwOf
  split
  · omega
  · split
    · omega
    · split
      · omega
      · split
        · omega
        · split <;> omega
theorem kw27 {c : Int} (h : 10 ≤ c) (h2 : c ≤ 26 ∨ 2300 ≤ c) : kwOf c = 27 ↔ c = 24 := by
  unfold kwOf
  split
  · omega
  · split
    · omega
    · split
      · omega
      · split
        · omega
        · split <;> omega
theorem kw23 {c : Int} (h : 10 ≤ c) (h2 : c ≤ 26 ∨ 2300 ≤ c) (h3 : c ≠ 23) : kwOf c = 23 ↔ 2300 ≤ c := by
  unfold kwOf
  split
  · omega
  · split
    · omega
    · split
      · omega
      · split
        · omega
        · split <;> omega
theorem kw29 {c : Int} (h : 10 ≤ c) (h2 : c ≤ 26 ∨ 2300 ≤ c) : kwOf c = 29 ↔ c = 26 := by
  unfold kwOf
  split
  · omega
  · split
    · omega
    · split
      · omega
      · split
        · omega
        · split <;> omega
theorem behindEnd_e {M : Mem} {d : Int} {w : Int → Int} {Q : Int × Mem → Prop} (hg : GW w) (hd : CD M d w) {k : Int} (k0 : 0 ≤ k) (k1 : k < w 9) (hc : stp w k 0 = 25) (p6 : M 74 6 = 75) (p75 : M 75 (-1) = 60) (hb : -2147480000 ≤ M 75 (stp w k 4) ∧ M 75 (stp w k 4) ≤ 100) (h1 : stp w (stp w k 4) 0 ≠ 24 → Q (k + 1, M)) (h2 : stp w (stp w k 4) 0 = 24 → Q (if M 75 (stp w k 4) - 1 ≤ 0 then k + 1 else stp w k 4 + 1, upd2 M 75 (stp w k 4) (M 75 (stp w k 4) - 1))) : Tot (f_X2_behindEnd 74 d k M) Q := by
  obtain ⟨hd0, hd1, ⟨⟨l3, l4, l5, l6, l7, l8, l9⟩, ll⟩, hr⟩ := hd
  have w9 := hg.2.2.2.1
  have rl := (hr.2 (by omega)).2 k k0 k1
  have dk := d_25 (hg.2.2.2.2 k k0 k1) hc
  have ro := (hr.2 (by omega)).2 (stp w k 4) dk.1 (by omega)
  have cc := d_c (hg.2.2.2.2 (stp w k 4) dk.1 (by omega))
  have k27 := kw27 cc.1 cc.2.2.2
  have v7 := rl.2.2.2.2.2.2.2.2.2 (.inr (.inl hc))
  have vo := ro.1
  have m7 := ll 7 (by omega) (by omega)
  have m1 := ll 1 (by omega) (by omega)
  clear hr ll rl ro
  obtain ⟨o, eo⟩ : ∃ o, o = stp w k 4 := ⟨_, rfl⟩
  rw [← eo] at v7 vo dk hb h1 h2 k27 cc
  have o0 := dk.1
  have o1 := dk.2.1
  clear dk cc
  unfold f_X2_behindEnd
  rw [t_getf, l9, t_geti, m7, v7, t_jn, t_ite, t_some, w32_s (x := k + 1) (by omega) (by omega)]
  refine ⟨by omega, by omega, k0, by omega, fun h => by omega, fun _ => ?_⟩
  rw [t_getf, l3, t_geti, m1, vo, t_ite]
  refine ⟨by omega, by omega, o0, by omega, fun h => ?_, fun h => t_some.mpr (h1 (fun hh => h (k27.mpr hh)))⟩
  have q := h2 (k27.mp h)
  rw [t_getf, p6, t_geti, p75, t_seti, p75, w32_s (x := M 75 o - 1) (by omega) (by omega)]
  refine ⟨by decide, by decide, o0, by omega, by decide, o0, by omega, ?_⟩
  rw [t_getf, upd2_at, if_neg (by omega), p6, t_geti, upd2_at, if_neg (by omega), p75, upd2_at, if_pos ⟨rfl, rfl⟩]
  refine ⟨by decide, by decide, o0, by omega, t_jv (if M 75 o - 1 ≤ 0 then k + 1 else o + 1) (t_some.mpr q) (fun j hj => ?_)⟩
  rw [t_ite, w32_s (by omega) (by omega)]
  exact ⟨fun c => by rw [if_pos c] at hj; exact hj, fun c => by rw [if_neg c] at hj; exact hj⟩
theorem behindStep_e {M : Mem} {v d : Int} {w : Int → Int} {Q : Int × Mem → Prop} (hc : CI M v w) (hg : GW w) (hd : CD M d w) {k : Int} (k0 : 0 ≤ k) (k1 : k < w 9) (p6 : M 74 6 = 75) (p75 : M 75 (-1) = 60) (hq : ∀ l M', l = (if stp w k 0 = 26 then w 9 else if 2300 ≤ stp w k 0 ∧ hldW w k = false then stp w k 4 + 1 else k + 1) → M' = (if stp w k 0 = 24 then upd2 M 75 k (stp w k 1) else M) → Q (l, M')) : Tot (f_X2_behindStep 74 13 k M) Q := by
  have so := isSo_e hc hg hd k0 k1
  obtain ⟨hd0, hd1, ⟨⟨l3, l4, l5, l6, l7, l8, l9⟩, ll⟩, hr⟩ := hd
  have w9 := hg.2.2.2.1
  have rl := (hr.2 (by omega)).2 k k0 k1
  have h2 := (hr.2 (by omega)).1
  have dd := hg.2.2.2.2 k k0 k1
  have cc := d_c dd
  have k27 := kw27 cc.1 cc.2.2.2
  have k23 := kw23 cc.1 cc.2.2.2 cc.2.2.1
  have k29 := kw29 cc.1 cc.2.2.2
  have v1 := rl.1
  have v6 := rl.2.2.2.2.1
  have v7 := rl.2.2.2.2.2.2.2.2.2
  have m7 := ll 7 (by omega) (by omega)
  have m1 := ll 1 (by omega) (by omega)
  have m6 := ll 6 (by omega) (by omega)
  have dw := d_w dd
  clear hr ll rl cc dd
  unfold f_X2_behindStep
  rw [t_getf, hd1, t_getf, l3, t_geti, m1, v1, w32_s (x := k + 1) (by omega) (by omega), t_ite, t_ite, t_ite]
  refine ⟨by decide, by omega, by omega, k0, by omega, fun c1 => ?_, fun c1 => ⟨fun c2 => ?_, fun c2 => ⟨fun c3 => ?_, fun c3 => ?_⟩⟩⟩
  · have c1 := k23.mp c1
    have hq' := fun l => hq l M
    rw [so c1, t_callp, t_some]
    refine t_jq (fun j => ∀ l, l = (if 2300 ≤ stp w k 0 ∧ hldW w k = false then stp w k 4 + 1 else k + 1) → Tot (j l) Q) (fun l hl => t_some.mpr (hq l M (by rw [if_neg (by omega)]; exact hl) (by rw [if_neg (by omega)]))) (fun j hj => ?_)
    rw [t_ite, i10]
    refine ⟨fun c4 => ?_, fun c4 => hj _ ?_⟩
    · have dw' := (dw c1).2
      rw [t_getf, l9, t_geti, m7, v7 (.inr (.inr c1)), w32_s (by omega) (by omega)]
      refine ⟨by omega, by omega, k0, by omega, hj _ ?_⟩
      rw [if_pos ⟨c1, by simpa using c4⟩]
    · rw [if_neg (fun hh => c4 (by rw [hh.2]; decide))]
  · have c2 := k27.mp c2
    rw [t_getf, p6, t_getf, l8, t_geti, m6, v6 (.inr (.inr c2)), t_seti, p75, t_some]
    exact ⟨by decide, by omega, by omega, k0, by omega, by decide, k0, by omega, hq _ _ (by rw [if_neg (by omega), if_neg (by omega)]) (by rw [if_pos c2])⟩
  · have c3 := k29.mp c3
    rw [t_getf, h2, t_some]
    exact ⟨by omega, hq _ _ (by rw [if_pos c3]) (by rw [if_neg (by omega)])⟩
  · rw [t_some]
    have n1 := fun hh => c1 (k23.mpr hh)
    have n2 := fun hh => c2 (k27.mpr hh)
    have n3 := fun hh => c3 (k29.mpr hh)
    exact hq _ _ (by rw [if_neg n3, if_neg (fun hh => n1 hh.1)]) (by rw [if_neg n2])
theorem run_e {M : Mem} {v d : Int} {w r : Int → Int} {B x : Int} {Q : Mem → Prop} (hc : CI M v w) (hg : GW w) (hd : CD M d w) (p6 : M 74 6 = 75) (p75 : M 75 (-1) = 60) (B0 : 0 ≤ B) (B1 : B ≤ 2000000000) (x0 : 0 ≤ x) (x1 : x ≤ 9999) (h9 : w 9 ≠ -1) (hr : ∀ k, 0 ≤ k → k < 60 → (0 ≤ r k ∧ r k ≤ 98) ∧ RLB B (M 75 k) (r k)) (hq : ∀ M', EncC M M' v d (itS (ini w r x) 100000) (B + 100000) → M' 74 1 = (itS (ini w r x) 100000).1 6 - w 6 → Q M') : Tot (f_X2_run 74 13 55 x M) Q := by
  obtain ⟨_, _, _, p2, _⟩ := ci_p hc
  have s1 : M 48 1 = w 6 := hc.2.2.2.2.2.2.1.2.1
  have LIi := itS_i (w := w) (r := r) hg x0 x1 (fun k a b => (hr k a b).1)
  have hn0 := hg.1.1
  unfold WFn at hn0
  have hd1 := hd.2.1
  have hd0 := hd.1
  unfold f_X2_run
  rw [t_putf, t_putf, t_putf, t_putz, t_putf]
  refine ⟨by decide, by decide, by decide, by decide, .inl rfl, by decide, ?_⟩
  obtain ⟨N0, e0⟩ : ∃ X, X = upd2 (upd2 (upd2 (upd2 (upd2 M 74 0 0) 74 2 0) 74 3 0) 74 4 0) 74 5 x := ⟨_, rfl⟩
  have k0 : ∀ a j, ¬ (a = 74 ∧ 0 ≤ j ∧ j ≤ 5) → N0 a j = M a j := fun a j h => by
    rw [e0, upd2_at, if_neg (by omega), upd2_at, if_neg (by omega), upd2_at, if_neg (by omega), upd2_at, if_neg (by omega), upd2_at, if_neg (by omega)]
  have i0 : N0 74 0 = 0 ∧ N0 74 2 = 0 ∧ N0 74 3 = 0 ∧ N0 74 4 = 0 ∧ N0 74 5 = x := by
    rw [e0]; simp [upd2_at]
  rw [← e0]
  rw [t_getf, k0 13 1 (by omega), hd1, t_getf, k0 13 2 (by omega), p2, t_getf, k0 48 1 (by omega), s1]
  have enc0 : EncC M N0 v d (ini w r x) B := ⟨fun a j _ h1 _ => k0 a j (by omega), ci_74 (by show w 3 ≤ 10; omega) (by show w 5 ≤ 10; omega) hc (fun a j h1 _ => k0 a j (by omega)), cd_k hd hg.2.2.2.1 (same_r w).2 (fun a j h => k0 a j (by omega)), ⟨i0.1, i0.2.1, i0.2.2.1, i0.2.2.2.1, i0.2.2.2.2⟩, ⟨by rw [k0 _ _ (by omega)]; exact p6, by rw [k0 _ _ (by omega)]; exact p75⟩, fun k a b => by rw [k0 _ _ (by omega)]; exact (hr k a b).2⟩
  clear e0 k0 i0
  refine ⟨by decide, by decide, by decide, ?_⟩
  refine lpIIM (fun l i N => 0 ≤ i ∧ i ≤ 100000 ∧ ∃ s, s = itS (ini w r x) i.toNat ∧ s.2.2.1 = l ∧ EncC M N v d s (B + i)) (fun _ i _ => (100000 - i).toNat) ?_ (by unfold KF; omega) ⟨by omega, by omega, _, rfl, rfl, by rw [Int.add_zero]; exact enc0⟩
  clear enc0 N0
  rintro fu l i N ⟨i0, i1, s, es, el, en⟩ ih
  have li := LIi i.toNat
  rw [← es] at li
  have hs' : lifeS s = itS (ini w r x) (i + 1).toNat := by rw [show (i + 1).toNat = i.toNat + 1 by omega, es]; rfl
  have fin : (i = 100000 ∨ finS s) → Tot (getf N 13 2 (fun v33 => getf N v33 1 (fun v34 => putf N 74 1 (w32 (v34 - w 6)) (fun M35 => some M35)))) Q := fun hf => by
    have e : itS (ini w r x) 100000 = s := by
      rcases hf with hf | hf
      · rw [es, hf]; rfl
      · rw [es] at hf
        have := itS_f hf (100000 - i.toNat)
        rw [show i.toNat + (100000 - i.toNat) = 100000 by omega] at this
        rw [this, ← es]
    obtain ⟨f1, f2, f3, ⟨f4, f5, f6, f7, f8⟩, ⟨f9, f10⟩, f11⟩ := en
    obtain ⟨_, _, _, q2, _⟩ := ci_p f2
    have t1 : N 48 1 = s.1 6 := f2.2.2.2.2.2.2.1.2.1
    have g6 := li.1.1.1.1
    unfold WFn at g6
    rw [t_getf, q2, t_getf, t1, t_putf, w32_s (by omega) (by omega), t_some]
    refine ⟨by decide, by decide, by decide, hq _ ?_ (by rw [e, upd2_at, if_pos ⟨rfl, rfl⟩])⟩
    rw [e]
    have k1 : ∀ a j, ¬ (a = 74 ∧ j = 1) → upd2 N 74 1 (s.1 6 - w 6) a j = N a j := fun a j h => by rw [upd2_at, if_neg h]
    exact ⟨fun a j h1 h2 h3 => by rw [k1 _ _ (by omega)]; exact f1 a j h1 h2 h3, ci_74 (by omega) (by omega) f2 (fun a j h1 _ => k1 a j (by omega)), cd_k f3 li.1.1.2.2.2.1 (same_r _).2 (fun a j h => k1 a j (by have := hd0; omega)), ⟨by rw [k1 _ _ (by omega)]; exact f4, by rw [k1 _ _ (by omega)]; exact f5, by rw [k1 _ _ (by omega)]; exact f6, by rw [k1 _ _ (by omega)]; exact f7, by rw [k1 _ _ (by omega)]; exact f8⟩, ⟨by rw [k1 _ _ (by omega)]; exact f9, by rw [k1 _ _ (by omega)]; exact f10⟩, fun k a b => by rw [k1 _ _ (by omega)]; exact rlb_m (f11 k a b) (by omega)⟩
  obtain ⟨w1, r1, l1, d1, m1, h1, c1, y1⟩ := s
  unfold finS at fin
  simp only at el fin li
  subst el
  obtain ⟨⟨g1, g2, g3, g4⟩, hl, hdn, hm, hh, hcu, hy, hrr⟩ := li
  simp only at g1 g2 g3 g4 hl hdn hm hh hcu hy hrr
  obtain ⟨f1, f2, f3, ⟨f4, f5, f6, f7, f8⟩, ⟨f9, f10⟩, f11⟩ := en
  simp only at f2 f3 f4 f5 f6 f7 f8 f11
  have w9' := g1.2.2.2.1
  have e9 : w1 9 = w 9 := g3.1
  have hn1 := g1.1.1
  unfold WFn at hn1
  have hrd := f3.2.2.2.2 (by omega)
  have L1 := f3.2.2.1
  unfold f_X2_run_L46
  rw [t_ite]
  refine ⟨fun c0 => fin (.inl (by omega)), fun c0 => ?_⟩
  rw [t_getf, hrd.1, t_ite]
  refine ⟨by omega, fun c2 => fin (.inr (.inl c2)), fun c2 => ?_⟩
  rw [t_getf, f7, t_ite]
  refine ⟨by decide, fun c3 => fin (.inr (.inr c3)), fun c3 => ?_⟩
  have rl := hrd.2 l1 hl.1 (by omega)
  have dk := g1.2.2.2.2 l1 hl.1 (by omega)
  have cc := d_c dk
  have k28 := kw28 cc.1 cc.2.2.2
  have ml1 := L1.2 1 (by omega) (by omega)
  clear fin
  rw [t_getf, L1.1.1, t_geti, ml1, rl.1, w32_s (x := i + 1) (by omega) (by omega)]
  simp only [lifeS] at hs'
  rw [if_neg (by omega)] at hs'
  have enc : ∀ (s' : LfS) (N' : Mem), s' = itS (ini w r x) (i + 1).toNat → EncC M N' v d s' (B + (i + 1)) → Tot (f_X2_run_L46 d (w 6) 74 13 55 (fun (M32 : Mem) => getf M32 13 2 (fun v33 => getf M32 v33 1 (fun v34 => putf M32 74 1 (w32 (v34 - w 6)) (fun M35 => some M35)))) fu s'.2.2.1 (i + 1) N') Q := fun s' N' h1 h2 => ih _ _ _ (by omega) ⟨by omega, by omega, s', h1, rfl, h2⟩
  refine ⟨by omega, by omega, hl.1, by omega, t_jvm (fun l' N' => ∃ s' : LfS, s'.2.2.1 = l' ∧ s' = itS (ini w r x) (i + 1).toNat ∧ EncC M N' v d s' (B + (i + 1))) (fun l' N' ⟨s', h1, h2, h3⟩ => by rw [← h1]; exact enc s' N' h2 h3) (fun j hj => ?_)⟩
  clear enc ih
  rw [t_ite]
  refine ⟨fun c4 => ?_, fun c4 => ?_⟩
  · have n25 : stp w1 l1 0 ≠ 25 := fun hh => c4 (k28.mpr hh)
    rw [if_neg n25] at hs'
    rw [t_getf, f4, t_ite]
    refine ⟨by decide, fun c5 => ?_, fun c5 => ?_⟩
    · rw [if_neg (by omega)] at hs'
      have ao := act_ok g1 (x := y1) hy.1 hy.2 hl.1 (show l1 < w1 9 by omega)
      rw [t_getf, f4, t_putf, w32_s (x := d1 + 1) (by omega) (by omega)]
      refine ⟨by decide, by decide, ?_⟩
      obtain ⟨N1, e1⟩ : ∃ X, X = upd2 N 74 0 (d1 + 1) := ⟨_, rfl⟩
      have k1 : ∀ a j, ¬ (a = 74 ∧ j = 0) → N1 a j = N a j := fun a j h => by rw [e1, upd2_at, if_neg h]
      have v0 : N1 74 0 = d1 + 1 := by rw [e1, upd2_at, if_pos ⟨rfl, rfl⟩]
      have cN1 : CI N1 v w1 := ci_74 (by omega) (by omega) f2 (fun a j h1 _ => k1 a j (by omega))
      have dN1 : CD N1 d w1 := cd_k f3 w9' (same_r _).2 (fun a j h => k1 a j (by omega))
      rw [← e1, t_getf, k1 74 2 (by omega), f5, t_call]
      refine ⟨by decide, act_e cN1 g1 dN1 hy.1 hy.2 hl.1 (by omega) (by rw [k1 _ _ (by omega)]; exact f8) (by rw [k1 _ _ (by omega), f6]; omega) (fun st N2 x1 x2 x3 x4 x5 => ?_)⟩
      try dsimp only
      rw [k1 74 3 (by omega), f6] at x5
      have q01 : 1 - (actW w1 y1 l1).1 = if st ≠ 0 then 1 else 0 := by
        by_cases hz : st = 0
        · rw [if_neg (by simpa using hz), x1.mp hz]; rfl
        · rw [if_pos hz]
          have : (actW w1 y1 l1).1 ≠ 1 := fun hh => hz (x1.mpr hh)
          omega
      refine t_jv (1 - (actW w1 y1 l1).1) ?_ (fun j2 hj2 => ?_)
      rotate_left
      · rw [t_ite]
        exact ⟨fun hz => by rw [q01, if_pos hz] at hj2; exact hj2, fun hz => by rw [q01, if_neg hz] at hj2; exact hj2⟩
      have b01 : 0 ≤ 1 - (actW w1 y1 l1).1 ∧ 1 - (actW w1 y1 l1).1 ≤ 1 := by omega
      rw [t_putf, w32_s (by omega) (by omega)]
      refine ⟨by decide, ?_⟩
      obtain ⟨w2, ew2⟩ : ∃ X, X = (actW w1 y1 l1).2.1 := ⟨_, rfl⟩
      rw [← ew2] at x3 hs' ao
      obtain ⟨⟨g1', sv', sd'⟩, ay, a01, ah⟩ := ao
      have w9'' := g1'.2.2.2.1
      obtain ⟨N3, e3⟩ : ∃ X, X = upd2 N2 74 2 (m1 + (1 - (actW w1 y1 l1).1)) := ⟨_, rfl⟩
      have k3 : ∀ a j, ¬ (a = 74 ∧ j = 2) → N3 a j = N2 a j := fun a j h => by rw [e3, upd2_at, if_neg h]
      have hn2 := g1'.1.1
      unfold WFn at hn2
      have cN3 : CI N3 v w2 := ci_74 (by omega) (by omega) x3 (fun a j h1 _ => k3 a j (by omega))
      have kd : ∀ a j, (a = 13 ∧ j = 1) ∨ (d ≤ a ∧ a ≤ d + 7) → N3 a j = N1 a j := fun a j h => by rw [k3 a j (by omega), x2 a j (by unfold SW SC; omega) (by omega)]
      have dN3 : CD N3 d w2 := cd_k dN1 w9' sd' kd
      have s6 : N3 74 6 = 75 := by rw [k3 _ _ (by omega), x2 _ _ (by unfold SW SC; omega) (by omega), k1 _ _ (by omega)]; exact f9
      have s75 : ∀ k, N3 75 k = N 75 k := fun k => by rw [k3 _ _ (by omega), x2 _ _ (by unfold SW SC; omega) (by omega), k1 _ _ (by omega)]
      have st0 : ∀ q, 0 ≤ q → q < 6 → stp w2 l1 q = stp w1 l1 q := fun q q0 q1 => sd_stp sd' hl.1 (by omega) q0 q1
      have e99 : w2 9 = w1 9 := sd'.1
      rw [← e3, t_call]
      refine behindStep_e cN3 g1' dN3 hl.1 (by omega) s6 (by rw [s75]; exact f10) (fun l' N4 h1' h2' => ?_)
      try dsimp only
      rw [st0 0 (by omega) (by omega), st0 1 (by omega) (by omega)] at h2'
      rw [st0 0 (by omega) (by omega), st0 4 (by omega) (by omega), e99] at h1'
      have fr4 : ∀ a j, a ≠ 75 → N4 a j = N3 a j := fun a j ha => by
        rw [h2']; by_cases h24 : stp w1 l1 0 = 24
        · rw [if_pos h24, upd2_at, if_neg (by omega)]
        · rw [if_neg h24]
      refine hj _ _ ?_
      have base : (∀ a j, ¬ SW a j → a ≠ 74 → a ≠ 75 → N4 a j = M a j) ∧ CI N4 v w2 ∧ CD N4 d w2 ∧ (N4 74 0 = d1 + 1 ∧ N4 74 2 = m1 + (1 - (actW w1 y1 l1).1) ∧ N4 74 3 = h1 + (actW w1 y1 l1).2.2.2 ∧ N4 74 4 = c1 ∧ N4 74 5 = (actW w1 y1 l1).2.2.1) ∧ (N4 74 6 = 75 ∧ N4 75 (-1) = 60) := by
        refine ⟨fun a j q1 q2 q3 => ?_, ci_74 (by omega) (by omega) cN3 (fun a j _ ha => fr4 a j ha), cd_k dN3 w9'' (same_r _).2 (fun a j h => fr4 a j (by omega)), ⟨?_, ?_, ?_, ?_, ?_⟩, ?_, ?_⟩
        · rw [fr4 a j q3, k3 a j (by omega), x2 a j q1 (by omega), k1 a j (by omega)]; exact f1 a j q1 q2 q3
        · rw [fr4 _ _ (by decide), k3 _ _ (by omega), x2 _ _ (by unfold SW SC; omega) (by omega)]; exact v0
        · rw [fr4 _ _ (by decide), e3, upd2_at, if_pos ⟨rfl, rfl⟩]
        · rw [fr4 _ _ (by decide), k3 _ _ (by omega)]; exact x5
        · rw [fr4 _ _ (by decide), k3 _ _ (by omega), x2 _ _ (by unfold SW SC; omega) (by omega), k1 _ _ (by omega)]; exact f7
        · rw [fr4 _ _ (by decide), k3 _ _ (by omega)]; exact x4
        · rw [fr4 _ _ (by decide)]; exact s6
        · rw [h2']; by_cases h24 : stp w1 l1 0 = 24
          · rw [if_pos h24, upd2_at, if_neg (by omega), s75]; exact f10
          · rw [if_neg h24, s75]; exact f10
      by_cases c26 : stp w1 l1 0 = 26
      · rw [if_pos c26] at hs' h1'
        have ea : actW w1 y1 l1 = (1, w1, y1, 0) := by unfold actW; rw [if_neg (by omega), if_neg (by omega), if_neg (by omega), if_neg (by omega), if_neg (by omega), if_neg (by omega), if_neg (by omega), if_neg (by omega)]
        have ew : w2 = w1 := by rw [ew2, ea]
        rw [ea, ew] at base
        refine ⟨_, ?_, hs', base.1, base.2.1, base.2.2.1, ⟨base.2.2.2.1.1, by rw [base.2.2.2.1.2.1]; simp only; omega, by rw [base.2.2.2.1.2.2.1]; simp only; omega, base.2.2.2.1.2.2.2.1, base.2.2.2.1.2.2.2.2⟩, base.2.2.2.2, fun k a b => ?_⟩
        · exact h1'.symm
        · rw [h2', if_neg (by omega), s75]; exact rlb_m (f11 k a b) (by omega)
      · rw [if_neg c26] at hs' h1'
        refine ⟨_, ?_, hs', base.1, base.2.1, base.2.2.1, base.2.2.2.1, base.2.2.2.2, fun k a b => ?_⟩
        · exact h1'.symm
        · simp only
          by_cases h24 : stp w1 l1 0 = 24
          · have d24 := d_24 dk h24
            rw [if_pos h24] at h2' ⊢
            rw [h2', upd2_at, upd1_at]
            by_cases ek : k = l1
            · rw [if_pos ⟨rfl, ek⟩, if_pos ek]; exact .inl (by omega)
            · rw [if_neg (fun hh => ek hh.2), if_neg ek, s75]; exact rlb_m (f11 k a b) (by omega)
          · rw [if_neg h24] at h2' ⊢
            rw [h2', s75]; exact rlb_m (f11 k a b) (by omega)
    · rw [if_pos (by omega)] at hs'
      rw [t_putz]
      have k1 : ∀ a j, ¬ (a = 74 ∧ j = 4) → upd2 N 74 4 1 a j = N a j := fun a j h => by rw [upd2_at, if_neg h]
      refine ⟨by decide, .inr rfl, hj _ _ ⟨_, rfl, hs', fun a j q1 q2 q3 => by rw [k1 _ _ (by omega)]; exact f1 a j q1 q2 q3, ci_74 (by simp only; omega) (by simp only; omega) f2 (fun a j q1 _ => k1 a j (by omega)), cd_k f3 w9' (same_r _).2 (fun a j h => k1 a j (by omega)), ⟨by rw [k1 _ _ (by omega)]; exact f4, by rw [k1 _ _ (by omega)]; exact f5, by rw [k1 _ _ (by omega)]; exact f6, by rw [upd2_at, if_pos ⟨rfl, rfl⟩], by rw [k1 _ _ (by omega)]; exact f8⟩, ⟨by rw [k1 _ _ (by omega)]; exact f9, by rw [k1 _ _ (by omega)]; exact f10⟩, fun k a b => by rw [k1 _ _ (by omega)]; exact rlb_m (f11 k a b) (by omega)⟩⟩
  · have y25 : stp w1 l1 0 = 25 := k28.mp (by simpa using c4)
    have d25 := d_25 dk y25
    rw [if_pos y25] at hs'
    have ro := f11 (stp w1 l1 4) d25.1 (by omega)
    have rr := hrr (stp w1 l1 4) d25.1 (by omega)
    have xb : -(B + i) ≤ N 75 (stp w1 l1 4) ∧ N 75 (stp w1 l1 4) ≤ 99 := by
      rcases ro with ro | ro <;> omega
    rw [t_call]
    refine behindEnd_e g1 f3 hl.1 (by omega) y25 f9 f10 (by omega) (fun n24 => ?_) (fun y24 => ?_)
    · try dsimp only
      rw [if_neg (fun hh => n24 hh.1)] at hs'
      exact hj _ _ ⟨_, rfl, hs', f1, f2, f3, ⟨f4, f5, f6, f7, f8⟩, ⟨f9, f10⟩, fun k a b => rlb_m (f11 k a b) (by omega)⟩
    · try dsimp only
      obtain ⟨o, eo⟩ : ∃ o, o = stp w1 l1 4 := ⟨_, rfl⟩
      rw [← eo] at hs' ro rr xb y24 d25 ⊢
      have k1 : ∀ a j, ¬ (a = 75 ∧ j = o) → upd2 N 75 o (N 75 o - 1) a j = N a j := fun a j h => by rw [upd2_at, if_neg h]
      have base : (∀ a j, ¬ SW a j → a ≠ 74 → a ≠ 75 → upd2 N 75 o (N 75 o - 1) a j = M a j) ∧ CI (upd2 N 75 o (N 75 o - 1)) v w1 ∧ CD (upd2 N 75 o (N 75 o - 1)) d w1 ∧ (upd2 N 75 o (N 75 o - 1) 74 0 = d1 ∧ upd2 N 75 o (N 75 o - 1) 74 2 = m1 ∧ upd2 N 75 o (N 75 o - 1) 74 3 = h1 ∧ upd2 N 75 o (N 75 o - 1) 74 4 = c1 ∧ upd2 N 75 o (N 75 o - 1) 74 5 = y1) ∧ (upd2 N 75 o (N 75 o - 1) 74 6 = 75 ∧ upd2 N 75 o (N 75 o - 1) 75 (-1) = 60) :=
        ⟨fun a j q1 q2 q3 => by rw [k1 _ _ (by omega)]; exact f1 a j q1 q2 q3, ci_74 (by omega) (by omega) f2 (fun a j _ q1 => k1 a j (by omega)), cd_k f3 w9' (same_r _).2 (fun a j h => k1 a j (by omega)), ⟨by rw [k1 _ _ (by omega)]; exact f4, by rw [k1 _ _ (by omega)]; exact f5, by rw [k1 _ _ (by omega)]; exact f6, by rw [k1 _ _ (by omega)]; exact f7, by rw [k1 _ _ (by omega)]; exact f8⟩, by rw [k1 _ _ (by omega)]; exact f9, by rw [k1 _ _ (by omega)]; exact f10⟩
      by_cases pos : 0 < r1 o
      · have hx : N 75 o = r1 o + 1 := by rcases ro with ro | ro <;> omega
        rw [if_pos ⟨y24, pos⟩] at hs'
        rw [if_neg (by omega)]
        refine hj _ _ ⟨_, rfl, hs', base.1, base.2.1, base.2.2.1, base.2.2.2.1, base.2.2.2.2, fun k a b => ?_⟩
        simp only
        rw [upd2_at, upd1_at]
        by_cases ek : k = o
        · rw [if_pos ⟨rfl, ek⟩, if_pos ek]; exact .inl (by omega)
        · rw [if_neg (fun hh => ek hh.2), if_neg ek]; exact rlb_m (f11 k a b) (by omega)
      · rw [if_neg (fun hh => pos hh.2)] at hs'
        have hx : N 75 o ≤ 1 := by rcases ro with ro | ro <;> omega
        rw [if_pos (by omega)]
        refine hj _ _ ⟨_, rfl, hs', base.1, base.2.1, base.2.2.1, base.2.2.2.1, base.2.2.2.2, fun k a b => ?_⟩
        simp only
        rw [upd2_at]
        by_cases ek : k = o
        · rw [if_pos ⟨rfl, ek⟩, ek]; exact .inr ⟨by omega, by omega, by omega⟩
        · rw [if_neg (fun hh => ek hh.2)]; exact rlb_m (f11 k a b) (by omega)
