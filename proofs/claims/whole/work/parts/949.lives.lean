/-! the reference lives: the loops -/
theorem holdsR_e {M : Mem} {w : Int → Int} (h : RI M w (-1)) (hg : GW w) {k : Int} (k0 : 0 ≤ k) (k1 : k < w 9) (h23 : 2300 ≤ stp w k 0) : f_X12_holds 119 (270 + 6 * k) M = some (if hldW w k = true then 1 else 0) := by
  have hwf := hg.1
  have L := wf_l hwf
  have w9 := hg.2.2.2.1
  have dk := (d_w (hg.2.2.2.2 k k0 k1) h23).1
  obtain ⟨a, b, ww⟩ := ri_at h
  have e1 : w (270 + 6 * k + 1) = stp w k 1 := rfl
  have e2 : w (270 + 6 * k + 2) = stp w k 2 := rfl
  have e5 : w (270 + 6 * k + 5) = stp w k 5 := rfl
  have c2 : stp w k 0 ≤ 2329 := by omega
  rw [← t_eq]
  unfold f_X12_holds
  rw [t_getf, a, t_geti, b, ww, stp_0 w k, t_letv, w32_s (x := stp w k 0 - 2300) (by omega) (by omega), t_getf, a, w32_s (x := 270 + 6 * k + 1) (by omega) (by omega), t_geti, b, ww, e1, t_ite]
  refine ⟨by decide, by decide, by omega, by omega, by decide, by decide, by omega, by omega, fun c => ?_, fun c => ?_⟩
  · obtain ⟨c1, a0, a1, b0, b1, s5⟩ : (stp w k 0 = 2328 ∨ stp w k 0 = 2329) ∧ 0 ≤ stp w k 1 ∧ stp w k 1 < w 5 ∧ 0 ≤ stp w k 2 ∧ stp w k 2 ≤ 9999 ∧ (stp w k 5 = 60 ∨ stp w k 5 = 61 ∨ stp w k 5 = 62) := by
      rcases dk with dk | dk
      · omega
      · exact dk
    clear dk
    have ea : w (258 + stp w k 1) = ac w (stp w k 1) := rfl
    obtain ⟨q, eq⟩ : ∃ q, q = if stp w k 0 = 2328 then dOwe w (stp w k 1) else ac w (stp w k 1) := ⟨_, rfl⟩
    have eh : hldW w k = if stp w k 5 = 60 then decide (q < stp w k 2) else if stp w k 5 = 62 then decide (stp w k 2 < q) else decide (q = stp w k 2) := by unfold hldW; rw [if_neg (by omega), ← eq]
    rw [t_getf, a, w32_s (x := 258 + stp w k 1) (by omega) (by omega), t_geti, b, ww, ea]
    refine ⟨by decide, by decide, by omega, by omega, t_jv q ?_ (fun j hj => ?_)⟩
    · rw [t_getf, a, w32_s (x := 270 + 6 * k + 5) (by omega) (by omega), t_geti, b, ww, e5]
      refine ⟨by decide, by decide, by omega, by omega, t_jv (if hldW w k = true then 1 else 0) (by rw [t_retz]; exact ⟨by split <;> simp, rfl⟩) (fun j hj => ?_)⟩
      have z0 : hldW w k = false → Tot (j 0) (fun y => y = if hldW w k = true then 1 else 0) := fun hb => by rw [hb] at hj ⊢; exact hj
      have z1 : hldW w k = true → Tot (j 1) (fun y => y = if hldW w k = true then 1 else 0) := fun hb => by rw [hb] at hj ⊢; exact hj
      rw [t_ite]
      refine ⟨fun h1 => ?_, fun h1 => ?_⟩
      · rw [if_neg h1] at eh
        rw [t_getf, a, t_geti, b, ww, e5, t_ite]
        refine ⟨by decide, by decide, by omega, by omega, fun h2 => ?_, fun h2 => ?_⟩
        · rw [if_neg h2] at eh
          rw [t_getf, a, w32_s (x := 270 + 6 * k + 2) (by omega) (by omega), t_geti, b, ww, e2, t_ite]
          exact ⟨by decide, by decide, by omega, by omega, fun h3 => z0 (by rw [eh]; exact decide_eq_false h3), fun h3 => z1 (by rw [eh]; exact decide_eq_true (by omega))⟩
        · rw [if_pos (by omega)] at eh
          rw [t_getf, a, w32_s (x := 270 + 6 * k + 2) (by omega) (by omega), t_geti, b, ww, e2, t_ite]
          exact ⟨by decide, by decide, by omega, by omega, fun h3 => z0 (by rw [eh]; exact decide_eq_false (by omega)), fun h3 => z1 (by rw [eh]; exact decide_eq_true (by omega))⟩
      · rw [if_pos (by omega)] at eh
        rw [t_getf, a, w32_s (x := 270 + 6 * k + 2) (by omega) (by omega), t_geti, b, ww, e2, t_ite]
        exact ⟨by decide, by decide, by omega, by omega, fun h3 => z0 (by rw [eh]; exact decide_eq_false (by omega)), fun h3 => z1 (by rw [eh]; exact decide_eq_true (by omega))⟩
    · rw [t_ite]
      refine ⟨fun h1 => ?_, fun h1 => ?_⟩
      · rw [eq, if_neg (by omega)] at hj; exact hj
      · have hz : stp w k 0 = 2328 := by omega
        have ed : q = dOwe w (stp w k 1) := by rw [eq, if_pos hz]
        rw [ed] at hj
        refine lpII (fun x p => 0 ≤ p ∧ p ≤ 10 ∧ x = sumZ (fun j => ow w (stp w k 1) j) p) (fun _ p => (10 - p).toNat) ?_ (by unfold KF; omega) ⟨by omega, by omega, rfl⟩
        rintro n x p ⟨i0, i1, i2⟩ ih
        unfold f_X12_holds_L71
        rw [t_ite]
        refine ⟨fun h2 => ?_, fun h2 => ?_⟩
        · rw [i2, show p = 10 by omega]; exact hj
        · have sb := sumZ_le (g := fun j => ow w (stp w k 1) j) (n := 10) (lo := 0) (hi := 1200000) (fun j x y => ow_le hwf.2.2.2.2.2 hwf.1 a0 (by omega) x y) i0 i1
          have ob := ow_le hwf.2.2.2.2.2 hwf.1 a0 (show stp w k 1 < 10 by omega) i0 (show p < 10 by omega)
          have eo : w (158 + 10 * stp w k 1 + p) = ow w (stp w k 1) p := rfl
          rw [t_getf, a, w32_s (x := 10 * stp w k 1) (by omega) (by omega), w32_s (x := 158 + 10 * stp w k 1) (by omega) (by omega), w32_s (x := 158 + 10 * stp w k 1 + p) (by omega) (by omega), t_geti, b, ww, eo, t_letv, w32_s (by omega) (by omega), w32_s (by omega) (by omega)]
          exact ⟨by decide, by decide, by omega, by omega, ih _ _ (by omega) ⟨by omega, by omega, by rw [sumZ_s _ i0, i2]⟩⟩
  · have c : stp w k 0 = 2310 := by omega
    have eh : hldW w k = decide (bt (w 7) (stp w k 1)) := by unfold hldW; rw [if_pos c]
    rw [t_getf, a, t_geti, b, ww]
    refine ⟨by decide, by decide, by decide, by decide, t_jv (if hldW w k = true then 1 else 0) (by rw [t_retz]; exact ⟨by split <;> simp, rfl⟩) (fun j hj => ?_)⟩
    rw [t_ite]
    refine ⟨fun h1 => ?_, fun h1 => ?_⟩
    · have hb : hldW w k = false := by rw [eh]; exact decide_eq_false h1
      rw [hb] at hj ⊢; exact hj
    · have hb : hldW w k = true := by rw [eh]; exact decide_eq_true (Classical.not_not.mp h1)
      rw [hb] at hj ⊢; exact hj
def EncR (M0 N : Mem) (w0 : Int → Int) (s : LfS) : Prop := (∀ a j, ¬ SRl a j → N a j = M0 a j) ∧ RI N s.1 (-1) ∧ (N 119 36 = s.2.2.2.2.2.2.2 ∧ N 119 37 = s.2.2.2.1) ∧ (N 135 0 = s.1 6 - w0 6 ∧ N 135 1 = s.2.2.2.2.1 ∧ N 135 2 = s.2.2.2.2.2.1 ∧ N 135 3 = s.2.2.2.2.2.2.1) ∧ ∀ k, 0 ≤ k → k < 60 → N 134 k = s.2.1 k
def muE (w r : Int → Int) (l : Int) : Nat := if l < w 9 ∧ stp w l 0 = 25 then 1 + (60 - l).toNat + (if stp w l 4 + 1 = l then (r (stp w l 4)).toNat else 0) else 0
theorem mu_le {w r : Int → Int} (hg : GW w) (hr : ∀ k, 0 ≤ k → k < 60 → 0 ≤ r k ∧ r k ≤ 98) {l : Int} (l0 : 0 ≤ l) : muE w r l ≤ 159 := by
  unfold muE
  by_cases c : l < w 9 ∧ stp w l 0 = 25
  · rw [if_pos c]
    have d := d_25 (hg.2.2.2.2 l l0 c.1) c.2
    have w9 := hg.2.2.2.1
    have := hr (stp w l 4) d.1 (by omega)
    split <;> omega
  · rw [if_neg c]; omega
theorem behindEnds_e {M : Mem} {w : Int → Int} {s0 : LfS} {Q : Int × Mem → Prop} (LIi : ∀ n, LI w (itS s0 n)) {i0 : Nat} {N0 : Mem} (en0 : EncR M N0 w (itS s0 i0)) (hcut : (itS s0 i0).2.2.2.2.2.2.1 = 0) (hq : ∀ i N, i ≤ i0 + 159 → EncR M N w (itS s0 i) → (itS s0 i).2.2.2.2.2.2.1 = 0 → (itS s0 i).2.2.2.1 = (itS s0 i0).2.2.2.1 → ((itS s0 i).2.2.1 < (itS s0 i).1 9 → stp (itS s0 i).1 (itS s0 i).2.2.1 0 ≠ 25) → Q ((itS s0 i).2.2.1, N)) : Tot (f_X12_behindEnds 119 (itS s0 i0).2.2.1 N0) Q := by
  have li0 := LIi i0
  have m0 := mu_le (r := (itS s0 i0).2.1) li0.1.1 li0.2.2.2.2.2.2.2 li0.2.1.1
  have muq : ∀ (N : Mem) (s : LfS), RI N s.1 (-1) → GW s.1 → (∀ k, 0 ≤ k → k < 60 → N 134 k = s.2.1 k) → ∀ l, 0 ≤ l → muE (N 120) (N 134) l = muE s.1 s.2.1 l := fun N s h1 h2 h3 l l0 => by
    unfold muE
    rw [h1.2.1]
    by_cases c : l < s.1 9 ∧ stp s.1 l 0 = 25
    · rw [if_pos c, if_pos c]
      have d := d_25 (h2.2.2.2.2 l l0 c.1) c.2
      have w9 := h2.2.2.2.1
      rw [h3 _ d.1 (by omega)]
    · rw [if_neg c, if_neg c]
  unfold f_X12_behindEnds
  refine lpIM (fun l N => ∃ i : Nat, (itS s0 i).2.2.1 = l ∧ EncR M N w (itS s0 i) ∧ (itS s0 i).2.2.2.2.2.2.1 = 0 ∧ (itS s0 i).2.2.2.1 = (itS s0 i0).2.2.2.1 ∧ i + muE (itS s0 i).1 (itS s0 i).2.1 l ≤ i0 + 159) (fun l N => muE (N 120) (N 134) l) ?_ (by rw [muq N0 _ en0.2.1 li0.1.1 en0.2.2.2.2 _ li0.2.1.1]; unfold KF; omega) ⟨i0, rfl, en0, hcut, rfl, by omega⟩
  rintro fu l N ⟨i, el, en, hc, hdn, hmu⟩ ih
  have li := LIi i
  have hs' : lifeS (itS s0 i) = itS s0 (i + 1) := rfl
  have hq' := hq i N (by omega) en hc hdn
  obtain ⟨s, es⟩ : ∃ s, s = itS s0 i := ⟨_, rfl⟩
  rw [← es] at el en hc hdn hmu li hs' hq'
  obtain ⟨w1, r1, l1, d1, m1, h1, c1, y1⟩ := s
  simp only at el hc hdn hmu hq'
  subst el hc
  obtain ⟨⟨g1, g2, g3, g4⟩, hl, hdn', hm, hh, hcu, hy, hrr⟩ := li
  simp only at g1 g2 g3 g4 hl hdn' hm hh hcu hy hrr
  obtain ⟨f1, f2, ⟨f3, f4⟩, ⟨f5, f6, f7, f8⟩, f9⟩ := en
  simp only at f2 f3 f4 f5 f6 f7 f8 f9
  obtain ⟨a, b, ww⟩ := ri_at f2
  have w9 := g1.2.2.2.1
  have hmuq := muq N (w1, r1, l1, d1, m1, h1, 0, y1) f2 g1 f9 l1 hl.1
  simp only at hmuq
  have p38 : N 119 38 = 134 := f2.1.1.2.2.2.2.2.2.2.2.2.2.2.2.2.2.1
  have l134 : N 134 (-1) = 80 := f2.1.2.2.2.2.2.2.2.2.2.2.2.2.2.2.2.1
  unfold f_X12_behindEnds_L2
  rw [t_getf, a, t_geti, b, ww, t_ite, t_some]
  refine ⟨by decide, by decide, by decide, by decide, fun c => hq' (fun hh => by omega), fun c => ?_⟩
  rw [t_getf, a, w32_s (x := 6 * l1) (by omega) (by omega), w32_s (x := 270 + 6 * l1) (by omega) (by omega), t_geti, b, ww, stp_0 w1 l1, t_ite, t_some]
  refine ⟨by decide, by decide, by omega, by omega, fun c2 => hq' (fun _ => c2), fun c2 => ?_⟩
  have c2 : stp w1 l1 0 = 25 := by simpa using c2
  have dk := d_25 (g1.2.2.2.2 l1 hl.1 (by omega)) c2
  have e4 : w1 (270 + 6 * l1 + 4) = stp w1 l1 4 := rfl
  have m1' : muE w1 r1 l1 = 1 + (60 - l1).toNat + (if stp w1 l1 4 + 1 = l1 then (r1 (stp w1 l1 4)).toNat else 0) := by unfold muE; rw [if_pos ⟨by omega, c2⟩]
  have dall := g1.2.2.2.2
  have mN : l1 + 1 < w1 9 → stp w1 (l1 + 1) 0 = 25 → stp w1 (l1 + 1) 4 + 1 ≠ l1 + 1 := fun x1 x2 x3 => by
    have dn := d_25 (dall (l1 + 1) (by omega) x1) x2
    have : stp w1 (l1 + 1) 4 = l1 := by omega
    rw [this, c2] at dn
    omega
  clear dall hq'
  simp only [lifeS] at hs'
  rw [if_neg (by omega), if_pos c2] at hs'
  obtain ⟨o, eo⟩ : ∃ o, o = stp w1 l1 4 := ⟨_, rfl⟩
  rw [← eo] at dk e4 m1' hs'
  have ro := f9 o dk.1 (by omega)
  have rr := hrr o dk.1 (by omega)
  rw [t_getf, a, w32_s (x := 270 + 6 * l1 + 4) (by omega) (by omega), t_geti, b, ww, e4, t_getf, a, w32_s (x := 6 * o) (by omega) (by omega), w32_s (x := 270 + 6 * o) (by omega) (by omega), t_geti, b, ww, stp_0 w1 o]
  refine ⟨by decide, by decide, by omega, by omega, by decide, by decide, by omega, by omega, t_jv (if stp w1 o 0 = 24 ∧ 0 < r1 o then 1 else 0) ?_ (fun j hj => ?_)⟩
  rotate_left
  · rw [t_jn, t_ite]
    refine ⟨fun c3 => by rw [if_neg (fun hh => c3 hh.1)] at hj; exact hj, fun c3 => ?_⟩
    rw [t_getf, p38, t_geti, l134, ro, t_ite]
    exact ⟨by decide, by decide, dk.1, by omega, fun c4 => by rw [if_neg (by omega)] at hj; exact hj, fun c4 => by rw [if_pos ⟨by simpa using c3, by omega⟩] at hj; exact hj⟩
  rw [t_getf, p38, t_geti, l134, ro]
  refine ⟨by decide, by decide, dk.1, by omega, ?_⟩
  have kF : ∀ y, (∀ a j, ¬ SRl a j → upd2 N 134 o y a j = M a j) := fun y a j ha => by rw [upd2_at, if_neg (by unfold SRl at ha; omega)]; exact f1 a j ha
  have kR : ∀ y, RI (upd2 N 134 o y) w1 (-1) := fun y => ri_l f2 (by rw [upd2_o (by decide)]; exact f2.2.1) rfl (fun a j ha => by rw [upd2_at, if_neg (by unfold SRl at ha; omega)])
  have kO : ∀ y a j, a ≠ 134 → upd2 N 134 o y a j = N a j := fun y a j ha => by rw [upd2_at, if_neg (by omega)]
  by_cases ag : stp w1 o 0 = 24 ∧ 0 < r1 o
  · rw [if_pos ag] at hs' ⊢
    refine t_jv 1 ?_ (fun j hj => by rw [t_ite]; exact ⟨fun hz => absurd hz (by decide), fun _ => hj⟩)
    rw [t_seti, l134, w32_s (by omega) (by omega)]
    refine ⟨by decide, dk.1, by omega, t_jv (o + 1) ?_ (fun j hj => by rw [t_ite, w32_s (x := o + 1) (by omega) (by omega)]; exact ⟨fun hz => absurd hz (by decide), fun _ => hj⟩)⟩
    have li' := LIi (i + 1)
    have enc' : EncR M (upd2 N 134 o (r1 o - 1)) w (itS s0 (i + 1)) := by
      rw [← hs']
      refine ⟨kF _, kR _, ⟨by rw [kO _ _ _ (by decide)]; exact f3, by rw [kO _ _ _ (by decide)]; exact f4⟩, ⟨by rw [kO _ _ _ (by decide)]; exact f5, by rw [kO _ _ _ (by decide)]; exact f6, by rw [kO _ _ _ (by decide)]; exact f7, by rw [kO _ _ _ (by decide)]; exact f8⟩, fun k a b => ?_⟩
      simp only
      rw [upd2_at, upd1_at]
      by_cases ek : k = o
      · rw [if_pos ⟨rfl, ek⟩, if_pos ek]
      · rw [if_neg (fun hh => ek hh.2), if_neg ek]; exact f9 k a b
    have mu' : muE w1 (upd1 r1 o (r1 o - 1)) (o + 1) < muE w1 r1 l1 := by
      rw [m1']
      unfold muE
      by_cases c5 : o + 1 = l1
      · rw [c5, if_pos ⟨by omega, c2⟩, ← eo, if_pos c5, if_pos rfl, upd1_at, if_pos rfl]; omega
      · rw [if_neg (fun hh => by have := dk.2.2.2; have := hh.2; omega)]; omega
    refine ih _ _ ?_ ⟨i + 1, ?_, enc', ?_, ?_, ?_⟩
    · rw [hmuq]
      have := muq (upd2 N 134 o (r1 o - 1)) (itS s0 (i + 1)) enc'.2.1 li'.1.1 enc'.2.2.2.2 (o + 1) (by omega)
      rw [this, ← hs']; exact mu'
    · rw [← hs']
    · rw [← hs']
    · rw [← hs']; exact hdn
    · rw [← hs']; simp only; omega
  · rw [if_neg ag] at hs' ⊢
    refine t_jv 0 ?_ (fun j hj => by rw [t_ite]; exact ⟨fun _ => hj, fun hz => absurd rfl hz⟩)
    rw [t_seti, l134, Int.sub_zero, w32_s (x := r1 o) (by omega) (by omega)]
    refine ⟨by decide, dk.1, by omega, t_jv (l1 + 1) ?_ (fun j hj => by rw [t_ite, w32_s (x := l1 + 1) (by omega) (by omega)]; exact ⟨fun _ => hj, fun hz => absurd rfl hz⟩)⟩
    have li' := LIi (i + 1)
    have enc' : EncR M (upd2 N 134 o (r1 o)) w (itS s0 (i + 1)) := by
      rw [← hs']
      refine ⟨kF _, kR _, ⟨by rw [kO _ _ _ (by decide)]; exact f3, by rw [kO _ _ _ (by decide)]; exact f4⟩, ⟨by rw [kO _ _ _ (by decide)]; exact f5, by rw [kO _ _ _ (by decide)]; exact f6, by rw [kO _ _ _ (by decide)]; exact f7, by rw [kO _ _ _ (by decide)]; exact f8⟩, fun k a b => ?_⟩
      simp only
      rw [upd2_at]
      by_cases ek : k = o
      · rw [if_pos ⟨rfl, ek⟩, ek]
      · rw [if_neg (fun hh => ek hh.2)]; exact f9 k a b
    have mu' : muE w1 r1 (l1 + 1) < muE w1 r1 l1 := by
      rw [m1']
      unfold muE
      by_cases c5 : l1 + 1 < w1 9 ∧ stp w1 (l1 + 1) 0 = 25
      · rw [if_pos c5, if_neg (mN c5.1 c5.2)]; omega
      · rw [if_neg c5]; omega
    refine ih _ _ ?_ ⟨i + 1, ?_, enc', ?_, ?_, ?_⟩
    · rw [hmuq]
      have := muq (upd2 N 134 o (r1 o)) (itS s0 (i + 1)) enc'.2.1 li'.1.1 enc'.2.2.2.2 (l1 + 1) (by omega)
      rw [this, ← hs']; exact mu'
    · rw [← hs']
    · rw [← hs']
    · rw [← hs']; exact hdn
    · rw [← hs']; simp only; omega
