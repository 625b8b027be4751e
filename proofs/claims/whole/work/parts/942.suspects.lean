/-! suspects -/
theorem ior_z (a b : Int) : iorv (iorv a b) 0 = iorv a b := by
  unfold iorv
  rw [Int32.ofInt_toInt, show Int32.ofInt 0 = 0 from rfl]; simp
theorem setZ_0 {p : Int → Prop} [DecidablePred p] {n : Int} (h : 0 ≤ n) : iorv (setZ p n) 0 = setZ p n := by
  by_cases c : n = 0
  · subst c; show iorv 0 0 = 0; decide
  · obtain ⟨k, rfl⟩ : ∃ k, n = k + 1 := ⟨n - 1, by omega⟩
    rw [setZ_s p (by omega)]; exact ior_z _ _
def hasZ (g : Int → Int) (n : Int) : Int := setZ (fun f => g f ≠ -1) n
def lesZ (w : Int → Int) (g : Int → Int) (n : Int) : Int := setZ (fun f => g f ≠ -1 ∧ g f < rtG w (w 0) (-1) f / litre w) n
def susZ (w : Int → Int) (g : Int → Int) (n : Int) : Int := setZ (fun r => lesZ w g (w 5) ≠ 0 ∧ lesZ w g (w 5) = iandv (setZ (fun f => bel w f r) (w 5)) (hasZ g (w 5))) n
def suspQ (w : Int → Int) (t n : Int) (g : Int → Int) : Ans := if whyG t (w 5) n 999 g = 0 then (susZ w g (w 3), 0, none) else (-1, whyG t (w 5) n 999 g, none)
theorem whyG_z {t c n most : Int} {g : Int → Int} (h : whyG t c n most g = 0) : 0 ≤ t ∧ t < 4 ∧ n ≠ -1 ∧ c ≤ n ∧ okIn g most c = true := by
  unfold whyG at h
  split at h
  · omega
  · split at h
    · omega
    · split at h
      · omega
      · split at h
        · rename_i h1 h2 h3 h4
          exact ⟨by omega, by omega, h2, by omega, h4⟩
        · omega
theorem c_suspects {M : Mem} {v : Int} {w : Int → Int} (hc : CI M v w) (hwf : WF w) (ht : LTr M) (hm : ∀ t, 0 ≤ t → t < 4 → -1 ≤ M 9 t ∧ M 9 t ≤ 60) (t : Int) : Tot (f_X11_suspects 1 t M) (AC (suspQ w t (M 9 t) (M (4 + t))) M) := by
  have L := wf_l hwf
  obtain ⟨a, b, c, d, e⟩ := ci_p hc
  obtain ⟨g1, g2, g3, g4, g5, g6, g7⟩ := ci_n hc
  unfold f_X11_suspects suspQ
  rw [t_getf, a, t_getf, c, t_getf, ht.1, t_getf, g5, t_nn, whyNoGauge_e ht hm t (w 5) 999 (by omega), t_callp, t_some, t_ite]
  refine ⟨by decide, by decide, by decide, e, by decide, fun h1 => ?_, fun h1 => by rw [if_neg h1]; exact zCr (kc M) _⟩
  rw [if_pos h1, t_call]
  obtain ⟨t0, t1, t2, t3, t4⟩ := whyG_z h1
  refine sweptWorld_e hc hwf (fun M' k1 k2 k3 => ?_)
  try dsimp only
  obtain ⟨a', b', c', d', e'⟩ := ci_p k2
  obtain ⟨x1, x2, x3, x4, x5, x6, x7⟩ := ci_n k2
  have hm60 := hm t t0 t1
  have q0 : M' 1 0 = 2 := by rw [k1 _ _ (by unfold SC; omega)]; exact ht.1
  have q1 : M' 2 0 = 3 := by rw [k1 _ _ (by unfold SC; omega)]; exact ht.2.1
  have q2 : M' 3 (-1) = 4 := by rw [k1 _ _ (by unfold SC; omega)]; exact ht.2.2.2.2.1
  have q3 : M' 3 t = 4 + t := by rw [k1 _ _ (by unfold SC; omega)]; exact ht.2.2.2.2.2.2.2.1 t t0 t1
  have q4 : M' (4 + t) (-1) = 60 := by rw [k1 _ _ (by unfold SC; omega)]; exact ht.2.2.2.2.2.2.2.2 (4 + t) (by omega) (by omega)
  have q5 : ∀ k, M' (4 + t) k = M (4 + t) k := fun k => k1 _ _ (by unfold SC; omega)
  have mx : (if (1 : Int) < litre w then litre w else 1) = litre w := by split <;> omega
  obtain ⟨g, eg⟩ : ∃ g, g = M (4 + t) := ⟨_, rfl⟩
  rw [← eg] at t4 h1 ⊢
  refine lpIII (fun x y p => 0 ≤ p ∧ p ≤ w 5 ∧ x = hasZ g p ∧ y = lesZ w g p) (fun _ _ p => (w 5 - p).toNat) ?_ (by unfold KF; omega) ⟨by omega, by omega, rfl, rfl⟩
  rintro n x y p ⟨i0, i1, i2, i3⟩ ih
  unfold f_X11_suspects_L49
  rw [t_getf, x5, t_ite]
  refine ⟨e, fun c1 => ?_, fun c1 => ?_⟩
  · have hp : p = w 5 := by omega
    subst hp
    refine lpII (fun z r => 0 ≤ r ∧ r ≤ w 3 ∧ z = susZ w g r) (fun _ r => (w 3 - r).toNat) ?_ (by unfold KF; omega) ⟨by omega, by omega, rfl⟩
    rintro n2 z r ⟨j0, j1, j2⟩ ih2
    unfold f_X11_suspects_L138
    rw [t_getf, x3, t_ite]
    refine ⟨e, fun c2 => by rw [j2, show r = w 3 by omega]; exact zCa k1 _, fun c2 => ?_⟩
    have ss : susZ w g (r + 1) = iorv (susZ w g r) (if lesZ w g (w 5) ≠ 0 ∧ lesZ w g (w 5) = iandv (setZ (fun f => bel w f r) (w 5)) (hasZ g (w 5)) then ishlv 1 r else 0) := setZ_s _ j0
    have sz : iorv (susZ w g r) 0 = susZ w g r := setZ_0 j0
    rw [w32_s (x := r + 1) (by omega) (by omega)]
    refine t_jv (susZ w g (r + 1)) (ih2 _ _ (by omega) ⟨by omega, by omega, rfl⟩) (fun j hj => ?_)
    rw [ss] at hj
    rw [t_ite]
    refine ⟨fun c3 => ?_, fun c3 => ?_⟩
    · rw [if_neg (fun hh => hh.1 (by rw [← i3]; exact c3)), sz, ← j2] at hj; exact hj
    · rw [t_nn, fieldsBelow_e k2 hwf.1 hwf.2.1 hwf.2.2.1 j0 (by omega), t_callp, t_some, t_ite, t_letv]
      refine ⟨e, fun c4 => ?_, fun c4 => ?_⟩
      · rw [if_neg (fun hh => c4 (by rw [i3, i2]; exact hh.2)), sz, ← j2] at hj; exact hj
      · rw [if_pos ⟨by rw [← i3]; exact c3, by rw [← i3, ← i2]; exact Classical.not_not.mp c4⟩, ← j2] at hj; exact hj
  · have ok := okIn_le t4 i0 (show p < w 5 by omega)
    have gp : M' (4 + t) p = g p := by rw [q5, eg]
    have hs : hasZ g (p + 1) = iorv (hasZ g p) (if g p ≠ -1 then ishlv 1 p else 0) := setZ_s _ i0
    have ls : lesZ w g (p + 1) = iorv (lesZ w g p) (if g p ≠ -1 ∧ g p < rtG w (w 0) (-1) p / litre w then ishlv 1 p else 0) := setZ_s _ i0
    have hz : iorv (hasZ g p) 0 = hasZ g p := setZ_0 i0
    have lz : iorv (lesZ w g p) 0 = lesZ w g p := setZ_0 i0
    have rl := rt_le hwf.1 hwf.2.1 hwf.2.2.1 (h := w 0) (by omega) (by omega) (-1) i0 (show p < w 5 by omega)
    rw [t_getf, q0, t_getf, q1, t_geti, q2, q3, t_geti, q4, gp, w32_s (x := p + 1) (by omega) (by omega)]
    refine ⟨by decide, by decide, by decide, t0, t1, by omega, i0, by omega, t_jq (fun j => ∀ x y, x = hasZ g (p + 1) → y = lesZ w g (p + 1) → Tot (j x y) (AC (susZ w g (w 3), 0, none) M)) (fun x y hx hy => ih _ _ _ (by omega) ⟨by omega, by omega, hx, hy⟩) (fun j hj => ?_)⟩
    rw [t_ite]
    refine ⟨fun c2 => hj _ _ ?_ ?_, fun c2 => ?_⟩
    · rw [hs, if_neg (by simpa using c2), hz, i2]
    · rw [ls, if_neg (fun hh => hh.1 c2), lz, i3]
    · rw [t_letv, t_nn, rateOf_e k2 hwf.1 hwf.2.2.1 k3.1 i0 (by omega), t_callp, t_some, t_getf, x7, maxl_e, t_callp, t_some, mx, t_ldivc, ldiv_p rl.1 (by omega) (by omega)]
      refine ⟨by decide, e, by omega, t_jv (if g p < rtG w (w 0) (-1) p / litre w then ishlv 1 p else 0) ?_ (fun j2 hj2 => ?_)⟩
      · rw [t_letv]
        refine hj _ _ (by rw [hs, if_pos c2, i2]) ?_
        rw [ls, i3]
        by_cases c3 : g p < rtG w (w 0) (-1) p / litre w
        · rw [if_pos c3, if_pos ⟨c2, c3⟩]
        · rw [if_neg c3, if_neg (fun hh => c3 hh.2)]
      · rw [t_ite]
        exact ⟨fun c3 => by rw [if_neg (by omega)] at hj2; exact hj2, fun c3 => by rw [if_pos (by omega)] at hj2; exact hj2⟩
theorem r_suspects {M : Mem} {w : Int → Int} (h : RI M w (-1)) (hwf : WF w) (hm : ∀ t, 0 ≤ t → t < 4 → -1 ≤ M 123 t ∧ M 123 t ≤ 60) (t : Int) : Tot (f_X12_suspects 119 t M) (AR (suspQ w t (M 123 t) (fun k => M 124 (60 * t + k))) M) := by
  have L := wf_l hwf
  obtain ⟨a, b, ww⟩ := ri_at h
  have ht : LTrR M := ⟨h.1.1.2.2.1, h.1.1.2.2.2.1, h.1.1.2.2.2.2.1, h.1.2.2.2.1, h.1.2.2.2.2.1, h.1.2.2.2.2.2.1⟩
  unfold f_X12_suspects suspQ
  rw [t_getf, a, t_geti, b, ww, wrongGauge_e ht hm t (w 5) 999 (by omega) (by omega), t_callp, t_some, t_ite]
  have w0 : 0 ≤ whyG t (w 5) (M 123 t) 999 (fun k => M 124 (60 * t + k)) := by
    unfold whyG
    split
    · omega
    · split
      · omega
      · split
        · omega
        · split <;> omega
  refine ⟨by decide, by decide, by decide, by decide, fun h1 => ?_, fun h1 => by rw [if_neg (by omega)]; exact zRr (kr M) _⟩
  have h1 : whyG t (w 5) (M 123 t) 999 (fun k => M 124 (60 * t + k)) = 0 := by omega
  rw [if_pos h1]
  obtain ⟨t0, t1, t2, t3, t4⟩ := whyG_z h1
  obtain ⟨g, eg⟩ : ∃ g : Int → Int, g = fun k => M 124 (60 * t + k) := ⟨_, rfl⟩
  rw [← eg] at t4 ⊢
  refine lpIIIM (fun x y p N => 0 ≤ p ∧ p ≤ w 5 ∧ x = hasZ g p ∧ y = lesZ w g p ∧ ∀ a j, ¬ SR a j → N a j = M a j) (fun _ _ p _ => (w 5 - p).toNat) ?_ (by unfold KF; omega) ⟨by omega, by omega, rfl, rfl, kr M⟩
  rintro n x y p N ⟨i0, i1, i2, i3, i4⟩ ih
  have hN := ri_k h i4
  obtain ⟨a', b', ww'⟩ := ri_at hN
  unfold f_X12_suspects_L33
  rw [t_getf, a', t_geti, b', ww', t_ite]
  refine ⟨by decide, by decide, by decide, by decide, fun c1 => ?_, fun c1 => ?_⟩
  · have hp : p = w 5 := by omega
    subst hp
    refine lpII (fun z r => 0 ≤ r ∧ r ≤ w 3 ∧ z = susZ w g r) (fun _ r => (w 3 - r).toNat) ?_ (by unfold KF; omega) ⟨by omega, by omega, rfl⟩
    rintro n2 z r ⟨j0, j1, j2⟩ ih2
    unfold f_X12_suspects_L127
    rw [t_getf, a', t_geti, b', ww', t_ite]
    refine ⟨by decide, by decide, by decide, by decide, fun c2 => by rw [j2, show r = w 3 by omega]; exact zRa i4 _, fun c2 => ?_⟩
    have ss : susZ w g (r + 1) = iorv (susZ w g r) (if lesZ w g (w 5) ≠ 0 ∧ lesZ w g (w 5) = iandv (setZ (fun f => bel w f r) (w 5)) (hasZ g (w 5)) then ishlv 1 r else 0) := setZ_s _ j0
    refine t_jv (if lesZ w g (w 5) ≠ 0 ∧ lesZ w g (w 5) = iandv (setZ (fun f => bel w f r) (w 5)) (hasZ g (w 5)) then ishlv 1 r else 0) ?_ (fun j hj => ?_)
    · rw [t_letv, w32_s (by omega) (by omega)]
      exact ih2 _ _ (by omega) ⟨by omega, by omega, by rw [ss, j2]⟩
    · rw [t_jn, t_ite, belowOf_e hN hwf.1 hwf.2.1 hwf.2.2.1, t_callp, t_some, t_ite]
      refine ⟨fun c3 => ?_, fun c3 => ⟨fun c4 => ?_, fun c4 => ?_⟩⟩
      · rw [if_neg (fun hh => hh.1 (by rw [← i3]; exact c3))] at hj; exact hj
      · rw [if_neg (fun hh => c4 (by rw [i3, i2]; exact hh.2))] at hj; exact hj
      · rw [if_pos ⟨by rw [← i3]; exact c3, by rw [← i3, ← i2]; exact Classical.not_not.mp c4⟩] at hj; exact hj
  · have ok := okIn_le t4 i0 (show p < w 5 by omega)
    have p7 : N 119 7 = 124 := hN.1.1.2.2.2.2.1
    have l7 : N 124 (-1) = 240 := hN.1.2.2.2.2.2.1
    have hm60 := hm t t0 t1
    have gp : N 124 (60 * t + p) = g p := by rw [i4 _ _ (by unfold SR; omega), eg]
    have hs : hasZ g (p + 1) = iorv (hasZ g p) (if g p ≠ -1 then ishlv 1 p else 0) := setZ_s _ i0
    have ls : lesZ w g (p + 1) = iorv (lesZ w g p) (if g p ≠ -1 ∧ g p < rtG w (w 0) (-1) p / litre w then ishlv 1 p else 0) := setZ_s _ i0
    have rl := rt_le hwf.1 hwf.2.1 hwf.2.2.1 (h := w 0) (by omega) (by omega) (-1) i0 (show p < w 5 by omega)
    rw [t_getf, p7, w32_s (x := 60 * t) (by omega) (by omega), w32_s (x := 60 * t + p) (by omega) (by omega), t_geti, l7, gp, w32_s (x := p + 1) (by omega) (by omega)]
    refine ⟨by decide, by decide, by omega, by omega, t_jv (if g p ≠ -1 then ishlv 1 p else 0) ?_ (fun j hj => ?_)⟩
    · rw [t_letv, i2, ← hs]
      refine t_jvm (fun z R => z = (if g p ≠ -1 ∧ g p < rtG w (w 0) (-1) p / litre w then ishlv 1 p else 0) ∧ ∀ a j, ¬ SR a j → R a j = M a j) (fun z R hz => ?_) (fun j hj => ?_)
      · rw [t_letv]
        exact ih _ _ _ _ (by omega) ⟨by omega, by omega, rfl, by rw [hz.1, ls, i3], hz.2⟩
      · rw [t_jn, t_ite]
        refine ⟨fun c2 => hj _ _ ⟨by rw [if_neg (by omega)], i4⟩, fun c2 => ?_⟩
        rw [t_call]
        refine rateR_e hN hwf i0 (by omega) (fun M2 k2 => ?_)
        try dsimp only
        rw [litR_e (ri_k hN k2) hwf, t_callp, t_some, t_ldivc, ldiv_p rl.1 (by omega) (by omega), t_ite]
        exact ⟨by omega, fun c3 => hj _ _ ⟨by rw [if_neg (by omega)], sr_t i4 k2⟩, fun c3 => hj _ _ ⟨by rw [if_pos (by omega)], sr_t i4 k2⟩⟩
    · rw [t_ite]
      refine ⟨fun c2 => by rw [if_pos c2] at hj; exact hj, fun c2 => by rw [if_neg c2] at hj; exact hj⟩
