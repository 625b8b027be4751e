/-! bestSwap -/
theorem swapO_t {w : Int → Int} (hn : w 5 ≤ 10) (a b : Int) : swapO (swapO w a b) a b = w := by
  have e5 : swapO w a b 5 = w 5 := swapO_o (by omega) hn
  funext j
  by_cases h : 112 ≤ j ∧ j < 112 + w 5
  · have : swapO w a b j = swp a b (w j) := by unfold swapO; rw [if_pos h]
    show (if 112 ≤ j ∧ j < 112 + swapO w a b 5 then swp a b (swapO w a b j) else swapO w a b j) = w j
    rw [e5, if_pos h, this, swp_s]
  · have : swapO w a b j = w j := by unfold swapO; rw [if_neg h]
    show (if 112 ≤ j ∧ j < 112 + swapO w a b 5 then swp a b (swapO w a b j) else swapO w a b j) = w j
    rw [e5, if_neg h, this]
def swG (w : Int → Int) (i j : Int) : Int := alW (swapO w (od w i) (od w j)) (w 0) (-1) - alW w (w 0) (-1)
abbrev Bs : Type := Int × Int × Int
def bsS (w : Int → Int) (i j : Int) (s : Bs) : Bs := if s.1 < swG w i j then (swG w i j, od w i, od w j) else s
def bsI (w : Int → Int) (i : Int) (s : Bs) (j : Int) : Bs := foldZ (fun d s => bsS w i (i + 1 + d) s) s (j - (i + 1))
def bsO (w : Int → Int) (p : Int) : Bs := foldZ (fun i s => bsI w i s (w 5)) (0, -1, -1) p
theorem bsI_0 (w : Int → Int) (i : Int) (s : Bs) : bsI w i s (i + 1) = s := by unfold bsI; rw [Int.sub_self]; rfl
theorem bsI_s {w : Int → Int} {i j : Int} (s : Bs) (h : i + 1 ≤ j) : bsI w i s (j + 1) = bsS w i j (bsI w i s j) := by
  unfold bsI
  rw [show j + 1 - (i + 1) = (j - (i + 1)) + 1 by omega, foldZ_s _ _ (by omega), show i + 1 + (j - (i + 1)) = j by omega]
theorem bsO_s {w : Int → Int} {p : Int} (h : 0 ≤ p) : bsO w (p + 1) = bsI w p (bsO w p) (w 5) := foldZ_s _ _ h
def BsI (w : Int → Int) (s : Bs) : Prop := 0 ≤ s.1 ∧ s.1 ≤ 890718434780774400 ∧ (s.2.1 = -1 ∧ s.2.2 = -1 ∨ 0 ≤ s.2.1 ∧ s.2.1 < w 5 ∧ 0 ≤ s.2.2 ∧ s.2.2 < w 5)
theorem bs0 (w : Int → Int) : BsI w (bsO w 0) := by
  show BsI w (0, -1, -1)
  exact ⟨by simp, by simp, .inl ⟨rfl, rfl⟩⟩
theorem sw_le {w : Int → Int} (hwf : WF w) (h8 : w 8 = 0) {i j : Int} (i0 : 0 ≤ i) (i1 : i < w 5) (j0 : 0 ≤ j) (j1 : j < w 5) : -890718434780774400 ≤ swG w i j ∧ swG w i j ≤ 890718434780774400 := by
  have L := wf_l hwf
  have ws := swap_wf hwf i0 i1 j0 j1 h8
  have a := al_le hwf.1 hwf.2.1 hwf.2.2.1 hwf.2.2.2.1 (h := w 0) (by omega) (by omega) (-1)
  have b := al_le ws.1 ws.2.1 ws.2.2.1 ws.2.2.2.1 (h := w 0) (by omega) (by omega) (-1)
  unfold swG; omega
theorem bsS_i {w : Int → Int} (hwf : WF w) (h8 : w 8 = 0) {i j : Int} (i0 : 0 ≤ i) (i1 : i < w 5) (j0 : 0 ≤ j) (j1 : j < w 5) {s : Bs} (hs : BsI w s) : BsI w (bsS w i j s) := by
  have b := sw_le hwf h8 i0 i1 j0 j1
  have o1 := hwf.2.2.2.1.1 i i0 i1
  have o2 := hwf.2.2.2.1.1 j j0 j1
  unfold bsS
  by_cases c : s.1 < swG w i j
  · rw [if_pos c]
    have := hs.1
    exact ⟨by simp only; omega, by simp only; omega, .inr ⟨o1.1, o1.2, o2.1, o2.2⟩⟩
  · rw [if_neg c]; exact hs
theorem waterIfSwapped_e {N : Mem} {v : Int} {w : Int → Int} {Q : Int × Mem → Prop} (hc : CI N v w) (hwf : WF w) (h8 : w 8 = 0) {i j : Int} (i0 : 0 ≤ i) (i1 : i < w 5) (j0 : 0 ≤ j) (j1 : j < w 5) (hq : ∀ M', (∀ a k, ¬ SC a k → M' a k = N a k) → CI M' v w → Q (alW (swapO w (od w i) (od w j)) (w 0) (-1), M')) : Tot (f_X11_waterIfSwapped 1 (od w i) (od w j) N) Q := by
  have L := wf_l hwf
  obtain ⟨a, b, c, d, e⟩ := ci_p hc
  have ws := swap_wf hwf i0 i1 j0 j1 h8
  have e5 : swapO w (od w i) (od w j) 5 = w 5 := swapO_o (by omega) (by omega)
  have e8 : swapO w (od w i) (od w j) 8 = w 8 := swapO_o (by omega) (by omega)
  have e0 : swapO w (od w i) (od w j) 0 = w 0 := swapO_o (by omega) (by omega)
  unfold f_X11_waterIfSwapped
  rw [t_getf, a, t_nn, t_call]
  refine ⟨by decide, by decide, changePlaces_e hc hwf.1 (od w i) (od w j) (fun h => by omega) (fun _ M1 k1 x1 c1 => ?_)⟩
  try dsimp only
  rw [t_call]
  refine sweptWorld_e c1 ws (fun M2 k2 c2 s2 => ?_)
  try dsimp only
  obtain ⟨a', b', c', d', e'⟩ := ci_p c2
  have aw := allWater_e c2 ws.1 ws.2.1 ws.2.2.1 ws.2.2.2.1 (by rw [e0]; exact L.2.2.1) (by rw [e0]; exact L.2.2.2.1) s2.1 s2.2.1
  rw [e0] at aw
  rw [t_getf, a', t_getf, c', t_nn, aw, t_callp, t_some, t_getf, a', t_nn, t_call]
  refine ⟨by decide, by decide, by decide, by decide, by decide, changePlaces_e c2 ws.1 (od w i) (od w j) (fun h => by omega) (fun _ M3 k3 x3 c3 => ?_)⟩
  try dsimp only
  rw [t_some]
  have fr : ∀ a k, ¬ SC a k → M3 a k = N a k := fun a k ha => by
    rw [x3, e5]
    by_cases hh : a = 49 ∧ 0 ≤ k ∧ k < w 5
    · rw [if_pos hh, k2 49 k (by unfold SC; omega), x1, if_pos ⟨rfl, hh.2⟩, swp_s, hh.1]
    · rw [if_neg hh, k2 a k ha, x1, if_neg hh]
  exact hq M3 fr (ci_s hwf.1 hc fr)
def bestSwapS (w : Int → Int) (x : Int) : Ans := if 0 ≤ x ∧ x ≤ 1 then (if 0 < w 8 then (-1, 7, none) else bestA w ((bsO w (w 5)).1, if x = 0 then (bsO w (w 5)).2.1 else (bsO w (w 5)).2.2)) else (-1, 1, none)
theorem c_bestSwap {M : Mem} {v : Int} {w : Int → Int} (hc : CI M v w) (hwf : WF w) (x : Int) : Tot (f_X11_bestSwap 1 x M) (AC (bestSwapS w x) M) := by
  have L := wf_l hwf
  have hn := hwf.1
  unfold WFn at hn
  obtain ⟨a, b, c, d, e⟩ := ci_p hc
  have e8 : M 48 3 = w 8 := hc.2.2.2.2.2.2.1.2.2.2
  have o4 : M 48 4 = 49 := hc.2.2.2.1.1.1
  have ab := al_le hwf.1 hwf.2.1 hwf.2.2.1 hwf.2.2.2.1 (h := w 0) (by omega) (by omega) (-1)
  unfold f_X11_bestSwap bestSwapS
  rw [isWithin_e, t_callp, t_some, t_ite, n10]
  refine ⟨fun h1 => ?_, fun h1 => by rw [if_neg h1]; exact zCr (kc M) 1⟩
  rw [if_pos h1, t_getf, a, t_getf, d, t_getf, e8, t_ite]
  refine ⟨by decide, by decide, by decide, fun h2 => ?_, fun h2 => by rw [if_pos (by omega)]; exact zCr (kc M) 7⟩
  have h8 : w 8 = 0 := by omega
  rw [if_neg (by omega), t_getf, a, t_getf, d, t_getf, o4, t_call]
  refine ⟨by decide, by decide, by decide, sweptWorld_e hc hwf (fun M' k1 k2 k3 => ?_)⟩
  try dsimp only
  obtain ⟨a', b', c', d', e'⟩ := ci_p k2
  rw [t_getf, a', t_getf, c', t_nn, allWater_e k2 hwf.1 hwf.2.1 hwf.2.2.1 hwf.2.2.2.1 L.2.2.1 L.2.2.2.1 k3.1 k3.2.1, t_callp, t_some]
  refine ⟨by decide, by decide, by decide, ?_⟩
  refine lpIIIM (fun y z p N => 0 ≤ p ∧ p ≤ w 5 ∧ y = (bsO w p).1 ∧ z = (if x = 0 then (bsO w p).2.1 else (bsO w p).2.2) ∧ BsI w (bsO w p) ∧ (∀ a k, ¬ SC a k → N a k = M a k) ∧ CI N v w) (fun _ _ p _ => (w 5 - p).toNat) ?_ (by unfold KF; omega) ⟨by omega, by omega, rfl, by show _ = if x = 0 then (-1 : Int) else -1; split <;> rfl, bs0 w, k1, k2⟩
  rintro n y z p N ⟨i0, i1, i2, i3, i4, i5, i6⟩ ih
  obtain ⟨a2, b2, c2, d2, e2⟩ := ci_p i6
  obtain ⟨g1, g2, g3, g4, g5, g6, g7⟩ := ci_n i6
  unfold f_X11_bestSwap_L70
  rw [t_getf, a2, t_getf, c2, t_getf, g5, t_ite]
  refine ⟨by decide, by decide, e2, fun h3 => ?_, fun h3 => ?_⟩
  · have hp : p = w 5 := by omega
    subst hp
    rw [i2, i3]
    exact tellBest_e i5 i6 hwf i4.1 (by have := i4.2.1; omega)
  · rw [t_letv, w32_s (x := p + 1) (by omega) (by omega)]
    refine lpIIIM (fun y z q R => p + 1 ≤ q ∧ q ≤ w 5 ∧ y = (bsI w p (bsO w p) q).1 ∧ z = (if x = 0 then (bsI w p (bsO w p) q).2.1 else (bsI w p (bsO w p) q).2.2) ∧ BsI w (bsI w p (bsO w p) q) ∧ (∀ a k, ¬ SC a k → R a k = M a k) ∧ CI R v w) (fun _ _ q _ => (w 5 - q).toNat) ?_ (by unfold KF; omega) ⟨by omega, by omega, by rw [bsI_0]; exact i2, by rw [bsI_0]; exact i3, by rw [bsI_0]; exact i4, i5, i6⟩
    rintro n2 y2 z2 q R ⟨j0, j1, j2, j3, j4, j5, j6⟩ ih2
    obtain ⟨a3, b3, c3, d3, e3⟩ := ci_p j6
    obtain ⟨_, _, _, _, q5, _, _⟩ := ci_n j6
    unfold f_X11_bestSwap_L91
    rw [t_getf, a3, t_getf, c3, t_getf, q5, t_ite]
    refine ⟨by decide, by decide, e3, fun h4 => ?_, fun h4 => ?_⟩
    · have hq : q = w 5 := by omega
      subst hq
      have es := bsO_s (w := w) i0
      exact ih _ _ _ _ (by omega) ⟨by omega, by omega, by rw [es]; exact j2, by rw [es]; exact j3, by rw [es]; exact j4, j5, j6⟩
    · have oi : R 49 p = od w p := j6.2.2.2.2.2.2.2.1 p i0 (by omega)
      have oj : R 49 q = od w q := j6.2.2.2.2.2.2.2.1 q (by omega) (by omega)
      have ol : R 49 (-1) = 10 := j6.2.2.2.1.2.1
      have sl := sw_le hwf h8 i0 (show p < w 5 by omega) (show 0 ≤ q by omega) (show q < w 5 by omega)
      rw [t_geti, ol, oi, t_geti, ol, oj, t_call]
      refine ⟨by decide, i0, by omega, by decide, by omega, by omega, waterIfSwapped_e j6 hwf h8 i0 (by omega) (by omega) (by omega) (fun R2 kR cR => ?_)⟩
      try dsimp only
      have oi2 : R2 49 p = od w p := cR.2.2.2.2.2.2.2.1 p i0 (by omega)
      have oj2 : R2 49 q = od w q := cR.2.2.2.2.2.2.2.1 q (by omega) (by omega)
      have ol2 : R2 49 (-1) = 10 := cR.2.2.2.1.2.1
      have eg : alW (swapO w (od w p) (od w q)) (w 0) (-1) - alW w (w 0) (-1) = swG w p q := rfl
      have bs := bsI_s (w := w) (bsO w p) j0
      have bi := bsS_i hwf h8 i0 (show p < w 5 by omega) (show 0 ≤ q by omega) (show q < w 5 by omega) j4
      rw [← bs] at bi
      have kk := sc_t j5 kR
      rw [t_letv, eg, w64_s (by omega) (by omega), w32_s (x := q + 1) (by omega) (by omega), t_jn, t_ite]
      unfold bsS at bs
      rw [← j2] at bs
      refine ⟨fun h5 => ih2 _ _ _ _ (by omega) ⟨by omega, by omega, ?_, ?_, bi, kk, cR⟩, fun h5 => ?_⟩
      · rw [if_neg (by omega)] at bs; rw [bs]; exact j2
      · rw [if_neg (by omega)] at bs; rw [bs]; exact j3
      · rw [if_pos (by omega)] at bs
        refine t_jv (if x = 0 then od w p else od w q) (ih2 _ _ _ _ (by omega) ⟨by omega, by omega, by rw [bs], by rw [bs], bi, kk, cR⟩) (fun j hj => ?_)
        rw [t_ite, t_geti, ol2, oj2, t_geti, ol2, oi2]
        refine ⟨fun h6 => ⟨by decide, by omega, by omega, by rw [if_neg h6] at hj; exact hj⟩, fun h6 => ⟨by decide, i0, by omega, by rw [if_pos (by simpa using h6)] at hj; exact hj⟩⟩
theorem r_bestSwap {M : Mem} {w : Int → Int} (h : RI M w (-1)) (hwf : WF w) (x : Int) : Tot (f_X12_bestSwap 119 x M) (AR (bestSwapS w x) M) := by
  have L := wf_l hwf
  have hn := hwf.1
  unfold WFn at hn
  obtain ⟨a, b, ww⟩ := ri_at h
  have ab := al_le hwf.1 hwf.2.1 hwf.2.2.1 hwf.2.2.2.1 (h := w 0) (by omega) (by omega) (-1)
  unfold f_X12_bestSwap bestSwapS
  rw [t_jn, t_ite]
  refine ⟨fun h1 => by rw [if_neg (by omega)]; exact zRr (kr M) 1, fun h1 => ?_⟩
  rw [t_ite]
  refine ⟨fun h2 => ?_, fun h2 => by rw [if_neg (by omega)]; exact zRr (kr M) 1⟩
  rw [if_pos (by omega), t_getf, a, t_geti, b, ww, t_ite]
  refine ⟨by decide, by decide, by decide, by decide, fun h3 => ?_, fun h3 => by rw [if_pos (by omega)]; exact zRr (kr M) 7⟩
  have h8 : w 8 = 0 := by omega
  rw [if_neg (by omega), t_call]
  refine allWaterR_e h hwf (fun M1 k1 => ?_)
  try dsimp only
  refine lpIIIIM (fun y z1 z2 p N => 0 ≤ p ∧ p ≤ w 5 ∧ (y, z1, z2) = bsO w p ∧ BsI w (bsO w p) ∧ ∀ a k, ¬ SR a k → N a k = M a k) (fun _ _ _ p _ => (w 5 - p).toNat) ?_ (by unfold KF; omega) ⟨by omega, by omega, rfl, bs0 w, k1⟩
  rintro n y z1 z2 p N ⟨i0, i1, i2, i4, i5⟩ ih
  have hN := ri_k h i5
  obtain ⟨a2, b2, w2⟩ := ri_at hN
  unfold f_X12_bestSwap_L49
  rw [t_getf, a2, t_geti, b2, w2, t_ite]
  refine ⟨by decide, by decide, by decide, by decide, fun h4 => ?_, fun h4 => ?_⟩
  · have hp : p = w 5 := by omega
    subst hp
    rw [← i2] at i4 ⊢
    have bi := i4
    unfold BsI at bi
    simp only at bi ⊢
    unfold bestA
    rw [t_ite]
    refine ⟨fun h5 => ?_, fun h5 => ?_⟩
    · rw [litR_e hN hwf, t_callp, t_some, tb_e N bi.1 (by omega) L.1 L.2.1, t_call, t_some, t_jn, t_ite]
      refine ⟨fun h6 => by simp at h6, fun _ => ?_⟩
      simp only
      rw [if_neg (by split <;> omega)]
      refine t_jv (if x = 0 then z1 else z2) ?_ (fun j hj => ?_)
      · rw [gives_e, t_call, t_some, t_some, frR_s]
        exact ar_fr i5 _ _ _
      · rw [t_ite]
        refine ⟨fun h6 => ?_, fun h6 => ?_⟩
        · simp only [if_neg h6] at hj ⊢; exact hj
        · have h6' : x = 0 := by simpa using h6
          simp only [if_pos h6'] at hj ⊢; exact hj
    · simp only
      have z1' : z1 = -1 := by simpa using h5
      rw [if_pos (by split <;> omega)]; exact zRr i5 6
  · rw [t_letv, w32_s (x := p + 1) (by omega) (by omega)]
    refine lpIIIIM (fun y z1 z2 q R => p + 1 ≤ q ∧ q ≤ w 5 ∧ (y, z1, z2) = bsI w p (bsO w p) q ∧ BsI w (bsI w p (bsO w p) q) ∧ ∀ a k, ¬ SR a k → R a k = M a k) (fun _ _ _ q _ => (w 5 - q).toNat) ?_ (by unfold KF; omega) ⟨by omega, by omega, by rw [bsI_0]; exact i2, by rw [bsI_0]; exact i4, i5⟩
    rintro n2 y2 u1 u2 q R ⟨j0, j1, j2, j4, j5⟩ ih2
    have hR := ri_k h j5
    obtain ⟨a3, b3, w3⟩ := ri_at hR
    unfold f_X12_bestSwap_L66
    rw [t_getf, a3, t_geti, b3, w3, t_ite]
    refine ⟨by decide, by decide, by decide, by decide, fun h5 => ?_, fun h5 => ?_⟩
    · have hq : q = w 5 := by omega
      subst hq
      have es := bsO_s (w := w) i0
      exact ih _ _ _ _ _ (by omega) ⟨by omega, by omega, by rw [es]; exact j2, by rw [es]; exact j4, j5⟩
    · have op : w (112 + p) = od w p := rfl
      have oq : w (112 + q) = od w q := rfl
      have sl := sw_le hwf h8 i0 (show p < w 5 by omega) (show 0 ≤ q by omega) (show q < w 5 by omega)
      have ws := swap_wf hwf i0 (show p < w 5 by omega) (show 0 ≤ q by omega) (show q < w 5 by omega) h8
      have e5 : swapO w (od w p) (od w q) 5 = w 5 := swapO_o (by omega) (by omega)
      have e0 : swapO w (od w p) (od w q) 0 = w 0 := swapO_o (by omega) (by omega)
      rw [t_getf, a3, t_geti, b3, w3, w32_s (x := 112 + p) (by omega) (by omega), op, t_getf, a3, t_geti, b3, w3, w32_s (x := 112 + q) (by omega) (by omega), oq, t_callv]
      have sw1 := swaps_e (M := R) (Q := fun Z => Z 120 = swapO w (od w p) (od w q) ∧ ∀ a j, a ≠ 120 → Z a j = R a j) hR.1 (by rw [hR.2.1]; exact hwf.1) (by rw [hR.2.1]; exact hwf.2.2.2.1) (i := p) (k := q) i0 (by rw [hR.2.1]; omega) (by omega) (by rw [hR.2.1]; omega) (by omega) (fun Z z1 z2 => by
        rw [hR.2.1] at z1
        exact ⟨z1, z2⟩)
      rw [hR.2.1] at sw1
      refine ⟨by decide, by decide, by omega, by omega, by decide, by decide, by omega, by omega, t_mono sw1 (fun X hX0 => ?_)⟩
      · obtain ⟨x1, x2⟩ := hX0
        have hX : RI X (swapO w (od w p) (od w q)) (-1) := ⟨lr_keep hR.1 (fun a k h1 h2 => by
          by_cases ha : a = 120
          · subst ha
            rw [x1, swapO_o (by omega) (by omega), hR.2.1]
          · exact x2 a k ha), x1, by rw [x2 _ _ (by decide)]; exact hR.2.2⟩
        rw [t_call]
        refine allWaterR_e hX ws (fun Y kY => ?_)
        try dsimp only
        have hY := ri_k hX kY
        have odp : od (swapO w (od w p) (od w q)) p = od w q := by rw [swapO_od i0 (by omega)]; unfold swp; rw [if_pos rfl]
        have odq : od (swapO w (od w p) (od w q)) q = od w p := by
          rw [swapO_od (by omega) (by omega)]; unfold swp
          by_cases hh : od w q = od w p
          · rw [if_pos hh]; exact hh
          · rw [if_neg hh, if_pos rfl]
        have eg : alW (swapO w (od w p) (od w q)) (w 0) (-1) - alW w (w 0) (-1) = swG w p q := rfl
        have bs := bsI_s (w := w) (bsO w p) j0
        have bi := bsS_i hwf h8 i0 (show p < w 5 by omega) (show 0 ≤ q by omega) (show q < w 5 by omega) j4
        rw [← bs] at bi
        unfold bsS at bs
        rw [← j2] at bs
        rw [t_letv, e0, eg, w64_s (by omega) (by omega), w32_s (x := q + 1) (by omega) (by omega), t_callv]
        have sw2 := swaps_e (M := Y) (Q := fun Z => Z 120 = swapO (swapO w (od w p) (od w q)) (od w p) (od w q) ∧ ∀ a j, a ≠ 120 → Z a j = Y a j) hY.1 (by rw [hY.2.1]; exact ws.1) (by rw [hY.2.1]; exact ws.2.2.2.1) (i := q) (k := p) (by omega) (by rw [hY.2.1, e5]; omega) i0 (by rw [hY.2.1, e5]; omega) (by omega) (fun Z z1 z2 => by
          rw [hY.2.1, odp, odq] at z1
          exact ⟨z1, z2⟩)
        rw [hY.2.1, odp, odq] at sw2
        refine t_mono sw2 (fun Z hZ => ?_)
        have z1 : Z 120 = w := by rw [hZ.1, swapO_t (by omega)]
        have kk : ∀ a k, ¬ SR a k → Z a k = M a k := fun a k ha => by
          by_cases hh : a = 120
          · rw [hh, z1, h.2.1]
          · rw [hZ.2 a k hh, kY a k ha, x2 a k hh, j5 a k ha]
        rw [t_jn, t_ite]
        refine ⟨fun h6 => ih2 _ _ _ _ _ (by omega) ⟨by omega, by omega, ?_, bi, kk⟩, fun h6 => ih2 _ _ _ _ _ (by omega) ⟨by omega, by omega, ?_, bi, kk⟩⟩
        · rw [if_pos h6] at bs; rw [bs]
        · rw [if_neg h6] at bs; rw [bs]
