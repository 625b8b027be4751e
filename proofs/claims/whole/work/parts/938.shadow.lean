/-! headFor: the reference -/
theorem r_headFor {M : Mem} {w : Int → Int} (h : RI M w (-1)) (hwf : WF w) (f : Int) : Tot (f_X12_headFor 119 f M) (AR (headForS w f) M) := by
  have L := wf_l hwf
  obtain ⟨a, b, ww⟩ := ri_at h
  unfold f_X12_headFor headForS
  rw [isFR h, t_callp, t_some, t_ite, n10]
  refine ⟨fun h1 => ?_, fun h1 => by rw [if_neg h1]; exact zRr (kr M) 1⟩
  rw [if_pos h1, t_getf, a, t_geti, b, ww, t_call]
  refine ⟨by decide, by decide, by decide, by decide, minR_e h hwf h1.1 h1.2 (fun M1 k1 => ?_)⟩
  try dsimp only
  have h' := ri_k h k1
  have n := need_le hwf h1.1 h1.2
  have en : fc w f 2 * litre w = needW w f := rfl
  have em : minsW w f 1 = opM w f := rfl
  rw [ofF_e h' hwf.1 h1.1 h1.2 (by omega) (by omega), t_callp, t_some, litR_e h' hwf, t_callp, t_some, t_letv, en, w64_s (x := needW w f) (by omega) (by omega), em]
  refine lpIIM (fun x p N => 0 ≤ p ∧ p ≤ 1000 ∧ x = headZ w f p.toNat ∧ ∀ a j, ¬ SR a j → ¬ (a = 120 ∧ j = 0) → N a j = M a j) (fun _ p _ => (1000 - p).toNat) ?_ (by unfold KF; omega) ⟨by omega, by omega, rfl, fun a j ha _ => k1 a j ha⟩
  rintro n2 x p N ⟨i0, i1, i2, i3⟩ ih
  have lN : LR N := lr_keep h.1 (fun a k h1 h2 => i3 a k (by unfold SR; omega) (by omega))
  have fin : headZ w f p.toNat = headZ w f 1000 → Tot (getf N 119 0 (fun v21 => seti N v21 0 (w 0) (fun M22 => call (f_X12_orNone 119 x M22) (fun v23 M24 => some (v23, M24))))) (AR (orN (headZ w f 1000)) M) := fun he => by
    rw [t_getf, lN.1.1, t_seti, lN.2.1, i2, he]
    refine ⟨by decide, by decide, by decide, by decide, zRo (fun a j ha => ?_) _⟩
    rw [upd2_at]
    by_cases hh : a = 120 ∧ j = 0
    · rw [if_pos hh, hh.1, hh.2]; exact (ww 0).symm
    · rw [if_neg hh, i3 a j ha hh]
  unfold f_X12_headFor_L48
  rw [t_ite, t_ite]
  refine ⟨fun c => fin (by rw [show p.toNat = 1000 by omega]), fun c => ⟨fun c2 => fin ?_, fun c2 => ?_⟩⟩
  · rw [i2] at c2
    have hz := headZ_i (w := w) (f := f) p.toNat
    have hz2 := headZ_i (w := w) (f := f) 1000
    rcases hz with z | z
    · exact absurd z.1 c2
    · rcases hz2 with y | y
      · exact absurd z.2.2.1 (y.2 _ z.1 (by omega))
      · by_cases d1 : headZ w f p.toNat < headZ w f 1000
        · exact absurd z.2.2.1 (y.2.2.2 _ z.1 d1)
        · by_cases d2 : headZ w f 1000 < headZ w f p.toNat
          · exact absurd y.2.2.1 (z.2.2.2 _ y.1 d2)
          · omega
  · have wu := wf_u hwf (i := 0) (x := p) (.inr ⟨rfl, i0, by omega⟩)
    have u0 : upd1 w 0 p 0 = p := by rw [upd1_at, if_pos rfl]
    have hN1 : RI (upd2 N 120 0 p) (upd1 w 0 p) (-1) := by
      refine ⟨lr_keep lN (fun a k h1 h2 => by rw [upd2_at, if_neg (by omega)]), ?_, by rw [upd2_at, if_neg (by decide), i3 _ _ (by unfold SR; omega) (by decide)]; exact h.2.2⟩
      funext j
      rw [upd2_at, upd1_at]
      by_cases hj : j = 0
      · rw [if_pos ⟨rfl, hj⟩, if_pos hj]
      · rw [if_neg (fun hh => hj hh.2), if_neg hj, i3 _ _ (by unfold SR; omega) (fun hh => hj hh.2)]; exact ww j
    rw [t_getf, lN.1.1, t_seti, lN.2.1, t_call]
    refine ⟨by decide, by decide, by decide, by decide, rateR_e hN1 wu.1 h1.1 (by rw [(sv_n wu.2.1).2.2.2.2]; exact h1.2) (fun M2 k2 => ?_)⟩
    try dsimp only
    have er : rtG (upd1 w 0 p) (upd1 w 0 p 0) (-1) f = rtG w p (-1) f := by rw [u0]; exact sv_rt wu.2.1 hwf p (-1) h1.1 h1.2
    have eg : rtG w p (-1) f * opM w f = gtG w p (-1) f := rfl
    have gl := gt_le hwf.1 hwf.2.1 hwf.2.2.1 hwf.2.2.2.1 (h := p) i0 (by omega) (-1) h1.1 h1.2
    rw [er, eg, w64_s (by omega) (by omega), w32_s (by omega) (by omega)]
    have kk : ∀ a j, ¬ SR a j → ¬ (a = 120 ∧ j = 0) → M2 a j = M a j := fun a j ha hb => by rw [k2 a j ha, upd2_at, if_neg hb, i3 a j ha hb]
    have hzs : headZ w f (p + 1).toNat = if needW w f ≤ gtG w p (-1) f then p else -1 := by
      rw [show (p + 1).toNat = p.toNat + 1 by omega]
      show (if headZ w f p.toNat ≠ -1 then headZ w f p.toNat else if needW w f ≤ gtG w (p.toNat : Int) (-1) f then (p.toNat : Int) else -1) = _
      rw [if_neg (by rw [← i2]; exact c2), Int.toNat_of_nonneg i0]
    refine t_jv (headZ w f (p + 1).toNat) (ih _ _ _ (by omega) ⟨by omega, by omega, rfl, kk⟩) (fun j hj => ?_)
    rw [hzs] at hj
    rw [t_ite]
    refine ⟨fun c3 => ?_, fun c3 => ?_⟩
    · rw [if_neg (by omega)] at hj
      rw [show x = -1 by simpa using c2]; exact hj
    · rw [if_pos (by omega)] at hj; exact hj
/-! shadow -/
def shW (w : Int → Int) (r : Int) : Int → Int := upd1 w 7 (iorv (w 7) (ishlv 1 r))
def shadG (w : Int → Int) (r : Int) : Int := sumZ (fun f => if bel w f r then gtG w (w 0) (-1) f else 0) (w 5)
theorem sh_opn {w : Int → Int} (hwf : WF w) {r s m : Int} (r0 : 0 ≤ r) (r1 : r < w 3) (s0 : 0 ≤ s) (s1 : s < w 3) : opn (shW w r) m s ↔ opn w m s ∧ r ∉ ch w s := by
  have L := wf_l hwf
  have wu := wf_u hwf (i := 7) (x := iorv (w 7) (ishlv 1 r)) (.inl rfl)
  have ec : ch (shW w r) s = ch w s := sv_ch wu.2.1 hwf.1 hwf.2.1 12 s s1
  have key : ∀ x ∈ ch w s, (letsW (shW w r) x m ↔ letsW w x m ∧ x ≠ r) := fun x hx => by
    have xm := ch_mem hwf.2.1 L.2.2.2.2.2.1 10 s (by omega) (by omega) s1 x hx
    have e7 : shW w r 7 = iorv (w 7) (ishlv 1 r) := by unfold shW; rw [upd1_at, if_pos rfl]
    have e2 : shW w r 2 = w 2 := (sv_n wu.2.1).2.1
    have e4 : rc (shW w r) x 4 = rc w x 4 := sv_rc wu.2.1 (by omega) (by omega) (by omega) (by omega)
    have e5 : rc (shW w r) x 5 = rc w x 5 := sv_rc wu.2.1 (by omega) (by omega) (by omega) (by omega)
    unfold letsW shutW
    rw [e7, e2, e4, e5, bt_or r0 (by omega) (by omega) (by omega)]
    constructor
    · rintro ⟨p, q⟩; exact ⟨⟨fun hb => p (.inl hb), q⟩, fun e => p (.inr e)⟩
    · rintro ⟨⟨p, q⟩, e⟩; exact ⟨fun hb => hb.elim p e, q⟩
  unfold opn
  rw [ec]
  constructor
  · intro hh
    exact ⟨fun x hx => ((key x hx).mp (hh x hx)).1, fun hr => ((key r hr).mp (hh r hr)).2 rfl⟩
  · rintro ⟨p, q⟩ x hx
    exact (key x hx).mpr ⟨p x hx, fun e => q (e ▸ hx)⟩
theorem sh_gt {w : Int → Int} (hwf : WF w) {r f : Int} (r0 : 0 ≤ r) (r1 : r < w 3) (f0 : 0 ≤ f) (f1 : f < w 5) : gtG (shW w r) (w 0) (-1) f = if bel w f r then 0 else gtG w (w 0) (-1) f := by
  have L := wf_l hwf
  have wu := wf_u hwf (i := 7) (x := iorv (w 7) (ishlv 1 r)) (.inl rfl)
  have q := hwf.2.2.1 f f0 f1
  have er : rtG (shW w r) (w 0) (-1) f = rtG w (w 0) (-1) f := sv_rt wu.2.1 hwf _ _ f0 f1
  have eT : endT (shW w r) = endT w := sv_end wu.2.1 wu.2.2 hwf.1 hwf.2.2.2.1
  have ef : fc (shW w r) f 0 = fc w f 0 := sv_fc wu.2.1 f0 (by omega) (by omega) (by omega)
  have eo : opM (shW w r) f = if bel w f r then 0 else opM w f := by
    unfold opM
    rw [eT]
    by_cases c : bel w f r
    · rw [if_pos c]
      refine sumZ_z (fun k k0 k1 => ?_)
      have := sh_opn hwf (m := k) r0 r1 q.1 q.2.1
      simp only [gO]
      rw [ef, if_neg (fun hh => (this.mp hh.2).2 c)]
    · rw [if_neg c]
      refine sumZ_congr (fun k k0 k1 => ?_)
      have := sh_opn hwf (m := k) r0 r1 q.1 q.2.1
      have ew : fw (shW w r) k = fw w k := sv_fw wu.2.1 wu.2.2 hwf.1 hwf.2.2.2.1 k
      simp only [gO]
      rw [ef, ew]
      have e2 : opn (shW w r) k (fc w f 0) ↔ opn w k (fc w f 0) := ⟨fun hh => (this.mp hh).1, fun hh => this.mpr ⟨hh, c⟩⟩
      simp only [e2]
  unfold gtG
  rw [er, eo]
  by_cases c : bel w f r
  · rw [if_pos c, if_pos c, Int.mul_zero]
  · rw [if_neg c, if_neg c]
theorem shad_e {w : Int → Int} (hwf : WF w) {r : Int} (r0 : 0 ≤ r) (r1 : r < w 3) : alW w (w 0) (-1) - alW (shW w r) (w 0) (-1) = shadG w r := by
  have L := wf_l hwf
  have wu := wf_u hwf (i := 7) (x := iorv (w 7) (ishlv 1 r)) (.inl rfl)
  have e5 : shW w r 5 = w 5 := (sv_n wu.2.1).2.2.2.2
  unfold alW shadG
  rw [e5, ← sumZ_sub _ _ L.2.2.2.2.2.2.1]
  refine sumZ_congr (fun k k0 k1 => ?_)
  rw [sh_gt hwf r0 r1 k0 k1]
  split <;> omega
theorem shad_le {w : Int → Int} (hwf : WF w) (r : Int) : 0 ≤ shadG w r ∧ shadG w r ≤ 890718434780774400 := by
  have L := wf_l hwf
  have := sumZ_le (g := fun f => if bel w f r then gtG w (w 0) (-1) f else 0) (n := w 5) (lo := 0) (hi := 89071843478077440) (fun k a b => by
    have := gt_le hwf.1 hwf.2.1 hwf.2.2.1 hwf.2.2.2.1 (h := w 0) (by omega) (by omega) (-1) a b
    split <;> omega) (p := w 5) (by omega) (Int.le_refl _)
  unfold shadG; omega
def shadowS (w : Int → Int) : Ans := bestA w (bestF (shadG w) (w 3))
theorem c_shadow {M : Mem} {v : Int} {w : Int → Int} (hc : CI M v w) (hwf : WF w) : Tot (f_X11_shadow 1 M) (AC (shadowS w) M) := by
  have L := wf_l hwf
  unfold f_X11_shadow shadowS
  rw [t_call]
  refine sweptWorld_e hc hwf (fun M' k1 k2 k3 => ?_)
  try dsimp only
  obtain ⟨a, b, c, d, e⟩ := ci_p k2
  obtain ⟨g1, g2, g3, g4, g5, g6, g7⟩ := ci_n k2
  refine lpIII (fun x y p => 0 ≤ p ∧ p ≤ w 3 ∧ (x, y) = bestF (shadG w) p) (fun _ _ p => (w 3 - p).toNat) ?_ (by unfold KF; omega) ⟨by omega, by omega, rfl⟩
  rintro n x y p ⟨i0, i1, i2⟩ ih
  have bi := bestF_i (g := shadG w) (n := w 3) (B := 890718434780774400) (by decide) (fun k _ _ => (shad_le hwf k).2) i0 i1
  rw [← i2] at bi
  unfold f_X11_shadow_L13
  rw [t_getf, a, t_getf, c, t_getf, g3, t_ite]
  refine ⟨by decide, by decide, e, fun h1 => ?_, fun h1 => ?_⟩
  · have hp : p = w 3 := by omega
    subst hp
    rw [← i2]
    exact tellBest_e k1 k2 hwf bi.1 (by omega)
  · have bs := bestF_s (g := shadG w) i0
    rw [← i2] at bs
    have eg : sumZ (fun f => if bt (setZ (fun f => bel w f p) (w 5)) f then gtG w (w 0) (-1) f else 0) (w 5) = shadG w p := sumZ_congr (fun k a0 a1 => by
      have := bt_setZ (p := fun f => bel w f p) (n := w 5) (by omega) (by omega) a0 (show k < 10 by omega)
      by_cases cb : bel w k p
      · rw [if_pos (this.mpr ⟨a1, cb⟩), if_pos cb]
      · rw [if_neg (fun hh => cb (this.mp hh).2), if_neg cb])
    rw [t_getf, a, t_getf, c, t_getf, a, t_getf, c, t_nn, fieldsBelow_e k2 hwf.1 hwf.2.1 hwf.2.2.1 i0 (by omega), t_callp, t_some, t_nn, waterIn_e k2 hwf.1 hwf.2.1 hwf.2.2.1 hwf.2.2.2.1 L.2.2.1 L.2.2.2.1 k3.1 k3.2.1, t_callp, t_some, eg, t_jn, t_ite, w32_s (by omega) (by omega)]
    refine ⟨by decide, by decide, by decide, by decide, e, by decide, fun h2 => ih _ _ _ (by omega) ⟨by omega, by omega, ?_⟩, fun h2 => ih _ _ _ (by omega) ⟨by omega, by omega, ?_⟩⟩
    · rw [bs, if_neg (by simp only; omega)]
    · rw [bs, if_pos (by simp only; omega)]
theorem r_shadow {M : Mem} {w : Int → Int} (h : RI M w (-1)) (hwf : WF w) : Tot (f_X12_shadow 119 M) (AR (shadowS w) M) := by
  have L := wf_l hwf
  unfold f_X12_shadow shadowS
  rw [t_call]
  refine allWaterR_e h hwf (fun M1 k1 => ?_)
  try dsimp only
  obtain ⟨a1, b1, ww1⟩ := ri_at (ri_k h k1)
  rw [t_getf, a1, t_geti, b1, ww1]
  refine ⟨by decide, by decide, by decide, by decide, ?_⟩
  refine lpIIIM (fun x y p N => 0 ≤ p ∧ p ≤ w 3 ∧ (x, y) = bestF (shadG w) p ∧ ∀ a k, ¬ SR a k → N a k = M a k) (fun _ _ p _ => (w 3 - p).toNat) ?_ (by unfold KF; omega) ⟨by omega, by omega, rfl, k1⟩
  rintro n x y p N ⟨i0, i1, i2, i3⟩ ih
  have bi := bestF_i (g := shadG w) (n := w 3) (B := 890718434780774400) (by decide) (fun k _ _ => (shad_le hwf k).2) i0 i1
  rw [← i2] at bi
  have hN := ri_k h i3
  obtain ⟨a, b, ww⟩ := ri_at hN
  unfold f_X12_shadow_L22
  rw [t_getf, a, t_geti, b, ww, t_ite]
  refine ⟨by decide, by decide, by decide, by decide, fun h1 => ?_, fun h1 => ?_⟩
  · have hp : p = w 3 := by omega
    subst hp
    rw [← i2]
    exact tellBestR_e i3 hN hwf bi.1 (by omega)
  · have wu := wf_u hwf (i := 7) (x := iorv (w 7) (ishlv 1 p)) (.inl rfl)
    have hP : RI (upd2 N 120 7 (iorv (w 7) (ishlv 1 p))) (shW w p) (-1) := ⟨lr_keep hN.1 (fun a k h1 h2 => by rw [upd2_at, if_neg (by omega)]), by rw [upd2_120, hN.2.1]; rfl, by rw [upd2_at, if_neg (by decide)]; exact hN.2.2⟩
    have e0 : shW w p 0 = w 0 := by unfold shW; rw [upd1_at, if_neg (by decide)]
    rw [t_getf, a, t_seti, b, t_call]
    refine ⟨by decide, by decide, by decide, by decide, allWaterR_e hP wu.1 (fun M2 k2 => ?_)⟩
    try dsimp only
    obtain ⟨a2, b2, _⟩ := ri_at (ri_k hP k2)
    have sl := shad_le hwf p
    have bs := bestF_s (g := shadG w) i0
    rw [← i2] at bs
    have kk : ∀ a k, ¬ SR a k → upd2 M2 120 7 (w 7) a k = M a k := fun a k ha => by
      rw [upd2_at]
      by_cases hh : a = 120 ∧ k = 7
      · rw [if_pos hh, hh.1, hh.2, h.2.1]
      · rw [if_neg hh, k2 a k ha, upd2_at, if_neg hh, i3 a k ha]
    rw [t_letv, t_getf, a2, t_seti, b2, e0, shad_e hwf i0 (by omega), w64_s (by omega) (by omega), t_jn, t_ite, w32_s (by omega) (by omega)]
    refine ⟨by decide, by decide, by decide, by decide, fun h2 => ih _ _ _ _ (by omega) ⟨by omega, by omega, ?_, kk⟩, fun h2 => ih _ _ _ _ (by omega) ⟨by omega, by omega, ?_, kk⟩⟩
    · rw [bs, if_pos (by simp only; omega)]
    · rw [bs, if_neg (by simp only; omega)]
