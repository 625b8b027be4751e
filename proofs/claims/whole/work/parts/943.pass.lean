/-! a span passes -/
def WFa (w : Int → Int) : Prop := ∀ f, 0 ≤ f → f < 10 → ac w f ≤ 1438560 * w 6
def gotW (w : Int → Int) (f : Int) : Int := gtG w (w 0) (-1) f / litre w
def passP (w : Int → Int) (p : Int) : Int → Int := fun j => if 258 ≤ j ∧ j < 258 + p then w j + gotW w (j - 258) else w j
def passO (w : Int → Int) : Int → Int := upd1 (upd1 (passP w (w 5)) 8 0) 6 (w 6 + 1)
theorem got_le {w : Int → Int} (hwf : WF w) {f : Int} (f0 : 0 ≤ f) (f1 : f < w 5) : 0 ≤ gotW w f ∧ gotW w f ≤ 1438560 := by
  have L := wf_l hwf
  have hn := hwf.1
  unfold WFn at hn
  have q := hwf.2.2.1 f f0 f1
  have o := op_le hwf.1 hwf.2.2.1 hwf.2.2.2.1 f
  have fl := flow_le hwf.2.1 L.2.2.2.2.1 L.2.2.2.2.2.1 (h := w 0) (by omega) (-1) 10 (fc w f 0) q.1 (by omega) q.2.1
  have g := gt_le hwf.1 hwf.2.1 hwf.2.2.1 hwf.2.2.2.1 (h := w 0) (by omega) (by omega) (-1) f0 f1
  have r1 : rtG w (w 0) (-1) f ≤ w 0 * litre w := by unfold rtG; omega
  have h1 : gtG w (w 0) (-1) f ≤ (w 0 * litre w) * 1440 := by
    unfold gtG
    have a1 : rtG w (w 0) (-1) f * opM w f ≤ (w 0 * litre w) * opM w f := Int.mul_le_mul_of_nonneg_right r1 o.1
    have a2 : (w 0 * litre w) * opM w f ≤ (w 0 * litre w) * 1440 := Int.mul_le_mul_of_nonneg_left (by omega) (Int.mul_nonneg (by omega) (by omega))
    omega
  have h2 : gtG w (w 0) (-1) f ≤ (w 0 * 1440) * litre w := by
    rw [show w 0 * 1440 * litre w = w 0 * litre w * 1440 by rw [Int.mul_assoc, Int.mul_comm 1440, ← Int.mul_assoc]]; exact h1
  unfold gotW
  refine ⟨Int.ediv_nonneg g.1 (by omega), ?_⟩
  have h3 : gtG w (w 0) (-1) f / litre w ≤ (w 0 * 1440) * litre w / litre w := Int.ediv_le_ediv (by omega) h2
  rw [Int.mul_ediv_cancel _ (by omega)] at h3
  omega
theorem passP_o {w : Int → Int} {p j : Int} (h : j < 258 ∨ 258 + p ≤ j) : passP w p j = w j := by unfold passP; rw [if_neg (by omega)]
theorem passP_ac {w : Int → Int} {p f : Int} (f0 : 0 ≤ f) : ac (passP w p) f = if f < p then ac w f + gotW w f else ac w f := by
  unfold ac passP
  by_cases h : f < p
  · rw [if_pos (by omega), if_pos h, show 258 + f - 258 = f by omega]
  · rw [if_neg (by omega), if_neg h]
/-- only accounts differ -/
theorem wf_ac {w w' : Int → Int} (hwf : WF w) (h : ∀ j, j < 258 ∨ 268 ≤ j → w' j = w j) (ha : ∀ f, 0 ≤ f → f < 10 → 0 ≤ ac w' f ∧ ac w' f ≤ 143856000) : WF w' ∧ SameV w w' ∧ SameT w w' := by
  obtain ⟨hn, hr, hf, ho, hl, hw⟩ := hwf
  have hn' := hn
  unfold WFn at hn'
  have sv : SameV w w' := fun k hk => h k (by omega)
  have st : SameT w w' := fun k hk => h k (by omega)
  obtain ⟨e1, e2, e3, e4, e5⟩ := sv_n sv
  have eod : ∀ j, 0 ≤ j → j < 10 → od w' j = od w j := fun j j0 j1 => h _ (by omega)
  refine ⟨⟨?_, ?_, ?_, ⟨?_, ?_, ?_, ?_⟩, ⟨?_, ?_⟩, ?_⟩, sv, st⟩
  · unfold WFn
    rw [h 0 (by omega), h 1 (by omega), h 2 (by omega), h 3 (by omega), h 4 (by omega), h 5 (by omega), h 6 (by omega), h 8 (by omega)]
    exact hn
  · intro r r0 r1
    rw [e3] at r1
    simp (disch := omega) only [sv_rc sv]
    exact hr r r0 r1
  · intro r r0 r1
    rw [e5] at r1
    rw [e3, e4]
    simp (disch := omega) only [sv_fc sv]
    exact hf r r0 r1
  · intro j j0 j1
    rw [e5] at j1 ⊢
    rw [eod j j0 (by omega)]; exact ho.1 j j0 j1
  · intro f f0 f1
    rw [e5] at f1 ⊢
    obtain ⟨j, j0, j1, j2⟩ := ho.2.1 f f0 f1
    exact ⟨j, j0, j1, by rw [eod j j0 (by omega)]; exact j2⟩
  · intro a b a0 a1 b0 b1 e
    rw [e5] at a1 b1
    rw [eod a a0 (by omega), eod b b0 (by omega)] at e
    exact ho.2.2.1 a b a0 a1 b0 b1 e
  · rw [e5, st_ahead sv st hn ho (by omega) (Int.le_refl _), sv_allSh sv hn]; exact ho.2.2.2
  · intro j j0 j1
    rw [h 8 (by omega)] at j1
    rw [e5]
    have q0 : lo w' j 0 = lo w j 0 := st _ (by omega)
    have q1 : lo w' j 1 = lo w j 1 := st _ (by omega)
    have q2 : lo w' j 2 = lo w j 2 := st _ (by omega)
    rw [q0, q1, q2]; exact hl.1 j j0 j1
  · intro j j0 j1
    rw [e5] at j1
    rw [st_left sv st hn ho j0 j1]; exact hl.2 j j0 j1
  · unfold WFw
    rw [h 6 (by omega), h 8 (by omega), e5]
    refine ⟨fun a b a0 a1 b0 b1 => ?_, ha⟩
    have q : ow w' a b = ow w a b := h _ (by omega)
    rw [q]; exact hw.1 a b a0 a1 b0 b1
theorem sv_opn {w w' : Int → Int} (h : SameV w w') (h7 : w' 7 = w 7) (hwf : WF w) {m s : Int} (s0 : -1 ≤ s) (s1 : s < w 3) : opn w' m s ↔ opn w m s := by
  have L := wf_l hwf
  have ec : ch w' s = ch w s := sv_ch h hwf.1 hwf.2.1 12 s s1
  have key : ∀ x ∈ ch w s, (letsW w' x m ↔ letsW w x m) := fun x hx => by
    have xm := ch_mem hwf.2.1 L.2.2.2.2.2.1 10 s (by omega) s0 s1 x hx
    have e2 : w' 2 = w 2 := (sv_n h).2.1
    have e4 : rc w' x 4 = rc w x 4 := sv_rc h (by omega) (by omega) (by omega) (by omega)
    have e5 : rc w' x 5 = rc w x 5 := sv_rc h (by omega) (by omega) (by omega) (by omega)
    unfold letsW shutW
    rw [h7, e2, e4, e5]
  unfold opn
  rw [ec]
  exact ⟨fun hh x hx => (key x hx).mp (hh x hx), fun hh x hx => (key x hx).mpr (hh x hx)⟩
theorem sv_gt {w w' : Int → Int} (h : SameV w w') (ht : SameT w w') (h0 : w' 0 = w 0) (h7 : w' 7 = w 7) (hwf : WF w) (m : Int) {f : Int} (f0 : 0 ≤ f) (f1 : f < w 5) : gtG w' (w' 0) m f = gtG w (w 0) m f := by
  have L := wf_l hwf
  have q := hwf.2.2.1 f f0 f1
  unfold gtG
  rw [h0, sv_rt h hwf _ _ f0 f1]
  congr 1
  unfold opM
  rw [sv_end h ht hwf.1 hwf.2.2.2.1]
  refine sumZ_congr (fun k k0 k1 => ?_)
  have ef : fc w' f 0 = fc w f 0 := sv_fc h f0 (by omega) (by omega) (by omega)
  have ew : fw w' k = fw w k := sv_fw h ht hwf.1 hwf.2.2.2.1 k
  have eo := sv_opn h h7 hwf (m := k) (s := fc w f 0) (by omega) q.2.1
  simp only [gO, ef, ew, eo]
theorem passP_wf {w : Int → Int} (hwf : WF w) (ha : WFa w) (h6 : w 6 < 99) {p : Int} (p0 : 0 ≤ p) (p1 : p ≤ w 5) : WF (passP w p) ∧ SameV w (passP w p) ∧ SameT w (passP w p) := by
  have L := wf_l hwf
  refine wf_ac hwf (fun j hj => passP_o (by omega)) (fun f f0 f1 => ?_)
  rw [passP_ac f0]
  have a := ha f f0 f1
  have b := (hwf.2.2.2.2.2.2 f f0 f1).1
  by_cases h : f < p
  · rw [if_pos h]
    have g := got_le hwf f0 (by omega)
    omega
  · rw [if_neg h]; have hn := hwf.1; unfold WFn at hn; omega
theorem pass_wf {w : Int → Int} (hwf : WF w) (ha : WFa w) (h6 : w 6 < 99) : WF (passO w) ∧ WFa (passO w) := by
  have L := wf_l hwf
  obtain ⟨wp, sv, st⟩ := passP_wf hwf ha h6 (p := w 5) (by omega) (Int.le_refl _)
  have hn := hwf.1
  unfold WFn at hn
  have o : ∀ j, j ≠ 6 → j ≠ 8 → passO w j = passP w (w 5) j := fun j h1 h2 => by unfold passO; rw [upd1_at, if_neg h1, upd1_at, if_neg h2]
  have o6 : passO w 6 = w 6 + 1 := by unfold passO; rw [upd1_at, if_pos rfl]
  have o8 : passO w 8 = 0 := by unfold passO; rw [upd1_at, if_neg (by decide), upd1_at, if_pos rfl]
  have oac : ∀ f, 0 ≤ f → f < 10 → ac (passO w) f = ac (passP w (w 5)) f := fun f f0 f1 => o _ (by omega) (by omega)
  have pv : SameV (passP w (w 5)) (passO w) := fun k hk => o k (by omega) (by omega)
  have e5 : passP w (w 5) 5 = w 5 := passP_o (by omega)
  obtain ⟨e1, e2, e3, e4, e5'⟩ := sv_n pv
  obtain ⟨hn2, hr2, hf2, ho2, hl2, hw2⟩ := wp
  have hn2' := hn2
  unfold WFn at hn2'
  have eod : ∀ j, 0 ≤ j → j < 10 → od (passO w) j = od (passP w (w 5)) j := fun j j0 j1 => o _ (by omega) (by omega)
  have wn : WFn (passO w) := by
    unfold WFn
    rw [o 0 (by omega) (by omega), o 1 (by omega) (by omega), o 2 (by omega) (by omega), o 3 (by omega) (by omega), o 4 (by omega) (by omega), o 5 (by omega) (by omega), o6, o8]
    omega
  have wr : WFr (passO w) := by
    intro r r0 r1
    rw [e3] at r1
    simp (disch := omega) only [sv_rc pv]
    exact hr2 r r0 r1
  have wf : WFf (passO w) := by
    intro r r0 r1
    rw [e5'] at r1
    rw [e3, e4]
    simp (disch := omega) only [sv_fc pv]
    exact hf2 r r0 r1
  have eah : ahead (passO w) (passP w (w 5) 5) = ahead (passP w (w 5)) (passP w (w 5) 5) := by
    unfold ahead
    refine sumZ_congr (fun i i0 i1 => ?_)
    have oi := ho2.1 i i0 (by omega)
    rw [eod i i0 (by omega), sv_fc pv oi.1 (by omega) (by omega) (by omega)]
  have wo : WFo (passO w) := by
    refine ⟨fun j j0 j1 => ?_, fun f f0 f1 => ?_, fun a b a0 a1 b0 b1 e => ?_, ?_⟩
    · rw [e5'] at j1 ⊢
      rw [eod j j0 (by omega)]; exact ho2.1 j j0 j1
    · rw [e5'] at f1 ⊢
      obtain ⟨j, j0, j1, j2⟩ := ho2.2.1 f f0 f1
      exact ⟨j, j0, j1, by rw [eod j j0 (by omega)]; exact j2⟩
    · rw [e5'] at a1 b1
      rw [eod a a0 (by omega), eod b b0 (by omega)] at e
      exact ho2.2.2.1 a b a0 a1 b0 b1 e
    · rw [e5', eah, sv_allSh pv hn2]; exact ho2.2.2.2
  refine ⟨⟨wn, wr, wf, wo, ⟨fun j j0 j1 => by rw [o8] at j1; omega, fun j j0 j1 => ?_⟩, ?_⟩, fun f f0 f1 => ?_⟩
  · have m := edge_mono wn wf wo (j := j) (k := j + 1) j0 (by omega) (by omega)
    unfold leftK lentBy
    rw [o8, sumZ_0]
    omega
  · unfold WFw
    rw [o6, o8, e5', e5]
    refine ⟨fun a b a0 a1 b0 b1 => ?_, fun f f0 f1 => ?_⟩
    · have q : ow (passO w) a b = ow w a b := by
        show passO w (158 + 10 * a + b) = w (158 + 10 * a + b)
        rw [o _ (by omega) (by omega), passP_o (by omega)]
      have := hwf.2.2.2.2.2.1 a b a0 a1 b0 b1
      rw [q]; exact ⟨this.1, by omega, this.2.2⟩
    · rw [oac f f0 f1]; exact hw2.2 f f0 f1
  · rw [oac f f0 f1, o6, passP_ac f0]
    have a := ha f f0 f1
    by_cases h : f < w 5
    · rw [if_pos h]; have g := got_le hwf f0 h; omega
    · rw [if_neg h]; omega
/-- the class -/
theorem endSpan_e {M : Mem} {v : Int} {w : Int → Int} {Q : Int × Mem → Prop} (hc : CI M v w) (hwf : WF w) (ha : WFa w) (h4 : w 6 = 99 → Q (4, M)) (hq : w 6 < 99 → ∀ M', (∀ a k, ¬ SW a k → M' a k = M a k) → CI M' v (passO w) → Q (0, M')) : Tot (f_X10_endSpan 13 55 M) Q := by
  have L := wf_l hwf
  have hn := hwf.1
  unfold WFn at hn
  obtain ⟨a, b, c, d, e⟩ := ci_p hc
  have e6 : M 48 1 = w 6 := hc.2.2.2.2.2.2.1.2.1
  unfold f_X10_endSpan
  rw [t_getf, d, t_getf, e6, t_ite, t_some]
  refine ⟨by decide, by decide, fun h6 => ?_, fun h6 => h4 (by omega)⟩
  rw [t_nn, t_callv]
  refine ⟨by decide, over_e hc hwf (fun M1 k1 k2 k3 => ?_)⟩
  obtain ⟨⟨l1, l2, l3, l4, l5, l6⟩, ⟨m1, m2, m3, m4, m5, m6⟩⟩ := k2.2.2.2.1
  obtain ⟨⟨s1, s2, s3, s4⟩, bb, cc, dd, gg⟩ := k2.2.2.2.2.2.2
  simp only [show (48 : Int) + 6 = 54 from rfl] at l6 m6 gg
  have mx : (if (1 : Int) < litre w then litre w else 1) = litre w := by split <;> omega
  refine lpIM (fun p N => 0 ≤ p ∧ p ≤ w 5 ∧ ∀ a j, N a j = if a = 54 ∧ 0 ≤ j ∧ j < p then M1 54 j + gotW w j else M1 a j) (fun p _ => (w 5 - p).toNat) ?_ (by unfold KF; omega) ⟨by omega, by omega, fun a j => by rw [if_neg (by omega)]⟩
  rintro n p N ⟨i0, i1, i2⟩ ih
  have kN : ∀ a j, ¬ (a = 54 ∧ 0 ≤ j) → N a j = M1 a j := fun a j h => by rw [i2, if_neg (by omega)]
  obtain ⟨a', b', c', d', e'⟩ := ci_p k2
  obtain ⟨g1, g2, g3, g4, g5, g6, g7⟩ := ci_n k2
  have hv := k2.1
  unfold f_X10_endSpan_L21
  rw [t_getf, kN 13 0 (by omega), c', t_getf, kN v 5 (by omega), g5, t_ite]
  refine ⟨by decide, e, fun c1 => ?_, fun c1 => ?_⟩
  · have hp : p = w 5 := by omega
    rw [t_getf, kN 13 2 (by omega), d', t_putf]
    refine ⟨by decide, by decide, ?_⟩
    rw [t_getf, upd2_at, if_neg (by decide), kN 13 2 (by omega), d', t_getf, upd2_at, if_neg (by decide), kN 48 1 (by omega), s2, t_putf, w32_s (by omega) (by omega), t_some]
    refine ⟨by decide, by decide, by decide, ?_⟩
    obtain ⟨N2, e2⟩ : ∃ X, X = upd2 (upd2 N 48 3 0) 48 1 (w 6 + 1) := ⟨_, rfl⟩
    have k2' : ∀ a j, ¬ (a = 54 ∧ 0 ≤ j) → ¬ (a = 48 ∧ (j = 1 ∨ j = 3)) → N2 a j = M1 a j := fun a j h1 h2 => by rw [e2, upd2_at, if_neg (by omega), upd2_at, if_neg (by omega), kN a j h1]
    rw [← e2]
    have fr : ∀ a k, ¬ SW a k → N2 a k = M a k := fun a k hk => by
      unfold SW at hk
      rw [k2' a k (by omega) (by omega), k1 a k (fun hs => hk (.inl hs))]
    have o : ∀ j, j < 258 ∨ 268 ≤ j → j ≠ 6 → j ≠ 8 → passO w j = w j := fun j hj h1 h2 => by unfold passO; rw [upd1_at, if_neg h1, upd1_at, if_neg h2, passP_o (by omega)]
    refine hq h6 N2 fr (ci_w hwf.1 hc (fun k hk => o k (by omega) (by omega) (by omega)) fr ?_ ?_)
    · refine ⟨⟨?_, ?_, ?_, ?_, ?_, ?_⟩, ⟨?_, ?_, ?_, ?_, ?_, ?_⟩⟩ <;> rw [k2' _ _ (by omega) (by omega)] <;> assumption
    · refine ⟨⟨?_, ?_, ?_, ?_⟩, fun k h1 h2 => ?_, fun i h1 h2 => ?_, fun i j h1 h2 h3 h4 => ?_, fun f h1 h2 => ?_⟩
      · rw [k2' _ _ (by omega) (by omega), o _ (by omega) (by omega) (by omega)]; exact s1
      · rw [e2, upd2_at, if_pos ⟨rfl, rfl⟩]; unfold passO; rw [upd1_at, if_pos rfl]
      · rw [k2' _ _ (by omega) (by omega), o _ (by omega) (by omega) (by omega)]; exact s3
      · rw [e2, upd2_at, if_neg (by omega), upd2_at, if_pos ⟨rfl, rfl⟩]; unfold passO; rw [upd1_at, if_neg (by decide), upd1_at, if_pos rfl]
      · rw [o 5 (by omega) (by omega) (by omega)] at h2
        unfold od; rw [k2' _ _ (by omega) (by omega), o _ (by omega) (by omega) (by omega)]; exact bb k h1 h2
      · have : passO w 8 = 0 := by unfold passO; rw [upd1_at, if_neg (by decide), upd1_at, if_pos rfl]
        omega
      · unfold ow; rw [k2' _ _ (by omega) (by omega), o _ (by omega) (by omega) (by omega)]; exact dd i j h1 h2 h3 h4
      · have e3 : ac (passO w) f = ac (passP w (w 5)) f := by
          show passO w (258 + f) = passP w (w 5) (258 + f)
          unfold passO; rw [upd1_at, if_neg (by omega), upd1_at, if_neg (by omega)]
        rw [e3, passP_ac h1]
        show N2 54 f = _
        rw [e2, upd2_at, if_neg (by omega), upd2_at, if_neg (by omega), i2, hp]
        by_cases c2 : f < w 5
        · rw [if_pos ⟨rfl, h1, c2⟩, if_pos c2, gg f h1 h2]
        · rw [if_neg (by omega), if_neg c2]; exact gg f h1 h2
  · have hcN : f_X5_gets 55 v p N = some (gtG w (w 0) (-1) p) := by
      obtain ⟨r1, r2, r3, r4, r5, r6, r7⟩ := ci_f k2 hwf.1 i0 (show p < w 5 by omega)
      have q := hwf.2.2.1 p i0 (by omega)
      have x0 := r5 0 (by omega) (by omega)
      have x := (k3.1 (fc w p 0) q.1 q.2.1).2.2
      have y : M1 69 p = opM w p := (k3.2.1.1 p i0 (by omega)).2
      obtain ⟨⟨z1, z2, z3, z4, z5, z6, z7, z8, _⟩, ⟨y1, y2, y3, y4, _⟩, _⟩ := ci_55 k2
      have c9 : M1 65 (-1) = 10 := k2.2.2.2.2.1.2.2.2.2.2.2.2.2.2.2.1
      have b := gt_le hwf.1 hwf.2.1 hwf.2.2.1 hwf.2.2.2.1 (h := w 0) (by omega) (by omega) (-1) i0 (show p < w 5 by omega)
      have eg : lvW w (w 0) (-1) (fc w p 0) * opM w p = gtG w (w 0) (-1) p := rfl
      rw [← t_eq]
      unfold f_X5_gets f_X5_rateOf
      rw [t_callp, t_getf, kN 55 3 (by omega), z4, t_getf, kN v 9 (by omega), r1, t_geti, kN (v + 12) (-1) (by omega), r2, kN (v + 12) p (by omega), r3, t_geti, kN (v + 13 + p) (-1) (by omega), r4, kN (v + 13 + p) 0 (by omega), x0, t_geti, kN 65 (-1) (by omega), c9, kN 65 (fc w p 0) (by omega), x, t_some, t_getf, kN 55 7 (by omega), z8, t_geti, kN 69 (-1) (by omega), y4, kN 69 p (by omega), y, t_some, eg, w64_s (by omega) (by omega)]
      exact ⟨by decide, e, r6, i0, by omega, r7, by decide, by omega, by decide, q.1, by omega, by decide, by decide, i0, by omega, rfl⟩
    have gl := gt_le hwf.1 hwf.2.1 hwf.2.2.1 hwf.2.2.2.1 (h := w 0) (by omega) (by omega) (-1) i0 (show p < w 5 by omega)
    have go := got_le hwf i0 (show p < w 5 by omega)
    have ga := hwf.2.2.2.2.2.2 p i0 (by omega)
    have n54 : N 54 p = ac w p := by rw [i2, if_neg (by omega)]; exact gg p i0 (by omega)
    have eg : gtG w (w 0) (-1) p / litre w = gotW w p := rfl
    rw [t_getf, kN 13 2 (by omega), d', t_getf, kN 48 9 (by omega), l6, t_geti, kN 54 (-1) (by omega), m6, n54, t_getf, kN 13 0 (by omega), c', t_nn, hcN, t_callp, t_some, t_getf, kN 13 0 (by omega), c', t_getf, kN v 7 (by omega), g7, maxl_e, t_callp, t_some, mx, t_ldivc, ldiv_p gl.1 (by omega) (by omega), eg, t_seti, kN 54 (-1) (by omega), m6, w64_s (by omega) (by omega), w32_s (by omega) (by omega)]
    refine ⟨by decide, by decide, by decide, i0, by omega, by decide, by decide, by decide, e, by omega, by decide, i0, by omega, ih _ _ (by omega) ⟨by omega, by omega, fun a j => ?_⟩⟩
    rw [upd2_at, i2]
    by_cases c2 : a = 54 ∧ j = p
    · rw [if_pos c2, if_pos (by omega), c2.2, gg p i0 (by omega)]
    · rw [if_neg c2]
      by_cases c3 : a = 54 ∧ 0 ≤ j ∧ j < p
      · rw [if_pos c3, if_pos (by omega)]
      · rw [if_neg c3, if_neg (by omega)]
/-- the reference -/
theorem passes_e {M : Mem} {w : Int → Int} {Q : Mem → Prop} (h : RI M w (-1)) (hwf : WF w) (ha : WFa w) (h6 : w 6 < 99) (hq : ∀ M', M' 120 = passO w → (∀ a j, ¬ SR a j → a ≠ 120 → M' a j = M a j) → Q M') : Tot (f_X12_passes 119 M) Q := by
  have L := wf_l hwf
  have hn := hwf.1
  unfold WFn at hn
  unfold f_X12_passes
  refine lpIM (fun p N => 0 ≤ p ∧ p ≤ w 5 ∧ N 120 = passP w p ∧ ∀ a j, ¬ SR a j → a ≠ 120 → N a j = M a j) (fun p _ => (w 5 - p).toNat) ?_ (by unfold KF; omega) ⟨by omega, by omega, by rw [h.2.1]; funext j; unfold passP; rw [if_neg (by omega)], fun _ _ _ _ => rfl⟩
  rintro n p N ⟨i0, i1, i2, i3⟩ ih
  have wp := passP_wf hwf ha h6 i0 i1
  have o : ∀ j, j < 258 → passP w p j = w j := fun j hj => passP_o (by omega)
  have hN : RI N (passP w p) (-1) := ⟨lr_keep h.1 (fun a k h1 h2 => by
    by_cases hh : a = 120
    · subst hh; rw [i2, o k (by omega), h.2.1]
    · exact i3 a k (by unfold SR; omega) hh), i2, by rw [i3 _ _ (by unfold SR; omega) (by decide)]; exact h.2.2⟩
  obtain ⟨a, b, ww⟩ := ri_at hN
  unfold f_X12_passes_L2
  rw [t_getf, a, t_geti, b, ww, o 5 (by omega), t_ite]
  refine ⟨by decide, by decide, by decide, by decide, fun c1 => ?_, fun c1 => ?_⟩
  · have hp : p = w 5 := by omega
    subst hp
    rw [t_getf, a, t_seti, b]
    refine ⟨by decide, by decide, by decide, by decide, ?_⟩
    rw [t_getf, upd2_at, if_neg (by decide), a, t_geti, upd2_at, if_neg (by decide), b, upd2_at, if_neg (by decide), ww, o 6 (by omega), t_seti, upd2_at, if_neg (by decide), b, w32_s (by omega) (by omega), t_some]
    refine ⟨by decide, by decide, by decide, by decide, by decide, by decide, by decide, hq _ ?_ (fun x j hx hy => ?_)⟩
    · rw [upd2_120, upd2_120, i2]; rfl
    · rw [upd2_at, if_neg (by omega), upd2_at, if_neg (by omega)]; exact i3 x j hx hy
  · rw [t_getf, a, w32_s (x := 258 + p) (by omega) (by omega), t_geti, b, ww, passP_o (by omega), t_call]
    refine ⟨by decide, by decide, by omega, by omega, waterInR_e hN wp.1 i0 (by rw [o 5 (by omega)]; omega) (fun M2 k2 => ?_)⟩
    try dsimp only
    have h2 := ri_k hN k2
    obtain ⟨a2, b2, _⟩ := ri_at h2
    have eg : gtG (passP w p) (passP w p 0) (-1) p = gtG w (w 0) (-1) p := sv_gt wp.2.1 wp.2.2 (o 0 (by omega)) (o 7 (by omega)) hwf (-1) i0 (by omega)
    have el : litre (passP w p) = litre w := sv_litre wp.2.1 hwf.1
    have gl := gt_le hwf.1 hwf.2.1 hwf.2.2.1 hwf.2.2.2.1 (h := w 0) (by omega) (by omega) (-1) i0 (show p < w 5 by omega)
    have go := got_le hwf i0 (show p < w 5 by omega)
    have ga := hwf.2.2.2.2.2.2 p i0 (by omega)
    have e3 : gtG w (w 0) (-1) p / litre w = gotW w p := rfl
    have ea : w (258 + p) = ac w p := rfl
    rw [litR_e h2 wp.1, t_callp, t_some, el, eg, t_ldivc, ldiv_p gl.1 (by omega) (by omega), e3, t_seti, b2, ea, w32_s (x := gotW w p) (by omega) (by omega), w32_s (x := ac w p + gotW w p) (by omega) (by omega), w32_s (by omega) (by omega)]
    refine ⟨by omega, by decide, by omega, by omega, ih _ _ (by omega) ⟨by omega, by omega, ?_, fun x j hx hy => ?_⟩⟩
    · rw [upd2_120, h2.2.1]
      funext j
      rw [upd1_at]
      unfold passP
      by_cases cj : j = 258 + p
      · rw [if_pos cj, if_pos (by omega), cj, show 258 + p - 258 = p by omega]; rfl
      · rw [if_neg cj]
        by_cases c3 : 258 ≤ j ∧ j < 258 + p
        · rw [if_pos c3, if_pos (by omega)]
        · rw [if_neg c3, if_neg (by omega)]
    · rw [upd2_at, if_neg (by omega), k2 x j hx]; exact i3 x j hx hy
def passW (w : Int → Int) : Int × Int × (Int → Int) := if w 6 = 99 then (-1, 4, w) else (w 6 + 1, 0, passO w)
theorem passO_6 (w : Int → Int) : passO w 6 = w 6 + 1 := by unfold passO; rw [upd1_at, if_pos rfl]
theorem c_pass {M : Mem} {v : Int} {w : Int → Int} (h : CI M v w) (hwf : WF w) (ha : WFa w) : Tot (f_X11_pass 1 M) (fun q => q.1 = (passW w).1 ∧ ChC M q.2 v (passW w).2.2 (passW w).2.1) := by
  have L := wf_l hwf
  have hn := hwf.1
  unfold WFn at hn
  obtain ⟨a, b, c, d, e⟩ := ci_p h
  unfold f_X11_pass
  rw [t_getf, a, t_getf, b, t_nn, t_call]
  refine ⟨by decide, by decide, by decide, endSpan_e h hwf ha (fun h6 => ?_) (fun h6 M' k1 k2 => ?_)⟩
  · try dsimp only
    rw [t_jn, t_ite]
    refine ⟨fun _ => ?_, fun hh => absurd (by decide) hh⟩
    rw [refuse_e, t_call, t_some, t_some, show passW w = (-1, 4, w) by unfold passW; rw [if_pos h6]]
    exact ⟨rfl, chc_st (by omega) (by omega) h (fun _ _ _ => rfl) 4⟩
  · try dsimp only
    obtain ⟨a', b', c', d', e'⟩ := ci_p k2
    have s2 : M' 48 1 = passO w 6 := k2.2.2.2.2.2.2.1.2.1
    have wp := pass_wf hwf ha h6
    have hn2 := wp.1.1
    unfold WFn at hn2
    rw [t_jn, t_ite]
    refine ⟨fun hh => absurd rfl hh, fun _ => ?_⟩
    rw [t_getf, a', t_getf, d', t_getf, s2, answer_e, t_call, t_some, t_some, show passW w = (w 6 + 1, 0, passO w) by unfold passW; rw [if_neg (by omega)]]
    exact ⟨by decide, by decide, by decide, passO_6 w, chc_st (by omega) (by omega) k2 k1 0⟩
theorem r_pass {M : Mem} {w : Int → Int} (h : RI M w (-1)) (hwf : WF w) (ha : WFa w) : Tot (f_X12_pass 119 M) (fun q => q.1 = (passW w).1 ∧ ChR M q.2 (passW w).2.2 (passW w).2.1) := by
  have hn := hwf.1
  unfold WFn at hn
  obtain ⟨a, b, ww⟩ := ri_at h
  unfold f_X12_pass
  rw [t_getf, a, t_geti, b, ww, t_ite]
  refine ⟨by decide, by decide, by decide, by decide, fun h6 => ?_, fun h6 => ?_⟩
  · rw [t_callv]
    refine passes_e h hwf ha (by omega) (fun M' k1 k2 => ?_)
    have a' : M' 119 0 = 120 := by rw [k2 _ _ (by unfold SR; omega) (by decide)]; exact a
    have b' : M' 120 (-1) = 3840 := by
      rw [k1]; unfold passO; rw [upd1_at, if_neg (by decide), upd1_at, if_neg (by decide), passP_o (by omega), ← ww]; exact b
    rw [t_getf, a', t_geti, b', k1, passO_6, gives_e, t_call, t_some, t_some, show passW w = (w 6 + 1, 0, passO w) by unfold passW; rw [if_neg (by omega)]]
    exact ⟨by decide, by decide, by decide, by decide, rfl, chr_st k1 (fun x j hx hy => k2 x j hx hy) 0⟩
  · rw [refuseR_e, t_call, t_some, t_some, show passW w = (-1, 4, w) by unfold passW; rw [if_pos (by simpa using h6)]]
    exact ⟨rfl, chr_st h.2.1 (fun _ _ _ _ => rfl) 4⟩
