/-! who is short -/
def needW (w : Int → Int) (f : Int) : Int := fc w f 2 * litre w
abbrev dryW (w : Int → Int) (f : Int) : Prop := rtG w (w 0) (-1) f = 0 ∧ 0 < fc w f 2
def shG (w : Int → Int) (h f : Int) : Int := if needW w f - gtG w h (-1) f ≤ 0 then 0 else if rtG w h (-1) f < 1 then -1 else if (needW w f - gtG w h (-1) f + rtG w h (-1) f - 1) / rtG w h (-1) f < 999999 then (needW w f - gtG w h (-1) f + rtG w h (-1) f - 1) / rtG w h (-1) f else 999999
theorem need_le {w : Int → Int} (hwf : WF w) {f : Int} (f0 : 0 ≤ f) (f1 : f < w 5) : 0 ≤ needW w f ∧ needW w f ≤ 619111724875776 ∧ (fc w f 2 = 0 → needW w f = 0) ∧ (0 < fc w f 2 → 0 < needW w f) := by
  have L := wf_l hwf
  have q := hwf.2.2.1 f f0 f1
  have l := litre_le hwf.2.1 L.2.2.2.2.1 L.2.2.2.2.2.1
  have := mul_le (x := fc w f 2) (y := litre w) (a := 9999) (b := 61917364224) (by omega) (by omega) (by omega) l.2
  unfold needW
  refine ⟨this.1, by omega, fun h => by rw [h, Int.zero_mul], fun h => Int.mul_pos h L.1⟩
theorem sh_le {w : Int → Int} (hwf : WF w) {h : Int} (h0 : 0 ≤ h) (h1 : h ≤ 999) {f : Int} (f0 : 0 ≤ f) (f1 : f < w 5) : -1 ≤ shG w h f ∧ shG w h f ≤ 999999 := by
  have b := rt_le hwf.1 hwf.2.1 hwf.2.2.1 h0 h1 (-1) f0 f1
  unfold shG
  split
  · omega
  · split
    · omega
    · have : 0 ≤ (needW w f - gtG w h (-1) f + rtG w h (-1) f - 1) / rtG w h (-1) f := Int.ediv_nonneg (by omega) (by omega)
      split <;> omega
theorem sh_dry {w : Int → Int} (hwf : WF w) {f : Int} (f0 : 0 ≤ f) (f1 : f < w 5) : shG w (w 0) f = -1 ↔ dryW w f := by
  have L := wf_l hwf
  have b := rt_le hwf.1 hwf.2.1 hwf.2.2.1 (h := w 0) (by omega) (by omega) (-1) f0 f1
  have n := need_le hwf f0 f1
  have q := hwf.2.2.1 f f0 f1
  have g0 : rtG w (w 0) (-1) f = 0 → gtG w (w 0) (-1) f = 0 := fun h => by unfold gtG; rw [h, Int.zero_mul]
  have g1 := gt_le hwf.1 hwf.2.1 hwf.2.2.1 hwf.2.2.2.1 (h := w 0) (by omega) (by omega) (-1) f0 f1
  unfold shG dryW
  constructor
  · intro h
    split at h
    · omega
    · split at h
      · refine ⟨by omega, ?_⟩
        by_cases c : fc w f 2 = 0
        · have := n.2.2.1 c; omega
        · omega
      · have : 0 ≤ (needW w f - gtG w (w 0) (-1) f + rtG w (w 0) (-1) f - 1) / rtG w (w 0) (-1) f := Int.ediv_nonneg (by omega) (by omega)
        split at h <;> omega
  · rintro ⟨h1, h2⟩
    have := n.2.2.2 h2
    have := g0 h1
    rw [if_neg (by omega), if_pos (by omega)]
theorem shortOf_e {M : Mem} {v : Int} {w : Int → Int} (hc : CI M v w) (hwf : WF w) {h : Int} (h0 : 0 ≤ h) (h1 : h ≤ 999) (fl : FL M w h (-1) (w 3)) (sm : SM M w (endT w)) {f : Int} (f0 : 0 ≤ f) (f1 : f < w 5) : f_X5_shortOf 55 v f M = some (shG w h f) := by
  have L := wf_l hwf
  obtain ⟨a, b, c, d, e⟩ := ci_p hc
  obtain ⟨g1, g2, g3, g4, g5, g6, g7⟩ := ci_n hc
  obtain ⟨r1, r2, r3, r4, r5, r6, r7⟩ := ci_f hc hwf.1 f0 f1
  have s2 := r5 2 (by omega) (by omega)
  have n := need_le hwf f0 f1
  have bg := gt_le hwf.1 hwf.2.1 hwf.2.2.1 hwf.2.2.2.1 h0 h1 (-1) f0 f1
  have br := rt_le hwf.1 hwf.2.1 hwf.2.2.1 h0 h1 (-1) f0 f1
  have en : fc w f 2 * litre w = needW w f := rfl
  rw [← t_eq]
  unfold f_X5_shortOf
  simp only [t_getf, t_geti, t_callp, r1, r2, r3, r4, s2, g7, gets_e hc hwf.1 hwf.2.1 hwf.2.2.1 hwf.2.2.2.1 h0 h1 fl sm f0 f1, rateOf_e hc hwf.1 hwf.2.2.1 fl f0 f1, t_some, t_letv]
  rw [en, w64_s (x := needW w f) (by omega) (by omega), w64_s (x := needW w f - gtG w h (-1) f) (by omega) (by omega), t_ite]
  refine ⟨e, r6, f0, by omega, r7, by decide, by omega, e, fun c1 => ?_, fun c1 => ?_⟩
  · rw [t_jn, t_ite]
    refine ⟨fun c2 => ?_, fun c2 => ?_⟩
    · rw [w64_s (x := needW w f - gtG w h (-1) f + rtG w h (-1) f) (by omega) (by omega), w64_s (x := needW w f - gtG w h (-1) f + rtG w h (-1) f - 1) (by omega) (by omega), t_ldivc, ldiv_p (by omega) (by omega) (by omega), t_callp, minl_e, t_some, t_some]
      have dn : 0 ≤ (needW w f - gtG w h (-1) f + rtG w h (-1) f - 1) / rtG w h (-1) f := Int.ediv_nonneg (by omega) (by omega)
      refine ⟨by omega, ?_⟩
      have es : shG w h f = if (needW w f - gtG w h (-1) f + rtG w h (-1) f - 1) / rtG w h (-1) f < 999999 then (needW w f - gtG w h (-1) f + rtG w h (-1) f - 1) / rtG w h (-1) f else 999999 := by
        unfold shG; rw [if_neg (by omega), if_neg (by omega)]
      rw [w32_s (by split <;> omega) (by split <;> omega)]
      exact es.symm
    · rw [t_some]; unfold shG; rw [if_neg (by omega), if_pos (by omega)]
  · rw [t_some]; unfold shG; rw [if_pos (by omega)]
def spareW (w : Int → Int) (f : Int) : Int := if shG w (w 0) f = 0 then slM w f - (needW w f + (if 1 < rtG w (w 0) (-1) f then rtG w (w 0) (-1) f else 1) - 1) / (if 1 < rtG w (w 0) (-1) f then rtG w (w 0) (-1) f else 1) else 0
theorem sh0 {w : Int → Int} (hwf : WF w) {h f : Int} (h0 : 0 ≤ h) (h1 : h ≤ 999) (f0 : 0 ≤ f) (f1 : f < w 5) : shG w h f = 0 ↔ needW w f ≤ gtG w h (-1) f := by
  have b := rt_le hwf.1 hwf.2.1 hwf.2.2.1 h0 h1 (-1) f0 f1
  unfold shG
  constructor
  · intro hh
    split at hh
    · omega
    · split at hh
      · omega
      · rename_i c1 c2
        have : 1 ≤ (needW w f - gtG w h (-1) f + rtG w h (-1) f - 1) / rtG w h (-1) f := (Int.le_ediv_iff_mul_le (by omega)).mpr (by omega)
        split at hh <;> omega
  · intro hh; rw [if_pos (by omega)]
theorem few_le {w : Int → Int} (hwf : WF w) {f : Int} (f0 : 0 ≤ f) (f1 : f < w 5) (hs : shG w (w 0) f = 0) : (rtG w (w 0) (-1) f = 0 → needW w f = 0) ∧ 0 ≤ (needW w f + (if 1 < rtG w (w 0) (-1) f then rtG w (w 0) (-1) f else 1) - 1) / (if 1 < rtG w (w 0) (-1) f then rtG w (w 0) (-1) f else 1) ∧ (needW w f + (if 1 < rtG w (w 0) (-1) f then rtG w (w 0) (-1) f else 1) - 1) / (if 1 < rtG w (w 0) (-1) f then rtG w (w 0) (-1) f else 1) ≤ slM w f ∧ slM w f ≤ 1440 := by
  have L := wf_l hwf
  have b := rt_le hwf.1 hwf.2.1 hwf.2.2.1 (h := w 0) (by omega) (by omega) (-1) f0 f1
  have o := op_le hwf.1 hwf.2.2.1 hwf.2.2.2.1 f
  have n := need_le hwf f0 f1
  rw [sh0 hwf (by omega) (by omega) f0 f1] at hs
  unfold gtG at hs
  obtain ⟨x, ex⟩ : ∃ x, x = if 1 < rtG w (w 0) (-1) f then rtG w (w 0) (-1) f else 1 := ⟨_, rfl⟩
  have x1 : 1 ≤ x := by rw [ex]; split <;> omega
  have x2 : rtG w (w 0) (-1) f ≤ x := by rw [ex]; split <;> omega
  rw [← ex]
  have hz : rtG w (w 0) (-1) f = 0 → needW w f = 0 := fun h => by rw [h, Int.zero_mul] at hs; omega
  refine ⟨hz, Int.ediv_nonneg (by omega) (by omega), ?_, by omega⟩
  have h3 : (needW w f + x - 1) / x < opM w f + 1 := by
    apply Int.ediv_lt_of_lt_mul (by omega)
    have h4 : rtG w (w 0) (-1) f * opM w f ≤ x * opM w f := Int.mul_le_mul_of_nonneg_right x2 o.1
    rw [Int.add_mul, Int.mul_comm (opM w f)]
    omega
  omega
theorem spare_le {w : Int → Int} (hwf : WF w) {f : Int} (f0 : 0 ≤ f) (f1 : f < w 5) : 0 ≤ spareW w f ∧ spareW w f ≤ 1440 := by
  unfold spareW
  by_cases c : shG w (w 0) f = 0
  · have := few_le hwf f0 f1 c
    rw [if_pos c]; omega
  · rw [if_neg c]; omega
theorem spareOf_e {M : Mem} {v : Int} {w : Int → Int} (hc : CI M v w) (hwf : WF w) (sw : SWP M w) {f : Int} (f0 : 0 ≤ f) (f1 : f < w 5) : f_X5_spareOf 55 v f M = some (spareW w f) := by
  have L := wf_l hwf
  obtain ⟨a, b, c, d, e⟩ := ci_p hc
  obtain ⟨g1, g2, g3, g4, g5, g6, g7⟩ := ci_n hc
  obtain ⟨r1, r2, r3, r4, r5, r6, r7⟩ := ci_f hc hwf.1 f0 f1
  have s2 := r5 2 (by omega) (by omega)
  have n := need_le hwf f0 f1
  have br := rt_le hwf.1 hwf.2.1 hwf.2.2.1 (h := w 0) (by omega) (by omega) (-1) f0 f1
  have en : fc w f 2 * litre w = needW w f := rfl
  have s68 : M 68 f = slM w f := (sw.2.1.1 f f0 f1).1
  obtain ⟨⟨a1, a2, a3, a4, a5, a6, a7, a8, _⟩, ⟨y1, y2, y3, y4, _⟩, _⟩ := ci_55 hc
  rw [← t_eq]
  unfold f_X5_spareOf
  rw [shortOf_e hc hwf L.2.2.1 L.2.2.2.1 sw.1 sw.2.1 f0 f1, t_callp, t_some, t_ite, t_some]
  refine ⟨fun c1 => ?_, fun c1 => by unfold spareW; rw [if_neg c1]⟩
  have fl := few_le hwf f0 f1 c1
  obtain ⟨x, ex⟩ : ∃ x, x = if 1 < rtG w (w 0) (-1) f then rtG w (w 0) (-1) f else 1 := ⟨_, rfl⟩
  have x1 : 1 ≤ x := by rw [ex]; split <;> omega
  have x2 : x ≤ 61855446859776 := by rw [ex]; split <;> omega
  have x0 : spareW w f = slM w f - (needW w f + x - 1) / x := by unfold spareW; rw [if_pos c1, ← ex]
  rw [← ex] at fl
  simp only [t_callp, rateOf_e hc hwf.1 hwf.2.2.1 sw.1 f0 f1, t_some, maxl_e, ← ex, t_getf, t_geti, t_ldivc, r1, r2, r3, r4, s2, g7, a7, y3, s68]
  rw [en, w64_s (x := needW w f) (by omega) (by omega), w64_s (x := needW w f + x) (by omega) (by omega), w64_s (x := needW w f + x - 1) (by omega) (by omega), ldiv_p (by omega) (by omega) (by omega), w64_s (by omega) (by omega), w32_s (by omega) (by omega)]
  exact ⟨e, r6, f0, by omega, r7, by decide, by omega, e, by omega, by decide, by decide, f0, by omega, x0.symm⟩
/-! the reference -/
theorem isDry_e {M : Mem} {w : Int → Int} {Q : Int × Mem → Prop} (h : RI M w (-1)) (hwf : WF w) {f : Int} (f0 : 0 ≤ f) (f1 : f < w 5) (hq : ∀ M', (∀ a j, ¬ SR a j → M' a j = M a j) → Q (if dryW w f then 1 else 0, M')) : Tot (f_X12_isDry 119 f M) Q := by
  unfold f_X12_isDry
  rw [t_call]
  refine rateR_e h hwf f0 f1 (fun M' k => ?_)
  try dsimp only
  have q := hq M' k
  refine t_jv (if dryW w f then 1 else 0) (by rw [t_retzm]; exact ⟨by split <;> simp, q⟩) (fun j hj => ?_)
  rw [t_jn, t_ite, ofF_e (ri_k h k) hwf.1 f0 f1 (by omega) (by omega), t_callp, t_some, t_ite]
  refine ⟨fun c1 => ?_, fun c1 => ⟨fun c2 => ?_, fun c2 => ?_⟩⟩
  · rw [if_neg (fun hh => c1 hh.1)] at hj; exact hj
  · rw [if_neg (fun hh => by have := hh.2; omega)] at hj; exact hj
  · rw [if_pos ⟨by simpa using c1, by omega⟩] at hj; exact hj
theorem upTo_e {n d : Int} (M : Mem) (h0 : 0 ≤ n) (h1 : n ≤ 619111724875776) (h2 : 1 ≤ d) (h3 : d ≤ 61855446859776) : f_X12_upTo n d M = some ((n + d - 1) / d) := by
  rw [← t_eq]
  unfold f_X12_upTo
  rw [w64_s (x := n + d) (by omega) (by omega), w64_s (x := n + d - 1) (by omega) (by omega), t_ldivc, ldiv_p (by omega) (by omega) (by omega), t_some]
  exact ⟨by omega, rfl⟩
theorem lackingOf_e {M : Mem} {w : Int → Int} {Q : Int × Mem → Prop} (h : RI M w (-1)) (hwf : WF w) {f : Int} (f0 : 0 ≤ f) (f1 : f < w 5) (hd : ¬ dryW w f) (hq : ∀ M', (∀ a j, ¬ SR a j → M' a j = M a j) → Q (shG w (w 0) f, M')) : Tot (f_X12_lackingOf 119 f M) Q := by
  have L := wf_l hwf
  have n := need_le hwf f0 f1
  have bg := gt_le hwf.1 hwf.2.1 hwf.2.2.1 hwf.2.2.2.1 (h := w 0) (by omega) (by omega) (-1) f0 f1
  have br := rt_le hwf.1 hwf.2.1 hwf.2.2.1 (h := w 0) (by omega) (by omega) (-1) f0 f1
  have en : fc w f 2 * litre w = needW w f := rfl
  have q := hwf.2.2.1 f f0 f1
  unfold f_X12_lackingOf
  rw [ofF_e h hwf.1 f0 f1 (by omega) (by omega), t_callp, t_some, litR_e h hwf, t_callp, t_some, t_call]
  refine waterInR_e h hwf f0 f1 (fun M1 k1 => ?_)
  try dsimp only
  rw [t_letv, en, w64_s (x := needW w f) (by omega) (by omega), w64_s (x := needW w f - gtG w (w 0) (-1) f) (by omega) (by omega), t_jn, t_ite]
  refine ⟨fun c1 => ?_, fun c1 => ?_⟩
  · have hr0 : rtG w (w 0) (-1) f ≠ 0 := fun e => hd ⟨e, by
      by_cases c : fc w f 2 = 0
      · have := n.2.2.1 c; omega
      · omega⟩
    rw [t_call]
    refine rateR_e (ri_k h k1) hwf f0 f1 (fun M2 k2 => ?_)
    try dsimp only
    rw [upTo_e M2 (by omega) (by omega) (by omega) (by omega), t_callp, t_some, minl_e, t_callp, t_some, t_some]
    have dn : 0 ≤ (needW w f - gtG w (w 0) (-1) f + rtG w (w 0) (-1) f - 1) / rtG w (w 0) (-1) f := Int.ediv_nonneg (by omega) (by omega)
    have r := hq M2 (sr_t k1 k2)
    unfold shG at r
    rw [if_neg (by omega), if_neg (by omega)] at r
    rw [w32_s (by split <;> omega) (by split <;> omega)]
    exact r
  · rw [t_some]
    have r := hq M1 k1
    unfold shG at r
    rw [if_pos (by omega)] at r
    exact r
theorem spareOfR_e {M : Mem} {w : Int → Int} {Q : Int × Mem → Prop} (h : RI M w (-1)) (hwf : WF w) {f : Int} (f0 : 0 ≤ f) (f1 : f < w 5) (hq : ∀ M', (∀ a j, ¬ SR a j → M' a j = M a j) → Q (spareW w f, M')) : Tot (f_X12_spareOf 119 f M) Q := by
  have L := wf_l hwf
  have sd := sh_dry hwf f0 f1
  have n := need_le hwf f0 f1
  have br := rt_le hwf.1 hwf.2.1 hwf.2.2.1 (h := w 0) (by omega) (by omega) (-1) f0 f1
  have sb := sh_le hwf (h := w 0) (by omega) (by omega) f0 f1
  have en : fc w f 2 * litre w = needW w f := rfl
  unfold f_X12_spareOf
  rw [t_call]
  refine isDry_e h hwf f0 f1 (fun M1 k1 => ?_)
  try dsimp only
  rw [t_jn, t_ite, n10]
  refine ⟨fun c1 => ?_, fun c1 => ?_⟩
  · rw [t_some]
    have r := hq M1 k1
    unfold spareW at r
    rw [if_neg (by rw [sd.mpr c1]; decide)] at r; exact r
  · rw [t_call]
    refine lackingOf_e (ri_k h k1) hwf f0 f1 c1 (fun M2 k2 => ?_)
    try dsimp only
    have k12 := sr_t k1 k2
    rw [t_ite]
    refine ⟨fun c2 => ?_, fun c2 => ?_⟩
    · have hs : shG w (w 0) f = 0 := by
        have : shG w (w 0) f ≠ -1 := fun e => c1 (sd.mp e)
        omega
      have fl := few_le hwf f0 f1 hs
      rw [t_call]
      refine rateR_e (ri_k h k12) hwf f0 f1 (fun M3 k3 => ?_)
      try dsimp only
      have k13 := sr_t k12 k3
      rw [t_call]
      refine minR_e (ri_k h k13) hwf f0 f1 (fun M4 k4 => ?_)
      try dsimp only
      have k14 := sr_t k13 k4
      have r := hq M4 k14
      have hI := ri_k h k14
      have em : minsW w f 0 = slM w f := rfl
      rw [em]
      unfold spareW at r
      rw [if_pos hs] at r
      refine t_jv ((needW w f + (if 1 < rtG w (w 0) (-1) f then rtG w (w 0) (-1) f else 1) - 1) / (if 1 < rtG w (w 0) (-1) f then rtG w (w 0) (-1) f else 1)) (by rw [t_some, w32_s (by omega) (by omega)]; exact r) (fun j hj => ?_)
      rw [t_ite]
      refine ⟨fun c3 => ?_, fun c3 => ?_⟩
      · have e1 : (if 1 < rtG w (w 0) (-1) f then rtG w (w 0) (-1) f else 1) = rtG w (w 0) (-1) f := by split <;> omega
        rw [e1] at hj fl
        rw [ofF_e hI hwf.1 f0 f1 (by omega) (by omega), t_callp, t_some, litR_e hI hwf, t_callp, t_some, en, w64_s (x := needW w f) (by omega) (by omega), upTo_e M4 (by omega) (by omega) (by omega) (by omega), t_callp, t_some, w32_s (by omega) (by omega)]
        exact hj
      · have c3 : rtG w (w 0) (-1) f = 0 := by simpa using c3
        rw [c3, fl.1 c3] at hj
        exact hj
    · rw [t_some]
      have r := hq M2 k12
      unfold spareW at r
      rw [if_neg (by omega)] at r; exact r
/-! the questions -/
def lackingS (w : Int → Int) (f : Int) : Ans := if 0 ≤ f ∧ f < w 5 then (if dryW w f then (-1, 7, none) else (shG w (w 0) f, 0, none)) else (-1, 1, none)
theorem c_lacking {M : Mem} {v : Int} {w : Int → Int} (hc : CI M v w) (hwf : WF w) (f : Int) : Tot (f_X11_lacking 1 f M) (AC (lackingS w f) M) := by
  have L := wf_l hwf
  unfold f_X11_lacking lackingS
  rw [isField_e hc, t_callp, t_some, t_ite, n10]
  refine ⟨fun h1 => ?_, fun h1 => by rw [if_neg h1]; exact zCr (kc M) 1⟩
  rw [if_pos h1, t_call]
  refine sweptWorld_e hc hwf (fun M' k1 k2 k3 => ?_)
  try dsimp only
  obtain ⟨a, b, c, d, e⟩ := ci_p k2
  have sd := sh_dry hwf h1.1 h1.2
  rw [t_getf, a, t_getf, c, t_nn, shortOf_e k2 hwf L.2.2.1 L.2.2.2.1 k3.1 k3.2.1 h1.1 h1.2, t_callp, t_some, t_jn, t_ite]
  refine ⟨by decide, by decide, by decide, fun h2 => ?_, fun h2 => ?_⟩
  · rw [if_neg (fun hd => h2 (sd.mpr hd))]; exact zCa k1 _
  · rw [if_pos (sd.mp (by simpa using h2))]; exact zCr k1 7
theorem r_lacking {M : Mem} {w : Int → Int} (h : RI M w (-1)) (hwf : WF w) (f : Int) : Tot (f_X12_lacking 119 f M) (AR (lackingS w f) M) := by
  unfold f_X12_lacking lackingS
  rw [isFR h, t_callp, t_some, t_jn, t_ite, n10]
  refine ⟨fun h1 => ?_, fun h1 => by rw [if_neg h1]; exact zRr (kr M) 1⟩
  rw [if_pos h1, t_call]
  refine isDry_e h hwf h1.1 h1.2 (fun M1 k1 => ?_)
  try dsimp only
  rw [t_ite, i10]
  refine ⟨fun h2 => ?_, fun h2 => ?_⟩
  · rw [if_neg h2, t_call]
    exact lackingOf_e (ri_k h k1) hwf h1.1 h1.2 h2 (fun M2 k2 => zRa (sr_t k1 k2) _)
  · rw [if_pos (Classical.not_not.mp h2)]; exact zRr k1 7
def spareS (w : Int → Int) (f : Int) : Ans := if 0 ≤ f ∧ f < w 5 then (spareW w f, 0, none) else (-1, 1, none)
theorem c_spare {M : Mem} {v : Int} {w : Int → Int} (hc : CI M v w) (hwf : WF w) (f : Int) : Tot (f_X11_spare 1 f M) (AC (spareS w f) M) := by
  unfold f_X11_spare spareS
  rw [isField_e hc, t_callp, t_some, t_jn, t_ite, i10]
  refine ⟨fun h1 => by rw [if_neg h1]; exact zCr (kc M) 1, fun h1 => ?_⟩
  have h1 := Classical.not_not.mp h1
  rw [if_pos h1, t_call]
  refine sweptWorld_e hc hwf (fun M' k1 k2 k3 => ?_)
  try dsimp only
  obtain ⟨a, b, c, d, e⟩ := ci_p k2
  rw [t_getf, a, t_getf, c, t_nn, spareOf_e k2 hwf k3 h1.1 h1.2, t_callp, t_some]
  exact ⟨by decide, by decide, by decide, zCa k1 _⟩
theorem r_spare {M : Mem} {w : Int → Int} (h : RI M w (-1)) (hwf : WF w) (f : Int) : Tot (f_X12_spare 119 f M) (AR (spareS w f) M) := by
  unfold f_X12_spare spareS
  rw [isFR h, t_callp, t_some, t_jn, t_ite, i10]
  refine ⟨fun h1 => by rw [if_neg h1]; exact zRr (kr M) 1, fun h1 => ?_⟩
  have h1 := Classical.not_not.mp h1
  rw [if_pos h1, t_call]
  exact spareOfR_e h hwf h1.1 h1.2 (fun M2 k2 => zRa k2 _)
