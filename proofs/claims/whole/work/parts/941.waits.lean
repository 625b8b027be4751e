/-! waits -/
abbrev wtP (w : Int → Int) (f m : Int) : Prop := wetP w m ∧ fw w m = f
def wtF (w : Int → Int) (f : Int) : Nat → Int → Int
  | 0, _ => -1
  | n + 1, m => if wtP w f m then m else wtF w f n (m + 1)
theorem wtF_f {w : Int → Int} {f : Int} : ∀ (n : Nat) (m x : Int), m ≤ x → x < m + n → wtP w f x → (∀ y, m ≤ y → y < x → ¬ wtP w f y) → wtF w f n m = x := by
  intro n
  induction n with
  | zero => intro m x h1 h2; omega
  | succ n ih =>
    intro m x h1 h2 h3 h4
    show (if wtP w f m then m else wtF w f n (m + 1)) = x
    by_cases e : m = x
    · rw [e, if_pos h3]
    · rw [if_neg (h4 m (by omega) (by omega))]
      exact ih (m + 1) x (by omega) (by omega) h3 (fun y a b => h4 y (by omega) b)
theorem wtF_n {w : Int → Int} {f : Int} : ∀ (n : Nat) (m : Int), (∀ y, m ≤ y → y < m + n → ¬ wtP w f y) → wtF w f n m = -1 := by
  intro n
  induction n with
  | zero => intro m _; rfl
  | succ n ih =>
    intro m h
    show (if wtP w f m then m else wtF w f n (m + 1)) = -1
    rw [if_neg (h m (by omega) (by omega))]
    exact ih (m + 1) (fun y a b => h y (by omega) (by omega))
def waitsS (w : Int → Int) (f m : Int) : Ans := if 0 ≤ f ∧ f < w 5 ∧ 0 ≤ m ∧ m < w 1 then (if wtF w f (w 1 - m).toNat m = -1 then (-1, 6, none) else (wtF w f (w 1 - m).toNat m - m, 0, none)) else (-1, 1, none)
theorem c_waits {M : Mem} {v : Int} {w : Int → Int} (hc : CI M v w) (hwf : WF w) (f m : Int) : Tot (f_X11_waits 1 f m M) (AC (waitsS w f m) M) := by
  have hn := hwf.1
  unfold WFn at hn
  unfold f_X11_waits waitsS
  rw [isField_e hc, t_callp, t_some, t_jn, t_ite, i10]
  refine ⟨fun h1 => by rw [if_neg (by omega)]; exact zCr (kc M) 1, fun h1 => ?_⟩
  rw [isMinute_e hc, t_callp, t_some, t_ite, n10]
  refine ⟨fun h2 => ?_, fun h2 => by rw [if_neg (by omega)]; exact zCr (kc M) 1⟩
  have h1 := Classical.not_not.mp h1
  rw [if_pos (by omega), t_call]
  refine sweptWorld_e hc hwf (fun M' k1 k2 k3 => ?_)
  try dsimp only
  obtain ⟨a', b', c', d', e'⟩ := ci_p k2
  obtain ⟨n, n42, pc⟩ := k3.2.2.1
  have eT := endT_w hwf (by omega)
  obtain ⟨⟨a1, a2, a3, a4, a5, a6, a7, a8, a9, a10, a11, a12⟩, ⟨y1, y2, y3, y4, y5, y6, y7, y8⟩, _⟩ := ci_55 k2
  refine lpI (fun k => 0 ≤ k ∧ k ≤ n ∧ ∃ t, 0 ≤ t ∧ t ≤ w 1 ∧ pK M' w n k t ∧ ∀ y, m ≤ y → y < t → ¬ wtP w f y) (fun k => (n - k).toNat) ?_ (by unfold KF; omega) ⟨by omega, pc.2.1, 0, by omega, by omega, pK_0 pc, fun y a b => by omega⟩
  rintro fu k ⟨i0, i1, t, i2, i3, i5, i6⟩ ih
  unfold f_X11_waits_L30
  rw [t_getf, pc.1, t_ite]
  refine ⟨by decide, fun c => ?_, fun c => ?_⟩
  · have ht := i5.2 (by omega)
    rw [if_pos (wtF_n _ _ (fun y a b => i6 y a (by omega)))]
    exact zCr k1 6
  · have ht := i5.1 (by omega)
    have q := pc.2.2.2 k i0 (by omega)
    have nx := pK_s pc i0 (show k < n by omega)
    have bl := q.2.2.2.2.2.2.1
    have fq := q.2.2.2.2.2.2.2.2
    have pw := fun y => pc_wet (m := y) hwf pc i0 (show k < n by omega)
    rw [t_getf, a11, t_geti, y7, w32_s (x := k + 1) (by omega) (by omega)]
    have nxt : (∀ y, m ≤ y → M' 70 k ≤ y → y < M' 71 k → ¬ wtP w f y) → Tot (f_X11_waits_L30 M' 55 1 f m (call (f_X11_refuse 1 6 M') (fun v22 M23 => some (v22, M23))) fu (k + 1)) (AC (if wtF w f (w 1 - m).toNat m = -1 then (-1, 6, none) else (wtF w f (w 1 - m).toNat m - m, 0, none)) M) := fun hh =>
      ih _ (by omega) ⟨by omega, by omega, M' 71 k, by omega, by omega, nx, fun y a b => by
        by_cases cy : y < t
        · exact i6 y a cy
        · exact hh y a (by omega) b⟩
    refine ⟨by decide, by decide, i0, by omega, t_jq (fun j => (∀ y, m ≤ y → M' 70 k ≤ y → y < M' 71 k → ¬ wtP w f y) → Tot j (AC (if wtF w f (w 1 - m).toNat m = -1 then (-1, 6, none) else (wtF w f (w 1 - m).toNat m - m, 0, none)) M)) nxt (fun j hj => ?_)⟩
    rw [t_ite]
    refine ⟨fun c2 => hj (fun y a b d hh => c2 (by rw [← (fq y b d).1]; exact hh.2)), fun c2 => ?_⟩
    have c2 : M' 72 k = f := by simpa using c2
    rw [t_getf, a10, t_geti, y6, t_ite]
    refine ⟨by decide, by decide, i0, by omega, fun c3 => hj (fun y a b d => by omega), fun c3 => ?_⟩
    rw [t_getf, a', t_getf, c', t_nn, isWet_e k2 hwf k3 pc n42 i0 (by omega), t_callp, t_some, t_ite, i10]
    refine ⟨by decide, by decide, by decide, fun c4 => hj (fun y a b d hh => c4 ((pw y b d).mp hh.1)), fun c4 => ?_⟩
    have c4 := Classical.not_not.mp c4
    have wx : ∀ x, M' 70 k ≤ x → x < M' 71 k → wtP w f x := fun x a b => ⟨(pw x a b).mpr c4, by rw [(fq x a b).1]; exact c2⟩
    rw [t_getf, a9, t_geti, y5, w32_s (by omega) (by omega), max_e, t_callp, t_some]
    refine ⟨by decide, by decide, i0, by omega, ?_⟩
    by_cases c5 : 0 < M' 70 k - m
    · have e := wtF_f (w := w) (f := f) (w 1 - m).toNat m (M' 70 k) (by omega) (by omega) (wx _ (by omega) (by omega)) (fun y a b => i6 y a (by omega))
      rw [if_pos c5, e, if_neg (by omega)]; exact zCa k1 _
    · have e := wtF_f (w := w) (f := f) (w 1 - m).toNat m m (by omega) (by omega) (wx _ (by omega) (by omega)) (fun y a b => by omega)
      rw [if_neg c5, e, if_neg (by omega), Int.sub_self]; exact zCa k1 _
theorem r_waits {M : Mem} {w : Int → Int} (h : RI M w (-1)) (hwf : WF w) (f m : Int) : Tot (f_X12_waits 119 f m M) (AR (waitsS w f m) M) := by
  have hn := hwf.1
  unfold WFn at hn
  obtain ⟨a, b, ww⟩ := ri_at h
  unfold f_X12_waits waitsS
  rw [isFR h, t_callp, t_some, t_jn, t_ite, i10]
  refine ⟨fun h1 => by rw [if_neg (by omega)]; exact zRr (kr M) 1, fun h1 => ?_⟩
  have h1 := Classical.not_not.mp h1
  rw [t_ite]
  refine ⟨fun h2 => by rw [if_neg (by omega)]; exact zRr (kr M) 1, fun h2 => ?_⟩
  rw [t_getf, a, t_geti, b, ww, t_ite]
  refine ⟨by decide, by decide, by decide, by decide, fun h3 => ?_, fun h3 => by rw [if_neg (by omega)]; exact zRr (kr M) 1⟩
  rw [if_pos (by omega), t_callv]
  refine laysWet_e h hwf (fun M1 k1 w1 => ?_)
  have h1' := ri_k h k1
  obtain ⟨a', b', ww'⟩ := ri_at h1'
  have b35 : M1 119 35 = 133 := h1'.1.1.2.2.2.2.2.2.2.2.2.2.2.2.2.1
  have m133 : M1 133 (-1) = 1440 := h1'.1.2.2.2.2.2.2.2.2.2.2.2.2.2.2.1
  refine lpI (fun p => m ≤ p ∧ p ≤ w 1 ∧ ∀ y, m ≤ y → y < p → ¬ wtP w f y) (fun p => (w 1 - p).toNat) ?_ (by unfold KF; omega) ⟨by omega, by omega, fun y a b => by omega⟩
  rintro n p ⟨i0, i1, i2⟩ ih
  unfold f_X12_waits_L34
  rw [t_getf, a', t_geti, b', ww', t_ite]
  refine ⟨by decide, by decide, by decide, by decide, fun c => ?_, fun c => ?_⟩
  · rw [if_pos (wtF_n _ _ (fun y a b => i2 y a (by omega)))]; exact zRr k1 6
  · rw [t_getf, b35, t_geti, m133, w1 p (by omega) (by omega), t_ite]
    have key : (if wetP w p then fw w p else -1) = f ↔ wtP w f p := by
      by_cases cw : wetP w p
      · rw [if_pos cw]; exact ⟨fun e => ⟨cw, e⟩, fun e => e.2⟩
      · rw [if_neg cw]; exact ⟨fun e => by omega, fun e => absurd e.1 cw⟩
    refine ⟨by decide, by decide, by omega, by omega, fun c2 => ?_, fun c2 => ?_⟩
    · rw [w32_s (by omega) (by omega)]
      refine ih _ (by omega) ⟨by omega, by omega, fun y a b => ?_⟩
      by_cases e : y = p
      · rw [e]; exact fun hh => c2 (key.mpr hh)
      · exact i2 y a (by omega)
    · have e := wtF_f (w := w) (f := f) (w 1 - m).toNat m p (by omega) (by omega) (key.mp (by simpa using c2)) i2
      rw [e, if_neg (by omega), w32_s (by omega) (by omega)]; exact zRa k1 _
