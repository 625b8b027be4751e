/-! worlds that differ little -/
theorem sv_ch {w w' : Int → Int} (h : SameV w w') (hn : WFn w) (hr : WFr w) : ∀ (n : Nat) (r : Int), r < w 3 → chF w' n r = chF w n r := by
  unfold WFn at hn
  intro n
  induction n with
  | zero => intro r _; rfl
  | succ n ih =>
    intro r h1
    show (if r < 0 then [] else r :: chF w' n (rc w' r 0)) = (if r < 0 then [] else r :: chF w n (rc w r 0))
    by_cases c : r < 0
    · rw [if_pos c, if_pos c]
    · have q := hr r (by omega) h1
      rw [if_neg c, if_neg c, sv_rc h (by omega) (by omega) (by omega) (by omega), ih _ (by omega)]
theorem sv_lv {w w' : Int → Int} (h : SameV w w') (hn : WFn w) (hr : WFr w) (hd m : Int) : ∀ (n : Nat) (r : Int), 0 ≤ r → r < w 3 → lvF w' hd m n r = lvF w hd m n r := by
  have hl := sv_litre h hn
  unfold WFn at hn
  intro n
  induction n with
  | zero => intro r _ _; rfl
  | succ n ih =>
    intro r h0 h1
    have q := hr r h0 h1
    show outR w' m r (carR w' r (if rc w' r 0 = -1 then hd * litre w' else lvF w' hd m n (rc w' r 0))) = outR w m r (carR w r (if rc w r 0 = -1 then hd * litre w else lvF w hd m n (rc w r 0)))
    have e : (if rc w' r 0 = -1 then hd * litre w' else lvF w' hd m n (rc w' r 0)) = (if rc w r 0 = -1 then hd * litre w else lvF w hd m n (rc w r 0)) := by
      rw [sv_rc h h0 (by omega) (by omega) (by omega), hl]
      by_cases c : rc w r 0 = -1
      · rw [if_pos c, if_pos c]
      · rw [if_neg c, if_neg c, ih _ (by omega) (by omega)]
    rw [e]
    unfold outR carR
    rw [sv_rc h h0 (by omega) (by omega) (by omega), sv_rc h h0 (by omega) (by omega) (by omega), sv_rc h h0 (by omega) (by omega) (by omega), hl]
theorem sv_rt {w w' : Int → Int} (h : SameV w w') (hwf : WF w) (hd m : Int) {f : Int} (f0 : 0 ≤ f) (f1 : f < w 5) : rtG w' hd m f = rtG w hd m f := by
  have L := wf_l hwf
  have q := hwf.2.2.1 f f0 f1
  unfold rtG
  rw [sv_fc h f0 (by omega) (by omega) (by omega)]
  exact sv_lv h hwf.1 hwf.2.1 hd m 12 _ q.1 q.2.1
/-- the same turns and loans -/
def SameT (w w' : Int → Int) : Prop := ∀ k, 112 ≤ k ∧ k < 158 ∨ k = 8 → w' k = w k
theorem st_ahead {w w' : Int → Int} (h : SameV w w') (ht : SameT w w') (hn : WFn w) (ho : WFo w) {k : Int} (k0 : 0 ≤ k) (k1 : k ≤ w 5) : ahead w' k = ahead w k := by
  unfold WFn at hn
  unfold ahead
  refine sumZ_congr (fun i i0 i1 => ?_)
  have oi := ho.1 i i0 (by omega)
  have e : od w' i = od w i := ht _ (by omega)
  rw [e, sv_fc h oi.1 (by omega) (by omega) (by omega)]
theorem st_edge {w w' : Int → Int} (h : SameV w w') (ht : SameT w w') (hn : WFn w) (ho : WFo w) {k : Int} (k0 : 0 ≤ k) (k1 : k ≤ w 5) : edge w' k = edge w k := by
  unfold edge
  rw [(sv_n h).1, st_ahead h ht hn ho k0 k1, sv_allSh h hn]
theorem st_lent {w w' : Int → Int} (ht : SameT w w') (hn : WFn w) (f : Int) : lentBy w' f = lentBy w f := by
  unfold WFn at hn
  unfold lentBy
  rw [ht 8 (by omega)]
  refine sumZ_congr (fun i i0 i1 => ?_)
  have e0 : lo w' i 0 = lo w i 0 := ht _ (by omega)
  have e2 : lo w' i 2 = lo w i 2 := ht _ (by omega)
  rw [e0, e2]
theorem st_left {w w' : Int → Int} (h : SameV w w') (ht : SameT w w') (hn : WFn w) (ho : WFo w) {k : Int} (k0 : 0 ≤ k) (k1 : k < w 5) : leftK w' k = leftK w k := by
  have hn' := hn
  unfold WFn at hn'
  unfold leftK
  have e : od w' k = od w k := ht _ (by omega)
  rw [st_edge h ht hn ho k0 (by omega), st_edge h ht hn ho (by omega) (by omega), e, st_lent ht hn]
theorem st_lsl {w w' : Int → Int} (ht : SameT w w') (f : Int) : ∀ (n : Nat) (a : Int), n ≤ 12 → lsl w' f n a = lsl w f n a := by
  intro n
  induction n with
  | zero => intro a _; rfl
  | succ n ih =>
    intro a hn
    have e0 : lo w' n 0 = lo w n 0 := ht _ (by omega)
    have e1 : lo w' n 1 = lo w n 1 := ht _ (by omega)
    have e2 : lo w' n 2 = lo w n 2 := ht _ (by omega)
    show (if lo w' n 0 = f then (lo w' n 1, a, lo w' n 2) :: lsl w' f n (a + lo w' n 2) else lsl w' f n a) = (if lo w n 0 = f then (lo w n 1, a, lo w n 2) :: lsl w f n (a + lo w n 2) else lsl w f n a)
    rw [e0, e1, e2, ih _ (by omega), ih _ (by omega)]
theorem st_slots {w w' : Int → Int} (h : SameV w w') (ht : SameT w w') (hn : WFn w) (ho : WFo w) : slotsW w' = slotsW w := by
  have hn' := hn
  unfold WFn at hn'
  unfold slotsW
  rw [(sv_n h).2.2.2.2]
  refine foldZ_congr (fun k l k0 k1 => ?_)
  have e : od w' k = od w k := ht _ (by omega)
  unfold turnS ownS
  rw [st_left h ht hn ho k0 k1, st_edge h ht hn ho k0 (by omega), e, ht 8 (by omega), st_lsl ht _ _ _ (by omega)]
/-- one number of the standing is another -/
theorem wf_u {w : Int → Int} (hwf : WF w) {i x : Int} (hi : i = 7 ∨ i = 0 ∧ 0 ≤ x ∧ x ≤ 999) : WF (upd1 w i x) ∧ SameV w (upd1 w i x) ∧ SameT w (upd1 w i x) := by
  obtain ⟨hn, hr, hf, ho, hl, hw⟩ := hwf
  have hn' := hn
  unfold WFn at hn'
  have o : ∀ j, j ≠ i → upd1 w i x j = w j := fun j hj => by rw [upd1_at, if_neg hj]
  have sv : SameV w (upd1 w i x) := sv_u (by omega)
  have st : SameT w (upd1 w i x) := fun k hk => o k (by omega)
  obtain ⟨e1, e2, e3, e4, e5⟩ := sv_n sv
  have eod : ∀ j, 0 ≤ j → j < 10 → od (upd1 w i x) j = od w j := fun j j0 j1 => o _ (by omega)
  refine ⟨⟨?_, ?_, ?_, ⟨?_, ?_, ?_, ?_⟩, ⟨?_, ?_⟩, ?_⟩, sv, st⟩
  · unfold WFn
    have e0 : 0 ≤ upd1 w i x 0 ∧ upd1 w i x 0 ≤ 999 := by rw [upd1_at]; split <;> omega
    rw [o 1 (by omega), o 2 (by omega), o 3 (by omega), o 4 (by omega), o 5 (by omega), o 6 (by omega), o 8 (by omega)]
    omega
  · intro r r0 r1
    rw [e3] at r1
    simp (disch := omega) only [sv_rc sv]
    exact hr r r0 r1
  · intro r r0 r1
    rw [e5] at r1
    rw [e3, e4]
    simp (disch := omega) only [sv_fc sv]
    exact hf r r0 r1
  · intro j j0 j1
    rw [e5] at j1 ⊢
    rw [eod j j0 (by omega)]; exact ho.1 j j0 j1
  · intro f f0 f1
    rw [e5] at f1 ⊢
    obtain ⟨j, j0, j1, j2⟩ := ho.2.1 f f0 f1
    exact ⟨j, j0, j1, by rw [eod j j0 (by omega)]; exact j2⟩
  · intro a b a0 a1 b0 b1 e
    rw [e5] at a1 b1
    rw [eod a a0 (by omega), eod b b0 (by omega)] at e
    exact ho.2.2.1 a b a0 a1 b0 b1 e
  · rw [e5, st_ahead sv st hn ho (by omega) (Int.le_refl _), sv_allSh sv hn]; exact ho.2.2.2
  · intro j j0 j1
    rw [o 8 (by omega)] at j1
    rw [e5]
    have q0 : lo (upd1 w i x) j 0 = lo w j 0 := st _ (by omega)
    have q1 : lo (upd1 w i x) j 1 = lo w j 1 := st _ (by omega)
    have q2 : lo (upd1 w i x) j 2 = lo w j 2 := st _ (by omega)
    rw [q0, q1, q2]; exact hl.1 j j0 j1
  · intro j j0 j1
    rw [e5] at j1
    rw [st_left sv st hn ho j0 j1]; exact hl.2 j j0 j1
  · unfold WFw
    rw [o 6 (by omega), o 8 (by omega), e5]
    refine ⟨fun a b a0 a1 b0 b1 => ?_, fun f f0 f1 => ?_⟩
    · have q : ow (upd1 w i x) a b = ow w a b := o _ (by omega)
      rw [q]; exact hw.1 a b a0 a1 b0 b1
    · have q : ac (upd1 w i x) f = ac w f := o _ (by omega)
      rw [q]; exact hw.2 f f0 f1
theorem sv_end {w w' : Int → Int} (h : SameV w w') (ht : SameT w w') (hn : WFn w) (ho : WFo w) : endT w' = endT w := by
  unfold endT
  rw [(sv_n h).2.2.2.2]
  exact st_edge h ht hn ho (by unfold WFn at hn; omega) (Int.le_refl _)
theorem sv_fw {w w' : Int → Int} (h : SameV w w') (ht : SameT w w') (hn : WFn w) (ho : WFo w) (m : Int) : fw w' m = fw w m := by
  unfold fw; rw [st_slots h ht hn ho]
/-! headFor -/
def headZ (w : Int → Int) (f : Int) : Nat → Int
  | 0 => -1
  | n + 1 => if headZ w f n ≠ -1 then headZ w f n else if needW w f ≤ gtG w n (-1) f then n else -1
theorem headZ_i {w : Int → Int} {f : Int} : ∀ n : Nat, (headZ w f n = -1 ∧ ∀ k : Int, 0 ≤ k → k < n → ¬ needW w f ≤ gtG w k (-1) f) ∨ (0 ≤ headZ w f n ∧ headZ w f n < n ∧ needW w f ≤ gtG w (headZ w f n) (-1) f ∧ ∀ k : Int, 0 ≤ k → k < headZ w f n → ¬ needW w f ≤ gtG w k (-1) f) := by
  intro n
  induction n with
  | zero => exact .inl ⟨rfl, fun k a b => by omega⟩
  | succ n ih =>
    have e : headZ w f (n + 1) = if headZ w f n ≠ -1 then headZ w f n else if needW w f ≤ gtG w n (-1) f then n else -1 := rfl
    rcases ih with ⟨h1, h2⟩ | ⟨h1, h2, h3, h4⟩
    · rw [if_neg (by simpa using h1)] at e
      by_cases c : needW w f ≤ gtG w n (-1) f
      · rw [if_pos c] at e
        refine .inr ?_
        rw [e]
        exact ⟨by omega, by omega, c, fun k a b => h2 k a b⟩
      · rw [if_neg c] at e
        refine .inl ⟨e, fun k a b => ?_⟩
        by_cases ck : k = n
        · rw [ck]; exact c
        · exact h2 k a (by omega)
    · rw [if_pos (by omega)] at e
      refine .inr ?_
      rw [e]
      exact ⟨h1, by omega, h3, h4⟩
theorem gt_mono {w : Int → Int} (hwf : WF w) {h g f : Int} (hg : h ≤ g) (f0 : 0 ≤ f) (f1 : f < w 5) : gtG w h (-1) f ≤ gtG w g (-1) f := by
  have L := wf_l hwf
  have q := hwf.2.2.1 f f0 f1
  have o := op_le hwf.1 hwf.2.2.1 hwf.2.2.2.1 f
  have := (flow_mono hwf.2.1 L.2.2.2.2.1 L.2.2.2.2.2.1 hg (-1) 10 (fc w f 0) q.1 (by omega) q.2.1).2
  exact Int.mul_le_mul_of_nonneg_right this o.1
def headForS (w : Int → Int) (f : Int) : Ans := if 0 ≤ f ∧ f < w 5 then orN (headZ w f 1000) else (-1, 1, none)
theorem c_headFor {M : Mem} {v : Int} {w : Int → Int} (hc : CI M v w) (hwf : WF w) (f : Int) : Tot (f_X11_headFor 1 f M) (AC (headForS w f) M) := by
  have L := wf_l hwf
  unfold f_X11_headFor headForS
  rw [isField_e hc, t_callp, t_some, t_ite, n10]
  refine ⟨fun h1 => ?_, fun h1 => by rw [if_neg h1]; exact zCr (kc M) 1⟩
  rw [if_pos h1, t_call]
  refine sweptWorld_e hc hwf (fun M' k1 k2 k3 => ?_)
  try dsimp only
  refine lpIIIM (fun x y p N => 0 ≤ p ∧ p ≤ 20 ∧ 0 ≤ x ∧ x ≤ y ∧ y ≤ 1000 ∧ (y - x) * 2 ^ p.toNat ≤ 1000 ∧ (∀ h, 0 ≤ h → h < x → ¬ needW w f ≤ gtG w h (-1) f) ∧ (∀ h, y ≤ h → h < 1000 → needW w f ≤ gtG w h (-1) f) ∧ (∀ a k, ¬ SC a k → N a k = M a k) ∧ CI N v w ∧ SM N w (endT w)) (fun _ _ p _ => (20 - p).toNat) ?_ (by unfold KF; omega) ⟨by omega, by omega, by omega, by omega, by omega, by decide, fun h a b => by omega, fun h a b => by omega, k1, k2, k3.2.1⟩
  rintro n x y p N ⟨i0, i1, i2, i3, i4, i5, i6, i7, i8, i9, i10'⟩ ih
  have fin : y ≤ x → Tot (jn (fun (q23 : Int) (M24 : Mem) => some (q23, M24)) (fun j118 => if 999 < x then (call (f_X11_refuse 1 6 N) (fun v25 M26 => j118 v25 M26)) else (call (f_X11_answer 1 x N) (fun v27 M28 => j118 v27 M28)))) (AC (orN (headZ w f 1000)) M) := fun hxy => by
    have hz := headZ_i (w := w) (f := f) 1000
    rw [t_jn, t_ite]
    refine ⟨fun h2 => ?_, fun h2 => ?_⟩
    · have : headZ w f 1000 = -1 := by
        rcases hz with z | z
        · exact z.1
        · exact absurd z.2.2.1 (i6 _ z.1 (by omega))
      rw [this]; exact zCr i8 6
    · have : headZ w f 1000 = x := by
        rcases hz with z | z
        · exact absurd (i7 x (by omega) (by omega)) (z.2 x i2 (by omega))
        · by_cases c1 : headZ w f 1000 < x
          · exact absurd z.2.2.1 (i6 _ z.1 c1)
          · by_cases c2 : x < headZ w f 1000
            · exact absurd (i7 x (by omega) (by omega)) (z.2.2.2 x i2 c2)
            · omega
      rw [this]
      unfold orN
      rw [if_neg (by omega)]
      exact zCa i8 x
  unfold f_X11_headFor_L29
  rw [t_ite, t_ite]
  refine ⟨fun c => fin ?_, fun c => ⟨fun c2 => fin c2, fun c2 => ?_⟩⟩
  · have : p = 20 := by omega
    rw [this] at i5
    have e : (2 : Int) ^ (20 : Int).toNat = 1048576 := by decide
    rw [e] at i5
    omega
  · obtain ⟨a', b', c', d', e'⟩ := ci_p i9
    rw [w32_s (x := x + y) (by omega) (by omega), t_idivc, idiv_p (by omega) (by decide) (by omega), t_getf, a', t_getf, c', t_nn, t_callv]
    refine ⟨by decide, by decide, by decide, by decide, flow_e i9 hwf.1 hwf.2.1 (m := -1) (by omega) (by omega) (fun R kR fR cR => ?_)⟩
    obtain ⟨a2, b2, c2', d2, e2⟩ := ci_p cR
    have sR : SM R w (endT w) := sm_k i10' (fun a j h1 h2 => kR a j (by unfold SCf; omega))
    have kk : ∀ a k, ¬ SC a k → R a k = M a k := fun a k ha => by rw [kR a k (by unfold SC at ha; unfold SCf; omega), i8 a k ha]
    have s0 := sh0 hwf (h := (x + y) / 2) (f := f) (by omega) (by omega) h1.1 h1.2
    have ep : (2 : Int) ^ (p + 1).toNat = 2 ^ p.toNat * 2 := by rw [show (p + 1).toNat = p.toNat + 1 by omega, Int.pow_succ]
    have p2 : 0 < (2 : Int) ^ p.toNat := Int.pow_pos (by decide)
    rw [t_getf, a2, t_getf, c2', shortOf_e cR hwf (by omega) (by omega) fR sR h1.1 h1.2, t_callp, t_some, t_jn, t_ite, t_letv, w32_s (x := (x + y) / 2 + 1) (by omega) (by omega), w32_s (x := p + 1) (by omega) (by omega)]
    have hm : ∀ d : Int, 0 ≤ d → 2 * d ≤ y - x → d * 2 ^ (p + 1).toNat ≤ 1000 := fun d d0 d1 => by
      rw [ep, ← Int.mul_assoc, Int.mul_comm (d * 2 ^ p.toNat), ← Int.mul_assoc]
      exact Int.le_trans (Int.mul_le_mul_of_nonneg_right d1 (by omega)) i5
    refine ⟨by decide, by decide, fun c3 => ih _ _ _ _ (by omega) ⟨by omega, by omega, by omega, by omega, by omega, hm _ (by omega) (by omega), fun h a b => ?_, i7, kk, cR, sR⟩, fun c3 => ih _ _ _ _ (by omega) ⟨by omega, by omega, by omega, by omega, by omega, hm _ (by omega) (by omega), i6, fun h a b => ?_, kk, cR, sR⟩⟩
    · have := gt_mono hwf (h := h) (g := (x + y) / 2) (by omega) h1.1 h1.2
      have c3' := fun hh => c3 (s0.mpr hh)
      omega
    · have := gt_mono hwf (h := (x + y) / 2) (g := h) (by omega) h1.1 h1.2
      have := s0.mp (by simpa using c3)
      omega
