/-! the class's days -/
def LDy (M : Mem) (d : Int) : Prop := (M d 3 = d + 1 ∧ M d 4 = d + 2 ∧ M d 5 = d + 3 ∧ M d 6 = d + 4 ∧ M d 7 = d + 5 ∧ M d 8 = d + 6 ∧ M d 9 = d + 7) ∧ ∀ i, 1 ≤ i → i ≤ 7 → M (d + i) (-1) = 60
def kwOf (c : Int) : Int := if c = 10 then 8 else if c = 24 then 27 else if c = 25 then 28 else if c = 26 then 29 else if 2300 ≤ c then 23 else c
def lnOK (M : Mem) (d : Int) (w : Int → Int) (k : Int) : Prop :=
  M (d + 1) k = kwOf (stp w k 0) ∧
  (stp w k 0 = 10 ∨ stp w k 0 = 16 ∨ stp w k 0 = 17 ∨ stp w k 0 = 18 ∨ stp w k 0 = 19 ∨ 2300 ≤ stp w k 0 → M (d + 3) k = stp w k 1) ∧
  (stp w k 0 = 17 ∨ stp w k 0 = 18 ∨ stp w k 0 = 19 → M (d + 4) k = stp w k 2) ∧
  (stp w k 0 = 18 → M (d + 6) k = stp w k 3) ∧
  (stp w k 0 = 20 ∨ stp w k 0 = 21 ∨ stp w k 0 = 24 → M (d + 6) k = stp w k 1) ∧
  (stp w k 0 = 2310 → M (d + 2) k = 8) ∧ (stp w k 0 = 2328 → M (d + 2) k = 25) ∧ (stp w k 0 = 2329 → M (d + 2) k = 26) ∧
  (stp w k 0 = 2328 ∨ stp w k 0 = 2329 → M (d + 5) k = stp w k 5 ∧ M (d + 6) k = stp w k 2) ∧
  (stp w k 0 = 24 ∨ stp w k 0 = 25 ∨ 2300 ≤ stp w k 0 → M (d + 7) k = stp w k 4)
def RDy (M : Mem) (d : Int) (w : Int → Int) : Prop := M d 0 = (if w 9 = -1 then 0 else 1) ∧ (w 9 ≠ -1 → M d 2 = w 9 ∧ ∀ k, 0 ≤ k → k < w 9 → lnOK M d w k)
def CD (M : Mem) (d : Int) (w : Int → Int) : Prop := (d = 40 ∨ d = 111) ∧ M 13 1 = d ∧ LDy M d ∧ RDy M d w
theorem ldy_k {M N : Mem} {d : Int} (h : LDy M d) (k : ∀ a j, d ≤ a → a ≤ d + 7 → N a j = M a j) : LDy N d := by
  obtain ⟨⟨a1, a2, a3, a4, a5, a6, a7⟩, b⟩ := h
  refine ⟨⟨?_, ?_, ?_, ?_, ?_, ?_, ?_⟩, fun i i0 i1 => by rw [k _ _ (by omega) (by omega)]; exact b i i0 i1⟩ <;> rw [k _ _ (by omega) (by omega)] <;> assumption
theorem rdy_k {M N : Mem} {d : Int} {w w' : Int → Int} (h : RDy M d w) (hd : w 9 ≤ 60) (hs : SameD w w') (k : ∀ a j, d ≤ a → a ≤ d + 7 → N a j = M a j) : RDy N d w' := by
  obtain ⟨a, b⟩ := h
  refine ⟨by rw [k _ _ (by omega) (by omega), hs.1]; exact a, fun h9 => ?_⟩
  rw [hs.1] at h9
  have c := b h9
  refine ⟨by rw [k _ _ (by omega) (by omega), hs.1]; exact c.1, fun j j0 j1 => ?_⟩
  rw [hs.1] at j1
  have q := c.2 j j0 j1
  have s : ∀ i, 0 ≤ i → i < 6 → stp w' j i = stp w j i := fun i i0 i1 => sd_stp hs j0 (by omega) i0 i1
  unfold lnOK at q ⊢
  rw [s 0 (by omega) (by omega), s 1 (by omega) (by omega), s 2 (by omega) (by omega), s 3 (by omega) (by omega), s 4 (by omega) (by omega), s 5 (by omega) (by omega), k (d + 1) _ (by omega) (by omega), k (d + 2) _ (by omega) (by omega), k (d + 3) _ (by omega) (by omega), k (d + 4) _ (by omega) (by omega), k (d + 5) _ (by omega) (by omega), k (d + 6) _ (by omega) (by omega), k (d + 7) _ (by omega) (by omega)]
  exact q
theorem cd_k {M N : Mem} {d : Int} {w w' : Int → Int} (h : CD M d w) (hd : w 9 ≤ 60) (hs : SameD w w') (k : ∀ a j, (a = 13 ∧ j = 1) ∨ (d ≤ a ∧ a ≤ d + 7) → N a j = M a j) : CD N d w' :=
  ⟨h.1, by rw [k _ _ (.inl ⟨rfl, rfl⟩)]; exact h.2.1, ldy_k h.2.2.1 (fun a j h1 h2 => k a j (.inr ⟨h1, h2⟩)), rdy_k h.2.2.2 hd hs (fun a j h1 h2 => k a j (.inr ⟨h1, h2⟩))⟩
theorem ci_74 {M N : Mem} {v : Int} {w : Int → Int} (hn : w 3 ≤ 10) (hf : w 5 ≤ 10) (h : CI M v w) (e1 : ∀ a j, a ≠ 74 → a ≠ 75 → N a j = M a j) : CI N v w := by
  obtain ⟨h1, h2, h3, h4, h5, h6, h7⟩ := h
  refine ⟨h1, ?_, lv_keep h3 (fun a k x y => e1 a k (by omega) (by omega)), ls_keep h4 (fun a k x y => e1 a k (by omega) (by omega)), lw_keep h5 (fun a k x y _ => e1 a k (by omega) (by omega)), rv_keep hn hf h6 (fun a k x y => e1 a k (by omega) (by omega)), rs_keep h7 (fun a k x y => e1 a k (by omega) (by omega))⟩
  obtain ⟨a1, a2, a3, a4⟩ := h2
  refine ⟨?_, ?_, ?_, ?_⟩ <;> rw [e1 _ _ (by omega) (by omega)] <;> assumption
theorem d_r {w : Int → Int} {k : Int} (h : dOK w k) (c : stp w k 0 = 10 ∨ stp w k 0 = 16) : 0 ≤ stp w k 1 ∧ stp w k 1 < w 3 := by unfold dOK at h; omega
theorem d_ff {w : Int → Int} {k : Int} (h : dOK w k) (c : stp w k 0 = 17 ∨ stp w k 0 = 18 ∨ stp w k 0 = 19) : 0 ≤ stp w k 1 ∧ stp w k 1 < w 5 ∧ 0 ≤ stp w k 2 ∧ stp w k 2 < w 5 := by unfold dOK at h; omega
theorem d_18 {w : Int → Int} {k : Int} (h : dOK w k) (c : stp w k 0 = 18) : 1 ≤ stp w k 3 ∧ stp w k 3 ≤ 999 := by unfold dOK at h; omega
theorem d_20 {w : Int → Int} {k : Int} (h : dOK w k) (c : stp w k 0 = 20) : 0 ≤ stp w k 1 ∧ stp w k 1 ≤ 999 := by unfold dOK at h; omega
theorem d_21 {w : Int → Int} {k : Int} (h : dOK w k) (c : stp w k 0 = 21) : 0 ≤ stp w k 1 ∧ stp w k 1 ≤ 16 := by unfold dOK at h; omega
theorem d_24 {w : Int → Int} {k : Int} (h : dOK w k) (c : stp w k 0 = 24) : 1 ≤ stp w k 1 ∧ stp w k 1 ≤ 99 ∧ k < stp w k 4 ∧ stp w k 4 < w 9 := by unfold dOK at h; omega
theorem d_25 {w : Int → Int} {k : Int} (h : dOK w k) (c : stp w k 0 = 25) : 0 ≤ stp w k 4 ∧ stp w k 4 < k ∧ (stp w (stp w k 4) 0 = 24 ∨ 2300 ≤ stp w (stp w k 4) 0) ∧ (stp w k 4 + 1 = k ∨ stp w (stp w k 4 + 1) 0 ≠ 25) := by unfold dOK at h; omega
theorem d_w {w : Int → Int} {k : Int} (h : dOK w k) (c : 2300 ≤ stp w k 0) : ((stp w k 0 = 2310 ∧ 0 ≤ stp w k 1 ∧ stp w k 1 < w 3) ∨ ((stp w k 0 = 2328 ∨ stp w k 0 = 2329) ∧ 0 ≤ stp w k 1 ∧ stp w k 1 < w 5 ∧ 0 ≤ stp w k 2 ∧ stp w k 2 ≤ 9999 ∧ (stp w k 5 = 60 ∨ stp w k 5 = 61 ∨ stp w k 5 = 62))) ∧ k < stp w k 4 ∧ stp w k 4 < w 9 := by unfold dOK at h; omega
theorem d_c {w : Int → Int} {k : Int} (h : dOK w k) : 10 ≤ stp w k 0 ∧ (stp w k 0 = 10 ∨ 16 ≤ stp w k 0) ∧ stp w k 0 ≠ 23 ∧ (stp w k 0 ≤ 26 ∨ 2300 ≤ stp w k 0) := by unfold dOK at h; omega
theorem act_e {M : Mem} {v d : Int} {w : Int → Int} {Q : Int × Mem → Prop} (hc : CI M v w) (hg : GW w) (hd : CD M d w) {x k : Int} (x0 : 0 ≤ x) (x1 : x < 65536) (k0 : 0 ≤ k) (k1 : k < w 9) (hx : M 74 5 = x) (hh : 0 ≤ M 74 3 ∧ M 74 3 ≤ 300) (hq : ∀ st M', (st = 0 ↔ (actW w x k).1 = 1) → (∀ a j, ¬ SW a j → ¬ (a = 74 ∧ (j = 3 ∨ j = 5)) → M' a j = M a j) → CI M' v (actW w x k).2.1 → M' 74 5 = (actW w x k).2.2.1 → M' 74 3 = M 74 3 + (actW w x k).2.2.2 → Q (st, M')) : Tot (f_X2_act 74 13 55 k M) Q := by
  obtain ⟨hd0, hd1, ⟨⟨l3, l4, l5, l6, l7, l8, l9⟩, ll⟩, hr⟩ := hd
  have hwf := hg.1
  have L := wf_l hwf
  have hn := hwf.1
  unfold WFn at hn
  have w9 := hg.2.2.2.1
  have rl := (hr.2 (by omega)).2 k k0 k1
  have dk := hg.2.2.2.2 k k0 k1
  obtain ⟨a, b, c, dd, e⟩ := ci_p hc
  have m1 := ll 1 (by omega) (by omega)
  have m3 := ll 3 (by omega) (by omega)
  have m4 := ll 4 (by omega) (by omega)
  have m6 := ll 6 (by omega) (by omega)
  have e55 : M 55 0 = 56 := hc.2.2.2.2.1.1.1
  have e8 : M 48 3 = w 8 := hc.2.2.2.2.2.2.1.2.2.2
  unfold f_X2_act
  rw [t_getf, hd1, t_getf, l5, t_geti, m3, t_getf, l6, t_geti, m4, t_getf, l3, t_geti, m1]
  refine ⟨by decide, by omega, by omega, k0, by omega, by omega, by omega, k0, by omega, by omega, by omega, k0, by omega, ?_⟩
  have keep0 : (actW w x k).1 = 1 → (actW w x k).2.1 = w → (actW w x k).2.2.1 = x → (actW w x k).2.2.2 = 0 → Q (0, M) := fun e1 e2 e3 e4 =>
    hq 0 M ⟨fun _ => e1, fun _ => rfl⟩ (fun _ _ _ _ => rfl) (by rw [e2]; exact hc) (by rw [e3]; exact hx) (by rw [e4]; omega)
  have keep1 : ∀ st, st ≠ 0 → (actW w x k).1 = 0 → (actW w x k).2.1 = w → (actW w x k).2.2.1 = x → (actW w x k).2.2.2 = 0 → ∀ M', (∀ a j, ¬ SC a j → M' a j = M a j) → CI M' v w → Q (st, M') := fun st h0 e1 e2 e3 e4 M' f1 c1 =>
    hq st M' ⟨fun h => absurd h h0, fun h => by omega⟩ (fun a j ha _ => f1 a j (fun hs => ha (.inl hs))) (by rw [e2]; exact c1) (by rw [e3, f1 _ _ (by unfold SC; omega)]; exact hx) (by rw [e4, f1 _ _ (by unfold SC; omega)]; omega)
  have swk : ∀ M', (∀ a j, ¬ SW a j → M' a j = M a j) → ∀ w', (actW w x k).1 = 1 → (actW w x k).2.1 = w' → (actW w x k).2.2.1 = x → (actW w x k).2.2.2 = 0 → CI M' v w' → Q (0, M') := fun M' f1 w' e1 e2 e3 e4 c1 =>
    hq 0 M' ⟨fun _ => e1, fun _ => rfl⟩ (fun a j ha _ => f1 a j ha) (by rw [e2]; exact c1) (by rw [e3, f1 _ _ (by unfold SW SC; omega)]; exact hx) (by rw [e4, f1 _ _ (by unfold SW SC; omega)]; omega)
  have loan : ∀ m : Int, 1 ≤ m → stp w k 1 ≠ stp w k 2 → (0 ≤ stp w k 1 ∧ stp w k 1 < w 5 ∧ 0 ≤ stp w k 2 ∧ stp w k 2 < w 5) → (w 8 = 12 ∨ leftK w (plc w (stp w k 1)) < m → actW w x k = (0, w, x, 0)) → (¬ (w 8 = 12 ∨ leftK w (plc w (stp w k 1)) < m) → actW w x k = (1, lendO w (stp w k 1) (stp w k 2) m, x, 0)) → ∀ N : Mem, (∀ a j, ¬ SC a j → N a j = M a j) → CI N v w → Tot (f_X10_makeLoan 13 (stp w k 1) (stp w k 2) m 56 N) Q := fun m m0 hne hin h0 h1 N fN cN => by
    refine makeLoan_e cN hwf.1 hwf.2.2.1 hwf.2.2.2.1 hwf.2.2.2.2.1 hwf.2.2.2.2.2 hin.1 hin.2.1 hin.2.2.1 hin.2.2.2 hne m0 (fun h8 => ?_) (fun h8 h9 M' f1 c1 => ?_) (fun h8 h9 M' f1 c1 => ?_)
    · have ea := h0 (.inl h8)
      exact keep1 4 (by decide) (by rw [ea]) (by rw [ea]) (by rw [ea]) (by rw [ea]) N fN cN
    · have ea := h0 (.inr h9)
      exact keep1 7 (by decide) (by rw [ea]) (by rw [ea]) (by rw [ea]) (by rw [ea]) M' (sc_t fN f1) c1
    · have ea := h1 (by omega)
      exact swk M' (fun a j ha => by rw [f1 a j ha, fN a j (fun hs => ha (.inl hs))]) _ (by rw [ea]) (by rw [ea]) (by rw [ea]) (by rw [ea]) c1
  by_cases c1 : stp w k 0 = 10
  · rw [show M (d + 1) k = 8 by rw [rl.1, c1]; rfl, if_pos rfl, rl.2.1 (.inl c1)]
    have ea : actW w x k = (1, upd1 w 7 (clW (w 7) (stp w k 1) 1), x, 0) := by unfold actW; rw [if_pos c1]
    have dr0 := d_r dk (.inl c1)
    rw [t_getf, dd, t_getf, l3, t_geti, m1, show M (d + 1) k = 8 by rw [rl.1, c1]; rfl, t_jn, if_neg (by decide), t_nn, t_callv]
    refine ⟨by decide, by omega, by omega, k0, by omega, by decide, setClosed_e hc hwf.1 _ 1 (fun M' f1 c1 => ?_)⟩
    rw [t_some]
    exact swk M' f1 _ (by rw [ea]) (by rw [ea]) (by rw [ea]) (by rw [ea]) c1
  by_cases c2 : stp w k 0 = 16
  · rw [show M (d + 1) k = 16 by rw [rl.1, c2]; rfl, if_neg (by decide), if_pos rfl, rl.2.1 (.inr (.inl c2))]
    have ea : actW w x k = (1, upd1 w 7 (clW (w 7) (stp w k 1) 0), x, 0) := by unfold actW; rw [if_neg c1, if_pos c2]
    rw [t_getf, dd, t_getf, l3, t_geti, m1, show M (d + 1) k = 16 by rw [rl.1, c2]; rfl, t_jn, if_pos (by decide), t_nn, t_callv]
    refine ⟨by decide, by omega, by omega, k0, by omega, by decide, setClosed_e hc hwf.1 _ 0 (fun M' f1 c1 => ?_)⟩
    rw [t_some]
    exact swk M' f1 _ (by rw [ea]) (by rw [ea]) (by rw [ea]) (by rw [ea]) c1
  by_cases c3 : stp w k 0 = 17
  · rw [show M (d + 1) k = 17 by rw [rl.1, c3]; rfl, if_neg (by decide), if_neg (by decide), if_pos rfl, rl.2.1 (.inr (.inr (.inl c3))), rl.2.2.1 (.inl c3), t_jn, t_ite]
    have ea : actW w x k = if stp w k 1 = stp w k 2 ∨ 0 < w 8 then (0, w, x, 0) else (1, swapO w (stp w k 1) (stp w k 2), x, 0) := by unfold actW; rw [if_neg c1, if_neg c2, if_pos c3]
    have df := d_ff dk (.inl c3)
    refine ⟨fun h1 => ?_, fun h1 => ?_⟩
    · rw [t_nn, t_call]
      refine ⟨by decide, changePlaces_e hc hwf.1 _ _ (fun h8 => ?_) (fun h8 M' f1 _ c1 => ?_)⟩
      · rw [if_pos (.inr h8)] at ea
        exact t_some.mpr (keep1 7 (by decide) (by rw [ea]) (by rw [ea]) (by rw [ea]) (by rw [ea]) M (kc M) hc)
      · rw [if_neg (by omega)] at ea
        exact t_some.mpr (swk M' f1 _ (by rw [ea]) (by rw [ea]) (by rw [ea]) (by rw [ea]) c1)
    · rw [if_pos (.inl (by simpa using h1))] at ea
      exact t_some.mpr (keep1 1 (by decide) (by rw [ea]) (by rw [ea]) (by rw [ea]) (by rw [ea]) M (kc M) hc)
  by_cases c4 : stp w k 0 = 18
  · rw [show M (d + 1) k = 18 by rw [rl.1, c4]; rfl, if_neg (by decide), if_neg (by decide), if_neg (by decide), if_pos rfl, rl.2.1 (.inr (.inr (.inr (.inl c4)))), rl.2.2.1 (.inr (.inl c4)), t_jn, t_ite]
    have ea : actW w x k = if stp w k 1 = stp w k 2 ∨ w 8 = 12 ∨ leftK w (plc w (stp w k 1)) < stp w k 3 then (0, w, x, 0) else (1, lendO w (stp w k 1) (stp w k 2) (stp w k 3), x, 0) := by unfold actW; rw [if_neg c1, if_neg c2, if_neg c3, if_pos c4]
    have df := d_ff dk (.inr (.inl c4))
    have d3 := d_18 dk c4
    refine ⟨fun h1 => ?_, fun h1 => ?_⟩
    · rw [t_getf, l8, t_geti, m6, rl.2.2.2.1 c4, t_getf, e55, t_nn, t_call]
      refine ⟨by omega, by omega, k0, by omega, by decide, by decide, t_mono (loan (stp w k 3) d3.1 h1 df (fun hh => by rw [ea, if_pos (.inr hh)]) (fun hh => by rw [ea, if_neg (by omega)]) M (kc M) hc) (fun q hq => t_some.mpr hq)⟩
    · rw [if_pos (.inl (by simpa using h1))] at ea
      exact t_some.mpr (keep1 1 (by decide) (by rw [ea]) (by rw [ea]) (by rw [ea]) (by rw [ea]) M (kc M) hc)
  by_cases c5 : stp w k 0 = 19
  · rw [show M (d + 1) k = 19 by rw [rl.1, c5]; rfl, if_neg (by decide), if_neg (by decide), if_neg (by decide), if_neg (by decide), if_pos rfl, rl.2.1 (.inr (.inr (.inr (.inr (.inl c5))))), rl.2.2.1 (.inr (.inr c5))]
    have ea : actW w x k = if stp w k 1 = stp w k 2 ∨ w 8 = 12 ∨ pyW w (stp w k 1) (stp w k 2) < 1 then (0, w, x, 0) else (1, lendO w (stp w k 1) (stp w k 2) (pyW w (stp w k 1) (stp w k 2)), x, 0) := by unfold actW; rw [if_neg c1, if_neg c2, if_neg c3, if_neg c4, if_pos c5]
    have df := d_ff dk (.inr (.inr c5))
    rw [t_getf, e55, t_call]
    refine ⟨by decide, ?_⟩
    unfold f_X2_pay
    rw [t_nn, t_callv]
    refine ⟨by decide, lay_e hc hwf.1 hwf.2.2.1 hwf.2.2.2.1 hwf.2.2.2.2.1 (fun N kN hN lN => ?_)⟩
    have cN : CI N v w := ci_s hwf.1 hc (sc_s kN)
    obtain ⟨a', b', c', d', e'⟩ := ci_p cN
    obtain ⟨_, ⟨b1, b2, b3, b4, b5, b6⟩, ⟨z1, z2, z3, _⟩⟩ := cN.2.2.2.2.1
    obtain ⟨p0, p1, p2⟩ := plc_of hwf.2.2.2.1 (f := stp w k 1) (by omega) (by omega)
    have ql := (lN _ p0 p1).2.2
    rw [p2] at ql
    have ep : (if leftK w (plc w (stp w k 1)) < ow w (stp w k 1) (stp w k 2) then leftK w (plc w (stp w k 1)) else ow w (stp w k 1) (stp w k 2)) = pyW w (stp w k 1) (stp w k 2) := rfl
    rw [t_getf, d', t_nn, debt_e cN (by omega) (by omega) (by omega) (by omega), t_callp, t_some, t_getf, b3, t_geti, z3, ql, min_e, t_callp, t_some, ep, t_jn, t_ite]
    have fin : ∀ q : Int × Mem, Q q → Tot (some (q.1, q.2)) Q := fun q hq => by rw [t_some]; exact hq
    refine ⟨by decide, by decide, by decide, by decide, by omega, by omega, fun h1 => ?_, fun h1 => ?_⟩
    · rw [t_nn, t_call]
      by_cases hne : stp w k 1 = stp w k 2
      · have : ow w (stp w k 1) (stp w k 2) = 0 := by
          have ow0 := hwf.2.2.2.2.2.1 (stp w k 1) (stp w k 2) (by omega) (by omega) (by omega) (by omega)
          by_cases hz : ow w (stp w k 1) (stp w k 2) = 0
          · exact hz
          · exact absurd hne (ow0.2.2 hz).2.2
        unfold pyW at h1; split at h1 <;> omega
      · refine ⟨by decide, t_mono (loan (pyW w (stp w k 1) (stp w k 2)) h1 hne (by omega) (fun hh => ?_) (fun hh => ?_) N (sc_s kN) cN) (fun q hq => t_some.mpr (t_some.mpr hq))⟩
        · rw [ea, if_pos (.inr (by
            rcases hh with hh | hh
            · exact .inl hh
            · have : pyW w (stp w k 1) (stp w k 2) ≤ leftK w (plc w (stp w k 1)) := by unfold pyW; split <;> omega
              omega))]
        · rw [ea, if_neg (by omega)]
    · rw [if_pos (.inr (.inr (by omega)))] at ea
      rw [t_some, t_some]
      exact keep1 7 (by decide) (by rw [ea]) (by rw [ea]) (by rw [ea]) (by rw [ea]) N (sc_s kN) cN
  by_cases c6 : stp w k 0 = 20
  · rw [show M (d + 1) k = 20 by rw [rl.1, c6]; rfl, if_neg (by decide), if_neg (by decide), if_neg (by decide), if_neg (by decide), if_neg (by decide), if_pos rfl]
    have ea : actW w x k = (1, upd1 w 0 (stp w k 1), x, 0) := by unfold actW; rw [if_neg c1, if_neg c2, if_neg c3, if_neg c4, if_neg c5, if_pos c6]
    have df := d_20 dk c6
    rw [t_getf, dd, t_getf, l8, t_geti, m6, rl.2.2.2.2.1 (.inl c6), t_putf, t_some]
    refine ⟨by decide, by omega, by omega, k0, by omega, by decide, ?_⟩
    have fr : ∀ a j, ¬ SW a j → upd2 M 48 0 (stp w k 1) a j = M a j := fun a k hk => by rw [upd2_at, if_neg (by unfold SW at hk; omega)]
    exact swk _ fr _ (by rw [ea]) (by rw [ea]) (by rw [ea]) (by rw [ea]) (ci_w hwf.1 hc (sv_u (by omega)) fr (ls_u hc.2.2.2.1 (by omega) (by omega)) (rs_n hc.2.2.2.2.2.2 (by omega) (by omega) (by omega)))
  by_cases c7 : stp w k 0 = 21
  · rw [show M (d + 1) k = 21 by rw [rl.1, c7]; rfl, if_neg (by decide), if_neg (by decide), if_neg (by decide), if_neg (by decide), if_neg (by decide), if_neg (by decide), if_pos rfl]
    have ea : actW w x k = if drN x / 8 % 16 < stp w k 1 then (1, upd1 w 0 (w 0 / 2), drN x, 1) else (1, w, drN x, 0) := by unfold actW; rw [if_neg c1, if_neg c2, if_neg c3, if_neg c4, if_neg c5, if_neg c6, if_pos c7]
    have df := d_21 dk c7
    have dr := dr_le (x := x)
    have p48 : M 48 0 = w 0 := hc.2.2.2.2.2.2.1.1
    rw [t_getf, l8, t_geti, m6, rl.2.2.2.2.1 (.inr (.inl c7)), t_callv]
    refine ⟨by omega, by omega, k0, by omega, ?_⟩
    unfold f_X2_draw
    rw [t_getf, hx, w32_s (x := x * 2753) (by omega) (by omega), w32_s (x := x * 2753 + 10559) (by omega) (by omega), t_iremc, irem_p (by omega) (by decide) (by omega), show (x * 2753 + 10559) % 65536 = drN x from rfl, t_putf]
    refine ⟨by decide, by decide, by decide, ?_⟩
    have u5 : upd2 M 74 5 (drN x) 74 5 = drN x := by rw [upd2_at, if_pos ⟨rfl, rfl⟩]
    rw [t_getf, u5, t_idivc, idiv_p (by omega) (by decide) (by omega), t_iremc, irem_p (by omega) (by decide) (by omega), t_jn, t_ite]
    have c0 : CI (upd2 M 74 5 (drN x)) v w := ci_74 (by omega) (by omega) hc (fun a j ha _ => by rw [upd2_at, if_neg (by omega)])
    refine ⟨by decide, by decide, by decide, fun h1 => ?_, fun h1 => ?_⟩
    · rw [if_neg (by omega)] at ea
      rw [t_some, t_some]
      refine hq 0 _ ⟨fun _ => by rw [ea], fun _ => rfl⟩ (fun a j ha hb => by rw [upd2_at, if_neg (by omega)]) (by rw [ea]; exact c0) (by rw [ea]; exact u5) (by rw [ea, upd2_at, if_neg (by decide)]; simp only; omega)
    · rw [if_pos (by omega)] at ea
      rw [t_getf, upd2_at, if_neg (by decide), dd, t_getf, upd2_at, if_neg (by decide), p48, t_idivc, idiv_p (by omega) (by decide) (by omega), t_putf]
      refine ⟨by decide, by decide, by decide, by decide, ?_⟩
      obtain ⟨N1, e1⟩ : ∃ X, X = upd2 (upd2 M 74 5 (drN x)) 48 0 (w 0 / 2) := ⟨_, rfl⟩
      have c1' : CI N1 v (upd1 w 0 (w 0 / 2)) := by
        rw [e1]
        have fr : ∀ a j, ¬ SW a j → upd2 (upd2 M 74 5 (drN x)) 48 0 (w 0 / 2) a j = upd2 M 74 5 (drN x) a j := fun a k hk => by rw [upd2_at, if_neg (by unfold SW at hk; omega)]
        exact ci_w hwf.1 c0 (sv_u (by omega)) fr (ls_u c0.2.2.2.1 (by omega) (by omega)) (rs_n c0.2.2.2.2.2.2 (by omega) (by omega) (by omega))
      have n3 : N1 74 3 = M 74 3 := by rw [e1, upd2_at, if_neg (by decide), upd2_at, if_neg (by decide)]
      rw [← e1, t_getf, n3, t_putf, w32_s (by omega) (by omega), t_some, t_some]
      refine ⟨by decide, by decide, hq 0 _ ⟨fun _ => by rw [ea], fun _ => rfl⟩ (fun a j ha hb => ?_) ?_ ?_ (by rw [ea, upd2_at, if_pos ⟨rfl, rfl⟩])⟩
      · rw [upd2_at, if_neg (by omega), e1, upd2_at, if_neg (by unfold SW at ha; omega), upd2_at, if_neg (by omega)]
      · rw [ea]
        exact ci_74 (w := upd1 w 0 (w 0 / 2)) (by rw [upd1_at, if_neg (by decide)]; omega) (by rw [upd1_at, if_neg (by decide)]; omega) c1' (fun a j ha _ => by rw [upd2_at, if_neg (by omega)])
      · rw [ea, upd2_at, if_neg (by decide), e1, upd2_at, if_neg (by decide)]; exact u5
  by_cases c8 : stp w k 0 = 22
  · rw [show M (d + 1) k = 22 by rw [rl.1, c8]; rfl, if_neg (by decide), if_neg (by decide), if_neg (by decide), if_neg (by decide), if_neg (by decide), if_neg (by decide), if_neg (by decide), if_pos rfl, t_nn, t_call]
    have ea : actW w x k = if w 6 = 99 then (0, w, x, 0) else (1, passO w, x, 0) := by unfold actW; rw [if_neg c1, if_neg c2, if_neg c3, if_neg c4, if_neg c5, if_neg c6, if_neg c7, if_pos c8]
    refine ⟨by decide, endSpan_e hc hwf hg.2.1 (fun h6 => ?_) (fun h6 M' f1 c1 => ?_)⟩
    · rw [if_pos h6] at ea
      rw [t_some]
      exact keep1 4 (by decide) (by rw [ea]) (by rw [ea]) (by rw [ea]) (by rw [ea]) M (kc M) hc
    · rw [if_neg (by omega)] at ea
      rw [t_some]
      exact swk M' f1 _ (by rw [ea]) (by rw [ea]) (by rw [ea]) (by rw [ea]) c1
  · have ea : actW w x k = (1, w, x, 0) := by unfold actW; rw [if_neg c1, if_neg c2, if_neg c3, if_neg c4, if_neg c5, if_neg c6, if_neg c7, if_neg c8]
    have df := d_c dk
    have kv : M (d + 1) k = 23 ∨ 27 ≤ M (d + 1) k := by
      rw [rl.1]; unfold kwOf
      split
      · omega
      · split
        · omega
        · split
          · omega
          · split
            · omega
            · split <;> omega
    rw [if_neg (by omega), if_neg (by omega), if_neg (by omega), if_neg (by omega), if_neg (by omega), if_neg (by omega), if_neg (by omega), if_neg (by omega), t_some]
    exact keep0 (by rw [ea]) (by rw [ea]) (by rw [ea]) (by rw [ea])
