/-! what changes a world -/
def upd1 (w : Int → Int) (i v : Int) : Int → Int := fun k => if k = i then v else w k
theorem upd1_at {w : Int → Int} {i v k : Int} : upd1 w i v k = if k = i then v else w k := rfl
theorem upd2_120 {M : Mem} {i v : Int} : upd2 M 120 i v 120 = upd1 (M 120) i v := funext fun k => by rw [upd2_at, upd1_at]; simp
theorem upd2_o {M : Mem} {a i v b : Int} (h : b ≠ a) : upd2 M a i v b = M b := funext fun k => by rw [upd2_at, if_neg (by omega)]
/-- w' has w's valley -/
def SameV (w w' : Int → Int) : Prop := ∀ k, (1 ≤ k ∧ k ≤ 5) ∨ (12 ≤ k ∧ k < 112) → w' k = w k
theorem sv_rc {w w' : Int → Int} (h : SameV w w') {r k : Int} (h0 : 0 ≤ r) (h1 : r < 10) (h2 : 0 ≤ k) (h3 : k < 6) : rc w' r k = rc w r k := h _ (by omega)
theorem sv_fc {w w' : Int → Int} (h : SameV w w') {r k : Int} (h0 : 0 ≤ r) (h1 : r < 10) (h2 : 0 ≤ k) (h3 : k < 4) : fc w' r k = fc w r k := h _ (by omega)
theorem sv_n {w w' : Int → Int} (h : SameV w w') : w' 1 = w 1 ∧ w' 2 = w 2 ∧ w' 3 = w 3 ∧ w' 4 = w 4 ∧ w' 5 = w 5 :=
  ⟨h 1 (by omega), h 2 (by omega), h 3 (by omega), h 4 (by omega), h 5 (by omega)⟩
theorem sv_allSh {w w' : Int → Int} (h : SameV w w') (hn : WFn w) : allSh w' = allSh w := by
  unfold WFn at hn
  unfold allSh
  rw [(sv_n h).2.2.2.2]
  exact sumZ_congr (fun k k0 k1 => sv_fc h k0 (by omega) (by omega) (by omega))
theorem sv_litre {w w' : Int → Int} (h : SameV w w') (hn : WFn w) : litre w' = litre w := by
  unfold WFn at hn
  unfold litre
  rw [(sv_n h).2.2.1]
  exact foldZ_congr (fun k x k0 k1 => by rw [sv_rc h k0 (by omega) (by omega) (by omega)])
theorem rv_w {M : Mem} {v : Int} {w w' : Int → Int} (h : SameV w w') (hn : WFn w) (hr : RV M v w) : RV M v w' := by
  have hn' := hn
  unfold WFn at hn'
  obtain ⟨e1, e2, e3, e4, e5⟩ := sv_n h
  obtain ⟨⟨a1, a2, a3, a4, a5, a6, a7⟩, b, c⟩ := hr
  refine ⟨⟨by rw [e1]; exact a1, by rw [e2]; exact a2, by rw [e3]; exact a3, by rw [e4]; exact a4, by rw [e5]; exact a5, by rw [sv_allSh h hn]; exact a6, by rw [sv_litre h hn]; exact a7⟩, fun r k h1 h2 h3 h4 => ?_, fun f k h1 h2 h3 h4 => ?_⟩
  · rw [e3] at h2; rw [sv_rc h h1 (by omega) h3 h4]; exact b r k h1 h2 h3 h4
  · rw [e5] at h2; rw [sv_fc h h1 (by omega) h3 h4]; exact c f k h1 h2 h3 h4
/-- what a change of the standing may touch -/
def SW (a k : Int) : Prop := SC a k ∨ (48 ≤ a ∧ a ≤ 54)
theorem ci_w {M N : Mem} {v : Int} {w w' : Int → Int} (hn : WFn w) (h : CI M v w) (hv : SameV w w') (hK : ∀ a k, ¬ SW a k → N a k = M a k) (hs : LSt N 48) (hr : RS N 48 w') : CI N v w' := by
  have hn' := hn
  unfold WFn at hn'
  have hv' := h.1
  have e : ∀ a k, (a < 48 ∨ 85 ≤ a) → N a k = M a k := fun a k h1 => hK a k (by unfold SW SC; omega)
  have e2 : ∀ a k, 55 ≤ a → a ≤ 73 → (k < 0 ∨ (a = 55 ∧ k ≠ 8) ∨ (a = 56 ∧ k ≠ 3)) → N a k = M a k := fun a k h1 h2 h3 => hK a k (by unfold SW SC; omega)
  obtain ⟨_, h2, h3, h4, h5, h6, h7⟩ := h
  refine ⟨hv', ?_, lv_keep h3 (fun a k h1 h2 => e a k (by omega)), hs, lw_keep h5 e2, rv_w hv hn (rv_keep (by omega) (by omega) h6 (fun a k h1 h2 => e a k (by omega))), hr⟩
  obtain ⟨a1, a2, a3, a4⟩ := h2
  refine ⟨?_, ?_, ?_, ?_⟩ <;> rw [e _ _ (by omega)] <;> assumption
theorem ls_u {M : Mem} {k x : Int} (h : LSt M 48) (h0 : 0 ≤ k) (h1 : k < 4) : LSt (upd2 M 48 k x) 48 := by
  obtain ⟨⟨a1, a2, a3, a4, a5, a6⟩, ⟨b1, b2, b3, b4, b5, b6⟩⟩ := h
  refine ⟨⟨?_, ?_, ?_, ?_, ?_, ?_⟩, ⟨?_, ?_, ?_, ?_, ?_, ?_⟩⟩ <;> rw [upd2_at, if_neg (by omega)] <;> assumption
theorem ls_u2 {M : Mem} {a k x : Int} (h : LSt M 48) (h0 : 0 ≤ k) (h1 : 49 ≤ a) : LSt (upd2 M a k x) 48 := by
  obtain ⟨⟨a1, a2, a3, a4, a5, a6⟩, ⟨b1, b2, b3, b4, b5, b6⟩⟩ := h
  refine ⟨⟨?_, ?_, ?_, ?_, ?_, ?_⟩, ⟨?_, ?_, ?_, ?_, ?_, ?_⟩⟩ <;> rw [upd2_at, if_neg (by omega)] <;> assumption
/-- w' is w but for the numbers 0, 6, 7 -/
theorem rs_n {M : Mem} {w : Int → Int} (hr : RS M 48 w) {k i x : Int} (hki : k = 0 ∧ i = 0 ∨ k = 2 ∧ i = 7) (hn : w 5 ≤ 10) (h8 : w 8 ≤ 12) : RS (upd2 M 48 k x) 48 (upd1 w i x) := by
  obtain ⟨⟨a1, a2, a3, a4⟩, b, c, d, g⟩ := hr
  have u : ∀ j, j ≠ 0 → j ≠ 7 → upd1 w i x j = w j := fun j h1 h2 => by rw [upd1_at, if_neg (by omega)]
  have e8 := u 8 (by omega) (by omega)
  have e5 := u 5 (by omega) (by omega)
  refine ⟨⟨?_, ?_, ?_, ?_⟩, fun k h1 h2 => ?_, fun i h1 h2 => ?_, fun i j h1 h2 h3 h4 => ?_, fun f h1 h2 => ?_⟩
  · rw [upd2_at, upd1_at]; grind
  · rw [upd2_at, upd1_at]; grind
  · rw [upd2_at, upd1_at]; grind
  · rw [upd2_at, upd1_at]; grind
  · rw [e5] at h2
    unfold od; rw [upd2_at, if_neg (by omega), u _ (by omega) (by omega)]; exact b k h1 h2
  · rw [e8] at h2
    unfold lo; rw [upd2_at, if_neg (by omega), upd2_at, if_neg (by omega), upd2_at, if_neg (by omega), u _ (by omega) (by omega), u _ (by omega) (by omega), u _ (by omega) (by omega)]; exact c i h1 h2
  · unfold ow; rw [upd2_at, if_neg (by omega), u _ (by omega) (by omega)]; exact d i j h1 h2 h3 h4
  · unfold ac; rw [upd2_at, if_neg (by omega), u _ (by omega) (by omega)]; exact g f h1 h2
