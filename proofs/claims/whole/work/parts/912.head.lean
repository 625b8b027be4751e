/-! head, close -/
/-- what a change leaves behind: class, reference (w' the new world, st the status) -/
def ChC (M M' : Mem) (v : Int) (w' : Int → Int) (st : Int) : Prop := CI M' v w' ∧ M' 1 12 = st ∧ ∀ a k, ¬ SW a k → ¬ (a = 1 ∧ k = 12) → M' a k = M a k
def ChR (M M' : Mem) (w' : Int → Int) (st : Int) : Prop := M' 120 = w' ∧ M' 119 2 = st ∧ ∀ a k, ¬ SR a k → a ≠ 120 → ¬ (a = 119 ∧ k = 2) → M' a k = M a k
theorem chc_st {M N : Mem} {v : Int} {w' : Int → Int} (hn : w' 3 ≤ 10) (hf : w' 5 ≤ 10) (h : CI N v w') (hK : ∀ a k, ¬ SW a k → N a k = M a k) (st : Int) : ChC M (upd2 N 1 12 st) v w' st := by
  refine ⟨ci_keep hn hf h (fun a k h1 h2 => by rw [upd2_at, if_neg (by omega)]), by simp [upd2_at], fun a k h1 h2 => ?_⟩
  rw [upd2_at, if_neg h2]; exact hK a k h1
theorem chr_st {M N : Mem} {w' : Int → Int} (h : N 120 = w') (hK : ∀ a k, ¬ SR a k → a ≠ 120 → N a k = M a k) (st : Int) : ChR M (upd2 N 119 2 st) w' st := by
  refine ⟨by rw [upd2_o (by omega)]; exact h, by simp [upd2_at], fun a k h1 h2 h3 => ?_⟩
  rw [upd2_at, if_neg h3]; exact hK a k h1 h2
theorem sv_u {w : Int → Int} {i x : Int} (h : i = 0 ∨ 6 ≤ i ∧ i < 12 ∨ 112 ≤ i) : SameV w (upd1 w i x) := fun k hk => by rw [upd1_at, if_neg (by omega)]
def headW (w : Int → Int) (x : Int) : Int × Int × (Int → Int) := if 0 ≤ x ∧ x ≤ 999 then (1, 0, upd1 w 0 x) else (0, 1, w)
theorem isFrom_e (x a b : Int) (M : Mem) : f_X12_isFrom x a b M = some (if a ≤ x ∧ x ≤ b then 1 else 0) := by
  simp only [f_X12_isFrom, jn, retz]; grind
theorem c_head {M : Mem} {v : Int} {w : Int → Int} (h : CI M v w) (hn : WFn w) (x : Int) : Tot (f_X11_head 1 x M) (fun q => q.1 = (headW w x).1 ∧ ChC M q.2 v (headW w x).2.2 (headW w x).2.1) := by
  have hn' := hn
  unfold WFn at hn'
  obtain ⟨a, b, c, d, e⟩ := ci_p h
  simp only [f_X11_head, isWithin_e, t_ite, t_callp, t_call, t_callv, t_jn, t_retz, t_retzm, t_some, t_getf, t_putf, t_putz, t_seti, t_setz, t_geti, t_alen, t_nn, t_letv, t_idivc, t_iremc, t_ldivc, t_lremc, t_acopy, upd2_at, i10, i11, n10, a, d, settle_e]
  unfold headW
  refine ⟨fun h1 => ⟨by decide, by decide, by decide, by simp, ?_⟩, fun h1 => ⟨by simp, ?_⟩⟩
  · rw [if_pos h1]
    dsimp only
    refine ⟨by simp, chc_st (by rw [upd1_at, if_neg (by omega)]; omega) (by rw [upd1_at, if_neg (by omega)]; omega) ?_ (fun a k hk => by rw [upd2_at, if_neg (by unfold SW at hk; omega)]) 0⟩
    exact ci_w hn h (sv_u (by omega)) (fun a k hk => by rw [upd2_at, if_neg (by unfold SW at hk; omega)]) (ls_u h.2.2.2.1 (by omega) (by omega)) (rs_n h.2.2.2.2.2.2 (by omega) (by omega) (by omega))
  · rw [if_neg h1]
    exact ⟨by simp, chc_st (by omega) (by omega) h (fun _ _ _ => rfl) 1⟩
theorem r_head {M : Mem} (h : LR M) (x : Int) : Tot (f_X12_head 119 x M) (fun q => q.1 = (headW (M 120) x).1 ∧ ChR M q.2 (headW (M 120) x).2.2 (headW (M 120) x).2.1) := by
  obtain ⟨a, b⟩ := lr_a h
  simp only [f_X12_head, isFrom_e, t_ite, t_callp, t_call, t_callv, t_jn, t_retz, t_retzm, t_some, t_getf, t_putf, t_putz, t_seti, t_setz, t_geti, t_alen, t_nn, t_letv, t_idivc, t_iremc, t_ldivc, t_lremc, t_acopy, upd2_at, i10, i11, n10, a, b, is_e]
  unfold headW
  refine ⟨fun h1 => ⟨by decide, by decide, by decide, by decide, by simp, ?_⟩, fun h1 => ⟨by simp, ?_⟩⟩
  · rw [if_pos h1]
    exact ⟨by simp, chr_st upd2_120 (fun a k _ hk => by rw [upd2_at, if_neg (by omega)]) 0⟩
  · rw [if_neg h1]
    exact ⟨by simp, chr_st rfl (fun _ _ _ _ => rfl) 1⟩
/-! closing -/
def clW (c r x : Int) : Int := if x = 0 then iandv c (ixorv (ishlv 1 r) (-1)) else iorv c (ishlv 1 r)
theorem ior_0 (c s : Int) : iorv (iandv c s) 0 = iandv c s := by
  unfold iorv iandv
  have : Int32.ofInt (Int32.ofInt c &&& Int32.ofInt s).toInt = (Int32.ofInt c &&& Int32.ofInt s) := Int32.ofInt_toInt _
  rw [this]
  have z : Int32.ofInt 0 = 0 := rfl
  rw [z]; simp
theorem ior_n (c s : Int) : iorv (iandv c (ixorv s (-1))) s = iorv c s := by
  unfold iorv iandv ixorv
  rw [Int32.ofInt_toInt, Int32.ofInt_toInt]
  congr 1
  apply Int32.toBitVec_inj.mp
  have m1 : Int32.ofInt (-1) = -1 := rfl
  rw [m1]
  simp only [Int32.toBitVec_or, Int32.toBitVec_and, Int32.toBitVec_xor]
  rw [show (-1 : Int32).toBitVec = BitVec.allOnes 32 from rfl]
  apply BitVec.eq_of_getElem_eq
  intro i hi
  simp only [BitVec.getElem_or, BitVec.getElem_and, BitVec.getElem_xor, BitVec.getElem_allOnes]
  cases (Int32.ofInt s).toBitVec[i] <;> cases (Int32.ofInt c).toBitVec[i] <;> rfl
def closeW (w : Int → Int) (r x : Int) : Int × Int × (Int → Int) := if 0 ≤ r ∧ r < w 3 then (1, 0, upd1 w 7 (clW (w 7) r x)) else (0, 1, w)
/-- setClosed -/
theorem setClosed_e {M : Mem} {v : Int} {w : Int → Int} {Q : Mem → Prop} (h : CI M v w) (hn : WFn w) (r x : Int) (hq : ∀ M', (∀ a k, ¬ SW a k → M' a k = M a k) → CI M' v (upd1 w 7 (clW (w 7) r x)) → Q M') : Tot (f_X4_setClosed 48 r x M) Q := by
  have hn' := hn
  unfold WFn at hn'
  have e : M 48 2 = w 7 := h.2.2.2.2.2.2.1.2.2.1
  simp only [f_X4_setClosed, t_ite, t_callp, t_call, t_callv, t_jn, t_retz, t_retzm, t_some, t_getf, t_putf, t_putz, t_seti, t_setz, t_geti, t_alen, t_nn, t_letv, t_idivc, t_iremc, t_ldivc, t_lremc, t_acopy, upd2_at, i10, i11, n10, e]
  have fin : Q (upd2 M 48 2 (clW (w 7) r x)) := hq _ (fun a k hk => by rw [upd2_at, if_neg (by unfold SW at hk; omega)]) (ci_w hn h (sv_u (by omega)) (fun a k hk => by rw [upd2_at, if_neg (by unfold SW at hk; omega)]) (ls_u h.2.2.2.1 (by omega) (by omega)) (rs_n h.2.2.2.2.2.2 (by omega) (by omega) (by omega)))
  unfold clW at fin
  refine ⟨fun hx => ⟨by decide, by decide, ?_⟩, fun hx => ⟨by decide, by decide, ?_⟩⟩
  · rwa [if_pos hx] at fin
  · rwa [if_neg hx] at fin
theorem c_close {M : Mem} {v : Int} {w : Int → Int} (h : CI M v w) (hn : WFn w) (r x : Int) : Tot (f_X11_close 1 r x M) (fun q => q.1 = (closeW w r x).1 ∧ ChC M q.2 v (closeW w r x).2.2 (closeW w r x).2.1) := by
  have hn' := hn
  unfold WFn at hn'
  obtain ⟨a, b, c, d, e⟩ := ci_p h
  simp only [f_X11_close, isReach_e h, t_ite, t_callp, t_call, t_callv, t_jn, t_retz, t_retzm, t_some, t_getf, t_putf, t_putz, t_seti, t_setz, t_geti, t_alen, t_nn, t_letv, t_idivc, t_iremc, t_ldivc, t_lremc, t_acopy, upd2_at, i10, i11, n10, a, d, settle_e]
  unfold closeW
  refine ⟨fun h1 => ⟨by decide, by decide, by decide, ?_⟩, fun h1 => ⟨by simp, ?_⟩⟩
  · rw [if_pos h1]
    refine setClosed_e h hn r x (fun M' k1 k2 => ?_)
    refine ⟨by simp, by simp, chc_st (w' := upd1 w 7 (clW (w 7) r x)) ?_ ?_ k2 k1 0⟩
    · rw [upd1_at, if_neg (by omega)]; omega
    · rw [upd1_at, if_neg (by omega)]; omega
  · rw [if_neg h1]
    exact ⟨by simp, chc_st (by omega) (by omega) h (fun _ _ _ => rfl) 1⟩
theorem r_close {M : Mem} (h : LR M) (r x : Int) : Tot (f_X12_close 119 r x M) (fun q => q.1 = (closeW (M 120) r x).1 ∧ ChR M q.2 (closeW (M 120) r x).2.2 (closeW (M 120) r x).2.1) := by
  obtain ⟨a, b⟩ := lr_a h
  simp only [f_X12_close, isReachR_e h, t_ite, t_callp, t_call, t_callv, t_jn, t_retz, t_retzm, t_some, t_getf, t_putf, t_putz, t_seti, t_setz, t_geti, t_alen, t_nn, t_letv, t_idivc, t_iremc, t_ldivc, t_lremc, t_acopy, upd2_at, i10, i11, n10, a, b, is_e, ior_0, ior_n]
  unfold closeW clW
  refine ⟨fun h1 => ⟨by decide, by decide, by decide, by decide, by decide, fun hx => ⟨by decide, by decide, by decide, by simp, ?_⟩, fun hx => ⟨by decide, by decide, by decide, by simp, ?_⟩⟩, fun h1 => ⟨by simp, ?_⟩⟩
  · rw [if_pos h1, if_pos hx]
    exact ⟨by simp, chr_st upd2_120 (fun a k _ hk => by rw [upd2_at, if_neg (by omega)]) 0⟩
  · rw [if_pos h1, if_neg hx]
    exact ⟨by simp, chr_st upd2_120 (fun a k _ hk => by rw [upd2_at, if_neg (by omega)]) 0⟩
  · rw [if_neg h1]
    exact ⟨by simp, chr_st rfl (fun _ _ _ _ => rfl) 1⟩
