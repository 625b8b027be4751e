/-! the reference lays slots -/
theorem allShares_e {N : Mem} (h : LR N) (hn : WFn (N 120)) (hf : WFf (N 120)) : f_X12_allShares 119 N = some (allSh (N 120)) := by
  have hn' := hn
  unfold WFn at hn'
  obtain ⟨a, b⟩ := lr_a h
  rw [← t_eq]
  unfold f_X12_allShares
  refine lpII (fun x p => 0 ≤ p ∧ p ≤ N 120 5 ∧ x = sumZ (fun f => fc (N 120) f 1) p) (fun _ p => (N 120 5 - p).toNat) ?_ (by unfold KF; omega) ⟨by omega, by omega, rfl⟩
  rintro n x p ⟨i0, i1, i2⟩ ih
  have q := sumZ_le (g := fun f => fc (N 120) f 1) (n := N 120 5) (lo := 1) (hi := 99) (fun k a b => by have := hf k a b; constructor <;> omega) i0 i1
  unfold f_X12_allShares_L4
  simp only [t_ite, t_callp, t_call, t_callv, t_jn, t_retz, t_retzm, t_some, t_getf, t_putf, t_putz, t_seti, t_setz, t_geti, t_alen, t_nn, t_letv, t_idivc, t_iremc, t_ldivc, t_lremc, t_acopy, upd2_at, i10, i11, n10, a, b]
  refine ⟨by decide, by decide, by decide, by decide, fun c => ?_, fun c => ?_⟩
  · rw [i2, show p = N 120 5 by omega]; rfl
  · have q2 := hf p i0 (by omega)
    rw [ofField_e h i0 (by omega) (by omega) (by omega), t_some, w32_s (by omega) (by omega), w32_s (by omega) (by omega)]
    exact ih _ _ (by omega) ⟨by omega, by omega, by rw [sumZ_s _ i0, i2]⟩
theorem placeOf_e {N : Mem} (h : LR N) (hn : WFn (N 120)) (ho : WFo (N 120)) {k : Int} (h0 : 0 ≤ k) (h1 : k < N 120 5) : f_X12_placeOf 119 (od (N 120) k) N = some k := by
  have hn' := hn
  unfold WFn at hn'
  obtain ⟨a, b⟩ := lr_a h
  rw [← t_eq]
  unfold f_X12_placeOf
  refine lpI (fun p => 0 ≤ p ∧ p ≤ k) (fun p => (k - p).toNat) ?_ (by unfold KF; omega) ⟨by omega, by omega⟩
  rintro n p ⟨i0, i1⟩ ih
  unfold f_X12_placeOf_L2
  simp (disch := omega) only [t_ite, t_callp, t_call, t_callv, t_jn, t_retz, t_retzm, t_some, t_getf, t_putf, t_putz, t_seti, t_setz, t_geti, t_alen, t_nn, t_letv, t_idivc, t_iremc, t_ldivc, t_lremc, t_acopy, upd2_at, i10, i11, n10, a, b, w32_s]
  refine ⟨by decide, by decide, by omega, by omega, fun c => ?_, fun c => ?_⟩
  · exact ho.2.2.1 p k i0 (by omega) h0 h1 c
  · refine ih _ ?_ ⟨by omega, ?_⟩
    · by_cases hp : p = k
      · subst hp; exact absurd rfl c
      · omega
    · by_cases hp : p = k
      · subst hp; exact absurd rfl c
      · omega
theorem beginOf_e {N : Mem} (h : LR N) (hn : WFn (N 120)) (hf : WFf (N 120)) (ho : WFo (N 120)) {k : Int} (h0 : 0 ≤ k) (h1 : k ≤ N 120 5) (h5 : 0 < N 120 5) : f_X12_beginOf 119 k N = some (edge (N 120) k) := by
  have hn' := hn
  unfold WFn at hn'
  obtain ⟨a, b⟩ := lr_a h
  rw [← t_eq]
  unfold f_X12_beginOf
  refine lpII (fun x p => 0 ≤ p ∧ p ≤ k ∧ x = ahead (N 120) p) (fun _ p => (k - p).toNat) ?_ (by unfold KF; omega) ⟨by omega, by omega, rfl⟩
  rintro n x p ⟨i0, i1, i2⟩ ih
  have q := ahead_le hn hf ho i0 (show p ≤ N 120 5 by omega)
  unfold f_X12_beginOf_L4
  rw [t_ite]
  refine ⟨fun c => ?_, fun c => ?_⟩
  · have hp : p = k := by omega
    subst hp
    have q2 := wa_le hn hf ho i0 h1
    have q3 := allSh_le hn hf
    simp (disch := omega) only [t_ite, t_callp, t_call, t_callv, t_jn, t_retz, t_retzm, t_some, t_getf, t_putf, t_putz, t_seti, t_setz, t_geti, t_alen, t_nn, t_letv, t_idivc, t_iremc, t_ldivc, t_lremc, t_acopy, upd2_at, i10, i11, n10, a, b, allShares_e h hn hf, i2, w32_s, idiv_p]
    exact ⟨by decide, by decide, by decide, by decide, by omega, rfl⟩
  · have ok := ho.1 p i0 (by omega)
    have q2 := hf _ ok.1 ok.2
    have q3 := ahead_s (w := N 120) i0
    have e : N 120 (112 + p) = od (N 120) p := rfl
    simp (disch := omega) only [t_ite, t_callp, t_call, t_callv, t_jn, t_retz, t_retzm, t_some, t_getf, t_putf, t_putz, t_seti, t_setz, t_geti, t_alen, t_nn, t_letv, t_idivc, t_iremc, t_ldivc, t_lremc, t_acopy, upd2_at, i10, i11, n10, a, b, e, w32_s]
    rw [ofField_e h ok.1 (by omega) (by omega) (by omega), t_some]
    refine ⟨by decide, by decide, by omega, by omega, ?_⟩
    rw [w32_s (by omega) (by omega)]
    exact ih _ _ (by omega) ⟨by omega, by omega, by rw [q3, i2]⟩
theorem turnManyR_e {N : Mem} (h : LR N) (hn : WFn (N 120)) (hf : WFf (N 120)) (ho : WFo (N 120)) {k : Int} (h0 : 0 ≤ k) (h1 : k < N 120 5) : f_X12_turnMany 119 (od (N 120) k) N = some (edge (N 120) (k + 1) - edge (N 120) k) := by
  have hn' := hn
  unfold WFn at hn'
  have q7 := edge_le hn hf ho (k := k) h0 (by omega)
  have q8 := edge_le hn hf ho (k := k + 1) (by omega) (by omega)
  rw [← t_eq]
  unfold f_X12_turnMany
  rw [placeOf_e h hn ho h0 h1, t_callp, t_some, w32_s (by omega) (by omega), beginOf_e h hn hf ho (by omega) (by omega) (by omega), t_callp, t_some, t_callp, t_some, beginOf_e h hn hf ho h0 (by omega) (by omega), t_callp, t_some, w32_s (by omega) (by omega), t_some]
theorem ownLeft_e {N : Mem} (h : LR N) (hn : WFn (N 120)) (hf : WFf (N 120)) (ho : WFo (N 120)) (hl : WFl (N 120)) {k : Int} (h0 : 0 ≤ k) (h1 : k < N 120 5) : f_X12_ownLeft 119 (od (N 120) k) N = some (leftK (N 120) k) := by
  have hn' := hn
  unfold WFn at hn'
  obtain ⟨a, b⟩ := lr_a h
  have q7 := edge_le hn hf ho (k := k) h0 (by omega)
  have q8 := edge_le hn hf ho (k := k + 1) (by omega) (by omega)
  rw [← t_eq]
  unfold f_X12_ownLeft
  rw [turnManyR_e h hn hf ho h0 h1, t_callp, t_some]
  refine lpII (fun x p => 0 ≤ p ∧ p ≤ N 120 8 ∧ x = edge (N 120) (k + 1) - edge (N 120) k - sumZ (fun i => if lo (N 120) i 0 = od (N 120) k then lo (N 120) i 2 else 0) p) (fun _ p => (N 120 8 - p).toNat) ?_ (by unfold KF; omega) ⟨by omega, by omega, by rw [sumZ_0, Int.sub_zero]⟩
  rintro n x p ⟨i0, i1, i2⟩ ih
  have hs := sumZ_s (fun i => if lo (N 120) i 0 = od (N 120) k then lo (N 120) i 2 else 0) i0
  have hle := lentBy_le hl (od (N 120) k) i0 i1
  have e0 : N 120 (122 + 3 * p) = lo (N 120) p 0 := by unfold lo; congr 1; omega
  have e2 : N 120 (122 + 3 * p + 2) = lo (N 120) p 2 := rfl
  unfold f_X12_ownLeft_L8
  rw [t_getf, a, t_geti, b, t_ite]
  refine ⟨by decide, by decide, by decide, by decide, fun c => by rw [t_some, i2, show p = N 120 8 by omega]; rfl, fun c => ?_⟩
  have hlp := hl.1 p i0 (by omega)
  simp (disch := omega) only [t_ite, t_callp, t_call, t_callv, t_jn, t_retz, t_retzm, t_some, t_getf, t_putf, t_putz, t_seti, t_setz, t_geti, t_alen, t_nn, t_letv, t_idivc, t_iremc, t_ldivc, t_lremc, t_acopy, upd2_at, i10, i11, n10, a, b, w32_s, e0, e2]
  refine ⟨by decide, by decide, by omega, by omega, fun c2 => ih _ _ (by omega) ⟨by omega, by omega, ?_⟩, fun c2 => ⟨by decide, by decide, by omega, by omega, ih _ _ (by omega) ⟨by omega, by omega, ?_⟩⟩⟩
  · rw [if_neg c2] at hs; omega
  · rw [if_pos (by simpa using c2)] at hs; omega
def SRs (a k : Int) : Prop := (a = 119 ∧ k = 30) ∨ (130 ≤ a ∧ a ≤ 132 ∧ 0 ≤ k)
theorem lr_s {M N : Mem} (h : LR M) (hK : ∀ a k, ¬ SR a k → N a k = M a k) : LR N := lr_q h (fun a k h1 _ => hK a k h1)
theorem laysSlots_e {M : Mem} {Q : Mem → Prop} (h : LR M) (hn : WFn (M 120)) (hf : WFf (M 120)) (ho : WFo (M 120)) (hl : WFl (M 120)) (hq : ∀ M', (∀ a j, ¬ SRs a j → M' a j = M a j) → HS M' (slotsW (M 120)) → Q M') : Tot (f_X12_laysSlots 119 M) Q := by
  have hn' := hn
  unfold WFn at hn'
  obtain ⟨w, hw⟩ : ∃ w, w = M 120 := ⟨_, rfl⟩
  rw [← hw] at hn hf ho hl hn' hq
  unfold f_X12_laysSlots
  rw [t_putf]
  refine ⟨by decide, ?_⟩
  refine lpIM (fun k N => 0 ≤ k ∧ k ≤ w 5 ∧ (∀ a j, ¬ SRs a j → N a j = M a j) ∧ HS N (slotsTo w k)) (fun k _ => (w 5 - k).toNat) ?_ (by unfold KF; omega) ⟨by omega, by omega, fun a j ha => by rw [upd2_at, if_neg (by unfold SRs at ha; omega)], by simp [upd2_at]; rfl, fun i x hx => by simp [slotsTo, foldZ, foldN] at hx⟩
  rintro n k N ⟨i0, i1, i3, i4⟩ ih
  have hw' : N 120 = w := by rw [hw]; exact funext fun j => i3 120 j (by unfold SRs; omega)
  have hN : LR N := lr_s h (fun a j ha => i3 a j (by unfold SR at ha; unfold SRs; omega))
  obtain ⟨a, b⟩ := lr_a hN
  unfold f_X12_laysSlots_L7
  rw [t_getf, a, t_geti, b, hw', t_ite]
  refine ⟨by decide, by decide, by decide, by decide, fun c => ?_, fun c => ?_⟩
  · have : k = w 5 := by omega
    subst this
    rw [t_some]; exact hq N i3 i4
  · have q0 := edge_le hn hf ho i0 (by omega)
    have q3 := hl.2 k i0 (by omega)
    have q4 := slots_len hn ho (k := k + 1) (by omega) (by omega)
    have q5 : leftK w k ≤ 1440 := by
      have := edge_le hn hf ho (k := k + 1) (by omega) (by omega)
      unfold leftK; have := lentBy_le hl (od w k) (p := w 8) (by omega) (by omega); unfold lentBy; omega
    have e : w (112 + k) = od w k := rfl
    have ol := ownLeft_e hN (by rw [hw']; exact hn) (by rw [hw']; exact hf) (by rw [hw']; exact ho) (by rw [hw']; exact hl) i0 (by rw [hw']; omega)
    have be := beginOf_e hN (by rw [hw']; exact hn) (by rw [hw']; exact hf) (by rw [hw']; exact ho) i0 (by rw [hw']; omega) (by rw [hw']; omega)
    rw [hw'] at ol be
    have happ : slotsTo w (k + 1) = slotsTo w k ++ ownS w k ++ lsl w (od w k) (w 8).toNat (edge w k + leftK w k) := by
      rw [slotsTo_s w i0]; unfold turnS; rw [List.append_assoc]
    rw [t_getf, a, t_geti, b, hw', w32_s (x := 112 + k) (by omega) (by omega), e, be, t_callp, t_some, ol, t_callp, t_some, t_jn]
    refine ⟨by decide, by decide, by omega, by omega, ?_⟩
    have fin : ∀ N2 : Mem, (∀ a j, ¬ SRs a j → N2 a j = M a j) → HS N2 (slotsTo w k ++ ownS w k) → Tot (letv (w32 (edge w k + leftK w k)) (fun v11 => getf N2 119 0 (fun v12 => geti N2 v12 8 (fun v13 => letv (w32 (v13 - 1)) (fun v14 => f_X12_laysSlots_L69 k (od w k) 119 (fun (M31 : Mem) => f_X12_laysSlots_L7 119 (fun (M34 : Mem) => some M34) n (w32 (k + 1)) M31) KF v11 v14 N2))))) Q := by
      intro N2 k2 hh2
      have hw2 : N2 120 = w := by rw [hw]; exact funext fun j => k2 120 j (by unfold SRs; omega)
      have hN2 : LR N2 := lr_s h (fun a j ha => k2 a j (by unfold SR at ha; unfold SRs; omega))
      obtain ⟨a2, b2⟩ := lr_a hN2
      simp (disch := omega) only [t_letv, t_getf, t_geti, a2, b2, hw2, w32_s]
      refine ⟨by decide, by decide, by decide, by decide, ?_⟩
      refine lpIIM (fun x i R => -1 ≤ i ∧ i < w 8 ∧ 0 ≤ x ∧ x + 1440 * (i + 1) ≤ 30000 ∧ (∀ a j, ¬ SRs a j → R a j = M a j) ∧ ∃ L, HS R L ∧ L ++ lsl w (od w k) (i + 1).toNat x = slotsTo w (k + 1)) (fun _ i _ => (i + 1).toNat) ?_ (by unfold KF; omega) ⟨by omega, by omega, by omega, by omega, k2, _, hh2, by rw [happ]; congr 3; omega⟩
      rintro n2 x i R ⟨j0, j1, j2, j3, j4, L, j5, j6⟩ ih2
      have hw3 : R 120 = w := by rw [hw]; exact funext fun j => j4 120 j (by unfold SRs; omega)
      have hR : LR R := lr_s h (fun a j ha => j4 a j (by unfold SR at ha; unfold SRs; omega))
      obtain ⟨a3, b3⟩ := lr_a hR
      unfold f_X12_laysSlots_L69
      rw [t_ite]
      refine ⟨fun c => ?_, fun c => ?_⟩
      · have : i = -1 := by omega
        subst this
        have : L = slotsTo w (k + 1) := by simpa [lsl] using j6
        subst this
        exact ih _ _ (by omega) ⟨by omega, by omega, j4, j5⟩
      · have hli := hl.1 i (by omega) (by omega)
        have ei : (i + 1).toNat = i.toNat + 1 := by omega
        have ec : ((i.toNat : Nat) : Int) = i := by omega
        rw [ei] at j6
        unfold lsl at j6
        rw [ec] at j6
        have e0 : w (122 + 3 * i) = lo w i 0 := by unfold lo; congr 1; omega
        have e1 : w (122 + 3 * i + 1) = lo w i 1 := rfl
        have e2 : w (122 + 3 * i + 2) = lo w i 2 := rfl
        simp (disch := omega) only [t_getf, t_geti, t_jn, t_ite, a3, b3, hw3, e0, e1, e2, w32_s, t_callv]
        refine ⟨by decide, by decide, by omega, by omega, fun c2 => ⟨by decide, by decide, by omega, by omega, by decide, by decide, by omega, by omega, ?_⟩, fun c2 => ?_⟩
        · rw [if_pos c2] at j6
          refine aSlot_e hR j5 ?_ (fun R2 k3 hh3 => ?_)
          · have := congrArg List.length j6
            rw [List.length_append, List.length_cons] at this
            omega
          · have k4 : ∀ a j, ¬ SRs a j → R2 a j = M a j := fun a j ha => by rw [k3 a j (by unfold SRs at ha; omega), j4 a j ha]
            have hw4 : R2 120 = w := by rw [hw]; exact funext fun j => k4 120 j (by unfold SRs; omega)
            have hR2 : LR R2 := lr_s h (fun a j ha => k4 a j (by unfold SR at ha; unfold SRs; omega))
            obtain ⟨a4, b4⟩ := lr_a hR2
            rw [a4, b4, hw4, e2, t_letv, w32_s (by omega) (by omega)]
            refine ⟨by decide, by decide, by omega, by omega, ih2 _ _ _ (by omega) ⟨by omega, by omega, by omega, by omega, k4, _, hh3, ?_⟩⟩
            rw [show (i + -1 + 1).toNat = i.toNat by omega, List.append_assoc]; exact j6
        · rw [if_neg c2] at j6
          refine ih2 _ _ _ (by omega) ⟨by omega, by omega, j2, by omega, j4, L, j5, ?_⟩
          rw [show (i + -1 + 1).toNat = i.toNat by omega]; exact j6
    rw [t_ite]
    refine ⟨fun c2 => fin N i3 (by unfold ownS; rw [if_neg (by omega), List.append_nil]; exact i4), fun c2 => ?_⟩
    rw [t_callv]
    refine aSlot_e hN i4 ?_ (fun N2 k2 hh2 => fin N2 (fun a j ha => by rw [k2 a j (by unfold SRs at ha; omega), i3 a j ha]) (by unfold ownS; rw [if_pos (by omega)]; exact hh2))
    have := congrArg List.length happ
    unfold ownS at this
    rw [if_pos (by omega)] at this
    simp only [List.length_append, List.length_cons, List.length_nil] at this
    omega
