/-! the class lays slots -/
theorem lentBy_le {w : Int → Int} (hl : WFl w) (f : Int) {p : Int} (h0 : 0 ≤ p) (h1 : p ≤ w 8) : 0 * p ≤ sumZ (fun i => if lo w i 0 = f then lo w i 2 else 0) p ∧ sumZ (fun i => if lo w i 0 = f then lo w i 2 else 0) p ≤ 1440 * p :=
  sumZ_le (n := w 8) (fun k a b => by have := hl.1 k a b; split <;> omega) h0 h1
theorem turnEdge_e {M : Mem} {v : Int} {w : Int → Int} (h : CI M v w) (hn : WFn w) (hf : WFf w) (ho : WFo w) {k : Int} (h0 : 0 ≤ k) (h1 : k ≤ w 5) (h5 : 0 < w 5) : f_X8_turnEdge v (ahead w k) M = some (edge w k) := by
  obtain ⟨a, b, c, d, e⟩ := ci_p h
  obtain ⟨_, _, _, _, _, ⟨⟨b1, b2, b3, b4, b5, b6, b7⟩, _⟩, _⟩ := h
  have q := wa_le hn hf ho h0 h1
  have q2 := allSh_le hn hf
  rw [← t_eq]
  simp (disch := omega) only [f_X8_turnEdge, t_ite, t_callp, t_call, t_callv, t_jn, t_retz, t_retzm, t_some, t_getf, t_putf, t_putz, t_seti, t_setz, t_geti, t_alen, t_nn, t_letv, t_idivc, t_iremc, t_ldivc, t_lremc, t_acopy, upd2_at, i10, i11, n10, b1, b6, w32_s, idiv_p]
  refine ⟨e, fun _ => ⟨e, e, by omega, rfl⟩, fun _ => by omega⟩
theorem ci_s {M N : Mem} {v : Int} {w : Int → Int} (hn : WFn w) (h : CI M v w) (hK : ∀ a k, ¬ SC a k → N a k = M a k) : CI N v w := by
  unfold WFn at hn
  exact ci_keep (by omega) (by omega) h (fun a k h1 _ => hK a k h1)
/-- layTurn of the k-th field -/
theorem layTurn_e {M : Mem} {v : Int} {w : Int → Int} {Q : Mem → Prop} (h : CI M v w) (hn : WFn w) (hf : WFf w) (ho : WFo w) (hl : WFl w) {k : Int} (h0 : 0 ≤ k) (h1 : k < w 5) (hh : HC M (slotsTo w k)) (e7 : M 57 (od w k) = edge w k) (e8 : M 58 (od w k) = edge w (k + 1) - edge w k) (hq : ∀ M', (∀ a j, ¬ ((a = 56 ∧ j = 3) ∨ (a = 59 ∧ j = od w k) ∨ (60 ≤ a ∧ a ≤ 62 ∧ 0 ≤ j)) → M' a j = M a j) → M' 59 (od w k) = leftK w k → HC M' (slotsTo w (k + 1)) → Q M') : Tot (f_X3_layTurn 56 48 (od w k) M) Q := by
  have hn' := hn
  unfold WFn at hn'
  have ok := ho.1 k h0 h1
  have q0 := edge_le hn hf ho h0 (by omega)
  have q1 := edge_le hn hf ho (k := k + 1) (by omega) (by omega)
  have q2 := edge_mono hn hf ho (j := k) (k := k + 1) (by omega) (by omega) (by omega)
  have q3 := hl.2 k h0 h1
  have q4 := slots_len hn ho (k := k + 1) (by omega) (by omega)
  have hlw : LW M := h.2.2.2.2.1
  have hls := h.2.2.2.1
  have hrs := h.2.2.2.2.2.2
  obtain ⟨g1, ⟨b1, b2, b3, b4, b5, b6⟩, ⟨c1, c2, c3, c4, c5, c6, c7⟩⟩ := hlw
  obtain ⟨⟨l1, l2, l3, l4, l5, l6⟩, ⟨m1, m2, m3, m4, m5, m6⟩⟩ := hls
  obtain ⟨⟨s1, s2, s3, s4⟩, oo, ll, _⟩ := hrs
  simp only [show (48 : Int) + 2 = 50 from rfl, show (48 : Int) + 3 = 51 from rfl, show (48 : Int) + 4 = 52 from rfl] at l2 l3 l4 m2 m3 m4 ll
  simp only [f_X3_layTurn, t_ite, t_callp, t_call, t_callv, t_jn, t_retz, t_retzm, t_some, t_getf, t_putf, t_putz, t_seti, t_setz, t_geti, t_alen, t_nn, t_letv, t_idivc, t_iremc, t_ldivc, t_lremc, t_acopy, upd2_at, i10, i11, n10, b1, b2, b3, c2, c3, e8]
  refine ⟨by decide, by decide, by decide, by omega, by omega, by decide, by omega, by omega, ?_⟩
  refine lpIM (fun p N => 0 ≤ p ∧ p ≤ w 8 ∧ ∀ a j, N a j = if a = 59 ∧ j = od w k then edge w (k + 1) - edge w k - sumZ (fun i => if lo w i 0 = od w k then lo w i 2 else 0) p else M a j) (fun p _ => (w 8 - p).toNat) ?_ (by unfold KF; omega) ⟨by omega, by omega, fun a j => by rw [upd2_at, sumZ_0, Int.sub_zero]⟩
  rintro n p N ⟨i0, i1, i2⟩ ih
  have hs := sumZ_s (fun i => if lo w i 0 = od w k then lo w i 2 else 0) i0
  have hle := lentBy_le hl (od w k) i0 i1
  unfold f_X3_layTurn_L14
  have n1 : N 48 3 = w 8 := by rw [i2]; simp [s4]
  have n2 : N 48 5 = 50 := by rw [i2]; simp [l2]
  have n3 : N 48 7 = 52 := by rw [i2]; simp [l4]
  have n4 : N 50 (-1) = 12 := by rw [i2]; simp [m2]
  have n5 : N 52 (-1) = 12 := by rw [i2]; simp [m4]
  have n6 : N 56 2 = 59 := by rw [i2]; simp [b3]
  have n7 : N 59 (-1) = 10 := by rw [i2, if_neg (by omega)]; exact c3
  have n8 : N 59 (od w k) = edge w (k + 1) - edge w k - sumZ (fun i => if lo w i 0 = od w k then lo w i 2 else 0) p := by rw [i2, if_pos ⟨rfl, rfl⟩]
  rw [t_getf, n1, t_ite]
  refine ⟨by decide, fun c => ?_, fun c => ?_⟩
  · have hp : p = w 8 := by omega
    have n9 : N 59 (od w k) = leftK w k := by rw [n8, hp]; rfl
    have n10 : N 56 0 = 57 := by rw [i2]; simp [b1]
    have n11 : N 57 (-1) = 10 := by rw [i2]; simp [c1]
    have n12 : N 57 (od w k) = edge w k := by rw [i2]; simp [e7]
    have kN : ∀ a j, ¬ (a = 59 ∧ j = od w k) → N a j = M a j := fun a j ha => by rw [i2, if_neg ha]
    have hciN : CI N v w := ci_s hn h (fun a j ha => kN a j (by unfold SC at ha; omega))
    have hhN : HC N (slotsTo w k) := by
      unfold HC at hh ⊢
      simpa [i2] using hh
    have happ : slotsTo w (k + 1) = slotsTo w k ++ ownS w k ++ lsl w (od w k) (w 8).toNat (edge w k + leftK w k) := by
      rw [slotsTo_s w h0]; unfold turnS; rw [List.append_assoc]
    -- the loop over the loans
    have fin : ∀ N2 : Mem, (∀ a j, ¬ ((a = 56 ∧ j = 3) ∨ (60 ≤ a ∧ a ≤ 62 ∧ 0 ≤ j)) → N2 a j = N a j) → HC N2 (slotsTo w k ++ ownS w k) → Tot (f_X3_layTurn_L96 56 48 (od w k) (fun (M46 : Mem) => some M46) KF (edge w k + leftK w k) (w 8 - 1) N2) Q := by
      intro N2 k2 hh2
      refine lpIIM (fun x i R => -1 ≤ i ∧ i < w 8 ∧ 0 ≤ x ∧ x + 1440 * (i + 1) ≤ 20000 ∧ (∀ a j, ¬ ((a = 56 ∧ j = 3) ∨ (60 ≤ a ∧ a ≤ 62 ∧ 0 ≤ j)) → R a j = N a j) ∧ ∃ L, HC R L ∧ L ++ lsl w (od w k) (i + 1).toNat x = slotsTo w (k + 1)) (fun _ i _ => (i + 1).toNat) ?_ (by unfold KF; omega) ⟨by omega, by omega, by omega, by omega, k2, _, hh2, by rw [happ]; congr 3; omega⟩
      rintro n x i R ⟨j0, j1, j2, j3, j4, L, j5, j6⟩ ih2
      unfold f_X3_layTurn_L96
      rw [t_ite]
      refine ⟨fun c => ?_, fun c => ?_⟩
      · have : i = -1 := by omega
        subst this
        rw [t_some]
        have : L = slotsTo w (k + 1) := by simpa [lsl] using j6
        subst this
        refine hq R (fun a j ha => by rw [j4 a j (by omega), kN a j (by omega)]) ?_ j5
        rw [j4 _ _ (by omega)]; exact n9
      · have r1 : R 48 5 = 50 := by rw [j4 _ _ (by omega)]; exact n2
        have r2 : R 48 6 = 51 := by rw [j4 _ _ (by omega), kN _ _ (by omega)]; exact l3
        have r3 : R 48 7 = 52 := by rw [j4 _ _ (by omega)]; exact n3
        have r4 : R 50 (-1) = 12 := by rw [j4 _ _ (by omega)]; exact n4
        have r5 : R 51 (-1) = 12 := by rw [j4 _ _ (by omega), kN _ _ (by omega)]; exact m3
        have r6 : R 52 (-1) = 12 := by rw [j4 _ _ (by omega)]; exact n5
        have li := ll i (by omega) (by omega)
        have r7 : R 50 i = lo w i 0 := by rw [j4 _ _ (by omega), kN _ _ (by omega)]; exact li.1
        have r8 : R 51 i = lo w i 1 := by rw [j4 _ _ (by omega), kN _ _ (by omega)]; exact li.2.1
        have r9 : R 52 i = lo w i 2 := by rw [j4 _ _ (by omega), kN _ _ (by omega)]; exact li.2.2
        have hli := hl.1 i (by omega) (by omega)
        have hR : CI R v w := ci_s hn hciN (fun a j ha => j4 a j (by unfold SC at ha; omega))
        have ei : (i + 1).toNat = i.toNat + 1 := by omega
        have ec : ((i.toNat : Nat) : Int) = i := by omega
        rw [ei] at j6
        unfold lsl at j6
        rw [ec] at j6
        simp (disch := omega) only [t_getf, t_geti, t_jn, t_ite, r1, r2, r3, r4, r5, r6, r7, r8, r9, w32_s, t_callv]
        refine ⟨by decide, by decide, by omega, by omega, fun c2 => ?_, fun c2 => ⟨by decide, by decide, by omega, by omega, by decide, by decide, by omega, by omega, ?_⟩⟩
        · rw [if_neg c2] at j6
          refine ih2 _ _ _ (by omega) ⟨by omega, by omega, j2, by omega, j4, L, j5, ?_⟩
          rw [show (i + -1 + 1).toNat = i.toNat by omega]; exact j6
        · have c2' : lo w i 0 = od w k := by simpa using c2
          rw [if_pos c2'] at j6
          refine add_e hR.2.2.2.2.1 j5 ?_ (by omega) (fun R2 k3 hh3 => ?_)
          · have := congrArg List.length j6
            rw [List.length_append, List.length_cons] at this
            omega
          · have k4 : ∀ a j, ¬ ((a = 56 ∧ j = 3) ∨ (60 ≤ a ∧ a ≤ 62 ∧ 0 ≤ j)) → R2 a j = N a j := fun a j ha => by rw [k3 a j ha, j4 a j ha]
            have t1 : R2 48 7 = 52 := by rw [k3 _ _ (by omega)]; exact r3
            have t2 : R2 52 (-1) = 12 := by rw [k3 _ _ (by omega)]; exact r6
            have t3 : R2 52 i = lo w i 2 := by rw [k3 _ _ (by omega)]; exact r9
            rw [t1, t2, t3, t_letv, w32_s (by omega) (by omega)]
            refine ⟨by decide, by decide, by omega, by omega, ih2 _ _ _ (by omega) ⟨by omega, by omega, by omega, by omega, k4, _, hh3, ?_⟩⟩
            rw [show (i + -1 + 1).toNat = i.toNat by omega, List.append_assoc]; exact j6
    rw [t_getf, n10, t_geti, n11, n12, t_getf, n6, t_geti, n7, n9, t_callv]
    refine ⟨by decide, by decide, by omega, by omega, by decide, by decide, by omega, by omega, ?_⟩
    have aft : ∀ N2 : Mem, (∀ a j, ¬ ((a = 56 ∧ j = 3) ∨ (60 ≤ a ∧ a ≤ 62 ∧ 0 ≤ j)) → N2 a j = N a j) → HC N2 (slotsTo w k ++ ownS w k) → Tot (getf N2 56 0 (fun v23 => geti N2 v23 (od w k) (fun v24 => getf N2 56 2 (fun v25 => geti N2 v25 (od w k) (fun v26 => letv (w32 (v24 + v26)) (fun v27 => getf N2 48 3 (fun v28 => letv (w32 (v28 - 1)) (fun v29 => f_X3_layTurn_L96 56 48 (od w k) (fun (M46 : Mem) => some M46) KF v27 v29 N2)))))))) Q := by
      intro N2 k2 hh2
      have t1 : N2 56 0 = 57 := by rw [k2 _ _ (by omega)]; exact n10
      have t2 : N2 57 (-1) = 10 := by rw [k2 _ _ (by omega)]; exact n11
      have t3 : N2 57 (od w k) = edge w k := by rw [k2 _ _ (by omega)]; exact n12
      have t4 : N2 56 2 = 59 := by rw [k2 _ _ (by omega)]; exact n6
      have t5 : N2 59 (-1) = 10 := by rw [k2 _ _ (by omega)]; exact n7
      have t6 : N2 59 (od w k) = leftK w k := by rw [k2 _ _ (by omega)]; exact n9
      have t7 : N2 48 3 = w 8 := by rw [k2 _ _ (by omega)]; exact n1
      have q5 : leftK w k ≤ 1440 := by unfold leftK; have := lentBy_le hl (od w k) (p := w 8) (by omega) (by omega); unfold lentBy; omega
      simp (disch := omega) only [t_getf, t_geti, t_letv, t1, t2, t3, t4, t5, t6, t7, w32_s]
      exact ⟨by decide, by decide, by omega, by omega, by decide, by decide, by omega, by omega, by decide, fin N2 k2 hh2⟩
    by_cases ho2 : 0 < leftK w k
    · refine add_e hciN.2.2.2.2.1 hhN ?_ ho2 (fun N2 k2 hh2 => aft N2 k2 (by unfold ownS; rw [if_pos ho2]; exact hh2))
      have := congrArg List.length happ
      unfold ownS at this
      rw [if_pos ho2] at this
      simp only [List.length_append, List.length_cons, List.length_nil] at this
      omega
    · have hz : f_X3_add 56 (od w k) (edge w k) (leftK w k) N = some N := by
        simp only [f_X3_add, jn]; rw [if_pos (by omega)]
      rw [hz, t_some]
      exact aft N (fun _ _ _ => rfl) (by unfold ownS; rw [if_neg ho2, List.append_nil]; exact hhN)
  · have li := ll p (by omega) (by omega)
    have r7 : N 50 p = lo w p 0 := by rw [i2, if_neg (by omega)]; exact li.1
    have r9 : N 52 p = lo w p 2 := by rw [i2, if_neg (by omega)]; exact li.2.2
    have hlp := hl.1 p (by omega) (by omega)
    simp (disch := omega) only [t_ite, t_callp, t_call, t_callv, t_jn, t_retz, t_retzm, t_some, t_getf, t_putf, t_putz, t_seti, t_setz, t_geti, t_alen, t_nn, t_letv, t_idivc, t_iremc, t_ldivc, t_lremc, t_acopy, upd2_at, i10, i11, n10, n2, n3, n4, n5, n6, n7, n8, r7, r9, w32_s]
    refine ⟨by decide, by decide, by omega, by omega, by decide, by decide, by omega, by omega, fun c2 => ⟨by decide, by omega, by omega, ih _ _ (by omega) ⟨by omega, by omega, fun a j => ?_⟩⟩, fun c2 => ⟨by decide, by decide, by omega, by omega, by decide, by omega, by omega, ih _ _ (by omega) ⟨by omega, by omega, fun a j => ?_⟩⟩⟩
    · rw [if_neg c2] at hs
      rw [upd2_at, hs, i2]; split <;> omega
    · rw [if_pos (by simpa using c2)] at hs
      rw [upd2_at, hs, i2]; split <;> omega
