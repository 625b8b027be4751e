/-! the class lives -/
theorem isSo_e {M : Mem} {v d : Int} {w : Int → Int} (hc : CI M v w) (hg : GW w) (hd : CD M d w) {k : Int} (k0 : 0 ≤ k) (k1 : k < w 9) (h23 : 2300 ≤ stp w k 0) : f_X2_isSo 13 k M = some (if hldW w k = true then 1 else 0) := by
  obtain ⟨hd0, hd1, ⟨⟨l3, l4, l5, l6, l7, l8, l9⟩, ll⟩, hr⟩ := hd
  have hwf := hg.1
  have L := wf_l hwf
  have w9 := hg.2.2.2.1
  have rl := (hr.2 (by omega)).2 k k0 k1
  have dk := d_w (hg.2.2.2.2 k k0 k1) h23
  obtain ⟨a, b, c, dd, e⟩ := ci_p hc
  have m2 := ll 2 (by omega) (by omega)
  have m3 := ll 3 (by omega) (by omega)
  have m5 := ll 5 (by omega) (by omega)
  have m6 := ll 6 (by omega) (by omega)
  have v3 := rl.2.1 (.inr (.inr (.inr (.inr (.inr h23)))))
  rw [← t_eq]
  unfold f_X2_isSo
  rw [t_getf, hd1, t_getf, l5, t_geti, m3, v3, t_getf, l4, t_geti, m2, t_ite]
  refine ⟨by decide, by omega, by omega, k0, by omega, by omega, by omega, k0, by omega, ?_⟩
  rcases dk.1 with ⟨c1, a0, a1⟩ | ⟨c1, a0, a1, b0, b1, s5⟩
  · have v2 : M (d + 2) k = 8 := rl.2.2.2.2.2.1 c1
    rw [v2]
    refine ⟨fun h => absurd rfl h, fun _ => ?_⟩
    have eh : hldW w k = decide (bt (w 7) (stp w k 1)) := by unfold hldW; rw [if_pos c1]
    rw [t_getf, dd, t_nn, isClosed_e hc, t_callp, t_some, t_retz, eh]
    refine ⟨by decide, by decide, by split <;> simp, ?_⟩
    simp only [decide_eq_true_eq]
  · have v5 := (rl.2.2.2.2.2.2.2.2.1 c1).1
    have v6 := (rl.2.2.2.2.2.2.2.2.1 c1).2
    have v2 : M (d + 2) k = if stp w k 0 = 2328 then 25 else 26 := by
      rcases c1 with c1 | c1
      · rw [if_pos c1]; exact rl.2.2.2.2.2.2.1 c1
      · rw [if_neg (by omega)]; exact rl.2.2.2.2.2.2.2.1 c1
    have a54 : M 48 9 = 54 := hc.2.2.2.1.1.2.2.2.2.2
    have l54 : M 54 (-1) = 10 := hc.2.2.2.1.2.2.2.2.2.2
    have g54 : M 54 (stp w k 1) = ac w (stp w k 1) := hc.2.2.2.2.2.2.2.2.2.2 _ a0 (by omega)
    obtain ⟨q, eq⟩ : ∃ q, q = if stp w k 0 = 2328 then dOwe w (stp w k 1) else ac w (stp w k 1) := ⟨_, rfl⟩
    have eh : hldW w k = if stp w k 5 = 60 then decide (q < stp w k 2) else if stp w k 5 = 62 then decide (stp w k 2 < q) else decide (q = stp w k 2) := by unfold hldW; rw [if_neg (by omega), ← eq]
    rw [v2]
    refine ⟨fun _ => ?_, fun h => by split at h <;> omega⟩
    rw [t_getf, l4, t_geti, m2, v2]
    refine ⟨by omega, by omega, k0, by omega, t_jv (if stp w k 0 = 2328 then 1 else 0) ?_ (fun j hj => ?_)⟩
    rotate_left
    · rw [t_ite]
      refine ⟨fun h => ?_, fun h => ?_⟩
      · by_cases cc : stp w k 0 = 2328
        · rw [if_pos cc] at h; exact absurd rfl h
        · rw [if_neg cc] at hj; exact hj
      · by_cases cc : stp w k 0 = 2328
        · rw [if_pos cc] at hj; exact hj
        · rw [if_neg cc] at h; exact absurd (by decide) h
    refine t_jv q ?_ (fun j hj => ?_)
    · rw [t_getf, l8, t_geti, m6, v6, t_getf, l7, t_geti, m5, v5]
      refine ⟨by omega, by omega, k0, by omega, by omega, by omega, k0, by omega, t_jv (if hldW w k = true then 1 else 0) (by rw [t_retz]; exact ⟨by split <;> simp, rfl⟩) (fun j hj => ?_)⟩
      have z0 : hldW w k = false → Tot (j 0) (fun y => y = if hldW w k = true then 1 else 0) := fun hb => by rw [hb] at hj ⊢; exact hj
      have z1 : hldW w k = true → Tot (j 1) (fun y => y = if hldW w k = true then 1 else 0) := fun hb => by rw [hb] at hj ⊢; exact hj
      rw [t_ite]
      refine ⟨fun h1 => ?_, fun h1 => ?_⟩
      · rw [t_getf, l7, t_geti, m5, v5, t_ite, t_ite, t_ite]
        rw [if_neg h1] at eh
        refine ⟨by omega, by omega, k0, by omega, fun h2 => ⟨fun h3 => z0 ?_, fun h3 => z1 ?_⟩, fun h2 => ⟨fun h3 => z0 ?_, fun h3 => z1 ?_⟩⟩
        · rw [eh, if_neg h2]; exact decide_eq_false h3
        · rw [eh, if_neg h2]; exact decide_eq_true (by omega)
        · rw [eh, if_pos (by omega)]; exact decide_eq_false (by omega)
        · rw [eh, if_pos (by omega)]; exact decide_eq_true (by omega)
      · rw [if_pos (by omega)] at eh
        rw [t_ite]
        refine ⟨fun h3 => z0 ?_, fun h3 => z1 ?_⟩
        · rw [eh]; exact decide_eq_false (by omega)
        · rw [eh]; exact decide_eq_true (by omega)
    · rw [t_ite, t_getf, dd, t_getf, a54, t_geti, l54, g54, t_getf, dd, t_nn, allDebtBy_e hc hwf.2.2.2.2.2 hwf.1 a0 (by omega), t_callp, t_some]
      refine ⟨fun h => ⟨by decide, by decide, by decide, a0, by omega, ?_⟩, fun h => ⟨by decide, by decide, ?_⟩⟩
      · have : stp w k 0 ≠ 2328 := fun cc => by rw [if_pos cc] at h; omega
        rw [eq, if_neg this] at hj; exact hj
      · have : stp w k 0 = 2328 := by
          by_cases cc : stp w k 0 = 2328
          · exact cc
          · rw [if_neg cc] at h; exact absurd rfl h
        rw [eq, if_pos this] at hj; exact hj
def RLB (B x y : Int) : Prop := (x = y + 1) ∨ (x ≤ 0 ∧ y = 0 ∧ -B ≤ x)
