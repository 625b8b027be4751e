/-! mark and back keep the invariant -/
/-- one place (valley, days, standing, names) stands for w -/
def WkR (M : Mem) (v d s o : Int) (w : Int → Int) : Prop := GW w ∧ RV M v w ∧ RDy M d w ∧ RS M s w ∧ NmI M v o w
theorem wkr_g {M N : Mem} {v d s o v' d' s' o' : Int} {w w' : Int → Int} (h : WkR M v d s o w) (e : EqL w w') (kv : ∀ o j, PV o j → N (v' + o) j = M (v + o) j) (kd : ∀ o j, PD o j → N (d' + o) j = M (d + o) j) (ks : ∀ o j, PS o j → N (s' + o) j = M (s + o) j) (kr : ∀ i, 0 ≤ i → i < 26 → N 121 (o' + i) = M 121 (o + i)) : WkR N v' d' s' o' w' := by
  obtain ⟨hg, h1, h2, h3, g1, g2, g3⟩ := h
  have hn := hg.1.1
  have hn' := hn
  unfold WFn at hn'
  have h9 := hg.2.2.2.1
  refine ⟨gw_lt hg e, rv_w (el_v e).1 hn (rv_p h1 (by omega) (by omega) kv), rdy_k (rdy_p h2 h9 kd) h9 (el_v e).2.2 (fun _ _ _ _ => rfl), rs_lt (rs_p h3 (by omega) (by omega) ks) hn e, fun k k0 k1 => ?_, fun k k0 k1 => ?_, fun k k0 k1 => ?_⟩
  · rw [e 3 (by omega)] at k1
    rw [kv 23 k (by unfold PV; omega), kr k k0 (by omega)]; exact g1 k k0 k1
  · rw [e 4 (by omega)] at k1
    have t := kr (10 + k) (by omega) (by omega)
    rw [← Int.add_assoc, ← Int.add_assoc] at t
    rw [kv 24 k (by unfold PV; omega), t]; exact g2 k k0 k1
  · rw [e 5 (by omega)] at k1
    have t := kr (16 + k) (by omega) (by omega)
    rw [← Int.add_assoc, ← Int.add_assoc] at t
    rw [kv 25 k (by unfold PV; omega), t]; exact g3 k k0 k1
theorem pv_b {o j : Int} (h : PV o j) : 0 ≤ o ∧ o ≤ 25 ∧ 0 ≤ j := by unfold PV at h; omega
theorem pd_b {o j : Int} (h : PD o j) : 0 ≤ o ∧ o ≤ 7 ∧ 0 ≤ j := by unfold PD at h; omega
theorem ps_b {o j : Int} (h : PS o j) : 0 ≤ o ∧ o ≤ 6 ∧ 0 ≤ j := by unfold PS at h; omega
theorem wk_now {M : Mem} {v d m A : Int} {r : Int → Int} {B : Int} (h : INV M v d B r m A) : WkR M v d 48 0 (M 120) := ⟨h.1.2.2, h.1.1.2.2.2.2.2.1, h.1.2.1.2.2.2, h.1.1.2.2.2.2.2.2, h.2.1.2.2.2.2.1⟩
theorem wl_now {M : Mem} {v d : Int} (h : CV M v d) : WL M 13 v d 48 := by
  obtain ⟨hv, hd, t, ⟨p2, p8, p9, p13, p131, p132⟩, hL, hL2, hD, hD2, hS⟩ := h
  exact ⟨⟨p13, p131, p132⟩, hL, hD, hS⟩
theorem rdy_01 {M : Mem} {d : Int} {w : Int → Int} (h : RDy M d w) : M d 0 = 0 ∨ M d 0 = 1 := by
  rw [h.1]; split
  · exact .inl rfl
  · exact .inr rfl
theorem o_mark {M : Mem} {B : Int} (h : Iv M B) : OpK (f_X11_mark 1 M) (fun N => f_X12_mark 119 N) B := by
  obtain ⟨v, d, r, m, A, h⟩ := h
  have hcv := h.2.1.2.2.1
  obtain ⟨hm1, hm2, hm3⟩ := h.2.1.2.2.2.2.2
  have hv := hcv.1
  have hd := hcv.2.1
  have wn := wk_now h
  have mb := hm1.1
  refine t_mono (c_mark hm1 (wl_now hcv) hcv.2.2.2.1.1 hv hd (rdy_01 wn.2.2.1)) (fun q hq => ?_)
  rcases hq with ⟨q1, q2, ⟨A', q3⟩, q4, q5, q6, q7, q8⟩ | ⟨q1, q2, q3⟩
  · have k : ∀ a j, 119 ≤ a → a < 137 → q.2 a j = M a j := fun a j ha hb => q5 a j (by omega) (by omega) (by omega) (by omega)
    have hrN : LR q.2 := lr_keep h.2.1.1.1 (fun a j x _ => k a j x.1 (by omega))
    refine t_mono (r_mark hrN (m := m) (by rw [k _ _ (by omega) (by omega)]; exact hm2) (by omega) (by omega)) (fun s hs => ?_)
    rcases hs with ⟨s1, s2, s3, s4, s5, s6⟩ | ⟨s1, _, _⟩
    · have sc : ∀ a j, a < 119 ∨ 137 ≤ a → s.2 a j = q.2 a j := fun a j ha => s6 a j (by omega) (by omega) (by omega)
      have f : ∀ a j, a ≠ 0 → a < 137 + 42 * m → ¬ (a = 1 ∧ (j = 11 ∨ j = 12)) → ¬ (a = 83 ∧ j = m) → ¬ (a = 120 ∧ 640 * (m + 1) ≤ j ∧ j < 640 * (m + 1) + 640) → ¬ (a = 121 ∧ 26 * (m + 1) ≤ j ∧ j < 26 * (m + 1) + 26) → ¬ (a = 119 ∧ (j = 42 ∨ j = 2)) → s.2 a j = M a j := fun a j x1 x2 x3 x4 x5 x6 x7 => by rw [s6 a j x5 x6 x7, q5 a j x1 x2 x3 x4]
      have e : EqL (M 120) (s.2 120) := fun j hj => f _ _ (by omega) (by omega) (by omega) (by omega) (by omega) (by omega) (by omega)
      obtain ⟨hc, hdd, hg⟩ := h.1
      have hw := hg.1.1
      unfold WFn at hw
      have hc1 : CI s.2 v (M 120) := ci_o (by omega) (by omega) hc (fun a j x => f a j (by omega) (by omega) (by omega) (by omega) (by omega) (by omega) (by omega))
      have hc' : CI s.2 v (s.2 120) := ci_lt hc1 hg.1.1 e
      have hd1 : CD s.2 d (M 120) := cd_k hdd hg.2.2.2.1 ⟨rfl, fun _ _ _ => rfl⟩ (fun a j x => f a j (by omega) (by omega) (by omega) (by omega) (by omega) (by omega) (by omega))
      have wn' : WkR s.2 v d 48 0 (s.2 120) := wkr_g wn e (fun o j x => f _ _ (by have := pv_b x; omega) (by have := pv_b x; omega) (by have := pv_b x; omega) (by have := pv_b x; omega) (by have := pv_b x; omega) (by have := pv_b x; omega) (by have := pv_b x; omega)) (fun o j x => f _ _ (by have := pd_b x; omega) (by have := pd_b x; omega) (by have := pd_b x; omega) (by have := pd_b x; omega) (by have := pd_b x; omega) (by have := pd_b x; omega) (by have := pd_b x; omega)) (fun o j x => f _ _ (by have := ps_b x; omega) (by have := ps_b x; omega) (by have := ps_b x; omega) (by have := ps_b x; omega) (by have := ps_b x; omega) (by have := ps_b x; omega) (by have := ps_b x; omega)) (fun i i0 i1 => f _ _ (by omega) (by omega) (by omega) (by omega) (by omega) (by omega) (by omega))
      have st := h.2.2.2.1
      refine ⟨by rw [q2, s2], iv_i (M := s.2) (B := B) (r := r) (v := v) (d := d) (m := m + 1) (A := A') ⟨⟨hc', cd_lt hd1 hg.2.2.2.1 e, wn'.1⟩, ⟨⟨lr_keep hrN (fun a j x1 x2 => s6 a j (by omega) (by omega) (by omega)), by rw [f _ _ (by omega) (by omega) (by omega) (by omega) (by omega) (by omega) (by omega)]; exact h.2.1.1.2⟩, ⟨ltr_k h.2.1.2.1.1 (fun a j x => f a j (by omega) (by omega) (by omega) (by omega) (by omega) (by omega) (by omega)), itr_k h.2.1.2.1.2 (fun a j x => f a j (by omega) (by omega) (by omega) (by omega) (by omega) (by omega) (by omega))⟩, ?_, ?_, wn'.2.2.2.2, ⟨?_, s5.1, ?_⟩⟩, ?_, ?_, ?_⟩ (by omega)⟩
      · exact cv_k hcv hc'.2.2.2.1 (fun j x => f _ _ (by omega) (by omega) (by omega) (by omega) (by omega) (by omega) (by omega)) (fun j x => f _ _ (by omega) (by omega) (by omega) (by omega) (by omega) (by omega) (by omega)) ⟨f _ _ (by omega) (by omega) (by omega) (by omega) (by omega) (by omega) (by omega), f _ _ (by omega) (by omega) (by omega) (by omega) (by omega) (by omega) (by omega)⟩ (fun a j x => f _ _ (by omega) (by omega) (by omega) (by omega) (by omega) (by omega) (by omega))
      · exact tpi_k h.2.1.2.2.2.1 (fun j q => f _ _ (by omega) (by omega) (by omega) (by omega) (by omega) (by omega) (by omega)) (fun j => f _ _ (by omega) (by omega) (by omega) (by omega) (by omega) (by omega) (by omega)) (fun j => f _ _ (by omega) (by omega) (by omega) (by omega) (by omega) (by omega) (by omega)) (fun j q => f _ _ (by omega) (by omega) (by omega) (by omega) (by omega) (by omega) (by omega)) (fun j => f _ _ (by omega) (by omega) (by omega) (by omega) (by omega) (by omega) (by omega))
      · exact mkc_k q3 ⟨sc _ _ (by omega), sc _ _ (by omega), sc _ _ (by omega)⟩ (fun j => sc _ _ (by omega)) (fun a j x => sc _ _ (by omega))
      · intro j j0 j1
        by_cases cj : j = m
        · subst cj
          have e' : EqL (M 120) (mkW (s.2 120) (j + 1)) := fun i hi => by
            by_cases c : 0 ≤ i
            · rw [mk_i c hi, s3 i c hi, k _ _ (by omega) (by omega), show 640 * 0 + i = i by omega]
            · rw [mk_o (by omega)]; exact e i hi
          exact wkr_g wn e' (fun o i x => by rw [sc _ _ (by have := pv_b x; omega)]; exact q6 o i x) (fun o i x => by rw [sc _ _ (by have := pd_b x; omega)]; exact q7 o i x) (fun o i x => by rw [sc _ _ (by have := ps_b x; omega)]; exact q8 o i x) (fun i i0 i1 => by rw [s4 i i0 i1, k _ _ (by omega) (by omega), show 26 * 0 + i = 0 + i by omega])
        · have e' : EqL (mkW (M 120) (j + 1)) (mkW (s.2 120) (j + 1)) := fun i hi => by
            by_cases c : 0 ≤ i
            · rw [mk_i c hi, mk_i c hi]; exact f _ _ (by omega) (by omega) (by omega) (by omega) (by omega) (by omega) (by omega)
            · rw [mk_o (by omega), mk_o (by omega)]; exact e i hi
          exact wkr_g (hm3 j j0 (by omega)) e' (fun o i x => f _ _ (by have := pv_b x; omega) (by have := pv_b x; omega) (by have := pv_b x; omega) (by have := pv_b x; omega) (by have := pv_b x; omega) (by have := pv_b x; omega) (by have := pv_b x; omega)) (fun o i x => f _ _ (by have := pd_b x; omega) (by have := pd_b x; omega) (by have := pd_b x; omega) (by have := pd_b x; omega) (by have := pd_b x; omega) (by have := pd_b x; omega) (by have := pd_b x; omega)) (fun o i x => f _ _ (by have := ps_b x; omega) (by have := ps_b x; omega) (by have := ps_b x; omega) (by have := ps_b x; omega) (by have := ps_b x; omega) (by have := ps_b x; omega) (by have := ps_b x; omega)) (fun i i0 i1 => f _ _ (by omega) (by omega) (by omega) (by omega) (by omega) (by omega) (by omega))
      · exact obI_k h.2.2.1 (fun j q => f _ _ (by omega) (by omega) (by omega) (by omega) (by omega) (by omega) (by omega)) (fun a j q => f _ _ (by omega) (by omega) (by omega) (by omega) (by omega) (by omega) (by omega))
      · unfold StI at st ⊢
        rw [sc 1 12 (by omega), q4, s5.2, f 1 13 (by omega) (by omega) (by omega) (by omega) (by omega) (by omega) (by omega), f 1 14 (by omega) (by omega) (by omega) (by omega) (by omega) (by omega) (by omega), f 119 3 (by omega) (by omega) (by omega) (by omega) (by omega) (by omega) (by omega), f 119 4 (by omega) (by omega) (by omega) (by omega) (by omega) (by omega) (by omega)]
        exact ⟨rfl, st.2⟩
      · exact lfI_k h.2.2.2.2 (f _ _ (by omega) (by omega) (by omega) (by omega) (by omega) (by omega) (by omega)) (f _ _ (by omega) (by omega) (by omega) (by omega) (by omega) (by omega) (by omega)) (fun a j q => f _ _ (by omega) (by omega) (by omega) (by omega) (by omega) (by omega) (by omega))
    · omega
  · rw [q3]
    have k := u12_k M 4
    refine t_mono (r_mark (m := m) (riI_k h.2.1 k).1 (by rw [k _ _ (by omega)]; exact hm2) (by omega) (by omega)) (fun s hs => ?_)
    rcases hs with ⟨s1, _, _⟩ | ⟨s1, s2, s3⟩
    · omega
    · rw [q2, s2, s3]; exact ⟨rfl, ref_q h 4⟩
