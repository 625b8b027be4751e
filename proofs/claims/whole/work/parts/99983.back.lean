/-! back keeps the invariant -/
theorem o_back {M : Mem} {B : Int} (h : Iv M B) : OpK (f_X11_back 1 M) (fun N => f_X12_back 119 N) B := by
  obtain ⟨v, d, r, m, A, h⟩ := h
  have hcv := h.2.1.2.2.1
  obtain ⟨hm1, hm2, hm3⟩ := h.2.1.2.2.2.2.2
  have hv := hcv.1
  have hd := hcv.2.1
  have mb := hm1.1
  refine t_mono (c_back hm1 (wl_now hcv) hcv.2.2.2.1.1 hv hd (fun c => ?_)) (fun q hq => ?_)
  · have t := rdy_01 (hm3 (m - 1) (by omega) (by omega)).2.2.1
    rw [show 164 + 42 * (m - 1) = 122 + 42 * m by omega] at t; exact t
  rcases hq with ⟨q1, q2, q3, q4, q6, q7, q8, q5⟩ | ⟨q1, q2, q3⟩
  · have wm : WkR M (138 + 42 * (m - 1)) (164 + 42 * (m - 1)) (172 + 42 * (m - 1)) (26 * (m - 1 + 1)) (mkW (M 120) (m - 1 + 1)) := hm3 (m - 1) (by omega) (by omega)
    rw [show 138 + 42 * (m - 1) = 96 + 42 * m by omega, show 164 + 42 * (m - 1) = 122 + 42 * m by omega, show 172 + 42 * (m - 1) = 130 + 42 * m by omega, show m - 1 + 1 = m by omega] at wm
    have q9 : ∀ a j, ¬ (a = 1 ∧ (j = 11 ∨ j = 12)) → (0 ≤ j → ¬ (v ≤ a ∧ a ≤ v + 25) ∧ ¬ (d ≤ a ∧ a ≤ d + 7) ∧ ¬ (48 ≤ a ∧ a ≤ 54)) → q.2 a j = M a j := fun a j x1 x2 => q5 a j x1 (fun x => by have := pv_b x; have := x2 this.2.2; omega) (fun x => by have := pd_b x; have := x2 this.2.2; omega) (fun x => by have := ps_b x; have := x2 this.2.2; omega)
    have k : ∀ a j, 119 ≤ a → q.2 a j = M a j := fun a j ha => q9 a j (by omega) (by omega)
    have hrN : LR q.2 := lr_keep h.2.1.1.1 (fun a j x _ => k a j x.1)
    refine t_mono (r_back hrN (m := m) (by rw [k _ _ (by omega)]; exact hm2) (by omega) (by omega)) (fun s hs => ?_)
    rcases hs with ⟨s1, s2, s3, s4, s5, s6⟩ | ⟨s1, _, _⟩
    · have sc : ∀ a j, a < 119 ∨ 137 ≤ a → s.2 a j = q.2 a j := fun a j ha => s6 a j (by omega) (by omega) (by omega)
      have f : ∀ a j, ¬ (a = 1 ∧ (j = 11 ∨ j = 12)) → (0 ≤ j → ¬ (v ≤ a ∧ a ≤ v + 25) ∧ ¬ (d ≤ a ∧ a ≤ d + 7) ∧ ¬ (48 ≤ a ∧ a ≤ 54)) → ¬ (a = 120 ∧ 0 ≤ j ∧ j < 640) → ¬ (a = 121 ∧ 0 ≤ j ∧ j < 26) → ¬ (a = 119 ∧ (j = 42 ∨ j = 2)) → s.2 a j = M a j := fun a j x1 x2 x3 x4 x5 => by rw [s6 a j (by omega) (by omega) x5, q9 a j x1 x2]
      have e : EqL (mkW (M 120) m) (s.2 120) := fun i hi => by
        by_cases c : 0 ≤ i
        · have t := s3 i c hi
          rw [show 640 * 0 + i = i by omega, k _ _ (by omega)] at t
          rw [mk_i c hi]; exact t
        · rw [mk_o (by omega)]; exact f _ _ (by omega) (by omega) (by omega) (by omega) (by omega)
      have wn' : WkR s.2 v d 48 0 (s.2 120) := wkr_g wm e (fun o i x => by rw [sc _ _ (by have := pv_b x; omega)]; exact q6 o i x) (fun o i x => by rw [sc _ _ (by have := pd_b x; omega)]; exact q7 o i x) (fun o i x => by rw [sc _ _ (by have := ps_b x; omega)]; exact q8 o i x) (fun i i0 i1 => by
        have t := s4 i i0 i1
        rw [show 26 * 0 + i = 0 + i by omega, k _ _ (by omega)] at t; exact t)
      have g : ∀ a j, a < 119 → ¬ (a = 1 ∧ (j = 11 ∨ j = 12)) → ¬ PV (a - v) j → ¬ PD (a - d) j → ¬ PS (a - 48) j → s.2 a j = M a j := fun a j x0 x1 x2 x3 x4 => by rw [sc a j (by omega), q5 a j x1 x2 x3 x4]
      have nv : ∀ a j, ¬ (v ≤ a ∧ a ≤ v + 25) → ¬ PV (a - v) j := fun a j x y => by have := pv_b y; omega
      have nd : ∀ a j, ¬ (d ≤ a ∧ a ≤ d + 7) → ¬ PD (a - d) j := fun a j x y => by have := pd_b y; omega
      have ns : ∀ a j, ¬ (48 ≤ a ∧ a ≤ 54) → ¬ PS (a - 48) j := fun a j x y => by have := ps_b y; omega
      have hLV : LV s.2 v := lv_p hcv.2.2.2.2.1 (fun o j o0 o1 x => g _ _ (by omega) (by omega) (by rw [show v + o - v = o by omega]; exact x) (nd _ _ (by omega)) (ns _ _ (by omega)))
      have hLD : LDy s.2 d := ldy_p hcv.2.2.2.2.2.2.1 (fun o j o0 o1 x => g _ _ (by omega) (by omega) (nv _ _ (by omega)) (by rw [show d + o - d = o by omega]; exact x) (ns _ _ (by omega)))
      have hLS : LSt s.2 48 := lst_p hcv.2.2.2.2.2.2.2.2 (fun o j o0 o1 x => g _ _ (by omega) (by omega) (nv _ _ (by omega)) (nd _ _ (by omega)) (by rw [show 48 + o - 48 = o by omega]; exact x))
      obtain ⟨hc, hdd, hg⟩ := h.1
      obtain ⟨_, ⟨c2, c3, c130, c132⟩, _, _, hLW, _, _⟩ := hc
      obtain ⟨t1, ⟨p2, p8, p9, p13, p131, p132⟩, hL, hL2, hD, hD2, hS⟩ := hcv.2.2
      have st := h.2.2.2.1
      have hc' : CI s.2 v (s.2 120) := ⟨hv, ⟨by rw [f _ _ (by omega) (by omega) (by omega) (by omega) (by omega)]; exact c2, by rw [f _ _ (by omega) (by omega) (by omega) (by omega) (by omega)]; exact c3, by rw [f _ _ (by omega) (by omega) (by omega) (by omega) (by omega)]; exact c130, by rw [f _ _ (by omega) (by omega) (by omega) (by omega) (by omega)]; exact c132⟩, hLV, hLS, lw_keep hLW (fun a j x1 x2 x3 => f a j (by omega) (by omega) (by omega) (by omega) (by omega)), wn'.2.1, wn'.2.2.2.1⟩
      refine ⟨by rw [q2, s2], iv_i (M := s.2) (B := B) (r := r) (v := v) (d := d) (m := m - 1) (A := A) ⟨⟨hc', ⟨hd, by rw [f _ _ (by omega) (by omega) (by omega) (by omega) (by omega)]; exact p131, hLD, wn'.2.2.1⟩, wn'.1⟩, ⟨⟨lr_keep hrN (fun a j x1 x2 => s6 a j (by omega) (by omega) (by omega)), by rw [f _ _ (by omega) (by omega) (by omega) (by omega) (by omega)]; exact h.2.1.1.2⟩, ⟨ltr_k h.2.1.2.1.1 (fun a j x => f a j (by omega) (by omega) (by omega) (by omega) (by omega)), itr_k h.2.1.2.1.2 (fun a j x => f a j (by omega) (by omega) (by omega) (by omega) (by omega))⟩, ?_, ?_, wn'.2.2.2.2, ⟨?_, s5.1, ?_⟩⟩, ?_, ?_, ?_⟩ (by omega)⟩
      · refine ⟨hv, hd, ⟨?_, ?_, ?_, ?_, ?_⟩, ⟨?_, ?_, ?_, ?_, ?_, ?_⟩, hLV, lv_keep hL2 (fun a j q1 q2 => f a j (by omega) (by omega) (by omega) (by omega) (by omega)), hLD, ldy_k hD2 (fun a j q1 q2 => f a j (by omega) (by omega) (by omega) (by omega) (by omega)), hLS⟩ <;> rw [f _ _ (by omega) (by omega) (by omega) (by omega) (by omega)]
        · exact t1.1
        · exact t1.2.1
        · exact t1.2.2.1
        · exact t1.2.2.2.1
        · exact t1.2.2.2.2
        · exact p2
        · exact p8
        · exact p9
        · exact p13
        · exact p131
        · exact p132
      · exact tpi_k h.2.1.2.2.2.1 (fun j q => f _ _ (by omega) (by omega) (by omega) (by omega) (by omega)) (fun j => f _ _ (by omega) (by omega) (by omega) (by omega) (by omega)) (fun j => f _ _ (by omega) (by omega) (by omega) (by omega) (by omega)) (fun j q => f _ _ (by omega) (by omega) (by omega) (by omega) (by omega)) (fun j => f _ _ (by omega) (by omega) (by omega) (by omega) (by omega))
      · obtain ⟨h1, ⟨a1, a2, a3, a4⟩, h3, h4, h5⟩ := hm1
        refine ⟨by omega, ⟨by rw [f _ _ (by omega) (by omega) (by omega) (by omega) (by omega)]; exact a1, by rw [f _ _ (by omega) (by omega) (by omega) (by omega) (by omega)]; exact a2, by rw [sc _ _ (by omega)]; exact q3, by rw [f _ _ (by omega) (by omega) (by omega) (by omega) (by omega)]; exact a4⟩, fun i i0 i1 => by rw [f _ _ (by omega) (by omega) (by omega) (by omega) (by omega)]; exact h3 i i0 i1, fun i i0 i1 => by rw [f _ _ (by omega) (by omega) (by omega) (by omega) (by omega)]; exact h4 i i0 i1, fun j j0 j1 => ?_⟩
        exact wl_k (h5 j j0 j1) (fun i _ _ => f _ _ (by omega) (by omega) (by omega) (by omega) (by omega)) (fun o i _ _ _ => f _ _ (by omega) (by omega) (by omega) (by omega) (by omega)) (fun o i _ _ _ => f _ _ (by omega) (by omega) (by omega) (by omega) (by omega)) (fun o i _ _ _ => f _ _ (by omega) (by omega) (by omega) (by omega) (by omega))
      · exact fun j j0 j1 => mkJ_k (hm3 j j0 (by omega)) j0 (by omega) (fun i _ => f _ _ (by omega) (by omega) (by omega) (by omega) (by omega)) (fun i _ _ => f _ _ (by omega) (by omega) (by omega) (by omega) (by omega)) (fun i i0 i1 => f _ _ (by omega) (by omega) (by omega) (by omega) (by omega)) (fun a i q => f _ _ (by omega) (by omega) (by omega) (by omega) (by omega))
      · exact obI_k h.2.2.1 (fun j q => f _ _ (by omega) (by omega) (by omega) (by omega) (by omega)) (fun a j q => f _ _ (by omega) (by omega) (by omega) (by omega) (by omega))
      · unfold StI at st ⊢
        rw [sc 1 12 (by omega), q4, s5.2, f 1 13 (by omega) (by omega) (by omega) (by omega) (by omega), f 1 14 (by omega) (by omega) (by omega) (by omega) (by omega), f 119 3 (by omega) (by omega) (by omega) (by omega) (by omega), f 119 4 (by omega) (by omega) (by omega) (by omega) (by omega)]
        exact ⟨rfl, st.2⟩
      · exact lfI_k h.2.2.2.2 (f _ _ (by omega) (by omega) (by omega) (by omega) (by omega)) (f _ _ (by omega) (by omega) (by omega) (by omega) (by omega)) (fun a j q => f _ _ (by omega) (by omega) (by omega) (by omega) (by omega))
    · omega
  · rw [q3]
    have k := u12_k M 6
    refine t_mono (r_back (m := m) (riI_k h.2.1 k).1 (by rw [k _ _ (by omega)]; exact hm2) (by omega) (by omega)) (fun s hs => ?_)
    rcases hs with ⟨s1, _, _⟩ | ⟨s1, s2, s3⟩
    · omega
    · rw [q2, s2, s3]; exact ⟨rfl, ref_q h 6⟩
