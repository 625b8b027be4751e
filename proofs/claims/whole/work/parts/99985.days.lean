/-! days keep the invariant -/
def EqS (w w' : Int → Int) : Prop := ∀ j, j ≠ 9 → j < 270 → w' j = w j
theorem es_v {w w' : Int → Int} (h : EqS w w') : SameV w w' ∧ SameT w w' := ⟨fun k hk => h k (by omega) (by omega), fun k hk => h k (by omega) (by omega)⟩
theorem wf_ls {w w' : Int → Int} (hwf : WF w) (h : EqS w w') : WF w' := by
  obtain ⟨hn, hr, hf, ho, hl, hw⟩ := hwf
  have hn' := hn
  unfold WFn at hn'
  obtain ⟨sv, st⟩ := es_v h
  obtain ⟨e1, e2, e3, e4, e5⟩ := sv_n sv
  have eod : ∀ j, 0 ≤ j → j < 10 → od w' j = od w j := fun j j0 j1 => h _ (by omega) (by omega)
  refine ⟨?_, ?_, ?_, ⟨?_, ?_, ?_, ?_⟩, ⟨?_, ?_⟩, ?_⟩
  · unfold WFn
    rw [h 0 (by omega) (by omega), h 1 (by omega) (by omega), h 2 (by omega) (by omega), h 3 (by omega) (by omega), h 4 (by omega) (by omega), h 5 (by omega) (by omega), h 6 (by omega) (by omega), h 8 (by omega) (by omega)]
    exact hn
  · intro r r0 r1
    rw [e3] at r1
    simp (disch := omega) only [sv_rc sv]
    exact hr r r0 r1
  · intro r r0 r1
    rw [e5] at r1
    rw [e3, e4]
    simp (disch := omega) only [sv_fc sv]
    exact hf r r0 r1
  · intro j j0 j1
    rw [e5] at j1 ⊢
    rw [eod j j0 (by omega)]; exact ho.1 j j0 j1
  · intro f f0 f1
    rw [e5] at f1 ⊢
    obtain ⟨j, j0, j1, j2⟩ := ho.2.1 f f0 f1
    exact ⟨j, j0, j1, by rw [eod j j0 (by omega)]; exact j2⟩
  · intro a b a0 a1 b0 b1 e
    rw [e5] at a1 b1
    rw [eod a a0 (by omega), eod b b0 (by omega)] at e
    exact ho.2.2.1 a b a0 a1 b0 b1 e
  · rw [e5, st_ahead sv st hn ho (by omega) (Int.le_refl _), sv_allSh sv hn]; exact ho.2.2.2
  · intro j j0 j1
    rw [h 8 (by omega) (by omega)] at j1
    rw [e5]
    have q0 : lo w' j 0 = lo w j 0 := st _ (by omega)
    have q1 : lo w' j 1 = lo w j 1 := st _ (by omega)
    have q2 : lo w' j 2 = lo w j 2 := st _ (by omega)
    rw [q0, q1, q2]; exact hl.1 j j0 j1
  · intro j j0 j1
    rw [e5] at j1
    rw [st_left sv st hn ho j0 j1]; exact hl.2 j j0 j1
  · unfold WFw
    rw [h 6 (by omega) (by omega), h 8 (by omega) (by omega), e5]
    refine ⟨fun a b a0 a1 b0 b1 => ?_, fun f f0 f1 => ?_⟩
    · have q : ow w' a b = ow w a b := h _ (by omega) (by omega)
      rw [q]; exact hw.1 a b a0 a1 b0 b1
    · have q : ac w' f = ac w f := h _ (by omega) (by omega)
      rw [q]; exact hw.2 f f0 f1
theorem rs_ls {M : Mem} {s : Int} {w w' : Int → Int} (hr : RS M s w) (hn : WFn w) (h : EqS w w') : RS M s w' := by
  unfold WFn at hn
  obtain ⟨⟨a1, a2, a3, a4⟩, b, c, d, g⟩ := hr
  refine ⟨⟨by rw [h 0 (by omega) (by omega)]; exact a1, by rw [h 6 (by omega) (by omega)]; exact a2, by rw [h 7 (by omega) (by omega)]; exact a3, by rw [h 8 (by omega) (by omega)]; exact a4⟩, fun k h1 h2 => ?_, fun i h1 h2 => ?_, fun i j h1 h2 h3 h4 => ?_, fun f h1 h2 => ?_⟩
  · rw [h 5 (by omega) (by omega)] at h2
    rw [show od w' k = od w k from h _ (by omega) (by omega)]; exact b k h1 h2
  · rw [h 8 (by omega) (by omega)] at h2
    rw [show lo w' i 0 = lo w i 0 from h _ (by omega) (by omega), show lo w' i 1 = lo w i 1 from h _ (by omega) (by omega), show lo w' i 2 = lo w i 2 from h _ (by omega) (by omega)]; exact c i h1 h2
  · rw [show ow w' i j = ow w i j from h _ (by omega) (by omega)]; exact d i j h1 h2 h3 h4
  · rw [show ac w' f = ac w f from h _ (by omega) (by omega)]; exact g f h1 h2
theorem ci_ls {M : Mem} {v : Int} {w w' : Int → Int} (hc : CI M v w) (hn : WFn w) (h : EqS w w') : CI M v w' := by
  obtain ⟨h1, h2, h3, h4, h5, h6, h7⟩ := hc
  exact ⟨h1, h2, h3, h4, h5, rv_w (es_v h).1 hn h6, rs_ls h7 hn h⟩
theorem wd_o {W w : Int → Int} {j : Int} (h : j ≠ 9) (h2 : j < 270 ∨ 640 ≤ j) : wD W w j = W j := by unfold wD; rw [if_neg (by omega)]
theorem o_days {M : Mem} {B : Int} (h : Iv M B) (x : Int) : OpK (f_X11_days 1 x M) (fun N => f_X12_days 119 x N) B := by
  obtain ⟨v, d, r, m, A, h⟩ := h
  have hcv := h.2.1.2.2.1
  obtain ⟨t1, t2, t3, t4, t5⟩ := h.2.1.2.2.2.1
  have hv := hcv.1
  have hd := hcv.2.1
  have st := h.2.2.2.1
  obtain ⟨hc, hdd, hg⟩ := h.1
  have hw := hg.1.1
  unfold WFn at hw
  have hnm := h.2.1.2.2.2.2.1
  obtain ⟨mm, em⟩ : ∃ mm : Nms, mm = (M (v + 23), M 120 3, M (v + 25), M 120 5) := ⟨_, rfl⟩
  have m1 : mm.2.1 = M 120 3 := by rw [em]
  have m2 : mm.2.2.2 = M 120 5 := by rw [em]
  have m3 : mm.1 = M (v + 23) := by rw [em]
  have m4 : mm.2.2.1 = M (v + 25) := by rw [em]
  have hNV : NV M v mm := by
    obtain ⟨_, _, l, _, _, rv, _⟩ := hc
    refine ⟨⟨l.1.2.2.1, l.1.2.2.2.2, by rw [m1]; exact rv.1.2.2.1, by rw [m2]; exact rv.1.2.2.2.2.1⟩, ⟨l.2.1.2.2.1, l.2.1.2.2.2.2⟩, fun k _ _ => by rw [m3], fun k _ _ => by rw [m4], by omega, by omega, by omega⟩
  have vn : ∀ N : Mem, (∀ a j, 119 ≤ a → N a j = M a j) → LR N ∧ (0 ≤ N 119 10 ∧ N 119 10 ≤ 900) ∧ (∀ k, 0 ≤ k → k < N 119 10 → N 125 k = M 11 k ∧ -128 ≤ M 11 k ∧ M 11 k ≤ 127) ∧ N 119 10 = M 10 6 ∧ NmD N mm ∧ N 120 = M 120 := fun N k => by
    have e10 : N 119 10 = M 10 6 := by rw [k _ _ (by omega)]; exact t1.1.symm
    refine ⟨(riI_k h.2.1 k).1, by omega, fun j j0 j1 => ?_, e10, ⟨⟨by rw [m1, k _ _ (by omega)], by rw [m2, k _ _ (by omega)]⟩, fun j j0 j1 => ?_, fun j j0 j1 => ?_, by omega, by omega, by omega⟩, funext fun j => k _ _ (by omega)⟩
    · rw [k 125 j (by omega)]; exact t2 j j0 (by omega)
    · rw [m3, k _ _ (by omega)]
      have t := hnm.1 j j0 (by omega)
      rw [Int.zero_add] at t; exact t
    · rw [m4, k _ _ (by omega)]
      have t := hnm.2.2 j j0 (by omega)
      rw [Int.zero_add] at t; exact t
  unfold OpK
  refine c_days (u := fun j => M 120 (2560 + j)) (W := M 120) hcv t1.2 hNV (fun c => ?_) (fun c N f er hf h6 h12 hfr => ?_) (fun c N σ ok hW hO hf h6 h12 h9 h13 hL' hD' hfr => ?_)
  · obtain ⟨n1, n2, n3, n4, n5, n6⟩ := vn _ (u12_k M 1)
    exact r_days (M := upd2 M 1 12 1) n1 t3 n2 n3 n5 (fun _ => ⟨rfl, ref_q h 1⟩) (fun c' => absurd (by omega) c) (fun c' => absurd (by omega) c)
  · have k : ∀ a j, 119 ≤ a → N a j = M a j := fun a j ha => hfr a j (by omega) (by omega) (fun y => by have := pd_b y; omega)
    obtain ⟨n1, n2, n3, n4, n5, n6⟩ := vn N k
    refine r_days (M := N) n1 t3 n2 n3 n5 (fun c' => absurd (by omega) c') (fun _ P f' er' e16 e17 p10 p2 pf => ⟨rfl, ?_⟩) (fun _ P τ ok => by rw [n6, er] at ok; exact nomatch ok)
    rw [n6, er] at er'
    injection er' with er'
    subst er'
    have g : ∀ a j, ¬ dyR a j → ¬ (a = 10 ∧ 2 ≤ j) → ¬ (a = 1 ∧ j = 12) → ¬ PD (a - (151 - d)) j → P a j = M a j := fun a j x1 x2 x3 x4 => by rw [pf a j x1, hfr a j x2 x3 x4]
    have sc : ∀ a j, a < 119 → P a j = N a j := fun a j ha => pf a j (by unfold dyR bgF dpF rpF; omega)
    have nv : ∀ a j, ¬ (151 - d ≤ a ∧ a ≤ 151 - d + 7) → ¬ PD (a - (151 - d)) j := fun a j x y => by have := pd_b y; omega
    have e : EqL (M 120) (P 120) := fun j hj => g _ _ (by unfold dyR bgF dpF rpF; omega) (by omega) (by omega) (nv _ _ (by omega))
    have gl : ∀ a j, a < 119 → ¬ (a = 10 ∧ 2 ≤ j) → ¬ (a = 1 ∧ j = 12) → ¬ (151 - d ≤ a ∧ a ≤ 151 - d + 7) → P a j = M a j := fun a j x1 x2 x3 x4 => g a j (by unfold dyR bgF dpF rpF; omega) x2 x3 (nv _ _ x4)
    have hc' : CI P v (P 120) := ci_lt (ci_v hg.1.1 hc (fun a j q => gl a j (by omega) (by omega) (by omega) (by omega))) hg.1.1 e
    obtain ⟨_, _, tt, ⟨p2', p8, p9, p13, p131, p132⟩, hL, hL2, hD, hD2, hS⟩ := hcv
    refine iv_i (M := P) (inv_n (v' := v) (d' := d) h (fun a j hx => ?_) ⟨hc', cd_lt (cd_k hdd hg.2.2.2.1 ⟨rfl, fun _ _ _ => rfl⟩ (fun a j q => gl a j (by omega) (by omega) (by omega) (by omega))) hg.2.2.2.1 e, gw_lt hg e⟩ ?_ ?_ ?_ ?_) (by omega)
    · unfold rdF at hx
      exact g a j (by unfold dyR bgF dpF rpF; omega) (by omega) (by omega) (fun y => by have := pd_b y; omega)
    · refine ⟨hv, hd, ⟨?_, ?_, ?_, ?_, ?_⟩, ⟨?_, ?_, ?_, ?_, ?_, ?_⟩, hc'.2.2.1, lv_keep hL2 (fun a j q1 q2 => gl a j (by omega) (by omega) (by omega) (by omega)), ldy_k hD (fun a j q1 q2 => gl a j (by omega) (by omega) (by omega) (by omega)), ldy_p hD2 (fun o j o0 o1 y => g _ _ (by unfold dyR bgF dpF rpF; omega) (by omega) (by omega) (by rw [show 151 - d + o - (151 - d) = o by omega]; exact y)), hc'.2.2.2.1⟩ <;> rw [gl _ _ (by omega) (by omega) (by omega) (by omega)]
      · exact tt.1
      · exact tt.2.1
      · exact tt.2.2.1
      · exact tt.2.2.2.1
      · exact tt.2.2.2.2
      · exact p2'
      · exact p8
      · exact p9
      · exact p13
      · exact p131
      · exact p132
    · exact nmI_g hnm hg.1.1 (e _ (by omega)) (e _ (by omega)) (e _ (by omega)) (fun c j q1 q2 => gl _ _ (by omega) (by omega) (by omega) (by omega)) (fun j j0 j1 => g _ _ (by unfold dyR bgF dpF rpF; omega) (by omega) (by omega) (nv _ _ (by omega)))
    · refine ⟨⟨by rw [sc _ _ (by omega), h6, p10], by rw [sc _ _ (by omega), h6]; omega, by rw [sc _ _ (by omega), h6]; omega⟩, fun j j0 j1 => ?_, fun j j0 j1 => ?_, ?_, ?_⟩
      · rw [sc _ _ (by omega), h6] at j1; omega
      · rw [gl _ _ (by omega) (by omega) (by omega) (by omega)]; exact t3 j j0 j1
      · rw [sc _ _ (by omega), hf.1, e16]
      · rw [sc _ _ (by omega), hf.2, e17]
    · unfold StI at st ⊢
      rw [sc 1 12 (by omega), h12, p2, gl 1 13 (by omega) (by omega) (by omega) (by omega), gl 1 14 (by omega) (by omega) (by omega) (by omega), pf 119 3 (by unfold dyR bgF dpF rpF; omega), pf 119 4 (by unfold dyR bgF dpF rpF; omega), k _ _ (by omega), k _ _ (by omega)]
      exact ⟨rfl, st.2⟩
  · have k : ∀ a j, 119 ≤ a → N a j = M a j := fun a j ha => hfr a j (by omega) (by omega) (by omega) (fun y => by have := pd_b y; omega)
    obtain ⟨n1, n2, n3, n4, n5, n6⟩ := vn N k
    refine r_days (M := N) n1 t3 n2 n3 n5 (fun c' => absurd (by omega) c') (fun _ P f' er' => by rw [n6, ok] at er'; exact nomatch er') (fun _ P τ' ok' _ _ e16 e17 p10 p2 pw pf => ?_)
    rw [n6, ok] at ok'
    injection ok' with ok'
    subst ok'
    rw [n6] at pw
    refine ⟨rfl, ?_⟩
    have pf' : ∀ a j, a < 119 ∨ 129 ≤ a ∨ j < 0 → P a j = N a j := fun a j ha => pf a j (by unfold dyR bgF dpF rpF; omega) (by omega)
    have nf : ∀ a j, ¬ (a = 10 ∧ 2 ≤ j) → ¬ (a = 1 ∧ (j = 9 ∨ j = 12)) → ¬ (a = 13 ∧ j = 1) → (0 ≤ j → ¬ (151 - d ≤ a ∧ a ≤ 151 - d + 7)) → N a j = M a j := fun a j x1 x2 x3 x4 => hfr a j x1 x2 x3 (fun y => by have := pd_b y; omega)
    have es : EqS (M 120) (wD (M 120) σ.1) := fun j x1 x2 => wd_o x1 (by omega)
    have gw : GW (wD (M 120) σ.1) := ⟨wf_ls hg.1 es, wfa_k hg.2.1 (wd_o (by omega) (by omega)) (fun j _ _ => wd_o (by omega) (by omega)), wfd_new m1 m2 hW hO⟩
    have hn := gw.1.1
    have e : EqL (wD (M 120) σ.1) (P 120) := fun j hj => by
      by_cases c0 : 0 ≤ j
      · exact pw j c0 hj
      · rw [pf' _ _ (by omega), k _ _ (by omega)]; exact (wd_o (by omega) (by omega)).symm
    have e3 : P 120 3 = M 120 3 := by rw [e 3 (by omega)]; exact wd_o (by omega) (by omega)
    have e4 : P 120 4 = M 120 4 := by rw [e 4 (by omega)]; exact wd_o (by omega) (by omega)
    have e5 : P 120 5 = M 120 5 := by rw [e 5 (by omega)]; exact wd_o (by omega) (by omega)
    obtain ⟨_, _, tt, ⟨p2', p8, p9, p13, p131, p132⟩, hL, hL2, hDy, hDy2, hSt⟩ := hcv
    have hc' : CI P v (P 120) := ci_lt (ci_ls (ci_v hg.1.1 hc (fun a j q => by rw [pf' a j (by omega)]; exact nf a j (by omega) (by omega) (by omega) (by omega))) hg.1.1 es) hn e
    have hdN : CD N (151 - d) (wD (M 120) σ.1) := ⟨by omega, h13, hL', hD'⟩
    have hd' : CD P (151 - d) (P 120) := cd_lt (cd_k hdN gw.2.2.2.1 ⟨rfl, fun _ _ _ => rfl⟩ (fun a j q => pf' a j (by omega))) gw.2.2.2.1 e
    refine iv_i (M := P) (inv_n (v' := v) (d' := 151 - d) h (fun a j hx => ?_) ⟨hc', hd', gw_lt gw e⟩ ?_ ?_ ?_ ?_) (by omega)
    · unfold rdF at hx
      rw [pf a j (by unfold dyR bgF dpF rpF; omega) (by omega)]
      exact nf a j (by omega) (by omega) (by omega) (by omega)
    · have w9 : 151 - (151 - d) = d := by omega
      unfold CV
      rw [w9]
      refine ⟨hv, by omega, ⟨?_, ?_, ?_, ?_, ?_⟩, ⟨?_, ?_, ?_, ?_, ?_, ?_⟩, hc'.2.2.1, lv_keep hL2 (fun a j x1 x2 => by rw [pf' a j (by omega)]; exact nf a j (by omega) (by omega) (by omega) (by omega)), hd'.2.2.1, ldy_k hDy (fun a j x1 x2 => by rw [pf' a j (by omega)]; exact nf a j (by omega) (by omega) (by omega) (by omega)), hc'.2.2.2.1⟩ <;> rw [pf' _ _ (by omega)]
      · rw [nf _ _ (by omega) (by omega) (by omega) (by omega)]; exact tt.1
      · rw [nf _ _ (by omega) (by omega) (by omega) (by omega)]; exact tt.2.1
      · rw [nf _ _ (by omega) (by omega) (by omega) (by omega)]; exact tt.2.2.1
      · rw [nf _ _ (by omega) (by omega) (by omega) (by omega)]; exact tt.2.2.2.1
      · rw [nf _ _ (by omega) (by omega) (by omega) (by omega)]; exact tt.2.2.2.2
      · rw [nf _ _ (by omega) (by omega) (by omega) (by omega)]; exact p2'
      · rw [nf _ _ (by omega) (by omega) (by omega) (by omega)]; exact p8
      · exact h9
      · rw [nf _ _ (by omega) (by omega) (by omega) (by omega)]; exact p13
      · exact h13
      · rw [nf _ _ (by omega) (by omega) (by omega) (by omega)]; exact p132
    · exact nmI_g hnm hg.1.1 e3 e4 e5 (fun c j q1 q2 => by rw [pf' _ _ (by omega)]; exact nf _ _ (by omega) (by omega) (by omega) (by omega)) (fun j j0 j1 => by rw [pf _ _ (by unfold dyR bgF dpF rpF; omega) (by omega)]; exact k _ _ (by omega))
    · refine ⟨⟨by rw [pf' _ _ (by omega), h6, p10], by rw [pf' _ _ (by omega), h6]; omega, by rw [pf' _ _ (by omega), h6]; omega⟩, fun j j0 j1 => ?_, fun j j0 j1 => ?_, ?_, ?_⟩
      · rw [pf' _ _ (by omega), h6] at j1; omega
      · rw [pf' _ _ (by omega), nf _ _ (by omega) (by omega) (by omega) (by omega)]; exact t3 j j0 j1
      · rw [pf' _ _ (by omega), hf.1, e16]
      · rw [pf' _ _ (by omega), hf.2, e17]
    · unfold StI at st ⊢
      rw [pf' 1 12 (by omega), pf' 1 13 (by omega), pf' 1 14 (by omega), h12, p2, nf 1 13 (by omega) (by omega) (by omega) (by omega), nf 1 14 (by omega) (by omega) (by omega) (by omega), pf 119 3 (by unfold dyR bgF dpF rpF; omega) (by omega), pf 119 4 (by unfold dyR bgF dpF rpF; omega) (by omega), k _ _ (by omega), k _ _ (by omega)]
      exact ⟨rfl, st.2⟩
