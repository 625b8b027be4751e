/-! reading keeps the invariant -/
/-- the cells that reading may change -/
def rdF (a j : Int) : Prop := (a = 10 ∧ 2 ≤ j) ∨ (a = 1 ∧ (j = 8 ∨ j = 9 ∨ 12 ≤ j ∧ j ≤ 14)) ∨ (a = 13 ∧ (j = 0 ∨ j = 1)) ∨ (14 ≤ a ∧ a ≤ 54 ∧ 0 ≤ j) ∨ (85 ≤ a ∧ a ≤ 118 ∧ 0 ≤ j) ∨ (a = 119 ∧ (2 ≤ j ∧ j ≤ 4 ∨ 10 ≤ j ∧ j ≤ 20 ∨ j = 23 ∨ j = 24)) ∨ (126 ≤ a ∧ a ≤ 128 ∧ 0 ≤ j) ∨ (a = 120 ∧ (0 ≤ j ∧ j < 640 ∨ 2560 ≤ j)) ∨ (a = 121 ∧ (0 ≤ j ∧ j < 26 ∨ 104 ≤ j))
theorem inv_n {M P : Mem} {v d v' d' B m A : Int} {r : Int → Int} (h : INV M v d B r m A) (f : ∀ a j, ¬ rdF a j → P a j = M a j) (hw : WIv P v' d') (hc : CV P v' d') (hn : NmI P v' 0 (P 120)) (hp : TpI P) (st : StI P) : INV P v' d' B r m A := by
  obtain ⟨_, ⟨⟨hr, h34⟩, ht, _, _, _, ⟨hm1, hm2, hm3⟩⟩, ho, _, hl⟩ := h
  unfold rdF at f
  refine ⟨hw, ⟨⟨lr_keep hr (fun a j x1 x2 => f a j (by omega)), by rw [f _ _ (by omega)]; exact h34⟩, ⟨ltr_k ht.1 (fun a j x => f a j (by omega)), itr_k ht.2 (fun a j x => f a j (by omega))⟩, hc, hp, hn, ⟨?_, ?_, ?_⟩⟩, ?_, st, ?_⟩
  · exact mkc_k hm1 ⟨f _ _ (by omega), f _ _ (by omega), f _ _ (by omega)⟩ (fun j => f _ _ (by omega)) (fun a j _ => f _ _ (by omega))
  · rw [f _ _ (by omega)]; exact hm2
  · exact fun j j0 j1 => mkJ_k (hm3 j j0 j1) j0 (by have := hm1.1; omega) (fun i _ => f _ _ (by omega)) (fun i _ _ => f _ _ (by omega)) (fun i i0 i1 => f _ _ (by omega)) (fun a i q => f _ _ (by omega))
  · exact obI_k ho (fun j q => f _ _ (by omega)) (fun a j q => f _ _ (by omega))
  · exact lfI_k hl (f _ _ (by omega)) (f _ _ (by omega)) (fun a j q => f _ _ (by omega))
theorem ci_v {M N : Mem} {v : Int} {w : Int → Int} (hn : WFn w) (h : CI M v w) (e : ∀ a j, (a = 1 ∧ (j = 2 ∨ j = 3)) ∨ (a = 13 ∧ (j = 0 ∨ j = 2)) ∨ (v ≤ a ∧ a ≤ v + 25) ∨ (48 ≤ a ∧ a ≤ 73) → N a j = M a j) : CI N v w := by
  unfold WFn at hn
  obtain ⟨hv, ⟨a1, a2, a3, a4⟩, h3, h4, h5, h6, h7⟩ := h
  refine ⟨hv, ⟨?_, ?_, ?_, ?_⟩, lv_keep h3 (fun a k h1 h2 => e a k (by omega)), ls_keep h4 (fun a k h1 h2 => e a k (by omega)), lw_keep h5 (fun a k h1 h2 _ => e a k (by omega)), rv_keep (by omega) (by omega) h6 (fun a k h1 h2 => e a k (by omega)), rs_keep h7 (fun a k h1 h2 => e a k (by omega))⟩
  · rw [e _ _ (by omega)]; exact a1
  · rw [e _ _ (by omega)]; exact a2
  · rw [e _ _ (by omega)]; exact a3
  · rw [e _ _ (by omega)]; exact a4
theorem nmI_g {M N : Mem} {a o : Int} {w w' : Int → Int} (h : NmI M a o w) (b : WFn w) (e3 : w' 3 = w 3) (e4 : w' 4 = w 4) (e5 : w' 5 = w 5) (ka : ∀ c j, a + 23 ≤ c → c ≤ a + 25 → N c j = M c j) (kr : ∀ i, 0 ≤ i → i < 26 → N 121 (o + i) = M 121 (o + i)) : NmI N a o w' := by
  obtain ⟨h1, h2, h3⟩ := h
  unfold WFn at b
  refine ⟨fun k k0 k1 => ?_, fun k k0 k1 => ?_, fun k k0 k1 => ?_⟩
  · rw [ka _ _ (by omega) (by omega), kr k k0 (by omega)]; exact h1 k k0 (by omega)
  · have t := kr (10 + k) (by omega) (by omega)
    rw [← Int.add_assoc] at t
    rw [ka _ _ (by omega) (by omega), t]; exact h2 k k0 (by omega)
  · have t := kr (16 + k) (by omega) (by omega)
    rw [← Int.add_assoc] at t
    rw [ka _ _ (by omega) (by omega), t]; exact h3 k k0 (by omega)
theorem ptT_n {B K : Int → Int} {n s : Int} {σ : VS} {p : VS × Int} (h : ptT B K n σ s = .ok p) (hw : WV σ.1) {j : Int} (hj : j < 0) : p.1.1 j = σ.1 j := by
  have c3 := hw.1.1.1
  have c5 := hw.1.2.2.1
  unfold ptT at h
  by_cases c0 : tkY B K n s = 0
  · rw [if_pos c0] at h
    unfold hdT at h
    by_cases d : σ.2.2.1 = true
    · rw [if_pos d] at h; exact nomatch h
    · rw [if_neg d] at h
      obtain ⟨⟨x, t⟩, e1, h⟩ := bnd_i h
      obtain ⟨t2, _, h⟩ := bnd_i h
      injection h with h
      rw [← h]; dsimp only; rw [upd1_at, if_neg (by omega)]
  rw [if_neg c0] at h
  by_cases c1 : tkY B K n s = 1
  · rw [if_pos c1] at h
    unfold spT at h
    by_cases d : σ.2.2.2 = true
    · rw [if_pos d] at h; exact nomatch h
    · rw [if_neg d] at h
      obtain ⟨⟨x, t⟩, e1, h⟩ := bnd_i h
      obtain ⟨t2, _, h⟩ := bnd_i h
      obtain ⟨⟨y, t3⟩, e2, h⟩ := bnd_i h
      obtain ⟨t4, _, h⟩ := bnd_i h
      injection h with h
      rw [← h]; dsimp only; rw [upd1_at, if_neg (by omega), upd1_at, if_neg (by omega)]
  rw [if_neg c1] at h
  by_cases c2 : tkY B K n s = 3
  · rw [if_pos c2] at h
    unfold rrT at h
    obtain ⟨p1, e1, h⟩ := bnd_i h
    obtain ⟨q, e2, h⟩ := bnd_i h
    obtain ⟨t4, _, h⟩ := bnd_i h
    injection h with h
    rw [← h]; exact addR_o (by omega) (by omega)
  rw [if_neg c2] at h
  by_cases c3 : tkY B K n s = 10
  · rw [if_pos c3] at h
    unfold owT at h
    obtain ⟨p1, e1, h⟩ := bnd_i h
    obtain ⟨t4, _, h⟩ := bnd_i h
    injection h with h
    rw [← h]; dsimp only; rw [upd1_at, if_neg (by omega)]
  rw [if_neg c3] at h
  by_cases c4 : tkY B K n s = 11
  · rw [if_pos c4] at h
    unfold ffT at h
    obtain ⟨p1, e1, h⟩ := bnd_i h
    obtain ⟨q, e2, h⟩ := bnd_i h
    obtain ⟨t4, _, h⟩ := bnd_i h
    injection h with h
    rw [← h]; exact addF_o (by omega) (by omega)
  rw [if_neg c4] at h; exact nomatch h
theorem loT_n {B K : Int → Int} {n : Int} : ∀ (k : Nat) (σ τ : VS) (s : Int), loT B K n k σ s = .ok τ → WV σ.1 → ∀ j, j < 0 → τ.1 j = σ.1 j
  | 0, σ, τ, s, h, hw, j, hj => by
    have h : Except.ok σ = (Except.ok τ : Except Fl VS) := h
    injection h with h; rw [← h]
  | k + 1, σ, τ, s, h, hw, j, hj => by
    have h : (if n ≤ s then .ok σ else bnd (ptT B K n σ s) fun p => loT B K n k p.1 p.2) = (Except.ok τ : Except Fl VS) := h
    by_cases c : n ≤ s
    · rw [if_pos c] at h
      injection h with h; rw [← h]
    · rw [if_neg c] at h
      obtain ⟨p, e, h⟩ := bnd_i h
      rw [loT_n k p.1 τ p.2 h (ptT_v e hw) j hj]; exact ptT_n e hw hj
theorem rdT_n {B K u : Int → Int} {x : Int} {τ : VS} (h : rdT B K x u = .ok τ) {j : Int} (hj : j < 0) : τ.1 j = u j := by
  unfold rdT at h
  rw [loT_n _ _ _ _ h (wv_pl u) j hj]
  show plW u j = u j
  unfold plW
  rw [if_neg (by omega), if_neg (by omega), if_neg (by omega), if_neg (by omega)]
theorem o_valley {M : Mem} {B : Int} (h : Iv M B) (x : Int) : OpK (f_X11_valley 1 x M) (fun N => f_X12_valley 119 x N) B := by
  obtain ⟨v, d, r, m, A, h⟩ := h
  have hcv := h.2.1.2.2.1
  obtain ⟨t1, t2, t3, t4, t5⟩ := h.2.1.2.2.2.1
  have hv := hcv.1
  have hd := hcv.2.1
  have st := h.2.2.2.1
  have vn : ∀ N : Mem, (∀ a j, 119 ≤ a → N a j = M a j) → LR N ∧ (0 ≤ N 119 10 ∧ N 119 10 ≤ 900) ∧ (∀ k, 0 ≤ k → k < N 119 10 → N 125 k = M 11 k ∧ -128 ≤ M 11 k ∧ M 11 k ≤ 127) ∧ N 119 10 = M 10 6 := fun N k => by
    have e10 : N 119 10 = M 10 6 := by rw [k _ _ (by omega)]; exact t1.1.symm
    refine ⟨(riI_k h.2.1 k).1, by omega, fun j j0 j1 => ?_, e10⟩
    rw [k 125 j (by omega)]; exact t2 j j0 (by omega)
  unfold OpK
  refine c_valley (u := M 120) hcv t1.2 (fun c => ?_) (fun c N f er hf h6 h12 h8 h13 hfr => ?_) (fun c N τ ok hW hf h6 h12 h8 h13 hV hS hD hfr => ?_)
  · obtain ⟨n1, n2, n3, n4⟩ := vn _ (u12_k M 1)
    exact r_valley (M := upd2 M 1 12 1) (u := M 120) n1 t3 n2 n3 (fun _ => ⟨rfl, ref_q h 1⟩) (fun c' => absurd (by omega) c) (fun c' => absurd (by omega) c)
  · have k : ∀ a j, 119 ≤ a → N a j = M a j := fun a j ha => hfr a j (by omega) (by omega) (fun y => by have := pv_b y; omega)
    obtain ⟨n1, n2, n3, n4⟩ := vn N k
    refine r_valley (M := N) (u := M 120) n1 t3 n2 n3 (fun c' => absurd (by omega) c') (fun _ P f' er' e16 e17 p10 p2 pf => ⟨rfl, ?_⟩) (fun _ P τ ok => by rw [er] at ok; exact nomatch ok)
    rw [er] at er'
    injection er' with er'
    subst er'
    have g : ∀ a j, ¬ vlR a j → ¬ (a = 10 ∧ 2 ≤ j) → ¬ (a = 1 ∧ j = 12) → ¬ PV (a - (99 - v)) j → P a j = M a j := fun a j x1 x2 x3 x4 => by rw [pf a j x1, hfr a j x2 x3 x4]
    have sc : ∀ a j, a < 119 → P a j = N a j := fun a j ha => pf a j (by unfold vlR bgF vpF rpF; omega)
    have nv : ∀ a j, ¬ (99 - v ≤ a ∧ a ≤ 99 - v + 25) → ¬ PV (a - (99 - v)) j := fun a j x y => by have := pv_b y; omega
    have e : EqL (M 120) (P 120) := fun j hj => g _ _ (by unfold vlR bgF vpF rpF; omega) (by omega) (by omega) (nv _ _ (by omega))
    obtain ⟨hc, hdd, hg⟩ := h.1
    have gl : ∀ a j, a < 119 → ¬ (a = 10 ∧ 2 ≤ j) → ¬ (a = 1 ∧ j = 12) → ¬ (99 - v ≤ a ∧ a ≤ 99 - v + 25) → P a j = M a j := fun a j x1 x2 x3 x4 => g a j (by unfold vlR bgF vpF rpF; omega) x2 x3 (nv _ _ x4)
    have hc' : CI P v (P 120) := ci_lt (ci_v hg.1.1 hc (fun a j q => gl a j (by omega) (by omega) (by omega) (by omega))) hg.1.1 e
    obtain ⟨_, _, tt, ⟨p2', p8, p9, p13, p131, p132⟩, hL, hL2, hD, hD2, hS⟩ := hcv
    refine iv_i (M := P) (inv_n (v' := v) (d' := d) h (fun a j hx => ?_) ⟨hc', cd_lt (cd_k hdd hg.2.2.2.1 ⟨rfl, fun _ _ _ => rfl⟩ (fun a j q => gl a j (by omega) (by omega) (by omega) (by omega))) hg.2.2.2.1 e, gw_lt hg e⟩ ?_ ?_ ?_ ?_) (by omega)
    · unfold rdF at hx
      exact g a j (by unfold vlR bgF vpF rpF; omega) (by omega) (by omega) (fun y => by have := pv_b y; omega)
    · refine ⟨hv, hd, ⟨?_, ?_, ?_, ?_, ?_⟩, ⟨?_, ?_, ?_, ?_, ?_, ?_⟩, hc'.2.2.1, lv_p hL2 (fun o j o0 o1 y => g _ _ (by unfold vlR bgF vpF rpF; omega) (by omega) (by omega) (by rw [show 99 - v + o - (99 - v) = o by omega]; exact y)), ldy_k hD (fun a j q1 q2 => gl a j (by omega) (by omega) (by omega) (by omega)), ldy_k hD2 (fun a j q1 q2 => gl a j (by omega) (by omega) (by omega) (by omega)), hc'.2.2.2.1⟩ <;> rw [gl _ _ (by omega) (by omega) (by omega) (by omega)]
      · exact tt.1
      · exact tt.2.1
      · exact tt.2.2.1
      · exact tt.2.2.2.1
      · exact tt.2.2.2.2
      · exact p2'
      · exact p8
      · exact p9
      · exact p13
      · exact p131
      · exact p132
    · exact nmI_g h.2.1.2.2.2.2.1 hg.1.1 (e _ (by omega)) (e _ (by omega)) (e _ (by omega)) (fun c j q1 q2 => gl _ _ (by omega) (by omega) (by omega) (by omega)) (fun j j0 j1 => g _ _ (by unfold vlR bgF vpF rpF; omega) (by omega) (by omega) (nv _ _ (by omega)))
    · refine ⟨⟨by rw [sc _ _ (by omega), h6, p10], by rw [sc _ _ (by omega), h6]; omega, by rw [sc _ _ (by omega), h6]; omega⟩, fun j j0 j1 => ?_, fun j j0 j1 => ?_, ?_, ?_⟩
      · rw [sc _ _ (by omega), h6] at j1; omega
      · rw [gl _ _ (by omega) (by omega) (by omega) (by omega)]; exact t3 j j0 j1
      · rw [sc _ _ (by omega), hf.1, e16]
      · rw [sc _ _ (by omega), hf.2, e17]
    · unfold StI at st ⊢
      rw [sc 1 12 (by omega), h12, p2, gl 1 13 (by omega) (by omega) (by omega) (by omega), gl 1 14 (by omega) (by omega) (by omega) (by omega), pf 119 3 (by unfold vlR bgF vpF rpF; omega), pf 119 4 (by unfold vlR bgF vpF rpF; omega), k _ _ (by omega), k _ _ (by omega)]
      exact ⟨rfl, st.2⟩
  · have k : ∀ a j, 119 ≤ a → N a j = M a j := fun a j ha => hfr a j (fun y => by unfold VlF bgW at y; rcases y with y | y | y | y | y | y <;> first | omega | (have := pv_b y; omega) | (have := ps_b y; omega))
    obtain ⟨n1, n2, n3, n4⟩ := vn N k
    refine r_valley (M := N) (u := M 120) n1 t3 n2 n3 (fun c' => absurd (by omega) c') (fun _ P f' er' => by rw [ok] at er'; exact nomatch er') (fun _ P τ' ok' _ e16 e17 p10 p2 pw pn pf => ?_)
    rw [ok] at ok'
    injection ok' with ok'
    subst ok'
    refine ⟨rfl, ?_⟩
    have pf' : ∀ a j, a < 119 ∨ 129 ≤ a ∨ j < 0 → P a j = N a j := fun a j ha => pf a j (by unfold vlR bgF vpF rpF; omega) (by omega) (by omega)
    have nf : ∀ a j, ¬ (a = 10 ∧ 2 ≤ j) → ¬ (a = 1 ∧ (j = 8 ∨ j = 12)) → ¬ (a = 13 ∧ j = 0) → (0 ≤ j → ¬ (99 - v ≤ a ∧ a ≤ 99 - v + 25) ∧ ¬ (a = d ∧ j < 3) ∧ ¬ (48 ≤ a ∧ a ≤ 54)) → N a j = M a j := fun a j x1 x2 x3 x4 => hfr a j (fun y => by unfold VlF bgW at y; rcases y with y | y | y | y | y | y <;> first | omega | (have := pv_b y; omega) | (have := ps_b y; omega))
    have gw := gw_new hW
    have hn := gw.1.1
    have hn' := hn
    unfold WFn at hn'
    have o5 : wO τ.1 5 = τ.1 5 := by unfold wO; rw [if_neg (by omega)]
    have o3 : wO τ.1 3 = τ.1 3 := by unfold wO; rw [if_neg (by omega)]
    have o4 : wO τ.1 4 = τ.1 4 := by unfold wO; rw [if_neg (by omega)]
    have e : EqL (wO τ.1) (P 120) := fun j hj => by
      by_cases c0 : 0 ≤ j
      · exact pw j c0 hj
      · rw [pf' _ _ (by omega), k _ _ (by omega)]
        unfold wO
        rw [if_neg (by omega)]; exact (rdT_n ok (by omega)).symm
    have e3 : P 120 3 = τ.1 3 := by rw [e 3 (by omega), o3]
    have e4 : P 120 4 = τ.1 4 := by rw [e 4 (by omega), o4]
    have e5 : P 120 5 = τ.1 5 := by rw [e 5 (by omega), o5]
    obtain ⟨hc, hdd, hg⟩ := h.1
    obtain ⟨_, ⟨q12, q13, _, q132⟩, _, _, hLW, _, _⟩ := hc
    obtain ⟨_, _, tt, ⟨p2', p8, p9, p13, p131, p132⟩, hL, hL2, hDy, hDy2, hSt⟩ := hcv
    obtain ⟨vL, v0, vR, vN⟩ := hV
    have nS : LSt N 48 := lst_p hSt (fun o j o0 o1 y => hfr _ _ (fun z => by unfold VlF bgW at z; rcases z with z | z | z | z | z | z <;> first | omega | (have := pv_b z; omega) | (rw [show 48 + o - 48 = o by omega] at z; exact y z)))
    have nD : LDy N d := ldy_p hDy (fun o j o0 o1 y => hfr _ _ (fun z => by unfold VlF bgW at z; rcases z with z | z | z | z | z | z <;> first | omega | (have := pv_b z; omega) | (have := ps_b z; omega) | (exact y (by unfold PD; omega))))
    have hcN : CI N (99 - v) (wO τ.1) := ⟨by omega, ⟨by rw [nf _ _ (by omega) (by omega) (by omega) (by omega)]; exact q12, by rw [nf _ _ (by omega) (by omega) (by omega) (by omega)]; exact q13, h13, by rw [nf _ _ (by omega) (by omega) (by omega) (by omega)]; exact q132⟩, vL, nS, lw_keep hLW (fun a j x1 x2 x3 => nf a j (by omega) (by omega) (by omega) (by omega)), rv_o (by omega) (by omega) vR, hS⟩
    have hc' : CI P (99 - v) (P 120) := ci_lt (ci_v hn hcN (fun a j q => pf' a j (by omega))) hn e
    have hdN : CD N d (wO τ.1) := ⟨hd, by rw [nf _ _ (by omega) (by omega) (by omega) (by omega)]; exact p131, nD, hD⟩
    have hd' : CD P d (P 120) := cd_lt (cd_k hdN gw.2.2.2.1 ⟨rfl, fun _ _ _ => rfl⟩ (fun a j q => pf' a j (by omega))) gw.2.2.2.1 e
    refine iv_i (M := P) (inv_n (v' := 99 - v) (d' := d) h (fun a j hx => ?_) ⟨hc', hd', gw_lt gw e⟩ ?_ ?_ ?_ ?_) (by omega)
    · unfold rdF at hx
      rw [pf a j (by unfold vlR bgF vpF rpF; omega) (by omega) (by omega)]
      exact nf a j (by omega) (by omega) (by omega) (by omega)
    · have w9 : 99 - (99 - v) = v := by omega
      unfold CV
      rw [w9]
      refine ⟨by omega, hd, ⟨?_, ?_, ?_, ?_, ?_⟩, ⟨?_, ?_, ?_, ?_, ?_, ?_⟩, hc'.2.2.1, lv_keep hL (fun a j x1 x2 => by rw [pf' a j (by omega)]; exact nf a j (by omega) (by omega) (by omega) (by omega)), hd'.2.2.1, ldy_k hDy2 (fun a j x1 x2 => by rw [pf' a j (by omega)]; exact nf a j (by omega) (by omega) (by omega) (by omega)), hc'.2.2.2.1⟩ <;> rw [pf' _ _ (by omega)]
      · rw [nf _ _ (by omega) (by omega) (by omega) (by omega)]; exact tt.1
      · rw [nf _ _ (by omega) (by omega) (by omega) (by omega)]; exact tt.2.1
      · rw [nf _ _ (by omega) (by omega) (by omega) (by omega)]; exact tt.2.2.1
      · rw [nf _ _ (by omega) (by omega) (by omega) (by omega)]; exact tt.2.2.2.1
      · rw [nf _ _ (by omega) (by omega) (by omega) (by omega)]; exact tt.2.2.2.2
      · rw [nf _ _ (by omega) (by omega) (by omega) (by omega)]; exact p2'
      · exact h8
      · rw [nf _ _ (by omega) (by omega) (by omega) (by omega)]; exact p9
      · exact h13
      · rw [nf _ _ (by omega) (by omega) (by omega) (by omega)]; exact p131
      · rw [nf _ _ (by omega) (by omega) (by omega) (by omega)]; exact p132
    · obtain ⟨w1, w2, w3⟩ := vN
      obtain ⟨y1, y2, y3⟩ := pn
      refine ⟨fun j j0 j1 => ?_, fun j j0 j1 => ?_, fun j j0 j1 => ?_⟩
      · rw [e3] at j1
        rw [pf' _ _ (by omega), w1 j j0 j1]; exact y1 j j0 j1
      · rw [e4] at j1
        rw [pf' _ _ (by omega), w2 j j0 j1]; exact y2 j j0 j1
      · rw [e5] at j1
        rw [pf' _ _ (by omega), w3 j j0 j1]; exact y3 j j0 j1
    · refine ⟨⟨by rw [pf' _ _ (by omega), h6, p10], by rw [pf' _ _ (by omega), h6]; omega, by rw [pf' _ _ (by omega), h6]; omega⟩, fun j j0 j1 => ?_, fun j j0 j1 => ?_, ?_, ?_⟩
      · rw [pf' _ _ (by omega), h6] at j1; omega
      · rw [pf' _ _ (by omega), nf _ _ (by omega) (by omega) (by omega) (by omega)]; exact t3 j j0 j1
      · rw [pf' _ _ (by omega), hf.1, e16]
      · rw [pf' _ _ (by omega), hf.2, e17]
    · unfold StI at st ⊢
      rw [pf' 1 12 (by omega), pf' 1 13 (by omega), pf' 1 14 (by omega), h12, p2, nf 1 13 (by omega) (by omega) (by omega) (by omega), nf 1 14 (by omega) (by omega) (by omega) (by omega), pf 119 3 (by unfold vlR bgF vpF rpF; omega) (by omega) (by omega), pf 119 4 (by unfold vlR bgF vpF rpF; omega) (by omega) (by omega), k _ _ (by omega), k _ _ (by omega)]
      exact ⟨rfl, st.2⟩
