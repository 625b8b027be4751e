/-! the invariant -/
def WIv (M : Mem) (v d : Int) : Prop := CI M v (M 120) ∧ CD M d (M 120) ∧ GW (M 120)
def TrI (M : Mem) : Prop := LTr M ∧ ITr M
def ObI (M : Mem) : Prop := M 1 4 = 74 ∧ M 1 5 = 76 ∧ M 1 7 = 84 ∧ M 84 (-1) = 4 ∧ LSt M 76 ∧ M 74 6 = 75 ∧ M 75 (-1) = 60
def TpI (M : Mem) : Prop := (M 10 6 = M 119 10 ∧ 0 ≤ M 10 6 ∧ M 10 6 ≤ 900) ∧ (∀ k, 0 ≤ k → k < M 10 6 → M 125 k = M 11 k ∧ -128 ≤ M 11 k ∧ M 11 k ≤ 127) ∧ KwC (M 12) ∧ M 10 11 = M 119 16 ∧ M 10 12 = M 119 17
def LfI (M : Mem) (B : Int) (r : Int → Int) : Prop := (M 1 10 = M 119 41 ∧ ∀ i, 0 ≤ i → i < 4 → M 84 i = M 136 i) ∧ ∀ k, 0 ≤ k → k < 60 → (0 ≤ r k ∧ r k ≤ 98) ∧ RLB B (M 75 k) (r k) ∧ M 134 k = r k
def NmI (M : Mem) (a o : Int) (w : Int → Int) : Prop := (∀ k, 0 ≤ k → k < w 3 → NmR (M (a + 23) k) (M 121 (o + k))) ∧ (∀ k, 0 ≤ k → k < w 4 → NmR (M (a + 24) k) (M 121 (o + 10 + k))) ∧ (∀ k, 0 ≤ k → k < w 5 → NmR (M (a + 25) k) (M 121 (o + 16 + k)))
def MkJ (M : Mem) (j : Int) : Prop := GW (mkW (M 120) (j + 1)) ∧ RV M (138 + 42 * j) (mkW (M 120) (j + 1)) ∧ RDy M (164 + 42 * j) (mkW (M 120) (j + 1)) ∧ RS M (172 + 42 * j) (mkW (M 120) (j + 1)) ∧ NmI M (138 + 42 * j) (26 * (j + 1)) (mkW (M 120) (j + 1))
def MkI (M : Mem) (m A : Int) : Prop := MkC M m A ∧ M 119 42 = m ∧ ∀ j, 0 ≤ j → j < m → MkJ M j
def StI (M : Mem) : Prop := M 1 12 = M 119 2 ∧ M 1 13 = M 119 3 ∧ M 1 14 = M 119 4
/-- what most calls leave alone -/
def RsI (M : Mem) (v d m A : Int) : Prop := (LR M ∧ M 119 34 = -1) ∧ TrI M ∧ CV M v d ∧ TpI M ∧ NmI M v 0 (M 120) ∧ MkI M m A
def INV (M : Mem) (v d B : Int) (r : Int → Int) (m A : Int) : Prop := WIv M v d ∧ RsI M v d m A ∧ ObI M ∧ StI M ∧ LfI M B r
def Iv (M : Mem) (B : Int) : Prop := ∃ v d r m A, INV M v d B r m A
/-- the cells that questions, changes and lives may change -/
def cgF (a j : Int) : Prop := SW a j ∨ (a = 1 ∧ (j = 10 ∨ 12 ≤ j ∧ j ≤ 14)) ∨ (74 ≤ a ∧ a ≤ 82) ∨ a = 84 ∨ SRl a j ∨ (a = 119 ∧ (2 ≤ j ∧ j ≤ 4 ∨ j = 41)) ∨ (a = 136 ∧ 0 ≤ j)
theorem cgF_n {a j : Int} (h : ¬ (SC a j ∨ (48 ≤ a ∧ a ≤ 54) ∨ (a = 1 ∧ (j = 10 ∨ 12 ≤ j ∧ j ≤ 14)) ∨ (74 ≤ a ∧ a ≤ 82) ∨ a = 84 ∨ SR a j ∨ a = 120 ∨ (a = 119 ∧ (2 ≤ j ∧ j ≤ 4 ∨ j = 36 ∨ j = 37 ∨ j = 41)) ∨ ((a = 134 ∨ a = 135 ∨ a = 136) ∧ 0 ≤ j))) : ¬ cgF a j := by
  intro q
  unfold cgF SW SRl at q
  rcases q with (q | q) | q | q | q | (q | q | q | q) | q | q
  · exact h (.inl q)
  · exact h (.inr (.inl q))
  · exact h (.inr (.inr (.inl q)))
  · exact h (.inr (.inr (.inr (.inl q))))
  · exact h (.inr (.inr (.inr (.inr (.inl q)))))
  · exact h (.inr (.inr (.inr (.inr (.inr (.inl q))))))
  · exact h (.inr (.inr (.inr (.inr (.inr (.inr (.inl q)))))))
  · exact h (.inr (.inr (.inr (.inr (.inr (.inr (.inr (.inl ⟨q.1, by omega⟩))))))))
  · exact h (.inr (.inr (.inr (.inr (.inr (.inr (.inr (.inr ⟨by omega, q.2⟩))))))))
  · exact h (.inr (.inr (.inr (.inr (.inr (.inr (.inr (.inl ⟨q.1, by omega⟩))))))))
  · exact h (.inr (.inr (.inr (.inr (.inr (.inr (.inr (.inr ⟨by omega, q.2⟩))))))))
theorem nc_low {a j : Int} (h1 : a < 48) (h2 : a = 1 → j < 10 ∨ j = 11) : ¬ cgF a j := cgF_n (by unfold SC SR; omega)
theorem nc_mid {a j : Int} (h : a = 83 ∨ (85 ≤ a ∧ a ≤ 118)) : ¬ cgF a j := cgF_n (by unfold SC SR; omega)
theorem nc_high {a j : Int} (h : 137 ≤ a) : ¬ cgF a j := cgF_n (by unfold SC SR; omega)
theorem nc_ref {a j : Int} (h : (121 ≤ a ∧ a ≤ 128) ∨ (119 ≤ a ∧ a ≤ 136 ∧ a ≠ 120 ∧ j < 0) ∨ (a = 119 ∧ (j < 2 ∨ 5 ≤ j ∧ j ≤ 25 ∨ 27 ≤ j ∧ j ≤ 29 ∨ j = 34 ∨ j = 35 ∨ 38 ≤ j ∧ j ≤ 40 ∨ j = 42))) : ¬ cgF a j := cgF_n (by unfold SC SR; omega)
theorem nmI_k {M N : Mem} {a o : Int} {w w' : Int → Int} (h : NmI M a o w) (e3 : w' 3 = w 3) (e4 : w' 4 = w 4) (e5 : w' 5 = w 5) (ka : ∀ c j, a + 23 ≤ c → c ≤ a + 25 → N c j = M c j) (kr : ∀ j, N 121 j = M 121 j) : NmI N a o w' := by
  obtain ⟨h1, h2, h3⟩ := h
  refine ⟨fun k k0 k1 => ?_, fun k k0 k1 => ?_, fun k k0 k1 => ?_⟩
  · rw [ka _ _ (by omega) (by omega), kr]; exact h1 k k0 (by rw [← e3]; exact k1)
  · rw [ka _ _ (by omega) (by omega), kr]; exact h2 k k0 (by rw [← e4]; exact k1)
  · rw [ka _ _ (by omega) (by omega), kr]; exact h3 k k0 (by rw [← e5]; exact k1)
theorem mk_i {w : Int → Int} {j i : Int} (h0 : 0 ≤ i) (h1 : i < 640) : mkW w j i = w (640 * j + i) := by unfold mkW; rw [if_pos ⟨h0, h1⟩]
theorem mk_o {w : Int → Int} {j i : Int} (h : i < 0 ∨ 640 ≤ i) : mkW w j i = w i := by unfold mkW; rw [if_neg (by omega)]
theorem mk_eq {w w' : Int → Int} {j : Int} (j0 : 1 ≤ j) (j1 : j ≤ 3) (hl : ∀ i, i < 0 → w' i = w i) (hh : ∀ i, 640 ≤ i → i < 2560 → w' i = w i) : EqL (mkW w j) (mkW w' j) := fun i hi => by
  by_cases c : 0 ≤ i
  · rw [mk_i c hi, mk_i c hi, hh _ (by omega) (by omega)]
  · rw [mk_o (by omega), mk_o (by omega), hl _ (by omega)]
/-- a mark is as it was -/
theorem mkJ_k {M N : Mem} {j : Int} (h : MkJ M j) (j0 : 0 ≤ j) (j1 : j < 3) (hl : ∀ i, i < 0 → N 120 i = M 120 i) (hh : ∀ i, 640 ≤ i → i < 2560 → N 120 i = M 120 i) (kr : ∀ i, 26 ≤ i → i < 104 → N 121 i = M 121 i) (ka : ∀ a i, 137 ≤ a → N a i = M a i) : MkJ N j := by
  obtain ⟨h1, h2, h3, h4, h5⟩ := h
  have e := mk_eq (w := M 120) (w' := N 120) (j := j + 1) (by omega) (by omega) hl hh
  have wn := h1.1.1
  have wn' : WFn (mkW (M 120) (j + 1)) := wn
  have c3 : mkW (M 120) (j + 1) 3 ≤ 10 := by unfold WFn at wn'; omega
  have c5 : mkW (M 120) (j + 1) 5 ≤ 10 := by unfold WFn at wn'; omega
  have c4 : mkW (M 120) (j + 1) 4 ≤ 6 := by unfold WFn at wn'; omega
  have c9 : mkW (M 120) (j + 1) 9 ≤ 60 := h1.2.2.2.1
  refine ⟨gw_lt h1 e, ?_, ?_, ?_, ?_⟩
  · have q := rv_keep (N := N) c3 c5 h2 (fun a k q1 q2 => ka a k (by omega))
    exact rv_w (el_v e).1 wn' q
  · exact rdy_k h3 c9 (el_v e).2.2 (fun a k q1 q2 => ka a k (by omega))
  · exact rs_lt (rs_keep h4 (fun a k q1 q2 => ka a k (by omega))) wn' e
  · obtain ⟨g1, g2, g3⟩ := h5
    refine ⟨fun k k0 k1 => ?_, fun k k0 k1 => ?_, fun k k0 k1 => ?_⟩
    · rw [e 3 (by omega)] at k1
      rw [ka _ _ (by omega), kr _ (by omega) (by omega)]; exact g1 k k0 k1
    · rw [e 4 (by omega)] at k1
      rw [ka _ _ (by omega), kr _ (by omega) (by omega)]; exact g2 k k0 k1
    · rw [e 5 (by omega)] at k1
      rw [ka _ _ (by omega), kr _ (by omega) (by omega)]; exact g3 k k0 k1
theorem mkc_k {M N : Mem} {m A : Int} (h : MkC M m A) (k1 : N 1 6 = M 1 6 ∧ N 1 11 = M 1 11 ∧ N 0 0 = M 0 0) (k83 : ∀ j, N 83 j = M 83 j) (kh : ∀ a j, 137 ≤ a → N a j = M a j) : MkC N m A := by
  obtain ⟨h1, ⟨a1, a2, a3, a4⟩, h3, h4, h5⟩ := h
  refine ⟨h1, ⟨by rw [k1.1]; exact a1, by rw [k83]; exact a2, by rw [k1.2.1]; exact a3, by rw [k1.2.2]; exact a4⟩, fun i i0 i1 => by rw [k83]; exact h3 i i0 i1, fun i i0 i1 => by rw [k83]; exact h4 i i0 i1, fun j j0 j1 => ?_⟩
  exact wl_k (h5 j j0 j1) (fun i _ _ => kh _ _ (by omega)) (fun o i _ _ _ => kh _ _ (by omega)) (fun o i _ _ _ => kh _ _ (by omega)) (fun o i _ _ _ => kh _ _ (by omega))
theorem ltr_k {M N : Mem} (h : LTr M) (k : ∀ a j, (a = 1 ∧ j = 0) ∨ (2 ≤ a ∧ a ≤ 9) → N a j = M a j) : LTr N := by
  obtain ⟨h1, h2, h3, h4, h5, h6, h7, h8, h9⟩ := h
  refine ⟨?_, ?_, ?_, ?_, ?_, ?_, ?_, fun t t0 t1 => ?_, fun t t0 t1 => ?_⟩
  · rw [k _ _ (by omega)]; exact h1
  · rw [k _ _ (by omega)]; exact h2
  · rw [k _ _ (by omega)]; exact h3
  · rw [k _ _ (by omega)]; exact h4
  · rw [k _ _ (by omega)]; exact h5
  · rw [k _ _ (by omega)]; exact h6
  · rw [k _ _ (by omega)]; exact h7
  · rw [k _ _ (by omega)]; exact h8 t t0 t1
  · rw [k _ _ (by omega)]; exact h9 t t0 t1
theorem itr_k {M N : Mem} (h : ITr M) (k : ∀ a j, (4 ≤ a ∧ a ≤ 9) ∨ (122 ≤ a ∧ a ≤ 124) → N a j = M a j) : ITr N := by
  obtain ⟨h1, h2⟩ := h
  refine ⟨fun t t0 t1 => ?_, fun t j t0 t1 j0 j1 => ?_⟩
  · rw [k 8 _ (by omega), k 122 _ (by omega), k 9 _ (by omega), k 123 _ (by omega)]; exact h1 t t0 t1
  · rw [k 123 _ (by omega)] at j1
    rw [k (4 + t) _ (by omega), k 124 _ (by omega)]; exact h2 t j t0 t1 j0 j1
theorem cv_k {M N : Mem} {v d : Int} (h : CV M v d) (hS : LSt N 48) (k1 : ∀ j, (j = 1 ∨ j = 2 ∨ j = 8 ∨ j = 9) → N 1 j = M 1 j) (k10 : ∀ j, j < 2 → N 10 j = M 10 j) (kl : N 11 (-1) = M 11 (-1) ∧ N 12 (-1) = M 12 (-1)) (k : ∀ a j, (13 ≤ a ∧ a ≤ 47) ∨ (85 ≤ a ∧ a ≤ 118) → N a j = M a j) : CV N v d := by
  obtain ⟨hv, hd, ⟨t1, t2, t3, t4, t5⟩, ⟨p2, p8, p9, p13, p131, p132⟩, hL, hL2, hD, hD2, _⟩ := h
  refine ⟨hv, hd, ⟨?_, ?_, ?_, ?_, ?_⟩, ⟨?_, ?_, ?_, ?_, ?_, ?_⟩, lv_keep hL (fun a j q1 q2 => k a j (by omega)), lv_keep hL2 (fun a j q1 q2 => k a j (by omega)), ldy_k hD (fun a j q1 q2 => k a j (by omega)), ldy_k hD2 (fun a j q1 q2 => k a j (by omega)), hS⟩
  · rw [k1 1 (by omega)]; exact t1
  · rw [k10 0 (by omega)]; exact t2
  · rw [k10 1 (by omega)]; exact t3
  · rw [kl.1]; exact t4
  · rw [kl.2]; exact t5
  · rw [k1 2 (by omega)]; exact p2
  · rw [k1 8 (by omega)]; exact p8
  · rw [k1 9 (by omega)]; exact p9
  · rw [k _ _ (by omega)]; exact p13
  · rw [k _ _ (by omega)]; exact p131
  · rw [k _ _ (by omega)]; exact p132
theorem tpi_k {M N : Mem} (h : TpI M) (k10 : ∀ j, (j = 6 ∨ j = 11 ∨ j = 12) → N 10 j = M 10 j) (k11 : ∀ j, N 11 j = M 11 j) (k12 : ∀ j, N 12 j = M 12 j) (kr : ∀ j, (j = 10 ∨ j = 16 ∨ j = 17) → N 119 j = M 119 j) (k125 : ∀ j, N 125 j = M 125 j) : TpI N := by
  obtain ⟨h1, h2, h3, h4, h5⟩ := h
  refine ⟨?_, fun j j0 j1 => ?_, fun j j0 j1 => ?_, ?_, ?_⟩
  · rw [k10 6 (by omega), kr 10 (by omega)]; exact h1
  · rw [k10 6 (by omega)] at j1
    rw [k125, k11]; exact h2 j j0 j1
  · rw [k12]; exact h3 j j0 j1
  · rw [k10 11 (by omega), kr 16 (by omega)]; exact h4
  · rw [k10 12 (by omega), kr 17 (by omega)]; exact h5
theorem rsI_k {M N : Mem} {v d m A : Int} (h : RsI M v d m A) (f : ∀ a j, ¬ cgF a j → N a j = M a j) (hl : ∀ j, j < 0 → N 120 j = M 120 j) (hh : ∀ j, 640 ≤ j → j < 2560 → N 120 j = M 120 j) (e3 : N 120 3 = M 120 3) (e4 : N 120 4 = M 120 4) (e5 : N 120 5 = M 120 5) (hS : LSt N 48) : RsI N v d m A := by
  obtain ⟨⟨hr, h34⟩, ⟨ht, hi⟩, hc, hp, hn, ⟨hm1, hm2, hm3⟩⟩ := h
  have hv := hc.1
  refine ⟨⟨lr_keep hr (fun a j h1 h2 => ?_), by rw [f _ _ (nc_ref (by omega))]; exact h34⟩, ⟨ltr_k ht (fun a j q => f a j (nc_low (by omega) (by omega))), itr_k hi (fun a j q => ?_)⟩, cv_k hc hS (fun j q => f _ _ (nc_low (by omega) (by omega))) (fun j q => f _ _ (nc_low (by omega) (by omega))) ⟨f _ _ (nc_low (by omega) (by omega)), f _ _ (nc_low (by omega) (by omega))⟩ (fun a j q => ?_), tpi_k hp (fun j q => f _ _ (nc_low (by omega) (by omega))) (fun j => f _ _ (nc_low (by omega) (by omega))) (fun j => f _ _ (nc_low (by omega) (by omega))) (fun j q => f _ _ (nc_ref (by omega))) (fun j => f _ _ (nc_ref (by omega))), nmI_k hn e3 e4 e5 (fun c j q1 q2 => ?_) (fun j => f _ _ (nc_ref (by omega))), ⟨mkc_k hm1 ⟨f _ _ (nc_low (by omega) (by omega)), f _ _ (nc_low (by omega) (by omega)), f _ _ (nc_low (by omega) (by omega))⟩ (fun j => f _ _ (nc_mid (by omega))) (fun a j q => f _ _ (nc_high q)), by rw [f _ _ (nc_ref (by omega))]; exact hm2, fun j j0 j1 => mkJ_k (hm3 j j0 j1) j0 (by have := hm1.1; omega) hl hh (fun i i0 i1 => f _ _ (nc_ref (by omega))) (fun a i q => f _ _ (nc_high q))⟩⟩
  · by_cases c : a = 120
    · rw [c]; exact hl j (by omega)
    · exact f a j (nc_ref (by omega))
  · by_cases c : a < 48
    · exact f a j (nc_low c (by omega))
    · exact f a j (nc_ref (by omega))
  · by_cases c : a < 48
    · exact f a j (nc_low c (by omega))
    · exact f a j (nc_mid (by omega))
  · by_cases c' : c < 48
    · exact f c j (nc_low c' (by omega))
    · exact f c j (nc_mid (by omega))
theorem lfI_m {M : Mem} {B B' : Int} {r : Int → Int} (h : LfI M B r) (hb : B ≤ B') : LfI M B' r := ⟨h.1, fun k k0 k1 => ⟨(h.2 k k0 k1).1, rlb_m (h.2 k k0 k1).2.1 hb, (h.2 k k0 k1).2.2⟩⟩
theorem lfI_k {M N : Mem} {B : Int} {r : Int → Int} (h : LfI M B r) (k1 : N 1 10 = M 1 10) (k41 : N 119 41 = M 119 41) (k : ∀ a j, (a = 75 ∨ a = 84 ∨ a = 134 ∨ a = 136) → N a j = M a j) : LfI N B r := by
  refine ⟨⟨by rw [k1, k41]; exact h.1.1, fun i i0 i1 => by rw [k 84 _ (by omega), k 136 _ (by omega)]; exact h.1.2 i i0 i1⟩, fun j j0 j1 => ?_⟩
  rw [k 75 _ (by omega), k 134 _ (by omega)]; exact h.2 j j0 j1
theorem obI_k {M N : Mem} (h : ObI M) (k1 : ∀ j, (j = 4 ∨ j = 5 ∨ j = 7) → N 1 j = M 1 j) (k : ∀ a j, (74 ≤ a ∧ a ≤ 82) ∨ a = 84 → N a j = M a j) : ObI N := by
  obtain ⟨h1, h2, h3, h4, h5, h6, h7⟩ := h
  refine ⟨by rw [k1 4 (by omega)]; exact h1, by rw [k1 5 (by omega)]; exact h2, by rw [k1 7 (by omega)]; exact h3, by rw [k _ _ (by omega)]; exact h4, ls_keep h5 (fun a j q1 q2 => k a j (by omega)), by rw [k _ _ (by omega)]; exact h6, by rw [k _ _ (by omega)]; exact h7⟩
