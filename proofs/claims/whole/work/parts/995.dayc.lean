/-! the class reads the arguments of a step -/
def NV (M : Mem) (v : Int) (m : Nms) : Prop := (M v 10 = v + 23 ∧ M v 12 = v + 25 ∧ M v 3 = m.2.1 ∧ M v 5 = m.2.2.2) ∧ (M (v + 23) (-1) = 10 ∧ M (v + 25) (-1) = 10) ∧ (∀ k, 0 ≤ k → k < m.2.1 → M (v + 23) k = m.1 k) ∧ (∀ k, 0 ≤ k → k < m.2.2.2 → M (v + 25) k = m.2.2.1 k) ∧ (0 ≤ m.2.1 ∧ m.2.1 ≤ 10) ∧ 0 ≤ m.2.2.2 ∧ m.2.2.2 ≤ 10
theorem nv_k {M N : Mem} {v : Int} {m : Nms} (h : NV M v m) (k : ∀ a j, v ≤ a → a ≤ v + 25 → N a j = M a j) : NV N v m := by
  obtain ⟨⟨a1, a2, a3, a4⟩, ⟨b1, b2⟩, c, d, e⟩ := h
  refine ⟨⟨?_, ?_, ?_, ?_⟩, ⟨?_, ?_⟩, fun j j0 j1 => ?_, fun j j0 j1 => ?_, e⟩
  · rw [k _ _ (by omega) (by omega)]; exact a1
  · rw [k _ _ (by omega) (by omega)]; exact a2
  · rw [k _ _ (by omega) (by omega)]; exact a3
  · rw [k _ _ (by omega) (by omega)]; exact a4
  · rw [k _ _ (by omega) (by omega)]; exact b1
  · rw [k _ _ (by omega) (by omega)]; exact b2
  · rw [k _ _ (by omega) (by omega)]; exact c j j0 j1
  · rw [k _ _ (by omega) (by omega)]; exact d j j0 j1
/-- valley and days lie apart -/
def VDa (v d : Int) : Prop := (v = 14 ∨ v = 85) ∧ (d = 40 ∨ d = 111)
theorem dnum_e {M : Mem} {B K : Int → Int} {n s l m c k d f : Int} {R : Int → Mem → Option (Int × Mem)} {Q : Int × Mem → Prop} (h : CT M B K n s) (d0 : 12 < d) (c0 : 12 < c) (dc : d ≠ c) (hd : M d f = c) (cl : M c (-1) = 60) (k0 : 0 ≤ k) (k1 : k < 60) (he : ∀ N g, nuT B n l m s = .error g → ErC N g → (∀ a j, ¬ tpF a j → ¬ (a = c ∧ j = k) → N a j = M a j) → Tot (R (-1) N) Q) (hk : ∀ N v t, nuT B n l m s = .ok (v, t) → l ≤ v → v ≤ m → s ≤ t → CT N B K n t → N c k = v → (∀ a j, ¬ tpF a j → ¬ (a = c ∧ j = k) → N a j = M a j) → Tot (R v N) Q) : Tot (call (f_X6_takeNumber 10 l m M) (fun v3 M4 => seti M4 c k v3 (fun M5 => getf M5 d f (fun v6 => geti M5 v6 k (fun v7 => R v7 M5))))) Q := by
  rw [t_call]
  refine takeNumber_e h (fun N g e1 e2 e3 => ?_) (fun N v t e1 e2 e3 e4 e5 e6 => ?_)
  · have l1 : N c (-1) = 60 := by rw [e3 _ _ (tpF_a (by omega))]; exact cl
    have nd : N d f = c := by rw [e3 _ _ (tpF_a (by omega))]; exact hd
    have z : ∀ a j, ¬ (a = c ∧ j = k) → upd2 N c k (-1) a j = N a j := fun a j hh => by rw [upd2_at, if_neg hh]
    dsimp only
    rw [t_seti, l1, t_getf, z d f (by omega), nd, t_geti, z c (-1) (by omega), l1, upd2_at, if_pos ⟨rfl, rfl⟩]
    refine ⟨by omega, k0, k1, by omega, by omega, k0, k1, he _ g e1 ⟨?_, ?_⟩ (fun a j q1 q2 => by rw [z a j q2, e3 a j q1])⟩
    · rw [z _ _ (by omega)]; exact e2.1
    · rw [z _ _ (by omega)]; exact e2.2
  · have l1 : N c (-1) = 60 := by rw [e6 _ _ (tpF_a (by omega))]; exact cl
    have nd : N d f = c := by rw [e6 _ _ (tpF_a (by omega))]; exact hd
    have z : ∀ a j, ¬ (a = c ∧ j = k) → upd2 N c k v a j = N a j := fun a j hh => by rw [upd2_at, if_neg hh]
    dsimp only
    rw [t_seti, l1, t_getf, z d f (by omega), nd, t_geti, z c (-1) (by omega), l1, upd2_at, if_pos ⟨rfl, rfl⟩]
    exact ⟨by omega, k0, k1, by omega, by omega, k0, k1, hk _ v t e1 e2 e3 e4 (ct_k e5 (fun a j hh => z a j (by omega))) (by rw [upd2_at, if_pos ⟨rfl, rfl⟩]) (fun a j q1 q2 => by rw [z a j q2, e6 a j q1])⟩
theorem dknown_e {M : Mem} {B K g : Int → Int} {n s b m c k d f : Int} {R : Int → Mem → Option (Int × Mem)} {Q : Int × Mem → Prop} (h : CT M B K n s) (b0 : 12 < b) (m0 : 0 ≤ m) (ml : m ≤ M b (-1)) (m1 : m ≤ 1000) (hg : ∀ k, 0 ≤ k → k < m → M b k = g k) (d0 : 12 < d) (c0 : 12 < c) (dc : d ≠ c) (hd : M d f = c) (cl : M c (-1) = 60) (k0 : 0 ≤ k) (k1 : k < 60) (he : ∀ N g', knT B K n g m s = .error g' → ErC N g' → (∀ a j, ¬ tpF a j → ¬ (a = c ∧ j = k) → N a j = M a j) → Tot (R (-1) N) Q) (hk : ∀ N v t, knT B K n g m s = .ok (v, t) → 0 ≤ v → v < m → s ≤ t → CT N B K n t → N c k = v → (∀ a j, ¬ tpF a j → ¬ (a = c ∧ j = k) → N a j = M a j) → Tot (R v N) Q) : Tot (call (f_X6_takeKnown 10 b m M) (fun v3 M4 => seti M4 c k v3 (fun M5 => getf M5 d f (fun v6 => geti M5 v6 k (fun v7 => R v7 M5))))) Q := by
  rw [t_call]
  refine takeKnown_e h (by omega) m0 ml m1 hg (fun N g e1 e2 e3 => ?_) (fun N v t e1 e2 e3 e4 e5 e6 => ?_)
  · have l1 : N c (-1) = 60 := by rw [e3 _ _ (tpF_a (by omega))]; exact cl
    have nd : N d f = c := by rw [e3 _ _ (tpF_a (by omega))]; exact hd
    have z : ∀ a j, ¬ (a = c ∧ j = k) → upd2 N c k (-1) a j = N a j := fun a j hh => by rw [upd2_at, if_neg hh]
    dsimp only
    rw [t_seti, l1, t_getf, z d f (by omega), nd, t_geti, z c (-1) (by omega), l1, upd2_at, if_pos ⟨rfl, rfl⟩]
    refine ⟨by omega, k0, k1, by omega, by omega, k0, k1, he _ g e1 ⟨?_, ?_⟩ (fun a j q1 q2 => by rw [z a j q2, e3 a j q1])⟩
    · rw [z _ _ (by omega)]; exact e2.1
    · rw [z _ _ (by omega)]; exact e2.2
  · have l1 : N c (-1) = 60 := by rw [e6 _ _ (tpF_a (by omega))]; exact cl
    have nd : N d f = c := by rw [e6 _ _ (tpF_a (by omega))]; exact hd
    have z : ∀ a j, ¬ (a = c ∧ j = k) → upd2 N c k v a j = N a j := fun a j hh => by rw [upd2_at, if_neg hh]
    dsimp only
    rw [t_seti, l1, t_getf, z d f (by omega), nd, t_geti, z c (-1) (by omega), l1, upd2_at, if_pos ⟨rfl, rfl⟩]
    exact ⟨by omega, k0, k1, by omega, by omega, k0, k1, hk _ v t e1 e2 e3 e4 (ct_k e5 (fun a j hh => z a j (by omega))) (by rw [upd2_at, if_pos ⟨rfl, rfl⟩]) (fun a j q1 q2 => by rw [z a j q2, e6 a j q1])⟩
theorem readNumber_e {M : Mem} {B K : Int → Int} {n s l m k d : Int} {Q : Int × Mem → Prop} (h : CT M B K n s) (hD : LDy M d) (d0 : 12 < d) (k0 : 0 ≤ k) (k1 : k < 60) (l0 : 0 ≤ l) (he : ∀ N g, nuT B n l m s = .error g → ErC N g → (∀ a j, ¬ tpF a j → ¬ (a = d + 6 ∧ j = k) → N a j = M a j) → Q (0, N)) (hk : ∀ N v t, nuT B n l m s = .ok (v, t) → s ≤ t → CT N B K n t → N (d + 6) k = v → (∀ a j, ¬ tpF a j → ¬ (a = d + 6 ∧ j = k) → N a j = M a j) → Q (1, N)) : Tot (f_X1_readNumber 10 d k l m M) Q := by
  obtain ⟨⟨p3, p4, p5, p6, p7, p8, p9⟩, pl⟩ := hD
  unfold f_X1_readNumber
  rw [t_getf, p8, t_nn]
  refine ⟨by omega, by omega, ?_⟩
  refine dnum_e (f := 8) h d0 (by omega) (by omega) p8 (pl 6 (by omega) (by omega)) k0 k1 (fun N g e1 e2 e3 => ?_) (fun N v t e1 e2 e3 e4 e5 e6 e7 => ?_)
  · exact t_jb (fun _ => he N g e1 e2 e3) (fun q => absurd rfl q)
  · exact t_jb (fun q => by omega) (fun _ => hk N v t e1 e4 e5 e6 e7)
theorem readReachName_e {M : Mem} {B K : Int → Int} {n s k v d : Int} {m : Nms} {Q : Int × Mem → Prop} (h : CT M B K n s) (hD : LDy M d) (hV : NV M v m) (hvd : VDa v d) (k0 : 0 ≤ k) (k1 : k < 60) (he : ∀ N g, knT B K n m.1 m.2.1 s = .error g → ErC N g → (∀ a j, ¬ tpF a j → ¬ (a = d + 3 ∧ j = k) → N a j = M a j) → Q (0, N)) (hk : ∀ N x t, knT B K n m.1 m.2.1 s = .ok (x, t) → s ≤ t → CT N B K n t → N (d + 3) k = x → (∀ a j, ¬ tpF a j → ¬ (a = d + 3 ∧ j = k) → N a j = M a j) → Q (1, N)) : Tot (f_X1_readReachName 10 v d k M) Q := by
  obtain ⟨⟨p3, p4, p5, p6, p7, p8, p9⟩, pl⟩ := hD
  obtain ⟨⟨a1, a2, a3, a4⟩, ⟨b1, b2⟩, c1, c2, c3, c4⟩ := hV
  unfold VDa at hvd
  unfold f_X1_readReachName
  rw [t_getf, p5, t_getf, a1, t_getf, a3, t_nn]
  refine ⟨by omega, by omega, by omega, by omega, ?_⟩
  refine dknown_e (g := m.1) (f := 5) h (by omega) c3.1 (by omega) (by omega) c1 (by omega) (by omega) (by omega) p5 (pl 3 (by omega) (by omega)) k0 k1 (fun N g e1 e2 e3 => ?_) (fun N x t e1 e2 e3 e4 e5 e6 e7 => ?_)
  · exact t_jb (fun _ => he N g e1 e2 e3) (fun q => absurd rfl q)
  · exact t_jb (fun q => by omega) (fun _ => hk N x t e1 e4 e5 e6 e7)
theorem readTwoFields_e {M : Mem} {B K : Int → Int} {n s k v d : Int} {m : Nms} {Q : Int × Mem → Prop} (h : CT M B K n s) (hD : LDy M d) (hV : NV M v m) (hvd : VDa v d) (k0 : 0 ≤ k) (k1 : k < 60) (he : ∀ N g, (bnd (knT B K n m.2.2.1 m.2.2.2 s) fun p => knT B K n m.2.2.1 m.2.2.2 p.2) = .error g → ErC N g → (∀ a j, ¬ tpF a j → ¬ ((a = d + 3 ∨ a = d + 4) ∧ j = k) → N a j = M a j) → Q (0, N)) (hk : ∀ N x y t u, knT B K n m.2.2.1 m.2.2.2 s = .ok (x, t) → knT B K n m.2.2.1 m.2.2.2 t = .ok (y, u) → s ≤ u → CT N B K n u → N (d + 3) k = x → N (d + 4) k = y → (∀ a j, ¬ tpF a j → ¬ ((a = d + 3 ∨ a = d + 4) ∧ j = k) → N a j = M a j) → Q (1, N)) : Tot (f_X1_readTwoFields 10 v d k M) Q := by
  obtain ⟨⟨p3, p4, p5, p6, p7, p8, p9⟩, pl⟩ := hD
  have hV' := hV
  obtain ⟨⟨a1, a2, a3, a4⟩, ⟨b1, b2⟩, c1, c2, c3, c4⟩ := hV'
  unfold VDa at hvd
  unfold f_X1_readTwoFields
  rw [t_getf, p5, t_getf, a2, t_getf, a4, t_nn]
  refine ⟨by omega, by omega, by omega, by omega, ?_⟩
  refine dknown_e (g := m.2.2.1) (f := 5) h (by omega) c4.1 (by omega) (by omega) c2 (by omega) (by omega) (by omega) p5 (pl 3 (by omega) (by omega)) k0 k1 (fun N g e1 e2 e3 => ?_) (fun N x t e1 e2 e3 e4 e5 e6 e7 => ?_)
  · rw [t_ite, t_retzm]
    exact ⟨fun q => absurd rfl q, fun _ => ⟨by omega, he N g (by rw [e1, bnd_e]) e2 (fun a j q1 q2 => e3 a j q1 (by omega))⟩⟩
  have nM : ∀ a j, 12 < a → ¬ (a = d + 3 ∧ j = k) → N a j = M a j := fun a j q1 q2 => e7 a j (tpF_a (by omega)) q2
  have nV := nv_k hV (fun a j q1 q2 => nM a j (by omega) (by omega))
  obtain ⟨⟨x1, x2, x3, x4⟩, ⟨y1, y2⟩, z1, z2, z3, z4⟩ := nV
  rw [t_ite]
  refine ⟨fun _ => ?_, fun q => absurd (by omega) q⟩
  rw [t_getf, nM d 6 (by omega) (by omega), p6, t_getf, x2, t_getf, x4]
  refine ⟨by omega, by omega, by omega, ?_⟩
  refine dknown_e (g := m.2.2.1) (f := 6) e5 (by omega) z4.1 (by omega) (by omega) z2 (by omega) (by omega) (by omega) (by rw [nM d 6 (by omega) (by omega)]; exact p6) (by rw [nM _ _ (by omega) (by omega)]; exact pl 4 (by omega) (by omega)) k0 k1 (fun P g g1 g2 g3 => ?_) (fun P y u g1 g2 g3 g4 g5 g6 g7 => ?_)
  · exact t_jb (fun _ => he P g (by rw [e1, bnd_o]; exact g1) g2 (fun a j q1 q2 => by rw [g3 a j q1 (by omega), e7 a j q1 (by omega)])) (fun q => absurd rfl q)
  · refine t_jb (fun q => by omega) (fun _ => hk P x y t u e1 g1 (by omega) g5 ?_ g6 (fun a j q1 q2 => by rw [g7 a j q1 (by omega), e7 a j q1 (by omega)]))
    rw [g7 _ _ (tpF_a (by omega)) (by omega)]; exact e6
theorem readSign_e {M : Mem} {B K : Int → Int} {n s k d : Int} {Q : Int × Mem → Prop} (h : CT M B K n s) (hD : LDy M d) (d0 : 12 < d) (k0 : 0 ≤ k) (k1 : k < 60) (he : ∀ N g, sgT B n s = .error g → ErC N g → FrC M N → Q (0, N)) (hk : ∀ N x t, sgT B n s = .ok (x, t) → s ≤ t → CT N B K n t → N (d + 5) k = x → (∀ a j, ¬ tpF a j → ¬ (a = d + 5 ∧ j = k) → N a j = M a j) → Q (1, N)) : Tot (f_X1_readSign 10 d k M) Q := by
  obtain ⟨⟨p3, p4, p5, p6, p7, p8, p9⟩, pl⟩ := hD
  have h' := h
  obtain ⟨hT, ⟨hB, hK⟩, ⟨t1, t2, t3, t4, t5, t6, t7⟩, hf, s0, s1⟩ := h'
  unfold f_X1_readSign
  rw [t_getf, t3]
  refine ⟨by omega, ?_⟩
  refine t_jq (fun J : Option (Int × Mem) => ¬ (tkK B n s = 3 ∧ B s ≠ 59) → Tot J Q) (fun c => ?_) (fun J hJ => ?_)
  · rw [t_nn, t_call]
    refine ⟨by omega, blameC_e h 2 (fun N eN fN => ?_)⟩
    rw [t_retzm]
    exact ⟨by omega, he N _ (by unfold sgT; rw [if_neg c]) eN fN⟩
  rw [t_ite]
  refine ⟨fun c => hJ (fun q => c q.1), fun c => ?_⟩
  have k3 : tkK B n s = 3 := Classical.not_not.mp c
  have l5 := pl 5 (by omega) (by omega)
  rw [t_getf, t5 k3, t_ite]
  refine ⟨by omega, fun e => ?_, fun e => hJ (fun q => q.2 (Classical.not_not.mp e))⟩
  rw [t_getf, p7, t_getf, t5 k3, t_seti, l5, t_nn, t_callv]
  refine ⟨by omega, by omega, by omega, k0, k1, by omega, ?_⟩
  have z : ∀ a j, ¬ (a = d + 5 ∧ j = k) → upd2 M (d + 5) k (B s) a j = M a j := fun a j hh => by rw [upd2_at, if_neg hh]
  refine stepC_e (ct_k h (fun a j hh => z a j (by omega))) (fun N hN fN => ?_)
  rw [t_retzm]
  refine ⟨by omega, hk N _ _ (by unfold sgT; rw [if_pos ⟨k3, e⟩]) (nx_b s1).1 hN ?_ (fun a j q1 q2 => by rw [fN a j q1, z a j q2])⟩
  rw [fN _ _ (tpF_a (by omega)), upd2_at, if_pos ⟨rfl, rfl⟩]
/-- a line of the class, all but its partner -/
def lnB (M : Mem) (d k : Int) (q : Rw5) : Prop :=
  M (d + 1) k = kwOf q.1 ∧
  (q.1 = 10 ∨ q.1 = 16 ∨ q.1 = 17 ∨ q.1 = 18 ∨ q.1 = 19 ∨ 2300 ≤ q.1 → M (d + 3) k = q.2.1) ∧
  (q.1 = 17 ∨ q.1 = 18 ∨ q.1 = 19 → M (d + 4) k = q.2.2.1) ∧
  (q.1 = 18 → M (d + 6) k = q.2.2.2.1) ∧
  (q.1 = 20 ∨ q.1 = 21 ∨ q.1 = 24 → M (d + 6) k = q.2.1) ∧
  (q.1 = 2310 → M (d + 2) k = 8) ∧ (q.1 = 2328 → M (d + 2) k = 25) ∧ (q.1 = 2329 → M (d + 2) k = 26) ∧
  (q.1 = 2328 ∨ q.1 = 2329 → M (d + 5) k = q.2.2.2.2 ∧ M (d + 6) k = q.2.2.1)
def FrL (M N : Mem) (d k : Int) : Prop := ∀ a j, ¬ tpF a j → ¬ (d + 2 ≤ a ∧ a ≤ d + 6 ∧ j = k) → N a j = M a j
theorem dyk {M N : Mem} {v d k : Int} {m : Nms} (hD : LDy M d) (hV : NV M v m) (hvd : VDa v d) (fN : ∀ a j, 12 < a → ¬ (d + 2 ≤ a ∧ a ≤ d + 6 ∧ j = k) → N a j = M a j) (k0 : 0 ≤ k) : LDy N d ∧ NV N v m := by
  obtain ⟨⟨p3, p4, p5, p6, p7, p8, p9⟩, pl⟩ := hD
  unfold VDa at hvd
  refine ⟨⟨⟨?_, ?_, ?_, ?_, ?_, ?_, ?_⟩, fun i i0 i1 => ?_⟩, nv_k hV (fun a j q1 q2 => fN a j (by omega) (by omega))⟩
  · rw [fN _ _ (by omega) (by omega)]; exact p3
  · rw [fN _ _ (by omega) (by omega)]; exact p4
  · rw [fN _ _ (by omega) (by omega)]; exact p5
  · rw [fN _ _ (by omega) (by omega)]; exact p6
  · rw [fN _ _ (by omega) (by omega)]; exact p7
  · rw [fN _ _ (by omega) (by omega)]; exact p8
  · rw [fN _ _ (by omega) (by omega)]; exact p9
  · rw [fN _ _ (by omega) (by omega)]; exact pl i i0 i1
theorem testF_e {M Y : Mem} {B K : Int → Int} {n s0 s k v d y cd lim : Int} {m : Nms} {Q : Int × Mem → Prop} (hY : CT Y B K n s) (ss : s0 ≤ s) (dY : LDy Y d) (vY : NV Y v m) (hvd : VDa v d) (k0 : 0 ≤ k) (k1 : k < 60) (y1 : Y (d + 1) k = 23) (y2 : Y (d + 2) k = y) (hy : (y = 25 ∧ cd = 2328 ∧ lim = 999) ∨ (y = 26 ∧ cd = 2329 ∧ lim = 9999)) (yM : FrL M Y d k) (he : ∀ N g, (bnd (knT B K n m.2.2.1 m.2.2.2 s) fun p => bnd (sgT B n p.2) fun q => bnd (nuT B n 0 lim q.2) fun r => (Except.ok ((cd, p.1, r.1, 0, q.1), r.2) : Except Fl (Rw5 × Int))) = .error g → ErC N g → FrL M N d k → Q (0, N)) (hk : ∀ N q t, (bnd (knT B K n m.2.2.1 m.2.2.2 s) fun p => bnd (sgT B n p.2) fun q => bnd (nuT B n 0 lim q.2) fun r => (Except.ok ((cd, p.1, r.1, 0, q.1), r.2) : Except Fl (Rw5 × Int))) = .ok (q, t) → s0 ≤ t → CT N B K n t → lnB N d k q → FrL M N d k → Q (1, N)) : Tot (getf Y d 5 (fun v6 => getf Y v 12 (fun v7 => getf Y v 5 (fun v8 => call (f_X6_takeKnown 10 v7 v8 Y) (fun v9 M10 => seti M10 v6 k v9 (fun M11 => getf M11 d 5 (fun v12 => geti M11 v12 k (fun v13 => jn (fun (q14 : Int) (M15 : Mem) => retzm q14 M15) (fun j128 => jn (fun (M16 : Mem) => j128 0 M16) (fun j127 => if v13 = (-1) then (j127 M11)
      else (call (f_X1_readSign 10 d k M11) (fun v17 M18 => if v17 = 0 then (j127 M18)
      else (jn (fun (q19 : Int) => call (f_X1_readNumber 10 d k 0 q19 M18) (fun v20 M21 => if v20 = 0 then (j127 M21)
      else (j128 1 M21))) (fun j117 => if y ≠ 25 then (j117 9999)
      else (j117 999))))))))))))))) Q := by
  have vY' := vY
  obtain ⟨⟨x1, x2, x3, x4⟩, ⟨w1, w2⟩, v1, v2, v3, v4⟩ := vY'
  have dY' := dY
  obtain ⟨⟨d3, d4, d5, d6, d7, d8, d9⟩, dl⟩ := dY'
  have d13 : 12 < d ∧ 12 < v := by unfold VDa at hvd; omega
  rw [t_getf, d5, t_getf, x2, t_getf, x4]
  refine ⟨by omega, by omega, by omega, ?_⟩
  refine dknown_e (g := m.2.2.1) (f := 5) hY (by omega) v4.1 (by omega) (by omega) v2 (by omega) (by omega) (by omega) d5 (dl 3 (by omega) (by omega)) k0 k1 (fun N g e1 e2 e3 => ?_) (fun N x t e1 e2 e3 e4 e5 e6 e7 => ?_)
  · rw [t_jn, t_jn, t_ite, t_retzm]
    exact ⟨fun _ => ⟨by omega, he N g (by rw [e1, bnd_e]) e2 (fun a j q1 q2 => by rw [e3 a j q1 (by omega), yM a j q1 q2])⟩, fun q => absurd rfl q⟩
  obtain ⟨dN, vN⟩ := dyk (k := k) dY vY hvd (fun a j q1 q2 => e7 a j (tpF_a (by omega)) (by omega)) k0
  rw [t_jn, t_jn, t_ite, t_call]
  refine ⟨fun q => by omega, fun _ => ?_⟩
  refine readSign_e e5 dN (by omega) k0 k1 (fun P g g1 g2 g3 => ?_) (fun P x' t' g1 g2 g3 g4 g5 => ?_)
  · dsimp only
    rw [t_ite, t_retzm]
    exact ⟨fun _ => ⟨by omega, he P g (by rw [e1, bnd_o, g1, bnd_e]) g2 (fun a j q1 q2 => by rw [g3 a j q1, e7 a j q1 (by omega), yM a j q1 q2])⟩, fun q => absurd rfl q⟩
  obtain ⟨dP, vP⟩ := dyk (k := k) dN vN hvd (fun a j q1 q2 => g5 a j (tpF_a (by omega)) (by omega)) k0
  dsimp only
  rw [t_ite]
  refine ⟨fun q => by omega, fun _ => ?_⟩
  refine t_jq (fun J : Int → Option (Int × Mem) => Tot (J lim) Q) ?_ (fun J hJ => ?_)
  rotate_left
  · rw [t_ite]
    refine ⟨fun e => ?_, fun e => ?_⟩
    · rw [show (9999 : Int) = lim by omega]; exact hJ
    · rw [show (999 : Int) = lim by omega]; exact hJ
  rw [t_call]
  refine readNumber_e g3 dP (by omega) k0 k1 (by omega) (fun W g r1 r2 r3 => ?_) (fun W a' t'' r1 r2 r3 r4 r5 => ?_)
  · dsimp only
    rw [t_ite, t_retzm]
    exact ⟨fun _ => ⟨by omega, he W g (by rw [e1, bnd_o, g1, bnd_o, r1, bnd_e]) r2 (fun a j q1 q2 => by rw [r3 a j q1 (by omega), g5 a j q1 (by omega), e7 a j q1 (by omega), yM a j q1 q2])⟩, fun q => absurd rfl q⟩
  · dsimp only
    rw [t_ite, t_retzm, t_retzm]
    have kk : kwOf cd = 23 := by rcases hy with h | h <;> (obtain ⟨_, rfl, _⟩ := h; rfl)
    have wY : ∀ i, i = 1 ∨ i = 2 → W (d + i) k = Y (d + i) k := fun i hi => by rw [r5 _ _ (tpF_a (by omega)) (by omega), g5 _ _ (tpF_a (by omega)) (by omega), e7 _ _ (tpF_a (by omega)) (by omega)]
    refine ⟨fun q => by omega, fun _ => ⟨by omega, hk W _ _ (by rw [e1, bnd_o, g1, bnd_o, r1, bnd_o]) (by omega) r3 ⟨?_, fun _ => ?_, fun q => ?_, fun q => ?_, fun q => ?_, fun q => ?_, fun q => ?_, fun q => ?_, fun q => ⟨?_, r4⟩⟩ (fun a j q1 q2 => by rw [r5 a j q1 (by omega), g5 a j q1 (by omega), e7 a j q1 (by omega), yM a j q1 q2])⟩⟩ <;> dsimp only at *
    · rw [wY 1 (by omega), y1, kk]
    · rw [r5 _ _ (tpF_a (by omega)) (by omega), g5 _ _ (tpF_a (by omega)) (by omega)]; exact e6
    · omega
    · omega
    · omega
    · omega
    · rw [wY 2 (by omega), y2]; omega
    · rw [wY 2 (by omega), y2]; omega
    · rw [r5 _ _ (tpF_a (by omega)) (by omega)]; exact g4
theorem readTest_e {M : Mem} {B K : Int → Int} {n s k v d : Int} {m : Nms} {Q : Int × Mem → Prop} (h : CT M B K n s) (hD : LDy M d) (hV : NV M v m) (hvd : VDa v d) (k0 : 0 ≤ k) (k1 : k < 60) (hw : M (d + 1) k = 23) (he : ∀ N g, tsT B K n m s = .error g → ErC N g → FrL M N d k → Q (0, N)) (hk : ∀ N q t, tsT B K n m s = .ok (q, t) → s ≤ t → CT N B K n t → lnB N d k q → FrL M N d k → Q (1, N)) : Tot (f_X1_readTest 10 v d k M) Q := by
  have hD' := hD
  obtain ⟨⟨p3, p4, p5, p6, p7, p8, p9⟩, pl⟩ := hD'
  have h' := h
  obtain ⟨hT, ⟨hB, hK⟩, ⟨t1, t2, t3, t4, t5, t6, t7⟩, hf, s0, s1⟩ := h'
  have hvd' := hvd
  unfold VDa at hvd'
  have nb := nx_b (B := B) s1
  have l2 := pl 2 (by omega) (by omega)
  unfold f_X1_readTest
  rw [t_getf, t7]
  refine ⟨by omega, ?_⟩
  have z : ∀ y a j, ¬ (a = d + 2 ∧ j = k) → upd2 M (d + 2) k y a j = M a j := fun y a j hh => by rw [upd2_at, if_neg hh]
  refine t_jq (fun J : Option (Int × Mem) => (tkY B K n s = 8 ∨ tkY B K n s = 25 ∨ tkY B K n s = 26) → Tot J Q) (fun c => ?_) (fun J hJ => ?_)
  rotate_left
  · rw [t_ite]
    refine ⟨fun c => hJ (.inl c), fun c => ?_⟩
    rw [t_ite]
    refine ⟨fun c1 => hJ (.inr (.inl c1)), fun c1 => ?_⟩
    rw [t_ite]
    refine ⟨fun c2 => hJ (.inr (.inr c2)), fun c2 => ?_⟩
    rw [t_nn, t_call]
    refine ⟨by omega, blameC_e h 2 (fun N eN fN => ?_)⟩
    rw [t_retzm]
    exact ⟨by omega, he N _ (by unfold tsT; rw [if_neg c, if_neg c1, if_neg c2]) eN (fun a j q1 _ => fN a j q1)⟩
  rw [t_getf, p4, t_seti, l2, t_nn, t_callv]
  refine ⟨by omega, by omega, k0, k1, by omega, ?_⟩
  have z2 : upd2 M (d + 2) k (tkY B K n s) (d + 2) k = tkY B K n s := by rw [upd2_at, if_pos ⟨rfl, rfl⟩]
  have zz := z (tkY B K n s)
  generalize upd2 M (d + 2) k (tkY B K n s) = Z at z2 zz ⊢
  refine stepC_e (ct_k h (fun a j hh => zz a j (by omega))) (fun Y hY fY => ?_)
  have yM : ∀ a j, ¬ tpF a j → ¬ (a = d + 2 ∧ j = k) → Y a j = M a j := fun a j q1 q2 => by rw [fY a j q1, zz a j q2]
  have y2 : Y (d + 2) k = tkY B K n s := by rw [fY _ _ (tpF_a (by omega))]; exact z2
  have y1 : Y (d + 1) k = 23 := by rw [yM _ _ (tpF_a (by omega)) (by omega)]; exact hw
  obtain ⟨dY, vY⟩ := dyk (k := k) hD hV hvd (fun a j q1 q2 => yM a j (tpF_a (by omega)) (by omega)) k0
  rw [t_ite]
  refine ⟨fun c8 => ?_, fun c8 => ?_⟩
  rotate_left
  · have e8 : tkY B K n s = 8 := Classical.not_not.mp c8
    rw [t_call]
    refine readReachName_e hY dY vY hvd k0 k1 (fun N g e1 e2 e3 => ?_) (fun N x t e1 e2 e3 e4 e5 => ?_)
    · rw [t_retzm]
      exact ⟨by omega, he N g (by unfold tsT; rw [if_pos e8, e1, bnd_e]) e2 (fun a j q1 q2 => by rw [e3 a j q1 (by omega), yM a j q1 (by omega)])⟩
    · rw [t_retzm]
      refine ⟨by omega, hk N _ _ (by unfold tsT; rw [if_pos e8, e1, bnd_o]) (by omega) e3 ⟨?_, fun _ => e4, fun q => ?_, fun q => ?_, fun q => ?_, fun _ => ?_, fun q => ?_, fun q => ?_, fun q => ?_⟩ (fun a j q1 q2 => by rw [e5 a j q1 (by omega), yM a j q1 (by omega)])⟩ <;> dsimp only at *
      · rw [e5 _ _ (tpF_a (by omega)) (by omega)]; exact y1
      · omega
      · omega
      · omega
      · rw [e5 _ _ (tpF_a (by omega)) (by omega), y2]; exact e8
      · omega
      · omega
      · omega
  have tsE : tsT B K n m s = bnd (knT B K n m.2.2.1 m.2.2.2 (nx B n s)) fun p => bnd (sgT B n p.2) fun q => bnd (nuT B n 0 (if tkY B K n s = 25 then 999 else 9999) q.2) fun r => .ok ((if tkY B K n s = 25 then 2328 else 2329, p.1, r.1, 0, q.1), r.2) := by
    unfold tsT
    rw [if_neg c8]
    by_cases e : tkY B K n s = 25
    · rw [if_pos e, if_pos e, if_pos e]
    · rw [if_neg e, if_pos (by omega), if_neg e, if_neg e]
  refine testF_e (M := M) (s0 := s) (cd := if tkY B K n s = 25 then 2328 else 2329) (lim := if tkY B K n s = 25 then 999 else 9999) hY (by omega) dY vY hvd k0 k1 y1 y2 ?_ (fun a j q1 q2 => yM a j q1 (by omega)) (fun N g e1 => he N g (by rw [← e1]; exact tsE)) (fun N q t e1 => hk N q t (by rw [← e1]; exact tsE))
  by_cases e : tkY B K n s = 25
  · rw [if_pos e, if_pos e]; exact .inl ⟨e, rfl, rfl⟩
  · rw [if_neg e, if_neg e]; exact .inr ⟨by omega, rfl, rfl⟩
