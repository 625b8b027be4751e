/-! the class reads a valley's parts -/
theorem numcell_e {M : Mem} {B K : Int → Int} {n s l m c k L : Int} {R : Int → Mem → Option (Int × Mem)} {Q : Int × Mem → Prop} (h : CT M B K n s) (c0 : 12 < c) (cl : M c (-1) = L) (k0 : 0 ≤ k) (k1 : k < L) (he : ∀ N f, nuT B n l m s = .error f → ErC N f → (∀ a j, ¬ tpF a j → ¬ (a = c ∧ j = k) → N a j = M a j) → Tot (R (-1) N) Q) (hk : ∀ N v t, nuT B n l m s = .ok (v, t) → l ≤ v → v ≤ m → s ≤ t → CT N B K n t → N c k = v → (∀ a j, ¬ tpF a j → ¬ (a = c ∧ j = k) → N a j = M a j) → Tot (R v N) Q) : Tot (call (f_X6_takeNumber 10 l m M) (fun v4 M5 => seti M5 c k v4 (fun M6 => geti M6 c k (fun v7 => R v7 M6)))) Q := by
  rw [t_call]
  refine takeNumber_e h (fun N f e1 e2 e3 => ?_) (fun N v t e1 e2 e3 e4 e5 e6 => ?_)
  · have l1 : N c (-1) = L := by rw [e3 _ _ (tpF_a (by omega))]; exact cl
    have z : ∀ a j, ¬ (a = c ∧ j = k) → upd2 N c k (-1) a j = N a j := fun a j hh => by rw [upd2_at, if_neg hh]
    dsimp only
    rw [t_seti, l1, t_geti, z c (-1) (by omega), l1, upd2_at, if_pos ⟨rfl, rfl⟩]
    refine ⟨by omega, k0, k1, by omega, k0, k1, he _ f e1 ⟨?_, ?_⟩ (fun a j q1 q2 => by rw [z a j q2, e3 a j q1])⟩
    · rw [z _ _ (by omega)]; exact e2.1
    · rw [z _ _ (by omega)]; exact e2.2
  · have l1 : N c (-1) = L := by rw [e6 _ _ (tpF_a (by omega))]; exact cl
    have z : ∀ a j, ¬ (a = c ∧ j = k) → upd2 N c k v a j = N a j := fun a j hh => by rw [upd2_at, if_neg hh]
    dsimp only
    rw [t_seti, l1, t_geti, z c (-1) (by omega), l1, upd2_at, if_pos ⟨rfl, rfl⟩]
    exact ⟨by omega, k0, k1, by omega, k0, k1, hk _ v t e1 e2 e3 e4 (ct_k e5 (fun a j hh => z a j (by omega))) (by rw [upd2_at, if_pos ⟨rfl, rfl⟩]) (fun a j q1 q2 => by rw [z a j q2, e6 a j q1])⟩
theorem knowncell_e {M : Mem} {B K g : Int → Int} {n s b m c k L : Int} {R : Int → Mem → Option (Int × Mem)} {Q : Int × Mem → Prop} (h : CT M B K n s) (b0 : 12 < b) (bc : b ≠ c) (m0 : 0 ≤ m) (ml : m ≤ M b (-1)) (m1 : m ≤ 1000) (hg : ∀ k, 0 ≤ k → k < m → M b k = g k) (c0 : 12 < c) (cl : M c (-1) = L) (k0 : 0 ≤ k) (k1 : k < L) (he : ∀ N f, knT B K n g m s = .error f → ErC N f → (∀ a j, ¬ tpF a j → ¬ (a = c ∧ j = k) → N a j = M a j) → Tot (R (-1) N) Q) (hk : ∀ N v t, knT B K n g m s = .ok (v, t) → 0 ≤ v → v < m → s ≤ t → CT N B K n t → N c k = v → (∀ a j, ¬ tpF a j → ¬ (a = c ∧ j = k) → N a j = M a j) → Tot (R v N) Q) : Tot (call (f_X6_takeKnown 10 b m M) (fun v4 M5 => seti M5 c k v4 (fun M6 => geti M6 c k (fun v7 => R v7 M6)))) Q := by
  rw [t_call]
  refine takeKnown_e h (by omega) m0 ml m1 hg (fun N f e1 e2 e3 => ?_) (fun N v t e1 e2 e3 e4 e5 e6 => ?_)
  · have l1 : N c (-1) = L := by rw [e3 _ _ (tpF_a (by omega))]; exact cl
    have z : ∀ a j, ¬ (a = c ∧ j = k) → upd2 N c k (-1) a j = N a j := fun a j hh => by rw [upd2_at, if_neg hh]
    dsimp only
    rw [t_seti, l1, t_geti, z c (-1) (by omega), l1, upd2_at, if_pos ⟨rfl, rfl⟩]
    refine ⟨by omega, k0, k1, by omega, k0, k1, he _ f e1 ⟨?_, ?_⟩ (fun a j q1 q2 => by rw [z a j q2, e3 a j q1])⟩
    · rw [z _ _ (by omega)]; exact e2.1
    · rw [z _ _ (by omega)]; exact e2.2
  · have l1 : N c (-1) = L := by rw [e6 _ _ (tpF_a (by omega))]; exact cl
    have z : ∀ a j, ¬ (a = c ∧ j = k) → upd2 N c k v a j = N a j := fun a j hh => by rw [upd2_at, if_neg hh]
    dsimp only
    rw [t_seti, l1, t_geti, z c (-1) (by omega), l1, upd2_at, if_pos ⟨rfl, rfl⟩]
    exact ⟨by omega, k0, k1, by omega, k0, k1, hk _ v t e1 e2 e3 e4 (ct_k e5 (fun a j hh => z a j (by omega))) (by rw [upd2_at, if_pos ⟨rfl, rfl⟩]) (fun a j q1 q2 => by rw [z a j q2, e6 a j q1])⟩
theorem t_jb {N : Mem} {v : Int} {Q : Int × Mem → Prop} (h0 : v = -1 → Q (0, N)) (h1 : v ≠ -1 → Q (1, N)) : Tot (jn (fun (q : Int) => retzm q N) (fun j => if v = (-1) then (j 0) else (j 1))) Q := by
  rw [t_jn, t_ite, t_retzm, t_retzm]
  exact ⟨fun c => ⟨by omega, h0 c⟩, fun c => ⟨by omega, h1 c⟩⟩
/-- nothing but the tape and the cells of c has changed -/
def FrK (M N : Mem) (c k : Int) : Prop := ∀ a j, ¬ tpF a j → ¬ (a = c ∧ 0 ≤ j ∧ j < k) → N a j = M a j
theorem readAbove_e {M : Mem} {B K g : Int → Int} {n s v b m c : Int} {Q : Int × Mem → Prop} (h : CT M B K n s) (v0 : 12 < v) (p10 : M v 10 = b) (p3 : M v 3 = m) (b0 : 12 < b) (bc : b ≠ c) (m0 : 0 ≤ m) (ml : m ≤ M b (-1)) (m1 : m ≤ 1000) (hg : ∀ k, 0 ≤ k → k < m → M b k = g k) (c0 : 12 < c) (cl : M c (-1) = 6) (ci : M c 0 = -1) (he : ∀ N f, opT B K n 4 (knT B K n g m) s = .error f → ErC N f → FrK M N c 6 → Q (0, N)) (hk : ∀ N o t, opT B K n 4 (knT B K n g m) s = .ok (o, t) → s ≤ t → CT N B K n t → N c 0 = o → (∀ a j, ¬ tpF a j → ¬ (a = c ∧ j = 0) → N a j = M a j) → Q (1, N)) : Tot (f_X9_readAbove 10 v c M) Q := by
  unfold f_X9_readAbove
  rw [t_nn, t_callp, isAt_e h (by omega), t_some, t_ite]
  refine ⟨by omega, fun c1 => ?_, fun c1 => ?_⟩
  rotate_left
  · have d : ¬ tkY B K n s = 4 := fun d => by rw [if_pos d] at c1; omega
    rw [t_retzm]
    exact ⟨by omega, hk M (-1) s (by unfold opT; rw [if_neg d]) (by omega) h ci (fun _ _ _ _ => rfl)⟩
  have d : tkY B K n s = 4 := by
    by_cases d : tkY B K n s = 4
    · exact d
    · rw [if_neg d] at c1; exact absurd rfl c1
  have oT : opT B K n 4 (knT B K n g m) s = knT B K n g m (nx B n s) := by unfold opT; rw [if_pos d]
  rw [oT] at he hk
  have nb := nx_b (B := B) h.2.2.2.2.2
  rw [t_callv]
  refine stepC_e h (fun Y hY fY => ?_)
  have fy : ∀ a j, 12 < a → Y a j = M a j := fun a j q => fY a j (tpF_a (by omega))
  rw [t_getf, fy _ _ v0, p10, t_getf, fy _ _ v0, p3]
  refine ⟨by omega, by omega, ?_⟩
  refine knowncell_e (g := g) (L := 6) hY b0 bc m0 (by rw [fy _ _ b0]; exact ml) m1 (fun k a b => by rw [fy _ _ b0]; exact hg k a b) c0 (by rw [fy _ _ c0]; exact cl) (by omega) (by omega) (fun N f e1 e2 e3 => ?_) (fun N o t e1 e2 e3 e4 e5 e6 e7 => ?_)
  · exact t_jb (fun _ => he N f e1 e2 (fun a j q1 q2 => by rw [e3 a j q1 (by omega), fY a j q1])) (fun q => absurd rfl q)
  · exact t_jb (fun q => by omega) (fun _ => hk N o t e1 (by omega) e5 e6 (fun a j q1 q2 => by rw [e7 a j q1 q2, fY a j q1]))
theorem readLoss_e {M : Mem} {B K : Int → Int} {n s c : Int} {Q : Int × Mem → Prop} (h : CT M B K n s) (c0 : 12 < c) (cl : M c (-1) = 6) (he : ∀ N f, laT B K n s = .error f → ErC N f → FrK M N c 6 → Q (0, N)) (hk : ∀ N l i t, laT B K n s = .ok ((l, i), t) → s ≤ t → CT N B K n t → N c 1 = l → N c 2 = i → (∀ a j, ¬ tpF a j → ¬ (a = c ∧ (j = 1 ∨ j = 2)) → N a j = M a j) → Q (1, N)) : Tot (f_X9_readLoss 10 c M) Q := by
  unfold f_X9_readLoss
  rw [t_nn, t_call]
  refine ⟨by omega, ?_⟩
  refine skip_e h (by omega) (fun N f e1 e2 e3 => ?_) (fun N1 t1 e1 e2 e3 e4 => ?_)
  · dsimp only
    rw [t_ite, t_retzm]
    exact ⟨fun q => absurd rfl q, fun _ => ⟨by omega, he N f (by unfold laT; rw [e1, bnd_e]) e2 (fun a j q1 _ => e3 a j q1)⟩⟩
  dsimp only
  rw [t_ite]
  refine ⟨fun _ => ?_, fun q => absurd (by omega) q⟩
  refine numcell_e (L := 6) e3 c0 (by rw [e4 _ _ (tpF_a (by omega))]; exact cl) (by omega) (by omega) (fun N f g1 g2 g3 => ?_) (fun N2 l t2 g1 g2 g3 g4 g5 g6 g7 => ?_)
  · rw [t_jn, t_ite, t_retzm]
    exact ⟨fun _ => ⟨by omega, he N f (by unfold laT; rw [e1, bnd_o, g1, bnd_e]) g2 (fun a j q1 q2 => by rw [g3 a j q1 (by omega), e4 a j q1])⟩, fun q => absurd rfl q⟩
  rw [t_jn, t_ite, t_call]
  refine ⟨fun q => by omega, fun _ => ?_⟩
  refine skip_e g5 (by omega) (fun N f k1 k2 k3 => ?_) (fun N3 t3 k1 k2 k3 k4 => ?_)
  · dsimp only
    rw [t_ite, t_retzm]
    exact ⟨fun q => absurd rfl q, fun _ => ⟨by omega, he N f (by unfold laT; rw [e1, bnd_o, g1, bnd_o, k1, bnd_e]) k2 (fun a j q1 q2 => by rw [k3 a j q1, g7 a j q1 (by omega), e4 a j q1])⟩⟩
  dsimp only
  rw [t_ite]
  refine ⟨fun _ => ?_, fun q => absurd (by omega) q⟩
  have c3 : N3 c (-1) = 6 := by rw [k4 _ _ (tpF_a (by omega)), g7 _ _ (tpF_a (by omega)) (by omega), e4 _ _ (tpF_a (by omega))]; exact cl
  have c31 : N3 c 1 = l := by rw [k4 _ _ (tpF_a (by omega))]; exact g6
  rw [t_geti, c3, c31, w32_s (by omega) (by omega)]
  refine ⟨by omega, by omega, by omega, ?_⟩
  refine numcell_e (L := 6) k3 c0 c3 (by omega) (by omega) (fun N f m1 m2 m3 => ?_) (fun N4 i t4 m1 m2 m3 m4 m5 m6 m7 => ?_)
  · exact t_jb (fun _ => he N f (by unfold laT; rw [e1, bnd_o, g1, bnd_o, k1, bnd_o, m1, bnd_e]) m2 (fun a j q1 q2 => by rw [m3 a j q1 (by omega), k4 a j q1, g7 a j q1 (by omega), e4 a j q1])) (fun q => absurd rfl q)
  · refine t_jb (fun q => by omega) (fun _ => hk N4 l i t4 (by unfold laT; rw [e1, bnd_o, g1, bnd_o, k1, bnd_o, m1, bnd_o]) (by omega) m5 ?_ m6 (fun a j q1 q2 => by rw [m7 a j q1 (by omega), k4 a j q1, g7 a j q1 (by omega), e4 a j q1]))
    rw [m7 _ _ (tpF_a (by omega)) (by omega)]; exact c31
theorem readCarries_e {M : Mem} {B K : Int → Int} {n s c : Int} {Q : Int × Mem → Prop} (h : CT M B K n s) (c0 : 12 < c) (cl : M c (-1) = 6) (ci : M c 3 = -1) (he : ∀ N f, opT B K n 7 (nuT B n 1 999) s = .error f → ErC N f → FrK M N c 6 → Q (0, N)) (hk : ∀ N o t, opT B K n 7 (nuT B n 1 999) s = .ok (o, t) → s ≤ t → CT N B K n t → N c 3 = o → (∀ a j, ¬ tpF a j → ¬ (a = c ∧ j = 3) → N a j = M a j) → Q (1, N)) : Tot (f_X9_readCarries 10 c M) Q := by
  unfold f_X9_readCarries
  rw [t_nn, t_callp, isAt_e h (by omega), t_some, t_ite]
  refine ⟨by omega, fun c1 => ?_, fun c1 => ?_⟩
  rotate_left
  · have d : ¬ tkY B K n s = 7 := fun d => by rw [if_pos d] at c1; omega
    rw [t_retzm]
    exact ⟨by omega, hk M (-1) s (by unfold opT; rw [if_neg d]) (by omega) h ci (fun _ _ _ _ => rfl)⟩
  have d : tkY B K n s = 7 := by
    by_cases d : tkY B K n s = 7
    · exact d
    · rw [if_neg d] at c1; exact absurd rfl c1
  have oT : opT B K n 7 (nuT B n 1 999) s = nuT B n 1 999 (nx B n s) := by unfold opT; rw [if_pos d]
  rw [oT] at he hk
  have nb := nx_b (B := B) h.2.2.2.2.2
  rw [t_callv]
  refine stepC_e h (fun Y hY fY => ?_)
  refine numcell_e (L := 6) hY c0 (by rw [fY _ _ (tpF_a (by omega))]; exact cl) (by omega) (by omega) (fun N f e1 e2 e3 => ?_) (fun N o t e1 e2 e3 e4 e5 e6 e7 => ?_)
  · exact t_jb (fun _ => he N f e1 e2 (fun a j q1 q2 => by rw [e3 a j q1 (by omega), fY a j q1])) (fun q => absurd rfl q)
  · exact t_jb (fun q => by omega) (fun _ => hk N o t e1 (by omega) e5 e6 (fun a j q1 q2 => by rw [e7 a j q1 q2, fY a j q1]))
theorem readShut_e {M : Mem} {B K : Int → Int} {n s c : Int} {Q : Int × Mem → Prop} (h : CT M B K n s) (c0 : 12 < c) (cl : M c (-1) = 6) (ci : M c 4 = -1 ∧ M c 5 = -1) (he : ∀ N f, shT B K n s = .error f → ErC N f → FrK M N c 6 → Q (0, N)) (hk : ∀ N l i t, shT B K n s = .ok ((l, i), t) → s ≤ t → CT N B K n t → N c 4 = l → N c 5 = i → (∀ a j, ¬ tpF a j → ¬ (a = c ∧ (j = 4 ∨ j = 5)) → N a j = M a j) → Q (1, N)) : Tot (f_X9_readShut 10 c M) Q := by
  unfold f_X9_readShut
  rw [t_nn, t_callp, isAt_e h (by omega), t_some, t_ite]
  refine ⟨by omega, fun c1 => ?_, fun c1 => ?_⟩
  rotate_left
  · have d : ¬ tkY B K n s = 8 := fun d => by rw [if_pos d] at c1; omega
    rw [t_retzm]
    exact ⟨by omega, hk M (-1) (-1) s (by unfold shT; rw [if_neg d]) (by omega) h ci.1 ci.2 (fun _ _ _ _ => rfl)⟩
  have d : tkY B K n s = 8 := by
    by_cases d : tkY B K n s = 8
    · exact d
    · rw [if_neg d] at c1; exact absurd rfl c1
  have nb := nx_b (B := B) h.2.2.2.2.2
  rw [t_callv]
  refine stepC_e h (fun Y hY fY => ?_)
  refine numcell_e (L := 6) hY c0 (by rw [fY _ _ (tpF_a (by omega))]; exact cl) (by omega) (by omega) (fun N f g1 g2 g3 => ?_) (fun N2 l t2 g1 g2 g3 g4 g5 g6 g7 => ?_)
  · rw [t_jn, t_ite, t_retzm]
    exact ⟨fun _ => ⟨by omega, he N f (by unfold shT; rw [if_pos d, g1, bnd_e]) g2 (fun a j q1 q2 => by rw [g3 a j q1 (by omega), fY a j q1])⟩, fun q => absurd rfl q⟩
  rw [t_jn, t_ite, t_call]
  refine ⟨fun q => by omega, fun _ => ?_⟩
  refine skip_e g5 (by omega) (fun N f k1 k2 k3 => ?_) (fun N3 t3 k1 k2 k3 k4 => ?_)
  · dsimp only
    rw [t_ite, t_retzm]
    exact ⟨fun q => absurd rfl q, fun _ => ⟨by omega, he N f (by unfold shT; rw [if_pos d, g1, bnd_o, k1, bnd_e]) k2 (fun a j q1 q2 => by rw [k3 a j q1, g7 a j q1 (by omega), fY a j q1])⟩⟩
  dsimp only
  rw [t_ite]
  refine ⟨fun _ => ?_, fun q => absurd (by omega) q⟩
  have c3 : N3 c (-1) = 6 := by rw [k4 _ _ (tpF_a (by omega)), g7 _ _ (tpF_a (by omega)) (by omega), fY _ _ (tpF_a (by omega))]; exact cl
  have c31 : N3 c 4 = l := by rw [k4 _ _ (tpF_a (by omega))]; exact g6
  rw [t_geti, c3, c31, w32_s (by omega) (by omega)]
  refine ⟨by omega, by omega, by omega, ?_⟩
  refine numcell_e (L := 6) k3 c0 c3 (by omega) (by omega) (fun N f m1 m2 m3 => ?_) (fun N4 i t4 m1 m2 m3 m4 m5 m6 m7 => ?_)
  · exact t_jb (fun _ => he N f (by unfold shT; rw [if_pos d, g1, bnd_o, k1, bnd_o, m1, bnd_e]) m2 (fun a j q1 q2 => by rw [m3 a j q1 (by omega), k4 a j q1, g7 a j q1 (by omega), fY a j q1])) (fun q => absurd rfl q)
  · refine t_jb (fun q => by omega) (fun _ => hk N4 l i t4 (by unfold shT; rw [if_pos d, g1, bnd_o, k1, bnd_o, m1, bnd_o]) (by omega) m5 ?_ m6 (fun a j q1 q2 => by rw [m7 a j q1 (by omega), k4 a j q1, g7 a j q1 (by omega), fY a j q1]))
    rw [m7 _ _ (tpF_a (by omega)) (by omega)]; exact c31
theorem readClaims_e {M : Mem} {B K : Int → Int} {n s c : Int} {Q : Int × Mem → Prop} (h : CT M B K n s) (c0 : 12 < c) (cl : M c (-1) = 4) (he : ∀ N f, clT B K n s = .error f → ErC N f → FrK M N c 4 → Q (0, N)) (hk : ∀ N l i t, clT B K n s = .ok ((l, i), t) → s ≤ t → CT N B K n t → N c 1 = l → N c 2 = i → (∀ a j, ¬ tpF a j → ¬ (a = c ∧ (j = 1 ∨ j = 2)) → N a j = M a j) → Q (1, N)) : Tot (f_X9_readClaims 10 c M) Q := by
  unfold f_X9_readClaims
  rw [t_nn, t_call]
  refine ⟨by omega, ?_⟩
  refine skip_e h (by omega) (fun N f e1 e2 e3 => ?_) (fun N1 t1 e1 e2 e3 e4 => ?_)
  · dsimp only
    rw [t_ite, t_retzm]
    exact ⟨fun q => absurd rfl q, fun _ => ⟨by omega, he N f (by unfold clT; rw [e1, bnd_e]) e2 (fun a j q1 _ => e3 a j q1)⟩⟩
  dsimp only
  rw [t_ite]
  refine ⟨fun _ => ?_, fun q => absurd (by omega) q⟩
  refine numcell_e (L := 4) e3 c0 (by rw [e4 _ _ (tpF_a (by omega))]; exact cl) (by omega) (by omega) (fun N f g1 g2 g3 => ?_) (fun N2 l t2 g1 g2 g3 g4 g5 g6 g7 => ?_)
  · rw [t_jn, t_ite, t_retzm]
    exact ⟨fun _ => ⟨by omega, he N f (by unfold clT; rw [e1, bnd_o, g1, bnd_e]) g2 (fun a j q1 q2 => by rw [g3 a j q1 (by omega), e4 a j q1])⟩, fun q => absurd rfl q⟩
  rw [t_jn, t_ite, t_call]
  refine ⟨fun q => by omega, fun _ => ?_⟩
  refine skip_e g5 (by omega) (fun N f k1 k2 k3 => ?_) (fun N3 t3 k1 k2 k3 k4 => ?_)
  · dsimp only
    rw [t_ite, t_retzm]
    exact ⟨fun q => absurd rfl q, fun _ => ⟨by omega, he N f (by unfold clT; rw [e1, bnd_o, g1, bnd_o, k1, bnd_e]) k2 (fun a j q1 q2 => by rw [k3 a j q1, g7 a j q1 (by omega), e4 a j q1])⟩⟩
  dsimp only
  rw [t_ite]
  refine ⟨fun _ => ?_, fun q => absurd (by omega) q⟩
  have c3 : N3 c (-1) = 4 := by rw [k4 _ _ (tpF_a (by omega)), g7 _ _ (tpF_a (by omega)) (by omega), e4 _ _ (tpF_a (by omega))]; exact cl
  have c31 : N3 c 1 = l := by rw [k4 _ _ (tpF_a (by omega))]; exact g6
  refine numcell_e (L := 4) k3 c0 c3 (by omega) (by omega) (fun N f m1 m2 m3 => ?_) (fun N4 i t4 m1 m2 m3 m4 m5 m6 m7 => ?_)
  · exact t_jb (fun _ => he N f (by unfold clT; rw [e1, bnd_o, g1, bnd_o, k1, bnd_o, m1, bnd_e]) m2 (fun a j q1 q2 => by rw [m3 a j q1 (by omega), k4 a j q1, g7 a j q1 (by omega), e4 a j q1])) (fun q => absurd rfl q)
  · refine t_jb (fun q => by omega) (fun _ => hk N4 l i t4 (by unfold clT; rw [e1, bnd_o, g1, bnd_o, k1, bnd_o, m1, bnd_o]) (by omega) m5 ?_ m6 (fun a j q1 q2 => by rw [m7 a j q1 (by omega), k4 a j q1, g7 a j q1 (by omega), e4 a j q1]))
    rw [m7 _ _ (tpF_a (by omega)) (by omega)]; exact c31
theorem readOn_e {M : Mem} {B K g : Int → Int} {n s v b m c : Int} {Q : Int × Mem → Prop} (h : CT M B K n s) (v0 : 12 < v) (p10 : M v 10 = b) (p3 : M v 3 = m) (b0 : 12 < b) (bc : b ≠ c) (m0 : 0 ≤ m) (ml : m ≤ M b (-1)) (m1 : m ≤ 1000) (hg : ∀ k, 0 ≤ k → k < m → M b k = g k) (c0 : 12 < c) (cl : M c (-1) = 4) (he : ∀ N f, (bnd (skT B K n 12 s) fun s => knT B K n g m s) = .error f → ErC N f → FrK M N c 4 → Q (0, N)) (hk : ∀ N o t u, skT B K n 12 s = .ok u → knT B K n g m u = .ok (o, t) → s ≤ t → CT N B K n t → N c 0 = o → (∀ a j, ¬ tpF a j → ¬ (a = c ∧ j = 0) → N a j = M a j) → Q (1, N)) : Tot (f_X9_readOn 10 v c M) Q := by
  unfold f_X9_readOn
  rw [t_nn, t_call]
  refine ⟨by omega, ?_⟩
  refine skip_e h (by omega) (fun N f e1 e2 e3 => ?_) (fun Y t1 e1 e2 hY fY => ?_)
  · dsimp only
    rw [t_ite, t_retzm]
    exact ⟨fun q => absurd rfl q, fun _ => ⟨by omega, he N f (by rw [e1, bnd_e]) e2 (fun a j q1 _ => e3 a j q1)⟩⟩
  dsimp only
  rw [t_ite]
  refine ⟨fun _ => ?_, fun q => absurd (by omega) q⟩
  have fy : ∀ a j, 12 < a → Y a j = M a j := fun a j q => fY a j (tpF_a (by omega))
  rw [t_getf, fy _ _ v0, p10, t_getf, fy _ _ v0, p3]
  refine ⟨by omega, by omega, ?_⟩
  refine knowncell_e (g := g) (L := 4) hY b0 bc m0 (by rw [fy _ _ b0]; exact ml) m1 (fun k a b => by rw [fy _ _ b0]; exact hg k a b) c0 (by rw [fy _ _ c0]; exact cl) (by omega) (by omega) (fun N f g1 g2 g3 => ?_) (fun N o t g1 g2 g3 g4 g5 g6 g7 => ?_)
  · exact t_jb (fun _ => he N f (by rw [e1, bnd_o, g1]) g2 (fun a j q1 q2 => by rw [g3 a j q1 (by omega), fY a j q1])) (fun q => absurd rfl q)
  · exact t_jb (fun q => by omega) (fun _ => hk N o t t1 e1 g1 (by omega) g5 g6 (fun a j q1 q2 => by rw [g7 a j q1 q2, fY a j q1]))
theorem readBy_e {M : Mem} {B K g : Int → Int} {n s v b m c : Int} {Q : Int × Mem → Prop} (h : CT M B K n s) (v0 : 12 < v) (p10 : M v 11 = b) (p3 : M v 4 = m) (b0 : 12 < b) (bc : b ≠ c) (m0 : 0 ≤ m) (ml : m ≤ M b (-1)) (m1 : m ≤ 1000) (hg : ∀ k, 0 ≤ k → k < m → M b k = g k) (c0 : 12 < c) (cl : M c (-1) = 4) (ci : M c 3 = -1) (he : ∀ N f, opT B K n 15 (knT B K n g m) s = .error f → ErC N f → FrK M N c 4 → Q (0, N)) (hk : ∀ N o t, opT B K n 15 (knT B K n g m) s = .ok (o, t) → s ≤ t → CT N B K n t → N c 3 = o → (∀ a j, ¬ tpF a j → ¬ (a = c ∧ j = 3) → N a j = M a j) → Q (1, N)) : Tot (f_X9_readBy 10 v c M) Q := by
  unfold f_X9_readBy
  rw [t_nn, t_callp, isAt_e h (by omega), t_some, t_ite]
  refine ⟨by omega, fun c1 => ?_, fun c1 => ?_⟩
  rotate_left
  · have d : ¬ tkY B K n s = 15 := fun d => by rw [if_pos d] at c1; omega
    rw [t_retzm]
    exact ⟨by omega, hk M (-1) s (by unfold opT; rw [if_neg d]) (by omega) h ci (fun _ _ _ _ => rfl)⟩
  have d : tkY B K n s = 15 := by
    by_cases d : tkY B K n s = 15
    · exact d
    · rw [if_neg d] at c1; exact absurd rfl c1
  have oT : opT B K n 15 (knT B K n g m) s = knT B K n g m (nx B n s) := by unfold opT; rw [if_pos d]
  rw [oT] at he hk
  have nb := nx_b (B := B) h.2.2.2.2.2
  rw [t_callv]
  refine stepC_e h (fun Y hY fY => ?_)
  have fy : ∀ a j, 12 < a → Y a j = M a j := fun a j q => fY a j (tpF_a (by omega))
  rw [t_getf, fy _ _ v0, p10, t_getf, fy _ _ v0, p3]
  refine ⟨by omega, by omega, ?_⟩
  refine knowncell_e (g := g) (L := 4) hY b0 bc m0 (by rw [fy _ _ b0]; exact ml) m1 (fun k a b => by rw [fy _ _ b0]; exact hg k a b) c0 (by rw [fy _ _ c0]; exact cl) (by omega) (by omega) (fun N f e1 e2 e3 => ?_) (fun N o t e1 e2 e3 e4 e5 e6 e7 => ?_)
  · exact t_jb (fun _ => he N f e1 e2 (fun a j q1 q2 => by rw [e3 a j q1 (by omega), fY a j q1])) (fun q => absurd rfl q)
  · exact t_jb (fun q => by omega) (fun _ => hk N o t e1 (by omega) e5 e6 (fun a j q1 q2 => by rw [e7 a j q1 q2, fY a j q1]))
