/-! the class reads a part of a valley -/
def VC (M : Mem) (v : Int) (σ : VS) : Prop := LV M v ∧ (M v 0 = (if σ.2.2.1 = true then σ.1 0 else -1) ∧ M v 1 = (if σ.2.2.2 = true then σ.1 1 else -1) ∧ M v 2 = σ.1 2 ∧ M v 3 = σ.1 3 ∧ M v 4 = σ.1 4 ∧ M v 5 = σ.1 5) ∧ (∀ r k, 0 ≤ r → r < σ.1 3 → 0 ≤ k → k < 6 → M (v + 2 + r) k = rc σ.1 r k) ∧ (∀ f k, 0 ≤ f → f < σ.1 5 → 0 ≤ k → k < 4 → M (v + 13 + f) k = fc σ.1 f k) ∧ (∀ k, 0 ≤ k → k < σ.1 3 → M (v + 23) k = σ.2.1 k) ∧ (∀ k, 0 ≤ k → k < σ.1 4 → M (v + 24) k = σ.2.1 (10 + k)) ∧ (∀ k, 0 ≤ k → k < σ.1 5 → M (v + 25) k = σ.2.1 (16 + k))
/-- nothing but the tape and the valley v has changed -/
def FrV (M N : Mem) (v : Int) : Prop := ∀ a j, ¬ tpF a j → ¬ PV (a - v) j → N a j = M a j
theorem frv_t {M N P : Mem} {v : Int} (h : FrV M N v) (k : FrV N P v) : FrV M P v := fun a j q r => by rw [k a j q r, h a j q r]
theorem frv_c {M N : Mem} {v : Int} (h : FrC M N) : FrV M N v := fun a j q _ => h a j q
theorem vc_k {M N : Mem} {v : Int} {σ : VS} (h : VC M v σ) (hc : cntW σ.1) (k : ∀ a j, v ≤ a → a ≤ v + 25 → N a j = M a j) : VC N v σ := by
  obtain ⟨c3, c4, c5⟩ := hc
  obtain ⟨h1, ⟨a0, a1, a2, a3, a4, a5⟩, h3, h4, h5, h6, h7⟩ := h
  refine ⟨lv_keep h1 k, ⟨?_, ?_, ?_, ?_, ?_, ?_⟩, fun r j r0 r1 j0 j1 => ?_, fun r j r0 r1 j0 j1 => ?_, fun j j0 j1 => ?_, fun j j0 j1 => ?_, fun j j0 j1 => ?_⟩
  · rw [k _ _ (by omega) (by omega)]; exact a0
  · rw [k _ _ (by omega) (by omega)]; exact a1
  · rw [k _ _ (by omega) (by omega)]; exact a2
  · rw [k _ _ (by omega) (by omega)]; exact a3
  · rw [k _ _ (by omega) (by omega)]; exact a4
  · rw [k _ _ (by omega) (by omega)]; exact a5
  · rw [k _ _ (by omega) (by omega)]; exact h3 r j r0 r1 j0 j1
  · rw [k _ _ (by omega) (by omega)]; exact h4 r j r0 r1 j0 j1
  · rw [k _ _ (by omega) (by omega)]; exact h5 j j0 j1
  · rw [k _ _ (by omega) (by omega)]; exact h6 j j0 j1
  · rw [k _ _ (by omega) (by omega)]; exact h7 j j0 j1
theorem isTaken_e {M : Mem} {v c : Int} {σ : VS} (h : VC M v σ) (v0 : 12 < v) (hc : cntW σ.1) : Tot (f_X8_isTaken v c M) (fun u => u = if tkn σ.1 σ.2.1 c then 1 else 0) := by
  obtain ⟨c3, c4, c5⟩ := hc
  obtain ⟨⟨⟨l1, l2, l3, l4, l5⟩, ⟨b1, b2, b3, b4, b5⟩, lr⟩, ⟨a0, a1, a2, a3, a4, a5⟩, h3, h4, h5, h6, h7⟩ := h
  unfold f_X8_isTaken
  rw [t_getf, l3, t_getf, a3, t_callp]
  refine ⟨by omega, by omega, t_mono (find_e (by omega) (by omega) (by omega) (by omega)) (fun u3 hu3 => ?_)⟩
  rw [fdO_congr h5] at hu3
  refine t_jq (fun J : Int → Option Int => ∀ x, (x = 0 ∨ x = 1) → Tot (J x) (fun u => u = x)) (fun x hx => ?_) (fun J hJ => ?_)
  · rw [t_retz]; exact ⟨hx, rfl⟩
  refine t_jq (fun J2 : Option Int => tkn σ.1 σ.2.1 c → Tot J2 (fun u => u = if tkn σ.1 σ.2.1 c then 1 else 0)) (fun e => by rw [if_pos e]; exact hJ 1 (by omega)) (fun J2 hJ2 => ?_)
  rw [t_ite]
  refine ⟨fun e => hJ2 (.inl (by rw [← hu3]; exact e)), fun e3 => ?_⟩
  rw [t_getf, l4, t_getf, a4, t_callp]
  refine ⟨by omega, by omega, t_mono (find_e (by omega) (by omega) (by omega) (by omega)) (fun u4 hu4 => ?_)⟩
  rw [fdO_congr h6] at hu4
  rw [t_ite]
  refine ⟨fun e => hJ2 (.inr (.inl (by rw [← hu4]; exact e))), fun e4 => ?_⟩
  rw [t_getf, l5, t_getf, a5, t_callp]
  refine ⟨by omega, by omega, t_mono (find_e (by omega) (by omega) (by omega) (by omega)) (fun u5 hu5 => ?_)⟩
  rw [fdO_congr h7] at hu5
  rw [t_ite]
  refine ⟨fun e5 => ?_, fun e => hJ2 (.inr (.inr (by rw [← hu5]; exact e)))⟩
  have nt : ¬ tkn σ.1 σ.2.1 c := by
    rintro (q | q | q)
    · exact q (by omega)
    · exact q (by omega)
    · exact q (by omega)
  rw [if_neg nt]; exact hJ 0 (by omega)
theorem takeNew_e {M : Mem} {B K : Int → Int} {n s v : Int} {σ : VS} {Q : Int × Mem → Prop} (h : CT M B K n s) (hv : VC M v σ) (v0 : 12 < v) (hc : cntW σ.1) (he : ∀ N f, neT B K n σ.1 σ.2.1 s = .error f → ErC N f → FrC M N → Q (0, N)) (hk : ∀ N c t, neT B K n σ.1 σ.2.1 s = .ok (c, t) → c ≠ 0 → s ≤ t → CT N B K n t → FrC M N → Q (c, N)) : Tot (f_X9_takeNew 10 v M) Q := by
  have h' := h
  obtain ⟨hT, ⟨hB, hK⟩, ⟨t1, t2, t3, t4, t5, t6, t7⟩, hf, s0, s1⟩ := h'
  unfold f_X9_takeNew
  rw [t_getf, t6, t_nn, t_callp, isAtName_e h, t_some, t_ite]
  refine ⟨by omega, by omega, fun c => ?_, fun c => ?_⟩
  rotate_left
  · have d : ¬ (tkY B K n s = -1 ∧ tkN B n s ≠ 0) := fun d => by rw [if_pos d] at c; omega
    rw [t_call]
    refine blameC_e h 2 (fun N eN fN => ?_)
    rw [t_some]
    exact he N _ (by unfold neT; rw [if_neg d]) eN fN
  have d : tkY B K n s = -1 ∧ tkN B n s ≠ 0 := by
    by_cases d : tkY B K n s = -1 ∧ tkN B n s ≠ 0
    · exact d
    · rw [if_neg d] at c; exact absurd rfl c
  rw [t_nn, t_callp]
  refine ⟨by omega, t_mono (isTaken_e hv v0 hc) (fun u hu => ?_)⟩
  rw [t_ite]
  by_cases e : tkn σ.1 σ.2.1 (tkN B n s)
  · rw [if_pos e] at hu
    refine ⟨fun q => by omega, fun _ => ?_⟩
    rw [t_call]
    refine blameC_e h 3 (fun N eN fN => ?_)
    rw [t_some]
    exact he N _ (by unfold neT; rw [if_pos d, if_pos e]) eN fN
  · rw [if_neg e] at hu
    refine ⟨fun _ => ?_, fun q => absurd hu q⟩
    rw [t_callv]
    refine stepC_e h (fun N hN fN => ?_)
    rw [t_some]
    exact hk N _ _ (by unfold neT; rw [if_pos d, if_neg e]) d.2 (nx_b s1).1 hN fN
/-- how a part ends -/
def PtE (M : Mem) (B K : Int → Int) (n s v : Int) (r : Except Fl (VS × Int)) (q : Int × Mem) : Prop := (∃ f, r = .error f ∧ q.1 = 0 ∧ ErC q.2 f ∧ FrV M q.2 v) ∨ (∃ τ t, r = .ok (τ, t) ∧ q.1 = 1 ∧ nx B n s ≤ t ∧ CT q.2 B K n t ∧ VC q.2 v τ ∧ FrV M q.2 v)
theorem pte_e {M N : Mem} {B K : Int → Int} {n s v : Int} {r : Except Fl (VS × Int)} {f : Fl} (h : r = .error f) (he : ErC N f) (hf : FrV M N v) : PtE M B K n s v r (0, N) := .inl ⟨f, h, rfl, he, hf⟩
theorem pte_o {M N : Mem} {B K : Int → Int} {n s v t : Int} {r : Except Fl (VS × Int)} {τ : VS} (h : r = .ok (τ, t)) (hn : nx B n s ≤ t) (hc : CT N B K n t) (hv : VC N v τ) (hf : FrV M N v) : PtE M B K n s v r (1, N) := .inr ⟨τ, t, h, rfl, hn, hc, hv, hf⟩
theorem pte_r {M : Mem} {B K : Int → Int} {n s v : Int} {r : Except Fl (VS × Int)} {q : Int × Mem} (h : PtE M B K n s v r q) : q.1 = 0 ∨ q.1 = 1 := by
  rcases h with ⟨f, _, h, _⟩ | ⟨τ, t, _, h, _⟩
  · exact .inl h
  · exact .inr h
theorem pv_o {a v j : Int} (h : PV (a - v) j) : v ≤ a ∧ a ≤ v + 25 ∧ 0 ≤ j := by unfold PV at h; omega
theorem readHead_e {M : Mem} {B K : Int → Int} {n s v : Int} {σ : VS} (h : CT M B K n s) (hv : VC M v σ) (v0 : 12 < v) (hw : WV σ.1) : Tot (f_X9_readHead 10 v M) (PtE M B K n s v (hdT B n σ s)) := by
  have hv' := hv
  obtain ⟨h1, ⟨a0, a1, a2, a3, a4, a5⟩, h3, h4, h5, h6, h7⟩ := hv'
  have hw' := hw
  obtain ⟨hc, ⟨w0, _⟩, _⟩ := hw'
  have nb := nx_b (B := B) h.2.2.2.2.2
  unfold f_X9_readHead
  rw [t_getf, a0, t_ite]
  refine ⟨by omega, fun c => ?_, fun c => ?_⟩
  rotate_left
  · have d : σ.2.2.1 = true := by
      by_cases d : σ.2.2.1 = true
      · exact d
      · rw [if_neg d] at c; exact absurd rfl c
    rw [t_nn, t_call]
    refine ⟨by omega, blameC_e h 5 (fun N eN fN => ?_)⟩
    rw [t_retzm]
    exact ⟨by omega, pte_e (by unfold hdT; rw [if_pos d]) eN (frv_c fN)⟩
  have d : ¬ σ.2.2.1 = true := fun d => by rw [if_pos d] at c; omega
  rw [t_nn, t_callv]
  refine ⟨by omega, stepC_e h (fun Y hY fY => ?_)⟩
  rw [t_call]
  refine takeNumber_e hY (fun N f e1 e2 e3 => ?_) (fun N x t e1 e2 e3 e4 e5 e6 => ?_)
  · have z : ∀ a j, ¬ (a = v ∧ j = 0) → upd2 N v 0 (-1) a j = N a j := fun a j hh => by rw [upd2_at, if_neg hh]
    dsimp only
    rw [t_putf, t_getf, upd2_at, if_pos ⟨rfl, rfl⟩, t_jn, t_jn, t_ite, t_retzm]
    refine ⟨by omega, by omega, fun _ => ⟨by omega, pte_e (by unfold hdT; rw [if_neg d, e1, bnd_e]) ⟨?_, ?_⟩ (fun a j q1 q2 => ?_)⟩, fun q => absurd rfl q⟩
    · rw [z _ _ (by omega)]; exact e2.1
    · rw [z _ _ (by omega)]; exact e2.2
    · rw [z _ _ (fun q => q2 (by unfold PV; omega)), e3 a j q1, fY a j q1]
  · have z : ∀ a j, ¬ (a = v ∧ j = 0) → upd2 N v 0 x a j = N a j := fun a j hh => by rw [upd2_at, if_neg hh]
    have zx : upd2 N v 0 x v 0 = x := by rw [upd2_at, if_pos ⟨rfl, rfl⟩]
    dsimp only
    rw [t_putf]
    refine ⟨by omega, ?_⟩
    generalize upd2 N v 0 x = Z at z zx ⊢
    have hZ : CT Z B K n t := ct_k e5 (fun a j hh => z a j (by omega))
    have vk : ∀ a j, v ≤ a → a ≤ v + 25 → ¬ (a = v ∧ j = 0) → Z a j = M a j := fun a j q1 q2 q3 => by rw [z a j q3, e6 a j (tpF_a (by omega)), fY a j (tpF_a (by omega))]
    rw [t_getf, zx, t_jn, t_jn, t_ite, t_call]
    refine ⟨by omega, fun q => by omega, fun _ => ?_⟩
    refine semi_e hZ (fun P f g1 g2 g3 => ?_) (fun P u g1 g2 g3 g4 => ?_)
    · dsimp only
      rw [t_ite, t_retzm]
      refine ⟨fun _ => ⟨by omega, pte_e (by unfold hdT; rw [if_neg d, e1, bnd_o, g1, bnd_e]) g2 (fun a j q1 q2 => ?_)⟩, fun q => absurd rfl q⟩
      rw [g3 a j q1, z _ _ (fun q => q2 (by unfold PV; omega)), e6 a j q1, fY a j q1]
    · dsimp only
      rw [t_ite, t_retzm, t_retzm]
      refine ⟨fun q => by omega, fun _ => ⟨by omega, pte_o (by unfold hdT; rw [if_neg d, e1, bnd_o, g1, bnd_o]) (by omega) g3 ?_ (fun a j q1 q2 => by rw [g4 a j q1, z _ _ (fun q => q2 (by unfold PV; omega)), e6 a j q1, fY a j q1])⟩⟩
      have u1 : ∀ j, j ≠ 0 → upd1 σ.1 0 x j = σ.1 j := fun j hj => by rw [upd1_at, if_neg hj]
      have vP : ∀ a j, v ≤ a → a ≤ v + 25 → ¬ (a = v ∧ j = 0) → P a j = M a j := fun a j q1 q2 q3 => by rw [g4 a j (tpF_a (by omega)), vk a j q1 q2 q3]
      obtain ⟨c3, c4, c5⟩ := hc
      refine ⟨lv_p h1 (fun o j o0 o1 hp => vP _ _ (by omega) (by omega) (fun q => hp (by unfold PV; omega))), ⟨?_, ?_, ?_, ?_, ?_, ?_⟩, fun r j r0 r1 j0 j1 => ?_, fun r j r0 r1 j0 j1 => ?_, fun j j0 j1 => ?_, fun j j0 j1 => ?_, fun j j0 j1 => ?_⟩
      · rw [g4 _ _ (tpF_a (by omega)), zx]; rfl
      · rw [vP _ _ (by omega) (by omega) (by omega), a1]; rfl
      · rw [vP _ _ (by omega) (by omega) (by omega), a2]; rfl
      · rw [vP _ _ (by omega) (by omega) (by omega), a3]; rfl
      · rw [vP _ _ (by omega) (by omega) (by omega), a4]; rfl
      · rw [vP _ _ (by omega) (by omega) (by omega), a5]; rfl
      · have r1 : r < σ.1 3 := r1
        rw [vP _ _ (by omega) (by omega) (by omega), h3 r j r0 r1 j0 j1]
        exact (u1 _ (by omega)).symm
      · have r1 : r < σ.1 5 := r1
        rw [vP _ _ (by omega) (by omega) (by omega), h4 r j r0 r1 j0 j1]
        exact (u1 _ (by omega)).symm
      · rw [vP _ _ (by omega) (by omega) (by omega)]; exact h5 j j0 j1
      · rw [vP _ _ (by omega) (by omega) (by omega)]; exact h6 j j0 j1
      · rw [vP _ _ (by omega) (by omega) (by omega)]; exact h7 j j0 j1
theorem readSpan_e {M : Mem} {B K : Int → Int} {n s v : Int} {σ : VS} (h : CT M B K n s) (hv : VC M v σ) (v0 : 12 < v) (hw : WV σ.1) : Tot (f_X9_readSpan 10 v M) (PtE M B K n s v (spT B K n σ s)) := by
  have hv' := hv
  obtain ⟨h1, ⟨a0, a1, a2, a3, a4, a5⟩, h3, h4, h5, h6, h7⟩ := hv'
  have hw' := hw
  obtain ⟨hc, ⟨_, _, w1, _⟩, _⟩ := hw'
  have nb := nx_b (B := B) h.2.2.2.2.2
  unfold f_X9_readSpan
  rw [t_getf, a1, t_ite]
  refine ⟨by omega, fun c => ?_, fun c => ?_⟩
  rotate_left
  · have d : σ.2.2.2 = true := by
      by_cases d : σ.2.2.2 = true
      · exact d
      · rw [if_neg d] at c; exact absurd rfl c
    rw [t_nn, t_call]
    refine ⟨by omega, blameC_e h 5 (fun N eN fN => ?_)⟩
    rw [t_retzm]
    exact ⟨by omega, pte_e (by unfold spT; rw [if_pos d]) eN (frv_c fN)⟩
  have d : ¬ σ.2.2.2 = true := fun d => by rw [if_pos d] at c; omega
  rw [t_nn, t_callv]
  refine ⟨by omega, stepC_e h (fun Y hY fY => ?_)⟩
  rw [t_call]
  refine takeNumber_e hY (fun N f e1 e2 e3 => ?_) (fun N x t e1 e2 e3 e4 e5 e6 => ?_)
  · have z : ∀ a j, ¬ (a = v ∧ j = 1) → upd2 N v 1 (-1) a j = N a j := fun a j hh => by rw [upd2_at, if_neg hh]
    dsimp only
    rw [t_putf, t_getf, upd2_at, if_pos ⟨rfl, rfl⟩, t_jn, t_ite, t_retzm]
    refine ⟨by omega, by omega, fun _ => ⟨by omega, pte_e (by unfold spT; rw [if_neg d, e1, bnd_e]) ⟨?_, ?_⟩ (fun a j q1 q2 => ?_)⟩, fun q => absurd rfl q⟩
    · rw [z _ _ (by omega)]; exact e2.1
    · rw [z _ _ (by omega)]; exact e2.2
    · rw [z _ _ (fun q => q2 (by unfold PV; omega)), e3 a j q1, fY a j q1]
  have z : ∀ a j, ¬ (a = v ∧ j = 1) → upd2 N v 1 x a j = N a j := fun a j hh => by rw [upd2_at, if_neg hh]
  have zx : upd2 N v 1 x v 1 = x := by rw [upd2_at, if_pos ⟨rfl, rfl⟩]
  dsimp only
  rw [t_putf]
  refine ⟨by omega, ?_⟩
  generalize upd2 N v 1 x = Z at z zx ⊢
  have hZ : CT Z B K n t := ct_k e5 (fun a j hh => z a j (by omega))
  have fZ : ∀ a j, ¬ tpF a j → ¬ (a = v ∧ j = 1) → Z a j = M a j := fun a j q1 q2 => by rw [z a j q2, e6 a j q1, fY a j q1]
  rw [t_getf, zx, t_jn, t_ite, t_call]
  refine ⟨by omega, fun q => by omega, fun _ => ?_⟩
  refine skip_e hZ (by omega) (fun P f g1 g2 g3 => ?_) (fun P u g1 g2 g3 g4 => ?_)
  · dsimp only
    rw [t_ite, t_retzm]
    refine ⟨fun q => absurd rfl q, fun _ => ⟨by omega, pte_e (by unfold spT; rw [if_neg d, e1, bnd_o, g1, bnd_e]) g2 (fun a j q1 q2 => ?_)⟩⟩
    rw [g3 a j q1, fZ a j q1 (fun q => q2 (by unfold PV; omega))]
  dsimp only
  rw [t_ite, t_call]
  refine ⟨fun _ => ?_, fun q => absurd (by omega) q⟩
  refine takeNumber_e g3 (fun N f k1 k2 k3 => ?_) (fun N y t2 k1 k2 k3 k4 k5 k6 => ?_)
  · have y : ∀ a j, ¬ (a = v ∧ j = 2) → upd2 N v 2 (-1) a j = N a j := fun a j hh => by rw [upd2_at, if_neg hh]
    dsimp only
    rw [t_putf, t_getf, upd2_at, if_pos ⟨rfl, rfl⟩, t_jn, t_jn, t_ite, t_retzm]
    refine ⟨by omega, by omega, fun _ => ⟨by omega, pte_e (by unfold spT; rw [if_neg d, e1, bnd_o, g1, bnd_o, k1, bnd_e]) ⟨?_, ?_⟩ (fun a j q1 q2 => ?_)⟩, fun q => absurd rfl q⟩
    · rw [y _ _ (by omega)]; exact k2.1
    · rw [y _ _ (by omega)]; exact k2.2
    · rw [y _ _ (fun q => q2 (by unfold PV; omega)), k3 a j q1, g4 a j q1, fZ a j q1 (fun q => q2 (by unfold PV; omega))]
  have z2 : ∀ a j, ¬ (a = v ∧ j = 2) → upd2 N v 2 y a j = N a j := fun a j hh => by rw [upd2_at, if_neg hh]
  have z2x : upd2 N v 2 y v 2 = y := by rw [upd2_at, if_pos ⟨rfl, rfl⟩]
  dsimp only
  rw [t_putf]
  refine ⟨by omega, ?_⟩
  generalize upd2 N v 2 y = W at z2 z2x ⊢
  have hW : CT W B K n t2 := ct_k k5 (fun a j hh => z2 a j (by omega))
  have fW : ∀ a j, ¬ tpF a j → ¬ (a = v ∧ (j = 1 ∨ j = 2)) → W a j = M a j := fun a j q1 q2 => by rw [z2 a j (by omega), k6 a j q1, g4 a j q1, fZ a j q1 (by omega)]
  have w1x : W v 1 = x := by rw [z2 _ _ (by omega), k6 _ _ (tpF_a (by omega)), g4 _ _ (tpF_a (by omega))]; exact zx
  rw [t_getf, z2x, t_jn, t_jn, t_ite, t_call]
  refine ⟨by omega, fun q => by omega, fun _ => ?_⟩
  refine semi_e hW (fun P2 f m1 m2 m3 => ?_) (fun P2 t3 m1 m2 m3 m4 => ?_)
  · dsimp only
    rw [t_ite, t_retzm]
    refine ⟨fun _ => ⟨by omega, pte_e (by unfold spT; rw [if_neg d, e1, bnd_o, g1, bnd_o, k1, bnd_o, m1, bnd_e]) m2 (fun a j q1 q2 => ?_)⟩, fun q => absurd rfl q⟩
    rw [m3 a j q1, fW a j q1 (fun q => q2 (by unfold PV; omega))]
  dsimp only
  rw [t_ite, t_retzm, t_retzm]
  refine ⟨fun q => by omega, fun _ => ⟨by omega, pte_o (by unfold spT; rw [if_neg d, e1, bnd_o, g1, bnd_o, k1, bnd_o, m1, bnd_o]) (by omega) m3 ?_ (fun a j q1 q2 => by rw [m4 a j q1, fW a j q1 (fun q => q2 (by unfold PV; omega))])⟩⟩
  have u1 : ∀ j, j ≠ 1 → j ≠ 2 → upd1 (upd1 σ.1 1 x) 2 y j = σ.1 j := fun j hj hj2 => by rw [upd1_at, if_neg hj2, upd1_at, if_neg hj]
  have vP : ∀ a j, v ≤ a → a ≤ v + 25 → ¬ (a = v ∧ (j = 1 ∨ j = 2)) → P2 a j = M a j := fun a j q1 q2 q3 => by rw [m4 a j (tpF_a (by omega)), fW a j (tpF_a (by omega)) q3]
  obtain ⟨c3, c4, c5⟩ := hc
  refine ⟨lv_p h1 (fun o j o0 o1 hp => vP _ _ (by omega) (by omega) (fun q => hp (by unfold PV; omega))), ⟨?_, ?_, ?_, ?_, ?_, ?_⟩, fun r j r0 r1 j0 j1 => ?_, fun r j r0 r1 j0 j1 => ?_, fun j j0 j1 => ?_, fun j j0 j1 => ?_, fun j j0 j1 => ?_⟩
  · rw [vP _ _ (by omega) (by omega) (by omega), a0]; rfl
  · rw [m4 _ _ (tpF_a (by omega)), w1x]; rfl
  · rw [m4 _ _ (tpF_a (by omega)), z2x]; rfl
  · rw [vP _ _ (by omega) (by omega) (by omega), a3]; rfl
  · rw [vP _ _ (by omega) (by omega) (by omega), a4]; rfl
  · rw [vP _ _ (by omega) (by omega) (by omega), a5]; rfl
  · have r1 : r < σ.1 3 := r1
    rw [vP _ _ (by omega) (by omega) (by omega), h3 r j r0 r1 j0 j1]
    exact (u1 _ (by omega) (by omega)).symm
  · have r1 : r < σ.1 5 := r1
    rw [vP _ _ (by omega) (by omega) (by omega), h4 r j r0 r1 j0 j1]
    exact (u1 _ (by omega) (by omega)).symm
  · rw [vP _ _ (by omega) (by omega) (by omega)]; exact h5 j j0 j1
  · rw [vP _ _ (by omega) (by omega) (by omega)]; exact h6 j j0 j1
  · rw [vP _ _ (by omega) (by omega) (by omega)]; exact h7 j j0 j1
theorem readOwner_e {M : Mem} {B K : Int → Int} {n s v : Int} {σ : VS} (h : CT M B K n s) (hv : VC M v σ) (v0 : 12 < v) (hw : WV σ.1) : Tot (f_X9_readOwner 10 v M) (PtE M B K n s v (owT B K n σ s)) := by
  have hv' := hv
  obtain ⟨h1, ⟨a0, a1, a2, a3, a4, a5⟩, h3, h4, h5, h6, h7⟩ := hv'
  have hc : cntW σ.1 := hw.1
  have hc' := hc
  obtain ⟨c3, c4, c5⟩ := hc'
  have nb := nx_b (B := B) h.2.2.2.2.2
  unfold f_X9_readOwner
  rw [t_getf, a4, t_ite]
  refine ⟨by omega, fun c => ?_, fun c => ?_⟩
  rotate_left
  · rw [t_nn, t_call]
    refine ⟨by omega, blameC_e h 6 (fun N eN fN => ?_)⟩
    rw [t_retzm]
    exact ⟨by omega, pte_e (by unfold owT noT; rw [if_pos (by omega), bnd_e]) eN (frv_c fN)⟩
  have nT : noT B K n σ.1 σ.2.1 4 6 s = neT B K n σ.1 σ.2.1 (nx B n s) := by unfold noT; rw [if_neg (by omega)]
  rw [t_nn, t_callv]
  refine ⟨by omega, stepC_e h (fun Y hY fY => ?_)⟩
  have vY : VC Y v σ := vc_k hv hc (fun a j q1 q2 => fY a j (tpF_a (by omega)))
  rw [t_call]
  refine takeNew_e hY vY v0 hc (fun N f e1 e2 e3 => ?_) (fun N x t e1 e2 e3 e4 e5 => ?_)
  · dsimp only
    rw [t_jn, t_ite, t_retzm]
    exact ⟨fun _ => ⟨by omega, pte_e (by unfold owT; rw [nT, e1, bnd_e]) e2 (fun a j q1 _ => by rw [e3 a j q1, fY a j q1])⟩, fun q => absurd rfl q⟩
  dsimp only
  rw [t_jn, t_ite, t_call]
  refine ⟨fun q => absurd q e2, fun _ => ?_⟩
  refine semi_e e4 (fun P f g1 g2 g3 => ?_) (fun P u g1 g2 g3 g4 => ?_)
  · dsimp only
    rw [t_ite, t_retzm]
    exact ⟨fun q => absurd rfl q, fun _ => ⟨by omega, pte_e (by unfold owT; rw [nT, e1, bnd_o, g1, bnd_e]) g2 (fun a j q1 _ => by rw [g3 a j q1, e5 a j q1, fY a j q1])⟩⟩
  dsimp only
  rw [t_ite]
  refine ⟨fun _ => ?_, fun q => absurd (by omega) q⟩
  have fP : ∀ a j, 12 < a → P a j = M a j := fun a j q => by rw [g4 a j (tpF_a (by omega)), e5 a j (tpF_a (by omega)), fY a j (tpF_a (by omega))]
  obtain ⟨⟨l1, l2, l3, l4, l5⟩, ⟨b1, b2, b3, b4, b5⟩, lr⟩ := h1
  have z : ∀ a j, ¬ (a = v + 24 ∧ j = σ.1 4) → upd2 P (v + 24) (σ.1 4) x a j = P a j := fun a j hh => by rw [upd2_at, if_neg hh]
  rw [t_getf, fP _ _ v0, l4, t_getf, fP _ _ v0, a4, t_seti, fP _ _ (by omega), b4, t_getf, z _ _ (by omega), fP _ _ v0, a4, t_putf, t_retzm, w32_s (by omega) (by omega)]
  refine ⟨by omega, by omega, by omega, by omega, by omega, by omega, by omega, by omega, pte_o (by unfold owT; rw [nT, e1, bnd_o, g1, bnd_o]) (by omega) ?_ ?_ ?_⟩
  · exact ct_k g3 (fun a j hh => by rw [upd2_at, if_neg (by omega), upd2_at, if_neg (by omega)])
  rotate_left
  · intro a j q1 q2
    rw [upd2_at, if_neg (fun q => q2 (by unfold PV; omega)), upd2_at, if_neg (fun q => q2 (by unfold PV; omega)), g4 a j q1, e5 a j q1, fY a j q1]
  dsimp only
  have u1 : ∀ j, j ≠ 4 → upd1 σ.1 4 (σ.1 4 + 1) j = σ.1 j := fun j hj => by rw [upd1_at, if_neg hj]
  have vP : ∀ a j, v ≤ a → a ≤ v + 25 → ¬ (a = v ∧ j = 4) → ¬ (a = v + 24 ∧ j = σ.1 4) → upd2 (upd2 P (v + 24) (σ.1 4) x) v 4 (σ.1 4 + 1) a j = M a j := fun a j q1 q2 q3 q4 => by rw [upd2_at, if_neg q3, upd2_at, if_neg q4, fP a j (by omega)]
  have v4 : upd2 (upd2 P (v + 24) (σ.1 4) x) v 4 (σ.1 4 + 1) v 4 = σ.1 4 + 1 := by rw [upd2_at, if_pos ⟨rfl, rfl⟩]
  have v24 : upd2 (upd2 P (v + 24) (σ.1 4) x) v 4 (σ.1 4 + 1) (v + 24) (σ.1 4) = x := by rw [upd2_at, if_neg (by omega), upd2_at, if_pos ⟨rfl, rfl⟩]
  generalize upd2 (upd2 P (v + 24) (σ.1 4) x) v 4 (σ.1 4 + 1) = P2 at vP v4 v24 ⊢
  refine ⟨lv_p ⟨⟨l1, l2, l3, l4, l5⟩, ⟨b1, b2, b3, b4, b5⟩, lr⟩ (fun o j o0 o1 hp => vP _ _ (by omega) (by omega) (fun q => hp (by unfold PV; omega)) (fun q => hp (by unfold PV; omega))), ⟨?_, ?_, ?_, ?_, ?_, ?_⟩, fun r j r0 r1 j0 j1 => ?_, fun r j r0 r1 j0 j1 => ?_, fun j j0 j1 => ?_, fun j j0 j1 => ?_, fun j j0 j1 => ?_⟩
  · rw [vP _ _ (by omega) (by omega) (by omega) (by omega), a0]; rfl
  · rw [vP _ _ (by omega) (by omega) (by omega) (by omega), a1]; rfl
  · rw [vP _ _ (by omega) (by omega) (by omega) (by omega), a2]; rfl
  · rw [vP _ _ (by omega) (by omega) (by omega) (by omega), a3]; rfl
  · exact v4
  · rw [vP _ _ (by omega) (by omega) (by omega) (by omega), a5]; rfl
  · have r1 : r < σ.1 3 := r1
    rw [vP _ _ (by omega) (by omega) (by omega) (by omega), h3 r j r0 r1 j0 j1]
    exact (u1 _ (by omega)).symm
  · have r1 : r < σ.1 5 := r1
    rw [vP _ _ (by omega) (by omega) (by omega) (by omega), h4 r j r0 r1 j0 j1]
    exact (u1 _ (by omega)).symm
  · have j1 : j < σ.1 3 := j1
    rw [vP _ _ (by omega) (by omega) (by omega) (by omega), h5 j j0 j1]
    show _ = upd1 σ.2.1 (10 + σ.1 4) x j
    rw [upd1_at, if_neg (by omega)]
  · have j1 : j < σ.1 4 + 1 := j1
    show _ = upd1 σ.2.1 (10 + σ.1 4) x (10 + j)
    by_cases q : j = σ.1 4
    · rw [q, v24, upd1_at, if_pos rfl]
    · rw [vP _ _ (by omega) (by omega) (by omega) (by omega), h6 j j0 (by omega), upd1_at, if_neg (by omega)]
  · have j1 : j < σ.1 5 := j1
    rw [vP _ _ (by omega) (by omega) (by omega) (by omega), h7 j j0 j1]
    show _ = upd1 σ.2.1 (10 + σ.1 4) x (16 + j)
    rw [upd1_at, if_neg (by omega)]
