/-! the class takes a valley -/
def TD (σ : VS) : Prop := (σ.2.2.1 ≠ true → σ.1 0 = 100) ∧ (σ.2.2.2 ≠ true → σ.1 1 = 1440)
theorem ptT_t {B K : Int → Int} {n s : Int} {σ : VS} {p : VS × Int} (h : ptT B K n σ s = .ok p) (c3 : 0 ≤ σ.1 3) (c5 : 0 ≤ σ.1 5) (hd : TD σ) : TD p.1 := by
  unfold ptT at h
  by_cases c0 : tkY B K n s = 0
  · rw [if_pos c0] at h
    unfold hdT at h
    by_cases d : σ.2.2.1 = true
    · rw [if_pos d] at h; exact nomatch h
    · rw [if_neg d] at h
      obtain ⟨⟨x, t⟩, e1, h⟩ := bnd_i h
      obtain ⟨t2, _, h⟩ := bnd_i h
      injection h with h
      rw [← h]
      exact ⟨fun q => absurd rfl q, fun q => by show upd1 σ.1 0 x 1 = 1440; rw [upd1_at, if_neg (by omega)]; exact hd.2 q⟩
  rw [if_neg c0] at h
  by_cases c1 : tkY B K n s = 1
  · rw [if_pos c1] at h
    unfold spT at h
    by_cases d : σ.2.2.2 = true
    · rw [if_pos d] at h; exact nomatch h
    · rw [if_neg d] at h
      obtain ⟨⟨x, t⟩, e1, h⟩ := bnd_i h
      obtain ⟨t2, _, h⟩ := bnd_i h
      obtain ⟨⟨y, t3⟩, e2, h⟩ := bnd_i h
      obtain ⟨t4, _, h⟩ := bnd_i h
      injection h with h
      rw [← h]
      exact ⟨fun q => by show upd1 (upd1 σ.1 1 x) 2 y 0 = 100; rw [upd1_at, if_neg (by omega), upd1_at, if_neg (by omega)]; exact hd.1 q, fun q => absurd rfl q⟩
  rw [if_neg c1] at h
  by_cases c2 : tkY B K n s = 3
  · rw [if_pos c2] at h
    unfold rrT at h
    obtain ⟨p1, e1, h⟩ := bnd_i h
    obtain ⟨q, e2, h⟩ := bnd_i h
    obtain ⟨t4, _, h⟩ := bnd_i h
    injection h with h
    rw [← h]
    exact ⟨fun z => by show addR σ.1 q.1 0 = 100; rw [addR_o (by omega) (by omega)]; exact hd.1 z, fun z => by show addR σ.1 q.1 1 = 1440; rw [addR_o (by omega) (by omega)]; exact hd.2 z⟩
  rw [if_neg c2] at h
  by_cases c3' : tkY B K n s = 10
  · rw [if_pos c3'] at h
    unfold owT at h
    obtain ⟨p1, e1, h⟩ := bnd_i h
    obtain ⟨t4, _, h⟩ := bnd_i h
    injection h with h
    rw [← h]
    exact ⟨fun z => by show upd1 σ.1 4 (σ.1 4 + 1) 0 = 100; rw [upd1_at, if_neg (by omega)]; exact hd.1 z, fun z => by show upd1 σ.1 4 (σ.1 4 + 1) 1 = 1440; rw [upd1_at, if_neg (by omega)]; exact hd.2 z⟩
  rw [if_neg c3'] at h
  by_cases c4 : tkY B K n s = 11
  · rw [if_pos c4] at h
    unfold ffT at h
    obtain ⟨p1, e1, h⟩ := bnd_i h
    obtain ⟨q, e2, h⟩ := bnd_i h
    obtain ⟨t4, _, h⟩ := bnd_i h
    injection h with h
    rw [← h]
    exact ⟨fun z => by show addF σ.1 q.1 0 = 100; rw [addF_o (by omega) (by omega)]; exact hd.1 z, fun z => by show addF σ.1 q.1 1 = 1440; rw [addF_o (by omega) (by omega)]; exact hd.2 z⟩
  rw [if_neg c4] at h; exact nomatch h
/-- a valley of the class, read and complete -/
def NmC (M : Mem) (v : Int) (w nm : Int → Int) : Prop := (∀ k, 0 ≤ k → k < w 3 → M (v + 23) k = nm k) ∧ (∀ k, 0 ≤ k → k < w 4 → M (v + 24) k = nm (10 + k)) ∧ (∀ k, 0 ≤ k → k < w 5 → M (v + 25) k = nm (16 + k))
def VD (M : Mem) (v : Int) (w nm : Int → Int) : Prop := LV M v ∧ M v 0 = w 0 ∧ RV M v w ∧ NmC M v w nm
theorem complete_e {M : Mem} {v : Int} {σ : VS} {Q : Mem → Prop} (hv : VC M v σ) (v0 : 12 < v) (hw : WV σ.1) (hd : TD σ) (hq : ∀ N, VD N v σ.1 σ.2.1 → (∀ a j, ¬ (a = v ∧ 0 ≤ j ∧ j < 8) → N a j = M a j) → Q N) : Tot (f_X8_complete v M) Q := by
  obtain ⟨h1, ⟨a0, a1, a2, a3, a4, a5⟩, h3, h4, h5, h6, h7⟩ := hv
  obtain ⟨⟨c3, c4, c5⟩, ⟨w0, w0', w1, w1', w2, w2'⟩, hr, hf, hz⟩ := hw
  have lb := litre_le hr c3.1 c3.2
  unfold f_X8_complete
  rw [t_getf]
  refine ⟨by omega, ?_⟩
  refine t_jv (σ.1 0) ?_ (fun J hJ => ?_)
  rotate_left
  · rw [t_ite]
    refine ⟨fun c => ?_, fun c => ?_⟩
    · rw [t_getf]
      refine ⟨by omega, ?_⟩
      by_cases d : σ.2.2.1 = true
      · rw [if_pos d] at a0; rw [a0]; exact hJ
      · rw [if_neg d] at a0; exact absurd a0 c
    · by_cases d : σ.2.2.1 = true
      · rw [if_pos d] at a0; omega
      · rw [hd.1 d] at hJ; exact hJ
  rw [t_putf, t_getf, upd2_at, if_neg (by omega)]
  refine ⟨by omega, by omega, ?_⟩
  refine t_jv (σ.1 1) ?_ (fun J hJ => ?_)
  rotate_left
  · rw [t_ite]
    refine ⟨fun c => ?_, fun c => ?_⟩
    · rw [t_getf, upd2_at, if_neg (by omega)]
      refine ⟨by omega, ?_⟩
      by_cases d : σ.2.2.2 = true
      · rw [if_pos d] at a1; rw [a1]; exact hJ
      · rw [if_neg d] at a1; exact absurd a1 c
    · by_cases d : σ.2.2.2 = true
      · rw [if_pos d] at a1; omega
      · rw [hd.2 d] at hJ; exact hJ
  rw [t_putf, t_putf]
  refine ⟨by omega, by omega, ?_⟩
  have z : ∀ a j, ¬ (a = v ∧ (j = 0 ∨ j = 1 ∨ j = 7)) → upd2 (upd2 (upd2 M v 0 (σ.1 0)) v 1 (σ.1 1)) v 7 1 a j = M a j := fun a j hh => by rw [upd2_at, if_neg (by omega), upd2_at, if_neg (by omega), upd2_at, if_neg (by omega)]
  have z0 : upd2 (upd2 (upd2 M v 0 (σ.1 0)) v 1 (σ.1 1)) v 7 1 v 0 = σ.1 0 := by rw [upd2_at, if_neg (by omega), upd2_at, if_neg (by omega), upd2_at, if_pos ⟨rfl, rfl⟩]
  have z1 : upd2 (upd2 (upd2 M v 0 (σ.1 0)) v 1 (σ.1 1)) v 7 1 v 1 = σ.1 1 := by rw [upd2_at, if_neg (by omega), upd2_at, if_pos ⟨rfl, rfl⟩]
  have z7 : upd2 (upd2 (upd2 M v 0 (σ.1 0)) v 1 (σ.1 1)) v 7 1 v 7 = 1 := by rw [upd2_at, if_pos ⟨rfl, rfl⟩]
  generalize upd2 (upd2 (upd2 M v 0 (σ.1 0)) v 1 (σ.1 1)) v 7 1 = Z at z z0 z1 z7 ⊢
  have h1' := h1
  obtain ⟨⟨l1, l2, l3, l4, l5⟩, ⟨b1, b2, b3, b4, b5⟩, lr⟩ := h1'
  refine lpIM (fun p X => 0 ≤ p ∧ p ≤ σ.1 3 ∧ X v 7 = prP σ.1 p ∧ ∀ a j, ¬ (a = v ∧ j = 7) → X a j = Z a j) (fun p _ => (σ.1 3 - p).toNat) ?_ (by unfold KF; omega) ⟨by omega, by omega, z7, fun _ _ _ => rfl⟩
  rintro fu p X ⟨i0, i1, i2, i3⟩ ih
  have xM : ∀ a j, ¬ (a = v ∧ (j = 0 ∨ j = 1 ∨ j = 7)) → X a j = M a j := fun a j hh => by rw [i3 _ _ (by omega), z _ _ (by omega)]
  unfold f_X8_complete_L50
  rw [t_getf, xM v 3 (by omega), a3, t_ite]
  refine ⟨by omega, fun c => ?_, fun c => ?_⟩
  rotate_left
  · obtain ⟨lr1, lr2, _, _⟩ := lr p i0 (by omega)
    have q := hr p i0 (by omega)
    have pl := prP_le hr p.toNat p i0 (by omega) (by omega)
    have pb : prP σ.1 p ≤ 61917364224 := by
      have m : (12 : Int) ^ p.toNat ≤ 12 ^ 10 := by
        have : (12 : Nat) ^ p.toNat ≤ 12 ^ 10 := Nat.pow_le_pow_right (by decide) (by omega)
        exact_mod_cast this
      have e2 : (12 : Int) ^ 10 = 61917364224 := by decide
      omega
    have mb : 0 ≤ prP σ.1 p * rc σ.1 p 2 ∧ prP σ.1 p * rc σ.1 p 2 ≤ 61917364224 * 12 := mul_le (by omega) (by omega) (by omega) (by omega)
    rw [t_getf, i2, t_getf, xM v 8 (by omega), l1, t_geti, xM (v + 1) _ (by omega), b1, xM (v + 1) _ (by omega), lr1, t_geti, xM (v + 2 + p) _ (by omega), lr2, xM (v + 2 + p) _ (by omega), h3 p 2 i0 (by omega) (by omega) (by omega), t_putf, w64_s (by omega) (by omega), w32_s (by omega) (by omega)]
    refine ⟨by omega, by omega, by omega, by omega, by omega, by omega, by omega, by omega, by omega, ih _ _ (by omega) ⟨by omega, by omega, ?_, fun a j hh => by rw [upd2_at, if_neg hh]; exact i3 a j hh⟩⟩
    rw [upd2_at, if_pos ⟨rfl, rfl⟩, prP_s _ i0]
  have p3 : p = σ.1 3 := by omega
  rw [t_putf]
  refine ⟨by omega, ?_⟩
  have y : ∀ a j, ¬ (a = v ∧ j = 6) → upd2 X v 6 0 a j = X a j := fun a j hh => by rw [upd2_at, if_neg hh]
  have y6 : upd2 X v 6 0 v 6 = 0 := by rw [upd2_at, if_pos ⟨rfl, rfl⟩]
  generalize upd2 X v 6 0 = Y at y y6 ⊢
  have sb : ∀ p, 0 ≤ p → p ≤ σ.1 5 → 1 * p ≤ sumZ (fun f => fc σ.1 f 1) p ∧ sumZ (fun f => fc σ.1 f 1) p ≤ 99 * p := fun p h0 h1 => sumZ_le (n := σ.1 5) (fun k k0 k1 => by have := hf k k0 k1; omega) h0 h1
  refine lpIM (fun p X => 0 ≤ p ∧ p ≤ σ.1 5 ∧ X v 6 = sumZ (fun f => fc σ.1 f 1) p ∧ ∀ a j, ¬ (a = v ∧ j = 6) → X a j = Y a j) (fun p _ => (σ.1 5 - p).toNat) ?_ (by unfold KF; omega) ⟨by omega, by omega, y6, fun _ _ _ => rfl⟩
  rintro fu p' W ⟨k0, k1, k2, k3⟩ ih
  have wM : ∀ a j, ¬ (a = v ∧ (j = 0 ∨ j = 1 ∨ j = 6 ∨ j = 7)) → W a j = M a j := fun a j hh => by rw [k3 _ _ (by omega), y _ _ (by omega), xM _ _ (by omega)]
  unfold f_X8_complete_L89
  rw [t_getf, wM v 5 (by omega), a5, t_ite]
  refine ⟨by omega, fun c => ?_, fun c => ?_⟩
  rotate_left
  · obtain ⟨_, _, lr1, lr2⟩ := lr p' k0 (by omega)
    have q := hf p' k0 (by omega)
    have s1 := sb p' k0 (by omega)
    rw [t_getf, k2, t_getf, wM v 9 (by omega), l2, t_geti, wM (v + 12) _ (by omega), b2, wM (v + 12) _ (by omega), lr1, t_geti, wM (v + 13 + p') _ (by omega), lr2, wM (v + 13 + p') _ (by omega), h4 p' 1 k0 (by omega) (by omega) (by omega), t_putf, w32_s (by omega) (by omega), w32_s (by omega) (by omega)]
    refine ⟨by omega, by omega, by omega, by omega, by omega, by omega, by omega, by omega, by omega, ih _ _ (by omega) ⟨by omega, by omega, ?_, fun a j hh => by rw [upd2_at, if_neg hh]; exact k3 a j hh⟩⟩
    rw [upd2_at, if_pos ⟨rfl, rfl⟩, sumZ_s _ k0]
  have p5 : p' = σ.1 5 := by omega
  rw [t_some]
  refine hq W ⟨lv_p h1 (fun o j o0 o1 hp => wM _ _ (fun q => hp (by unfold PV; omega))), ?_, ⟨⟨?_, ?_, ?_, ?_, ?_, ?_, ?_⟩, fun r k r0 r1 j0 j1 => ?_, fun f k f0 f1 j0 j1 => ?_⟩, ⟨fun k k0 k1 => ?_, fun k k0 k1 => ?_, fun k k0 k1 => ?_⟩⟩ (fun a j hh => wM a j (by omega))
  · rw [k3 _ _ (by omega), y _ _ (by omega), i3 _ _ (by omega)]; exact z0
  · rw [k3 _ _ (by omega), y _ _ (by omega), i3 _ _ (by omega)]; exact z1
  · rw [wM _ _ (by omega)]; exact a2
  · rw [wM _ _ (by omega)]; exact a3
  · rw [wM _ _ (by omega)]; exact a4
  · rw [wM _ _ (by omega)]; exact a5
  · rw [k2, p5]; rfl
  · rw [k3 _ _ (by omega), y _ _ (by omega), i2, p3]; rfl
  · rw [wM _ _ (by omega)]; exact h3 r k r0 r1 j0 j1
  · rw [wM _ _ (by omega)]; exact h4 f k f0 f1 j0 j1
  · rw [wM _ _ (by omega)]; exact h5 k k0 k1
  · rw [wM _ _ (by omega)]; exact h6 k k0 k1
  · rw [wM _ _ (by omega)]; exact h7 k k0 k1
/-- what a text of the class comes to -/
def σ0 (u : Int → Int) : VS := (plW u, fun _ => 0, false, false)
def rdT (B K : Int → Int) (x : Int) (u : Int → Int) : Except Fl VS := loT B K x ((x - rnE blB B x 0).toNat + 1) (σ0 u) (rnE blB B x 0)
def tvF (a j v : Int) : Prop := (a = 10 ∧ 2 ≤ j ∧ j ≠ 6) ∨ PV (a - v) j
theorem takesV_e {M : Mem} {x v : Int} {u : Int → Int} {Q : Int × Mem → Prop} (h : M 1 1 = 10 ∧ M 10 0 = 11 ∧ M 10 1 = 12 ∧ M 11 (-1) = 900 ∧ M 12 (-1) = 30) (x0 : 0 ≤ x) (x1 : x ≤ M 10 6) (hm : M 10 6 ≤ 900) (v0 : 12 < v) (hL : LV M v) (he : ∀ N f, rdT (M 11) (M 12) x u = .error f → ErC N f → (∀ a j, ¬ tvF a j v → N a j = M a j) → Q (0, N)) (hk : ∀ N τ, rdT (M 11) (M 12) x u = .ok τ → WV τ.1 → (N 10 11 = 0 ∧ N 10 12 = -1) → VD N v τ.1 τ.2.1 → (∀ a j, ¬ tvF a j v → N a j = M a j) → Q (1, N)) : Tot (f_X9_takes 10 x v M) Q := by
  unfold f_X9_takes f_X8_clear
  rw [t_nn, t_callv, t_putf, t_putf, t_putf, t_putf, t_putf, t_putf, t_some, t_nn, t_callv]
  refine ⟨by omega, by omega, by omega, by omega, by omega, by omega, by omega, by omega, ?_⟩
  have z : ∀ a j, ¬ (a = v ∧ 0 ≤ j ∧ j < 6) → upd2 (upd2 (upd2 (upd2 (upd2 (upd2 M v 0 (-1)) v 1 (-1)) v 2 0) v 3 0) v 4 0) v 5 0 a j = M a j := fun a j hh => by rw [upd2_at, if_neg (by omega), upd2_at, if_neg (by omega), upd2_at, if_neg (by omega), upd2_at, if_neg (by omega), upd2_at, if_neg (by omega), upd2_at, if_neg (by omega)]
  have z0 : upd2 (upd2 (upd2 (upd2 (upd2 (upd2 M v 0 (-1)) v 1 (-1)) v 2 0) v 3 0) v 4 0) v 5 0 v 0 = -1 := by rw [upd2_at, if_neg (by omega), upd2_at, if_neg (by omega), upd2_at, if_neg (by omega), upd2_at, if_neg (by omega), upd2_at, if_neg (by omega), upd2_at, if_pos ⟨rfl, rfl⟩]
  have z1 : upd2 (upd2 (upd2 (upd2 (upd2 (upd2 M v 0 (-1)) v 1 (-1)) v 2 0) v 3 0) v 4 0) v 5 0 v 1 = -1 := by rw [upd2_at, if_neg (by omega), upd2_at, if_neg (by omega), upd2_at, if_neg (by omega), upd2_at, if_neg (by omega), upd2_at, if_pos ⟨rfl, rfl⟩]
  have z2 : upd2 (upd2 (upd2 (upd2 (upd2 (upd2 M v 0 (-1)) v 1 (-1)) v 2 0) v 3 0) v 4 0) v 5 0 v 2 = 0 := by rw [upd2_at, if_neg (by omega), upd2_at, if_neg (by omega), upd2_at, if_neg (by omega), upd2_at, if_pos ⟨rfl, rfl⟩]
  have z3 : upd2 (upd2 (upd2 (upd2 (upd2 (upd2 M v 0 (-1)) v 1 (-1)) v 2 0) v 3 0) v 4 0) v 5 0 v 3 = 0 := by rw [upd2_at, if_neg (by omega), upd2_at, if_neg (by omega), upd2_at, if_pos ⟨rfl, rfl⟩]
  have z4 : upd2 (upd2 (upd2 (upd2 (upd2 (upd2 M v 0 (-1)) v 1 (-1)) v 2 0) v 3 0) v 4 0) v 5 0 v 4 = 0 := by rw [upd2_at, if_neg (by omega), upd2_at, if_pos ⟨rfl, rfl⟩]
  have z5 : upd2 (upd2 (upd2 (upd2 (upd2 (upd2 M v 0 (-1)) v 1 (-1)) v 2 0) v 3 0) v 4 0) v 5 0 v 5 = 0 := by rw [upd2_at, if_pos ⟨rfl, rfl⟩]
  generalize upd2 (upd2 (upd2 (upd2 (upd2 (upd2 M v 0 (-1)) v 1 (-1)) v 2 0) v 3 0) v 4 0) v 5 0 = Z at z z0 z1 z2 z3 z4 z5 ⊢
  obtain ⟨p1, p2, p3, p4, p5⟩ := h
  have zB : Z 11 = M 11 := funext (fun j => z _ _ (by omega))
  have zK : Z 12 = M 12 := funext (fun j => z _ _ (by omega))
  refine begin_e (x := x) ⟨by rw [z _ _ (by omega)]; exact p1, by rw [z _ _ (by omega)]; exact p2, by rw [z _ _ (by omega)]; exact p3, by rw [zB]; exact p4, by rw [zK]; exact p5⟩ x0 (by rw [z _ _ (by omega)]; exact x1) (by rw [z _ _ (by omega)]; exact hm) (fun Y kY y2 y11 y12 tY => ?_)
  rw [zB, zK] at tY
  have yk : ∀ a j, ¬ (a = 10 ∧ 2 ≤ j ∧ j ≠ 6) → Y a j = Z a j := fun a j hh => kY a j (fun q => by have : a = 10 ∧ (j = 3 ∨ j = 4 ∨ j = 5 ∨ j = 7 ∨ j = 8 ∨ j = 9 ∨ j = 10) := q; omega) (by omega)
  have yM : ∀ a j, ¬ tvF a j v → Y a j = M a j := fun a j hh => by rw [yk _ _ (fun q => hh (.inl q)), z _ _ (fun q => hh (.inr (by unfold PV; omega)))]
  have nt : ∀ a j, ¬ (a = 10 ∧ 2 ≤ j ∧ j ≠ 6) → ¬ (v ≤ a ∧ a ≤ v + 25) → ¬ tvF a j v := fun a j q1 q2 q => by
    rcases q with q | q
    · exact q1 q
    · have := pv_o q; omega
  obtain ⟨g1, g2, g3, g4⟩ := rn_b (C := blB) (B := M 11) (n := x) (p := 0) x0
  have cY : CT Y (M 11) (M 12) x (rnE blB (M 11) x 0) := by
    refine ⟨⟨⟨?_, ?_, ?_, ?_, ?_⟩, y2, x0, by omega⟩, ⟨?_, ?_⟩, tY, ⟨y11, y12⟩, g1, g2⟩
    · rw [yM _ _ (nt _ _ (by omega) (by omega))]; exact p1
    · rw [yM _ _ (nt _ _ (by omega) (by omega))]; exact p2
    · rw [yM _ _ (nt _ _ (by omega) (by omega))]; exact p3
    · rw [yM _ _ (nt _ _ (by omega) (by omega))]; exact p4
    · rw [yM _ _ (nt _ _ (by omega) (by omega))]; exact p5
    · exact funext (fun j => yM _ _ (nt _ _ (by omega) (by omega)))
    · exact funext (fun j => yM _ _ (nt _ _ (by omega) (by omega)))
  have q3 : plW u 3 = 0 := rfl
  have q4 : plW u 4 = 0 := rfl
  have q5 : plW u 5 = 0 := rfl
  have vY : VC Y v (σ0 u) := by
    refine ⟨lv_p hL (fun o j o0 o1 hp => by rw [yk _ _ (by omega), z _ _ (fun q => hp (by unfold PV; omega))]), ⟨?_, ?_, ?_, ?_, ?_, ?_⟩, fun r k r0 r1 => ?_, fun r k r0 r1 => ?_, fun k r0 r1 => ?_, fun k r0 r1 => ?_, fun k r0 r1 => ?_⟩
    · rw [yk _ _ (by omega), z0]; rfl
    · rw [yk _ _ (by omega), z1]; rfl
    · rw [yk _ _ (by omega), z2]; rfl
    · rw [yk _ _ (by omega), z3]; rfl
    · rw [yk _ _ (by omega), z4]; rfl
    · rw [yk _ _ (by omega), z5]; rfl
    · have r1 : r < plW u 3 := r1; omega
    · have r1 : r < plW u 5 := r1; omega
    · have r1 : k < plW u 3 := r1; omega
    · have r1 : k < plW u 4 := r1; omega
    · have r1 : k < plW u 5 := r1; omega
  refine lpIM (fun p X => 0 ≤ p ∧ p ≤ 900 ∧ FrV Y X v ∧ ∃ σ s, ∃ k : Nat, p ≤ s ∧ CT X (M 11) (M 12) x s ∧ VC X v σ ∧ WV σ.1 ∧ TD σ ∧ x - s < k ∧ loT (M 11) (M 12) x k σ s = rdT (M 11) (M 12) x u) (fun p _ => (900 - p).toNat) ?_ (by unfold KF; omega) ⟨by omega, by omega, fun _ _ _ _ => rfl, σ0 u, rnE blB (M 11) x 0, (x - rnE blB (M 11) x 0).toNat + 1, g1, cY, vY, wv_pl u, ⟨fun _ => rfl, fun _ => rfl⟩, by omega, rfl⟩
  rintro fu p X ⟨i0, i1, i2, σ, s, k, i3, i4, i5, i6, i7, i8, i9⟩ ih
  have fX : ∀ a j, ¬ tvF a j v → X a j = M a j := fun a j hh => by rw [i2 a j (fun q => hh (.inl (by have : a = 10 ∧ (j = 3 ∨ j = 4 ∨ j = 5 ∨ 7 ≤ j ∧ j ≤ 12) := q; omega))) (fun q => hh (.inr q)), yM a j hh]
  have fin : x ≤ s → Tot (callv (f_X8_complete v X) (fun M13 => retzm 1 M13)) Q := fun hs => by
    obtain ⟨k, rfl⟩ : ∃ q, k = q + 1 := ⟨k - 1, by have := i4.2.2.2.2.2; omega⟩
    have e : loT (M 11) (M 12) x (k + 1) σ s = .ok σ := by show (if x ≤ s then _ else _) = _; rw [if_pos hs]
    rw [e] at i9
    rw [t_callv]
    refine complete_e i5 v0 i6 i7 (fun N hN fN => ?_)
    rw [t_retzm]
    refine ⟨by omega, hk N σ i9.symm i6 ⟨?_, ?_⟩ hN (fun a j hh => by rw [fN a j (fun q => hh (.inr (by unfold PV; omega))), fX a j hh])⟩
    · rw [fN _ _ (by omega)]; exact i4.2.2.2.1.1
    · rw [fN _ _ (by omega)]; exact i4.2.2.2.1.2
  unfold f_X9_takes_L11
  rw [t_ite]
  refine ⟨fun c => fin (by omega), fun c => ?_⟩
  rw [t_nn, t_callp, isAtEnd_e i4, t_some, t_ite]
  refine ⟨by omega, fun d => ?_, fun d => ?_⟩
  · refine fin ?_
    by_cases e : x ≤ s
    · exact e
    · rw [if_neg e] at d; exact absurd rfl d
  have hs : ¬ x ≤ s := fun e => by rw [if_pos e] at d; omega
  obtain ⟨k, rfl⟩ : ∃ q, k = q + 1 := ⟨k - 1, by omega⟩
  have e : loT (M 11) (M 12) x (k + 1) σ s = bnd (ptT (M 11) (M 12) x σ s) fun p => loT (M 11) (M 12) x k p.1 p.2 := by show (if x ≤ s then _ else _) = _; rw [if_neg hs]
  rw [e] at i9
  rw [t_call]
  refine t_mono (readPart_e i4 i5 v0 i6) (fun q hq => ?_)
  rcases hq with ⟨f, r1, r2, r3, r4⟩ | ⟨τ, t, r1, r2, r3, r4, r5, r6⟩
  · rw [r1, bnd_e] at i9
    rw [t_ite, r2, t_retzm]
    refine ⟨fun z => absurd rfl z, fun _ => ⟨by omega, he q.2 f i9.symm r3 (fun a j hh => ?_)⟩⟩
    rw [r4 a j (fun q => hh (.inl (by have : a = 10 ∧ (j = 3 ∨ j = 4 ∨ j = 5 ∨ 7 ≤ j ∧ j ≤ 12) := q; omega))) (fun q => hh (.inr q)), fX a j hh]
  · rw [r1, bnd_o] at i9
    rw [t_ite, r2, w32_s (by omega) (by omega)]
    refine ⟨fun _ => ?_, fun z => absurd (by omega) z⟩
    have nb := (nx_b (B := M 11) i4.2.2.2.2.2).2.2 (by omega)
    exact ih _ _ (by omega) ⟨by omega, by omega, frv_t i2 r6, τ, t, k, by omega, r4, r5, ptT_v r1 i6, ptT_t r1 i6.1.1.1 i6.1.2.2.1 i7, by omega, i9⟩
