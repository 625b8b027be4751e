/-! the class's days -/
def tdF (a j d : Int) : Prop := (a = 10 ∧ 2 ≤ j ∧ j ≠ 6) ∨ PD (a - d) j
theorem dl_nil {B K : Int → Int} {n : Int} {m : Nms} {k : Nat} {σ : DS} {s : Int} (hs : n ≤ s) (hO : σ.2.1 = []) : dlT B K n m (k + 1) σ s = .ok σ := by
  unfold dlT
  rw [if_pos hs, hO]
theorem dl_cons {B K : Int → Int} {n : Int} {m : Nms} {k : Nat} {σ : DS} {s o : Int} {O : List Int} (hs : n ≤ s) (hO : σ.2.1 = o :: O) : dlT B K n m (k + 1) σ s = .error (flT B n s 2) := by
  unfold dlT
  rw [if_pos hs, hO]
theorem takesD_e {M : Mem} {x v d : Int} {m : Nms} {u : Int → Int} {Q : Int × Mem → Prop} (h : M 1 1 = 10 ∧ M 10 0 = 11 ∧ M 10 1 = 12 ∧ M 11 (-1) = 900 ∧ M 12 (-1) = 30) (x0 : 0 ≤ x) (x1 : x ≤ M 10 6) (hm : M 10 6 ≤ 900) (hvd : VDa v d) (hL : LDy M d) (hV : NV M v m) (he : ∀ N f, rdD (M 11) (M 12) x m u = .error f → ErC N f → (∀ a j, ¬ tdF a j d → N a j = M a j) → Q (0, N)) (hk : ∀ N σ, rdD (M 11) (M 12) x m u = .ok σ → WDs m σ → σ.2.1 = [] → (N 10 11 = 0 ∧ N 10 12 = -1) → DC N d σ → N d 0 = 1 → (∀ a j, ¬ tdF a j d → N a j = M a j) → Q (1, N)) : Tot (f_X1_takes 10 x v d M) Q := by
  have hvd' := hvd
  unfold VDa at hvd'
  unfold f_X1_takes f_X0_clear
  rw [t_nn, t_callv, t_putz, t_putf, t_putf, t_some, t_nn, t_callv]
  refine ⟨by omega, by omega, by omega, by omega, by omega, by omega, ?_⟩
  have z : ∀ a j, ¬ (a = d ∧ 0 ≤ j ∧ j < 3) → upd2 (upd2 (upd2 M d 0 0) d 1 0) d 2 0 a j = M a j := fun a j hh => by rw [upd2_at, if_neg (by omega), upd2_at, if_neg (by omega), upd2_at, if_neg (by omega)]
  have z1 : upd2 (upd2 (upd2 M d 0 0) d 1 0) d 2 0 d 1 = 0 := by rw [upd2_at, if_neg (by omega), upd2_at, if_pos ⟨rfl, rfl⟩]
  have z2 : upd2 (upd2 (upd2 M d 0 0) d 1 0) d 2 0 d 2 = 0 := by rw [upd2_at, if_pos ⟨rfl, rfl⟩]
  generalize upd2 (upd2 (upd2 M d 0 0) d 1 0) d 2 0 = Z at z z1 z2 ⊢
  obtain ⟨p1, p2, p3, p4, p5⟩ := h
  have zB : Z 11 = M 11 := funext (fun j => z _ _ (by omega))
  have zK : Z 12 = M 12 := funext (fun j => z _ _ (by omega))
  refine begin_e (x := x) ⟨by rw [z _ _ (by omega)]; exact p1, by rw [z _ _ (by omega)]; exact p2, by rw [z _ _ (by omega)]; exact p3, by rw [zB]; exact p4, by rw [zK]; exact p5⟩ x0 (by rw [z _ _ (by omega)]; exact x1) (by rw [z _ _ (by omega)]; exact hm) (fun Y kY y2 y11 y12 tY => ?_)
  rw [zB, zK] at tY
  have yk : ∀ a j, ¬ (a = 10 ∧ 2 ≤ j ∧ j ≠ 6) → Y a j = Z a j := fun a j hh => kY a j (fun q => by have : a = 10 ∧ (j = 3 ∨ j = 4 ∨ j = 5 ∨ j = 7 ∨ j = 8 ∨ j = 9 ∨ j = 10) := q; omega) (by omega)
  have yM : ∀ a j, ¬ tdF a j d → Y a j = M a j := fun a j hh => by rw [yk _ _ (fun q => hh (.inl q)), z _ _ (fun q => hh (.inr (by unfold PD; omega)))]
  have nt : ∀ a j, ¬ (a = 10 ∧ 2 ≤ j ∧ j ≠ 6) → (a < d ∨ d + 7 < a ∨ j < 0 ∨ (a = d ∧ 3 ≤ j)) → ¬ tdF a j d := fun a j q1 q2 q => by
    rcases q with q | q
    · exact q1 q
    · unfold PD at q; omega
  obtain ⟨g1, g2, g3, g4⟩ := rn_b (C := blB) (B := M 11) (n := x) (p := 0) x0
  have cY : CT Y (M 11) (M 12) x (rnE blB (M 11) x 0) := by
    refine ⟨⟨⟨?_, ?_, ?_, ?_, ?_⟩, y2, x0, by omega⟩, ⟨?_, ?_⟩, tY, ⟨y11, y12⟩, g1, g2⟩
    · rw [yM _ _ (nt _ _ (by omega) (by omega))]; exact p1
    · rw [yM _ _ (nt _ _ (by omega) (by omega))]; exact p2
    · rw [yM _ _ (nt _ _ (by omega) (by omega))]; exact p3
    · rw [yM _ _ (nt _ _ (by omega) (by omega))]; exact p4
    · rw [yM _ _ (nt _ _ (by omega) (by omega))]; exact p5
    · exact funext (fun j => yM _ _ (nt _ _ (by omega) (by omega)))
    · exact funext (fun j => yM _ _ (nt _ _ (by omega) (by omega)))
  have d9 : (δ0 u).1 9 = 0 := by show upd1 u 9 0 9 = 0; rw [upd1_at, if_pos rfl]
  have dcY : DC Y d (δ0 u) := by
    refine ⟨ldy_p hL (fun o j o0 o1 hp => by rw [yk _ _ (by omega), z _ _ (fun q => hp (by unfold PD; omega))]), ⟨?_, ?_⟩, ?_, fun k k0 k1 => by omega⟩
    · rw [yk _ _ (by omega), z1]; rfl
    · rw [yk _ _ (by omega), z2, d9]
    · rw [d9]; rfl
  refine lpIM (fun p X => 0 ≤ p ∧ FrD Y X d ∧ ∃ σ s, ∃ k : Nat, p = σ.1 9 ∧ CT X (M 11) (M 12) x s ∧ DC X d σ ∧ WDs m σ ∧ x - s < k ∧ dlT (M 11) (M 12) x m k σ s = rdD (M 11) (M 12) x m u) (fun p _ => (61 - p).toNat) ?_ (by unfold KF; omega) ⟨by omega, fun _ _ _ _ => rfl, δ0 u, rnE blB (M 11) x 0, (x - rnE blB (M 11) x 0).toNat + 1, d9.symm, cY, dcY, wds_0, by omega, rfl⟩
  rintro fu p X ⟨i0, i2, σ, s, k, i3, i4, i5, i6, i8, i9⟩ ih
  have fX : ∀ a j, ¬ tdF a j d → X a j = M a j := fun a j hh => by rw [i2 a j (fun q => hh (.inl (by have : a = 10 ∧ (j = 3 ∨ j = 4 ∨ j = 5 ∨ 7 ≤ j ∧ j ≤ 12) := q; omega))) (fun q => hh (.inr q)), yM a j hh]
  have h60 : 0 ≤ σ.1 9 ∧ σ.1 9 ≤ 60 := by obtain ⟨⟨a1, a2, a3, a4, a5⟩, _⟩ := i6; omega
  unfold f_X1_takes_L12
  rw [t_ite]
  refine ⟨fun c => by omega, fun c => ?_⟩
  rw [t_nn, t_callp, isAtEnd_e i4, t_some, t_ite]
  refine ⟨by omega, fun e => ?_, fun e => ?_⟩
  · have hs : x ≤ s := by
      by_cases q : x ≤ s
      · exact q
      · rw [if_neg q] at e; exact absurd rfl e
    clear e
    obtain ⟨k, rfl⟩ : ∃ q, k = q + 1 := ⟨k - 1, by have := i4.2.2.2.2.2; omega⟩
    rw [t_callp]
    refine t_mono (innermost_e i5 (by omega) h60) (fun w hw => ?_)
    rw [t_jn, t_jn, t_ite]
    rcases hw with ⟨w1, w2⟩ | ⟨O, w1⟩
    · rw [dl_nil hs w1] at i9
      refine ⟨fun _ => ?_, fun q => absurd w2 q⟩
      have y : ∀ a j, ¬ (a = d ∧ j = 0) → upd2 X d 0 1 a j = X a j := fun a j hh => by rw [upd2_at, if_neg hh]
      rw [t_putz, t_getf, upd2_at, if_pos ⟨rfl, rfl⟩, t_retzm]
      obtain ⟨c1, ⟨c2, c3⟩, c4, c5⟩ := i5
      refine ⟨by omega, by omega, by omega, by omega, hk _ σ i9.symm i6 w1 ⟨?_, ?_⟩ ⟨ldy_p c1 (fun o j o0 o1 hp => y _ _ (fun q => hp (by unfold PD; omega))), ⟨?_, ?_⟩, ?_, fun j j0 j1 => ⟨lnB_k (c5 j j0 j1).1 (fun i q1 q2 => y _ _ (by omega)), fun q => by rw [y _ _ (by omega)]; exact (c5 j j0 j1).2 q⟩⟩ ?_ (fun a j hh => by rw [y _ _ (fun q => hh (.inr (by unfold PD; omega))), fX a j hh])⟩
      · rw [y _ _ (by omega)]; exact i4.2.2.2.1.1
      · rw [y _ _ (by omega)]; exact i4.2.2.2.1.2
      · rw [y _ _ (by omega)]; exact c2
      · rw [y _ _ (by omega)]; exact c3
      · rw [c4]; exact sel_congr _ _ (fun q q0 q1 => by unfold opnC; rw [y _ _ (by omega), y _ _ (by omega)])
      · rw [upd2_at, if_pos ⟨rfl, rfl⟩]
    · rw [dl_cons hs w1] at i9
      have wm : w ≠ -1 := by
        have := i6.2.2.1 w (by rw [w1]; exact List.mem_cons_self ..)
        omega
      refine ⟨fun q => absurd q wm, fun _ => ?_⟩
      rw [t_call]
      refine blameC_e i4 2 (fun N eN fN => ?_)
      dsimp only
      have y : ∀ a j, ¬ (a = d ∧ j = 0) → upd2 N d 0 0 a j = N a j := fun a j hh => by rw [upd2_at, if_neg hh]
      rw [t_ite, t_putz, t_getf, upd2_at, if_pos ⟨rfl, rfl⟩, t_retzm]
      refine ⟨fun _ => ⟨by omega, by omega, by omega, by omega, he _ _ i9.symm ⟨?_, ?_⟩ (fun a j hh => ?_)⟩, fun q => absurd rfl q⟩
      · rw [y _ _ (by omega)]; exact eN.1
      · rw [y _ _ (by omega)]; exact eN.2
      · rw [y _ _ (fun q => hh (.inr (by unfold PD; omega))), fN a j (fun q => hh (.inl (by have : a = 10 ∧ (j = 3 ∨ j = 4 ∨ j = 5 ∨ 7 ≤ j ∧ j ≤ 12) := q; omega))), fX a j hh]
  have hs : ¬ x ≤ s := fun q => by rw [if_pos q] at e; omega
  clear e
  obtain ⟨k, rfl⟩ : ∃ q, k = q + 1 := ⟨k - 1, by omega⟩
  have el : dlT (M 11) (M 12) x m (k + 1) σ s = bnd (dsT (M 11) (M 12) x m σ s) fun p => dlT (M 11) (M 12) x m k p.1 p.2 := by show (if x ≤ s then _ else _) = _; rw [if_neg hs]
  rw [el] at i9
  have vX : NV X v m := nv_k hV (fun a j q1 q2 => fX a j (nt a j (by omega) (by omega)))
  rw [t_callp, isAt_e i4 (by omega), t_some]
  refine t_jvm (fun a N => StE X (M 11) (M 12) x s d (dsT (M 11) (M 12) x m σ s) (a, N)) (fun a N hN => ?_) (fun J hJ => ?_)
  rotate_left
  · by_cases c28 : tkY (M 11) (M 12) x s = 28
    · rw [if_pos c28, if_neg (by omega), t_call]
      exact t_mono (readEnd_e i4 i5 i6 hvd'.2 c28) (fun q hq => hJ q.1 q.2 hq)
    · rw [if_neg c28, if_pos rfl, t_call]
      exact t_mono (readStep_e i4 i5 vX hvd i6 c28) (fun q hq => hJ q.1 q.2 hq)
  rcases hN with ⟨f, r1, r2, r3, r4⟩ | ⟨τ, t, r1, r2, r3, r4, r5, r6⟩
  · have r2 : a = 0 := r2
    have r4 : FrD X N d := r4
    rw [r1, bnd_e] at i9
    rw [r2, t_ite, t_retzm]
    refine ⟨fun q => absurd rfl q, fun _ => ⟨by omega, he N f i9.symm r3 (fun a j hh => ?_)⟩⟩
    rw [r4 a j (fun q => hh (.inl (by have : a = 10 ∧ (j = 3 ∨ j = 4 ∨ j = 5 ∨ 7 ≤ j ∧ j ≤ 12) := q; omega))) (fun q => hh (.inr q)), fX a j hh]
  · have r2 : a = 1 := r2
    rw [r1, bnd_o] at i9
    rw [r2, t_ite, w32_s (by omega) (by omega)]
    refine ⟨fun _ => ?_, fun q => absurd (by omega) q⟩
    have nb := (nx_b (B := M 11) i4.2.2.2.2.2).2.2 (by omega)
    have τ9 : τ.1 9 = σ.1 9 + 1 := by
      by_cases c28 : tkY (M 11) (M 12) x s = 28
      · obtain ⟨o, O, b1, b2, b3⟩ := dsT_end r1 c28
        have b3 : τ = (lnk (addD σ.1 (25, 0, 0, 0, 0)) (σ.1 9) o, O, σ.2.2) := b3
        have oo := i6.2.2.1 o (by rw [b1]; exact List.mem_cons_self ..)
        rw [b3]; show lnk (addD σ.1 (25, 0, 0, 0, 0)) (σ.1 9) o 9 = _
        rw [lnk_9 h60.1 oo.1, addD_9]
      · obtain ⟨q1, q, b1, b2, b3, b4, b5, b6, b7⟩ := dsT_step r1 c28
        have b7 : τ = (addD σ.1 q.1, if tkY (M 11) (M 12) x s = 23 ∨ tkY (M 11) (M 12) x s = 27 then σ.1 9 :: σ.2.1 else σ.2.1, σ.2.2 + 1) := b7
        rw [b7]; show addD σ.1 q.1 9 = _
        rw [addD_9]
    have wτ := wds_s vX.2.2.2.2.1.1 vX.2.2.2.2.2.1 r1 i6
    exact ih _ _ (by omega) ⟨by omega, frd_t i2 r6, τ, t, k, by omega, r4, r5, wτ, by omega, i9⟩
theorem lnOK_i {N : Mem} {d k : Int} {W : Int → Int} {σ : DS} (hO : σ.2.1 = []) (h9 : σ.1 9 ≤ 60) (h : DC N d σ) (k0 : 0 ≤ k) (k1 : k < σ.1 9) : lnOK N d (wD W σ.1) k := by
  obtain ⟨l1, l2⟩ := h.2.2.2 k k0 k1
  have s : ∀ i, 0 ≤ i → i < 6 → stp (wD W σ.1) k i = stp σ.1 k i := fun i i0 i1 => wD_s k0 (by omega) i0 i1
  unfold lnOK
  rw [s 0 (by omega) (by omega), s 1 (by omega) (by omega), s 2 (by omega) (by omega), s 3 (by omega) (by omega), s 4 (by omega) (by omega), s 5 (by omega) (by omega)]
  obtain ⟨b1, b2, b3, b4, b5, b6, b7, b8, b9⟩ := l1
  refine ⟨b1, b2, b3, b4, b5, b6, b7, b8, b9, fun q => l2 ?_⟩
  rw [hO]
  rcases q with q | q | q
  · exact .inr ⟨.inl q, fun z => nomatch z⟩
  · exact .inl q
  · exact .inr ⟨.inr q, fun z => nomatch z⟩
theorem c_days {M : Mem} {v d x : Int} {m : Nms} {u W : Int → Int} {Q : Int × Mem → Prop} (h : CV M v d) (hm : 0 ≤ M 10 6 ∧ M 10 6 ≤ 900) (hV : NV M v m) (hb : ¬ (0 ≤ x ∧ x ≤ M 10 6 ∧ x ≤ 300) → Q (-1, upd2 M 1 12 1)) (he : 0 ≤ x ∧ x ≤ M 10 6 ∧ x ≤ 300 → ∀ N f, rdD (M 11) (M 12) x m u = .error f → ErC N f → N 10 6 = 0 → N 1 12 = 9 → (∀ a j, ¬ (a = 10 ∧ 2 ≤ j) → ¬ (a = 1 ∧ j = 12) → ¬ PD (a - (151 - d)) j → N a j = M a j) → Q (-1, N)) (hk : 0 ≤ x ∧ x ≤ M 10 6 ∧ x ≤ 300 → ∀ N σ, rdD (M 11) (M 12) x m u = .ok σ → WDs m σ → σ.2.1 = [] → (N 10 11 = 0 ∧ N 10 12 = -1) → N 10 6 = 0 → N 1 12 = 0 → N 1 9 = d → N 13 1 = 151 - d → LDy N (151 - d) → RDy N (151 - d) (wD W σ.1) → (∀ a j, ¬ (a = 10 ∧ 2 ≤ j) → ¬ (a = 1 ∧ (j = 9 ∨ j = 12)) → ¬ (a = 13 ∧ j = 1) → ¬ PD (a - (151 - d)) j → N a j = M a j) → Q (σ.2.2, N)) : Tot (f_X11_days 1 x M) Q := by
  obtain ⟨hv, hd, hT, ⟨p2, p8, p9, p13, p131, p132⟩, hL, hL2, hD, hD2, hS⟩ := h
  unfold f_X11_days
  rw [t_getf, hT.1, t_getf, t_callp, min_e, t_some, t_callp, isWithin_e, t_some, t_ite]
  have mn : (if (300 : Int) < M 10 6 then (300 : Int) else M 10 6) ≤ M 10 6 ∧ (if (300 : Int) < M 10 6 then (300 : Int) else M 10 6) ≤ 300 ∧ ((if (300 : Int) < M 10 6 then (300 : Int) else M 10 6) = 300 ∨ (if (300 : Int) < M 10 6 then (300 : Int) else M 10 6) = M 10 6) := by
    by_cases c : (300 : Int) < M 10 6
    · rw [if_pos c]; omega
    · rw [if_neg c]; omega
  generalize (if (300 : Int) < M 10 6 then (300 : Int) else M 10 6) = mm at mn ⊢
  refine ⟨by omega, by omega, fun c => ?_, fun c => ?_⟩
  rotate_left
  · have nx : ¬ (0 ≤ x ∧ x ≤ mm) := fun z => by rw [if_pos z] at c; omega
    rw [t_call, refuse_e, t_some, t_some]
    exact hb (by omega)
  have ok : 0 ≤ x ∧ x ≤ M 10 6 ∧ x ≤ 300 := by
    by_cases z : 0 ≤ x ∧ x ≤ mm
    · omega
    · rw [if_neg z] at c; exact absurd rfl c
  clear c
  rw [t_getf, hT.1, t_getf, p2, t_getf, p13, t_getf, p9, t_call]
  refine ⟨by omega, by omega, by omega, by omega, ?_⟩
  have nt : ∀ a j, ¬ (a = 10 ∧ 2 ≤ j ∧ j ≠ 6) → (a < 151 - d ∨ 151 - d + 7 < a ∨ j < 0) → ¬ tdF a j (151 - d) := fun a j q1 q2 q => by
    rcases q with q | q
    · exact q1 q
    · unfold PD at q; omega
  refine takesD_e (u := u) (m := m) hT ok.1 ok.2.1 hm.2 ⟨hv, by omega⟩ hD2 hV (fun N f e1 e2 e3 => ?_) (fun N σ e1 e2 e3 e4 e5 e6 e7 => ?_)
  · dsimp only
    rw [t_getf, e3 1 1 (nt _ _ (by omega) (by omega)), hT.1, t_putf, t_ite]
    refine ⟨by omega, by omega, fun q => absurd rfl q, fun _ => ?_⟩
    rw [t_call, refuse_e, t_some, t_some]
    dsimp only
    have z : ∀ a j, ¬ (a = 10 ∧ j = 6) → ¬ (a = 1 ∧ j = 12) → upd2 (upd2 N 10 6 0) 1 12 9 a j = N a j := fun a j q1 q2 => by rw [upd2_at, if_neg q2, upd2_at, if_neg q1]
    refine he ok _ f e1 ⟨?_, ?_⟩ ?_ ?_ (fun a j q1 q2 q3 => ?_)
    · rw [z _ _ (by omega) (by omega)]; exact e2.1
    · rw [z _ _ (by omega) (by omega)]; exact e2.2
    · rw [upd2_at, if_neg (by omega), upd2_at, if_pos ⟨rfl, rfl⟩]
    · rw [upd2_at, if_pos ⟨rfl, rfl⟩]
    · rw [z _ _ (by omega) q2, e3 _ _ (fun q => by
        rcases q with q | q
        · exact q1 ⟨q.1, q.2.1⟩
        · exact q3 q)]
  · dsimp only
    have nM : ∀ a j, ¬ (a = 10 ∧ 2 ≤ j ∧ j ≠ 6) → (a < 151 - d ∨ 151 - d + 7 < a ∨ j < 0) → N a j = M a j := fun a j q1 q2 => e7 _ _ (nt _ _ q1 q2)
    rw [t_getf, nM 1 1 (by omega) (by omega), hT.1, t_putf, t_ite]
    refine ⟨by omega, by omega, fun _ => ?_, fun q => absurd (by omega) q⟩
    have z : ∀ a j, ¬ (a = 10 ∧ j = 6) → upd2 N 10 6 0 a j = N a j := fun a j q1 => by rw [upd2_at, if_neg q1]
    have z6 : upd2 N 10 6 0 10 6 = 0 := by rw [upd2_at, if_pos ⟨rfl, rfl⟩]
    generalize upd2 N 10 6 0 = Z at z z6 ⊢
    have zM : ∀ a j, ¬ (a = 10 ∧ 2 ≤ j) → (a < 151 - d ∨ 151 - d + 7 < a ∨ j < 0) → Z a j = M a j := fun a j q1 q2 => by rw [z _ _ (by omega), nM _ _ (by omega) q2]
    rw [t_getf, zM 1 2 (by omega) (by omega), p2, t_getf, zM 13 1 (by omega) (by omega), p131, t_getf, zM 1 2 (by omega) (by omega), p2, t_getf, zM 1 9 (by omega) (by omega), p9, t_putf, t_putf]
    have y : ∀ a j, ¬ (a = 13 ∧ j = 1) → ¬ (a = 1 ∧ j = 9) → upd2 (upd2 Z 13 1 (151 - d)) 1 9 d a j = Z a j := fun a j q1 q2 => by rw [upd2_at, if_neg q2, upd2_at, if_neg q1]
    have y13 : upd2 (upd2 Z 13 1 (151 - d)) 1 9 d 13 1 = 151 - d := by rw [upd2_at, if_neg (by omega), upd2_at, if_pos ⟨rfl, rfl⟩]
    have y9 : upd2 (upd2 Z 13 1 (151 - d)) 1 9 d 1 9 = d := by rw [upd2_at, if_pos ⟨rfl, rfl⟩]
    generalize upd2 (upd2 Z 13 1 (151 - d)) 1 9 d = Y at y y13 y9 ⊢
    have yN : ∀ a j, ¬ (a = 13 ∧ j = 1) → ¬ (a = 1 ∧ j = 9) → ¬ (a = 10 ∧ j = 6) → Y a j = N a j := fun a j q1 q2 q3 => by rw [y _ _ q1 q2, z _ _ q3]
    have y12 : Y 1 2 = 13 := by rw [y _ _ (by omega) (by omega), zM _ _ (by omega) (by omega)]; exact p2
    have yd1 : Y (151 - d) 1 = σ.2.2 := by rw [yN _ _ (by omega) (by omega) (by omega)]; exact e5.2.1.1
    rw [t_getf, y12, t_getf, y13, t_getf, yd1, t_call, answer_e, t_some, t_some]
    dsimp only
    have x : ∀ a j, ¬ (a = 1 ∧ j = 12) → upd2 Y 1 12 0 a j = Y a j := fun a j q1 => by rw [upd2_at, if_neg q1]
    have xN : ∀ a j, ¬ (a = 13 ∧ j = 1) → ¬ (a = 1 ∧ (j = 9 ∨ j = 12)) → ¬ (a = 10 ∧ j = 6) → upd2 Y 1 12 0 a j = N a j := fun a j q1 q2 q3 => by rw [x _ _ (by omega), yN _ _ q1 (by omega) q3]
    have h60 : 0 ≤ σ.1 9 ∧ σ.1 9 ≤ 60 := by obtain ⟨⟨a1, a2, a3, a4, a5⟩, _⟩ := e2; omega
    have w9 : wD W σ.1 9 = σ.1 9 := by unfold wD; rw [if_pos (.inl rfl)]
    have dcX : DC (upd2 Y 1 12 0) (151 - d) σ := by
      obtain ⟨c1, ⟨c2, c3⟩, c4, c5⟩ := e5
      refine ⟨ldy_k c1 (fun a j q1 q2 => xN _ _ (by omega) (by omega) (by omega)), ⟨?_, ?_⟩, ?_, fun j j0 j1 => ⟨lnB_k (c5 j j0 j1).1 (fun i q1 q2 => xN _ _ (by omega) (by omega) (by omega)), fun q => by rw [xN _ _ (by omega) (by omega) (by omega)]; exact (c5 j j0 j1).2 q⟩⟩
      · rw [xN _ _ (by omega) (by omega) (by omega)]; exact c2
      · rw [xN _ _ (by omega) (by omega) (by omega)]; exact c3
      · rw [c4]; exact sel_congr _ _ (fun q q0 q1 => by unfold opnC; rw [xN _ _ (by omega) (by omega) (by omega), xN _ _ (by omega) (by omega) (by omega)])
    refine ⟨by omega, by omega, by omega, by omega, by omega, by omega, by omega, by omega, by omega, hk ok _ σ e1 e2 e3 ⟨?_, ?_⟩ ?_ ?_ ?_ ?_ dcX.1 ⟨?_, fun _ => ⟨?_, fun k k0 k1 => lnOK_i e3 h60.2 dcX k0 (by rw [w9] at k1; exact k1)⟩⟩ (fun a j q1 q2 q3 q4 => ?_)⟩
    · rw [xN _ _ (by omega) (by omega) (by omega)]; exact e4.1
    · rw [xN _ _ (by omega) (by omega) (by omega)]; exact e4.2
    · rw [x _ _ (by omega), y _ _ (by omega) (by omega)]; exact z6
    · rw [upd2_at, if_pos ⟨rfl, rfl⟩]
    · rw [x _ _ (by omega)]; exact y9
    · rw [x _ _ (by omega)]; exact y13
    · rw [xN _ _ (by omega) (by omega) (by omega), e6, w9, if_neg (by omega)]
    · rw [w9]; exact dcX.2.1.2
    · rw [xN _ _ (by omega) (by omega) (by omega), e7 _ _ (fun q => by
        rcases q with q | q
        · exact q1 ⟨q.1, q.2.1⟩
        · exact q4 q)]
