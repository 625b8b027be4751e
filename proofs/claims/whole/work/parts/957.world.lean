/-! whole worlds: new ones, taking one -/
theorem pv_r {o j : Int} (h : PV o j) : 0 ≤ o ∧ o ≤ 25 ∧ 0 ≤ j := by unfold PV at h; omega
theorem pd_r {o j : Int} (h : PD o j) : 0 ≤ o ∧ o ≤ 7 ∧ 0 ≤ j := by unfold PD at h; omega
theorem ps_r {o j : Int} (h : PS o j) : 0 ≤ o ∧ o ≤ 6 ∧ 0 ≤ j := by unfold PS at h; omega
theorem lv_p {M N : Mem} {v : Int} (h : LV M v) (k : ∀ o j, 0 ≤ o → o ≤ 25 → ¬ PV o j → N (v + o) j = M (v + o) j) : LV N v := by
  obtain ⟨⟨a1, a2, a3, a4, a5⟩, ⟨b1, b2, b3, b4, b5⟩, c⟩ := h
  have k0 : ∀ j, 8 ≤ j → N v j = M v j := fun j hj => by have := k 0 j (by omega) (by omega) (by unfold PV; omega); rwa [Int.add_zero] at this
  have kl : ∀ o, 0 ≤ o → o ≤ 25 → N (v + o) (-1) = M (v + o) (-1) := fun o h1 h2 => k o _ h1 h2 (by unfold PV; omega)
  refine ⟨⟨by rw [k0 _ (by omega)]; exact a1, by rw [k0 _ (by omega)]; exact a2, by rw [k0 _ (by omega)]; exact a3, by rw [k0 _ (by omega)]; exact a4, by rw [k0 _ (by omega)]; exact a5⟩, ⟨by rw [kl _ (by omega) (by omega)]; exact b1, by rw [kl _ (by omega) (by omega)]; exact b2, by rw [kl _ (by omega) (by omega)]; exact b3, by rw [kl _ (by omega) (by omega)]; exact b4, by rw [kl _ (by omega) (by omega)]; exact b5⟩, fun r r0 r1 => ⟨?_, ?_, ?_, ?_⟩⟩
  · rw [k 1 _ (by omega) (by omega) (by unfold PV; omega)]; exact (c r r0 r1).1
  · rw [show v + 2 + r = v + (2 + r) by omega, kl _ (by omega) (by omega), show v + (2 + r) = v + 2 + r by omega]; exact (c r r0 r1).2.1
  · rw [k 12 _ (by omega) (by omega) (by unfold PV; omega)]; exact (c r r0 r1).2.2.1
  · rw [show v + 13 + r = v + (13 + r) by omega, kl _ (by omega) (by omega), show v + (13 + r) = v + 13 + r by omega]; exact (c r r0 r1).2.2.2
theorem ldy_p {M N : Mem} {d : Int} (h : LDy M d) (k : ∀ o j, 0 ≤ o → o ≤ 7 → ¬ PD o j → N (d + o) j = M (d + o) j) : LDy N d := by
  obtain ⟨⟨a1, a2, a3, a4, a5, a6, a7⟩, b⟩ := h
  have k0 : ∀ j, 3 ≤ j → N d j = M d j := fun j hj => by have := k 0 j (by omega) (by omega) (by unfold PD; omega); rwa [Int.add_zero] at this
  refine ⟨⟨by rw [k0 _ (by omega)]; exact a1, by rw [k0 _ (by omega)]; exact a2, by rw [k0 _ (by omega)]; exact a3, by rw [k0 _ (by omega)]; exact a4, by rw [k0 _ (by omega)]; exact a5, by rw [k0 _ (by omega)]; exact a6, by rw [k0 _ (by omega)]; exact a7⟩, fun i i0 i1 => by rw [k i _ (by omega) (by omega) (by unfold PD; omega)]; exact b i i0 i1⟩
theorem lst_p {M N : Mem} {s : Int} (h : LSt M s) (k : ∀ o j, 0 ≤ o → o ≤ 6 → ¬ PS o j → N (s + o) j = M (s + o) j) : LSt N s := by
  obtain ⟨⟨a1, a2, a3, a4, a5, a6⟩, ⟨b1, b2, b3, b4, b5, b6⟩⟩ := h
  have k0 : ∀ j, 4 ≤ j → N s j = M s j := fun j hj => by have := k 0 j (by omega) (by omega) (by unfold PS; omega); rwa [Int.add_zero] at this
  have kl : ∀ o, 0 ≤ o → o ≤ 6 → N (s + o) (-1) = M (s + o) (-1) := fun o h1 h2 => k o _ h1 h2 (by unfold PS; omega)
  exact ⟨⟨by rw [k0 _ (by omega)]; exact a1, by rw [k0 _ (by omega)]; exact a2, by rw [k0 _ (by omega)]; exact a3, by rw [k0 _ (by omega)]; exact a4, by rw [k0 _ (by omega)]; exact a5, by rw [k0 _ (by omega)]; exact a6⟩, ⟨by rw [kl _ (by omega) (by omega)]; exact b1, by rw [kl _ (by omega) (by omega)]; exact b2, by rw [kl _ (by omega) (by omega)]; exact b3, by rw [kl _ (by omega) (by omega)]; exact b4, by rw [kl _ (by omega) (by omega)]; exact b5, by rw [kl _ (by omega) (by omega)]; exact b6⟩⟩
theorem rv_p {M N : Mem} {t s : Int} {w : Int → Int} (h : RV M s w) (h3 : w 3 ≤ 10) (h5 : w 5 ≤ 10) (k : ∀ o j, PV o j → N (t + o) j = M (s + o) j) : RV N t w := by
  obtain ⟨⟨a1, a2, a3, a4, a5, a6, a7⟩, b, c⟩ := h
  have k0 : ∀ j, 0 ≤ j → j < 8 → N t j = M s j := fun j h1 h2 => by have := k 0 j (by unfold PV; omega); rwa [Int.add_zero, Int.add_zero] at this
  refine ⟨⟨by rw [k0 _ (by omega) (by omega)]; exact a1, by rw [k0 _ (by omega) (by omega)]; exact a2, by rw [k0 _ (by omega) (by omega)]; exact a3, by rw [k0 _ (by omega) (by omega)]; exact a4, by rw [k0 _ (by omega) (by omega)]; exact a5, by rw [k0 _ (by omega) (by omega)]; exact a6, by rw [k0 _ (by omega) (by omega)]; exact a7⟩, fun r q r0 r1 q0 q1 => ?_, fun f q f0 f1 q0 q1 => ?_⟩
  · rw [show t + 2 + r = t + (2 + r) by omega, k _ _ (by unfold PV; omega), show s + (2 + r) = s + 2 + r by omega]; exact b r q r0 r1 q0 q1
  · rw [show t + 13 + f = t + (13 + f) by omega, k _ _ (by unfold PV; omega), show s + (13 + f) = s + 13 + f by omega]; exact c f q f0 f1 q0 q1
theorem rs_p {M N : Mem} {t s : Int} {w : Int → Int} (h : RS M s w) (h5 : w 5 ≤ 10) (h8 : w 8 ≤ 12) (k : ∀ o j, PS o j → N (t + o) j = M (s + o) j) : RS N t w := by
  obtain ⟨⟨a1, a2, a3, a4⟩, b, c, d, e⟩ := h
  have k0 : ∀ j, 0 ≤ j → j < 4 → N t j = M s j := fun j h1 h2 => by have := k 0 j (by unfold PS; omega); rwa [Int.add_zero, Int.add_zero] at this
  refine ⟨⟨by rw [k0 _ (by omega) (by omega)]; exact a1, by rw [k0 _ (by omega) (by omega)]; exact a2, by rw [k0 _ (by omega) (by omega)]; exact a3, by rw [k0 _ (by omega) (by omega)]; exact a4⟩, fun q q0 q1 => ?_, fun i i0 i1 => ⟨?_, ?_, ?_⟩, fun i j i0 i1 j0 j1 => ?_, fun f f0 f1 => ?_⟩
  · rw [k _ _ (by unfold PS; omega)]; exact b q q0 q1
  · rw [k _ _ (by unfold PS; omega)]; exact (c i i0 i1).1
  · rw [k _ _ (by unfold PS; omega)]; exact (c i i0 i1).2.1
  · rw [k _ _ (by unfold PS; omega)]; exact (c i i0 i1).2.2
  · rw [k _ _ (by unfold PS; omega)]; exact d i j i0 i1 j0 j1
  · rw [k _ _ (by unfold PS; omega)]; exact e f f0 f1
theorem rdy_p {M N : Mem} {t s : Int} {w : Int → Int} (h : RDy M s w) (h9 : w 9 ≤ 60) (k : ∀ o j, PD o j → N (t + o) j = M (s + o) j) : RDy N t w := by
  have k0 : ∀ j, 0 ≤ j → j < 3 → N t j = M s j := fun j h1 h2 => by have := k 0 j (by unfold PD; omega); rwa [Int.add_zero, Int.add_zero] at this
  refine ⟨by rw [k0 _ (by omega) (by omega)]; exact h.1, fun hn => ⟨by rw [k0 _ (by omega) (by omega)]; exact (h.2 hn).1, fun i i0 i1 => ?_⟩⟩
  have q := (h.2 hn).2 i i0 i1
  have kr : ∀ o, 1 ≤ o → o ≤ 7 → N (t + o) i = M (s + o) i := fun o o1 o2 => k o i (by unfold PD; omega)
  unfold lnOK at q ⊢
  rw [kr 1 (by omega) (by omega), kr 2 (by omega) (by omega), kr 3 (by omega) (by omega), kr 4 (by omega) (by omega), kr 5 (by omega) (by omega), kr 6 (by omega) (by omega), kr 7 (by omega) (by omega)]
  exact q
/-- a world's three parts -/
def WL (M : Mem) (a v d s : Int) : Prop := (M a 0 = v ∧ M a 1 = d ∧ M a 2 = s) ∧ LV M v ∧ LDy M d ∧ LSt M s
/-- empty ones -/
def V0 (N : Mem) (v : Int) : Prop := N v 0 = 100 ∧ N v 1 = 1440 ∧ N v 2 = 0 ∧ N v 3 = 0 ∧ N v 4 = 0 ∧ N v 5 = 0 ∧ N v 6 = 0 ∧ N v 7 = 1
def D0 (N : Mem) (d : Int) : Prop := N d 0 = 0 ∧ N d 1 = 0 ∧ N d 2 = 0
def S0 (N : Mem) (s : Int) : Prop := (N s 0 = 100 ∧ N s 1 = 0 ∧ N s 2 = 0 ∧ N s 3 = 0) ∧ ∀ i j, 1 ≤ i → i ≤ 6 → 0 ≤ j → N (s + i) j = 0
theorem v0_k {M N : Mem} {v : Int} (h : V0 M v) (k : ∀ j, N v j = M v j) : V0 N v := by unfold V0 at h ⊢; rw [k 0, k 1, k 2, k 3, k 4, k 5, k 6, k 7]; exact h
theorem d0_k {M N : Mem} {v : Int} (h : D0 M v) (k : ∀ j, N v j = M v j) : D0 N v := by unfold D0 at h ⊢; rw [k 0, k 1, k 2]; exact h
theorem s0_k {M N : Mem} {v : Int} (h : S0 M v) (k : ∀ o j, 0 ≤ o → o ≤ 6 → N (v + o) j = M (v + o) j) : S0 N v := by
  have k0 : ∀ j, N v j = M v j := fun j => by have := k 0 j (by omega) (by omega); rwa [Int.add_zero] at this
  unfold S0 at h ⊢
  rw [k0 0, k0 1, k0 2, k0 3]
  exact ⟨h.1, fun i j h1 h2 h3 => by rw [k _ _ (by omega) h2]; exact h.2 i j h1 h2 h3⟩
theorem newV_e {M : Mem} {a f b v : Int} {K : Mem → Option Mem} {Q : Mem → Prop} (a0 : 0 < a) (h0 : M 0 0 = b) (ab : a ≤ b) (hv : v = b + 1) (hq : ∀ N, N 0 0 = b + 26 → (∀ c j, c ≠ 0 → c ≤ b → ¬ (c = a ∧ j = f) → N c j = M c j) → N a f = v → LV N v → V0 N v → Tot (K N) Q) : Tot (newo M 27 0 (fun v1 M2 => nn v1 (callv (f_X8_init v1 M2) (fun M4 => putf M4 a f v1 K)))) Q := by
  rw [t_newo, t_nn, t_callv, h0]
  subst hv
  refine ⟨by omega, ?_⟩
  refine initV_e (by omega) (by rw [new_0, h0]) (fun N z k l x => ?_)
  rw [t_putf]
  have p : ∀ c j, ¬ (c = a ∧ j = f) → upd2 N a f (b + 1) c j = N c j := fun c j hc => by rw [upd2_at, if_neg hc]
  have x' : V0 N (b + 1) := x
  clear x
  refine ⟨by omega, hq _ (by rw [p _ _ (by omega), z]; omega) (fun c j h1 h2 h3 => by rw [p _ _ h3, k _ _ h1 (by omega), new_o h1 (by omega)]) (by rw [upd2_at, if_pos ⟨rfl, rfl⟩]) (lv_p l (fun o j _ _ _ => p _ _ (by omega))) (v0_k x' (fun j => p _ _ (by omega)))⟩
theorem newD_e {M : Mem} {a f b v : Int} {K : Mem → Option Mem} {Q : Mem → Prop} (a0 : 0 < a) (h0 : M 0 0 = b) (ab : a ≤ b) (hv : v = b + 1) (hq : ∀ N, N 0 0 = b + 8 → (∀ c j, c ≠ 0 → c ≤ b → ¬ (c = a ∧ j = f) → N c j = M c j) → N a f = v → LDy N v → D0 N v → Tot (K N) Q) : Tot (newo M 20 0 (fun v1 M2 => nn v1 (callv (f_X0_init v1 M2) (fun M4 => putf M4 a f v1 K)))) Q := by
  rw [t_newo, t_nn, t_callv, h0]
  subst hv
  refine ⟨by omega, ?_⟩
  refine initD_e (by omega) (by rw [new_0, h0]) (fun N z k l x0 x1 x2 => ?_)
  rw [t_putf]
  have p : ∀ c j, ¬ (c = a ∧ j = f) → upd2 N a f (b + 1) c j = N c j := fun c j hc => by rw [upd2_at, if_neg hc]
  have x' : D0 N (b + 1) := ⟨x0, x1, x2⟩
  clear x0 x1 x2
  refine ⟨by omega, hq _ (by rw [p _ _ (by omega), z]; omega) (fun c j h1 h2 h3 => by rw [p _ _ h3, k _ _ h1 (by omega), new_o h1 (by omega)]) (by rw [upd2_at, if_pos ⟨rfl, rfl⟩]) (ldy_p l (fun o j _ _ _ => p _ _ (by omega))) (d0_k x' (fun j => p _ _ (by omega)))⟩
theorem newS_e {M : Mem} {a f b v : Int} {K : Mem → Option Mem} {Q : Mem → Prop} (a0 : 0 < a) (h0 : M 0 0 = b) (ab : a ≤ b) (hv : v = b + 1) (hq : ∀ N, N 0 0 = b + 7 → (∀ c j, c ≠ 0 → c ≤ b → ¬ (c = a ∧ j = f) → N c j = M c j) → N a f = v → LSt N v → S0 N v → Tot (K N) Q) : Tot (newo M 23 0 (fun v1 M2 => nn v1 (callv (f_X4_init v1 M2) (fun M4 => putf M4 a f v1 K)))) Q := by
  rw [t_newo, t_nn, t_callv, h0]
  subst hv
  refine ⟨by omega, ?_⟩
  refine initS_e (by omega) (by rw [new_0, h0]) (fun N z k l x y => ?_)
  rw [t_putf]
  have p : ∀ c j, ¬ (c = a ∧ j = f) → upd2 N a f (b + 1) c j = N c j := fun c j hc => by rw [upd2_at, if_neg hc]
  have x' : S0 N (b + 1) := ⟨x, y⟩
  clear x y
  refine ⟨by omega, hq _ (by rw [p _ _ (by omega), z]; omega) (fun c j h1 h2 h3 => by rw [p _ _ h3, k _ _ h1 (by omega), new_o h1 (by omega)]) (by rw [upd2_at, if_pos ⟨rfl, rfl⟩]) (lst_p l (fun o j _ _ _ => p _ _ (by omega))) (s0_k x' (fun o j _ _ => p _ _ (by omega)))⟩
theorem initW_e {M : Mem} {a : Int} {Q : Mem → Prop} (ha : 0 < a) (h0 : M 0 0 = a) (hq : ∀ N, N 0 0 = a + 41 → (∀ c j, c ≠ 0 → c < a → N c j = M c j) → WL N a (a + 1) (a + 27) (a + 35) → V0 N (a + 1) → D0 N (a + 27) → S0 N (a + 35) → Q N) : Tot (f_X10_init a M) Q := by
  unfold f_X10_init
  refine newV_e ha h0 (by omega) rfl (fun N1 z1 k1 l1 v1 w1 => ?_)
  refine newD_e ha z1 (by omega) (v := a + 27) (by omega) (fun N2 z2 k2 l2 v2 w2 => ?_)
  refine newS_e ha z2 (by omega) (v := a + 35) (by omega) (fun N3 z3 k3 l3 v3 w3 => ?_)
  rw [t_some]
  have q2 : ∀ c j, c ≠ 0 → c ≤ a + 34 → ¬ (c = a ∧ j = 2) → N3 c j = N2 c j := fun c j h1 h2 h3 => k3 _ _ h1 (by omega) h3
  have q1 : ∀ c j, c ≠ 0 → c ≤ a + 26 → ¬ (c = a ∧ j = 2) → ¬ (c = a ∧ j = 1) → N3 c j = N1 c j := fun c j h1 h2 h3 h4 => by rw [q2 _ _ h1 (by omega) h3]; exact k2 _ _ h1 h2 h4
  refine hq N3 (by omega) (fun c j h1 h2 => by rw [q1 _ _ h1 (by omega) (by omega) (by omega)]; exact k1 _ _ h1 (by omega) (by omega)) ⟨⟨by rw [q1 _ _ (by omega) (by omega) (by omega) (by omega)]; exact l1, by rw [q2 _ _ (by omega) (by omega) (by omega)]; exact l2, l3⟩, lv_p v1 (fun o j _ _ _ => q1 _ _ (by omega) (by omega) (by omega) (by omega)), ldy_p v2 (fun o j _ _ _ => q2 _ _ (by omega) (by omega) (by omega)), v3⟩ (v0_k w1 (fun j => q1 _ _ (by omega) (by omega) (by omega) (by omega))) (d0_k w2 (fun j => q2 _ _ (by omega) (by omega) (by omega))) w3
/-- N is M with the world of (vs, ds, ss) in the place of (vt, dt, st) -/
def CpW (M N : Mem) (vt dt st vs ds ss : Int) : Prop := (∀ o j, PV o j → N (vt + o) j = M (vs + o) j) ∧ (∀ o j, PD o j → N (dt + o) j = M (ds + o) j) ∧ (∀ o j, PS o j → N (st + o) j = M (ss + o) j) ∧ ∀ a j, ¬ PV (a - vt) j → ¬ PD (a - dt) j → ¬ PS (a - st) j → N a j = M a j
theorem takeW_e {M : Mem} {t s vt dt st vs ds ss B : Int} {Q : Mem → Prop} (ht : WL M t vt dt st) (hs : WL M s vs ds ss) (h01 : M ds 0 = 0 ∨ M ds 0 = 1) (hp : 0 < t ∧ 0 < vt ∧ 0 < dt ∧ 0 < st ∧ 0 < s ∧ 0 < vs ∧ 0 < ds ∧ 0 < ss) (hB : (t < B ∧ vt + 25 < B ∧ dt + 7 < B ∧ st + 6 < B ∧ B ≤ s ∧ B ≤ vs ∧ B ≤ ds ∧ B ≤ ss) ∨ (s < B ∧ vs + 25 < B ∧ ds + 7 < B ∧ ss + 6 < B ∧ B ≤ t ∧ B ≤ vt ∧ B ≤ dt ∧ B ≤ st)) (s1 : vt + 25 < dt ∨ dt + 7 < vt) (s2 : vt + 25 < st ∨ st + 6 < vt) (s3 : dt + 7 < st ∨ st + 6 < dt) (s4 : t < vt ∨ vt + 25 < t) (s5 : t < dt ∨ dt + 7 < t) (s6 : t < st ∨ st + 6 < t) (hq : ∀ N, CpW M N vt dt st vs ds ss → Q N) : Tot (f_X10_take t s M) Q := by
  obtain ⟨⟨t0, t1, t2⟩, lv, ld, ls⟩ := ht
  obtain ⟨⟨u0, u1, u2⟩, kv, kd, ks⟩ := hs
  unfold f_X10_take
  rw [t_getf, t_getf, t_nn, t_callv, t0, u0]
  refine ⟨by omega, by omega, by omega, ?_⟩
  refine takeV_e (by omega) (by omega) (by omega) lv kv (fun N1 c1 => ?_)
  have f1 : ∀ a j, a < vt ∨ vt + 25 < a → N1 a j = M a j := fun a j h => (c1 a j).2 (fun hh => by have := pv_r hh; omega)
  rw [t_getf, t_getf, t_nn, t_callv, f1 t _ (by omega), f1 s _ (by omega), t1, u1]
  refine ⟨by omega, by omega, by omega, ?_⟩
  refine takeD_e (by omega) (by omega) (by omega) (ldy_p ld (fun o j _ _ _ => f1 _ _ (by omega))) (ldy_p kd (fun o j _ _ _ => f1 _ _ (by omega))) (by rw [f1 _ _ (by omega)]; exact h01) (fun N2 c2 => ?_)
  have f2 : ∀ a j, a < dt ∨ dt + 7 < a → N2 a j = N1 a j := fun a j h => (c2 a j).2 (fun hh => by have := pd_r hh; omega)
  rw [t_getf, t_getf, t_nn, t_callv, f2 t _ (by omega), f2 s _ (by omega), f1 t _ (by omega), f1 s _ (by omega), t2, u2]
  refine ⟨by omega, by omega, by omega, ?_⟩
  refine take_e (by omega) (by omega) (by omega) (lst_p ls (fun o j _ _ _ => by rw [f2 _ _ (by omega), f1 _ _ (by omega)])) (lst_p ks (fun o j _ _ _ => by rw [f2 _ _ (by omega), f1 _ _ (by omega)])) ?_
  rw [t_some]
  have c3 := cp_tk N2 st ss
  generalize tkM N2 st ss = N3 at c3 ⊢
  have f3 : ∀ a j, a < st ∨ st + 6 < a → N3 a j = N2 a j := fun a j h => (c3 a j).2 (fun hh => by have := ps_r hh; omega)
  refine hq N3 ⟨fun o j h => ?_, fun o j h => ?_, fun o j h => ?_, fun a j h1 h2 h3 => ?_⟩
  · have r := pv_r h
    rw [f3 _ _ (by omega), f2 _ _ (by omega), (c1 _ _).1 (by rw [show vt + o - vt = o by omega]; exact h)]; congr 1; omega
  · have r := pd_r h
    rw [f3 _ _ (by omega), (c2 _ _).1 (by rw [show dt + o - dt = o by omega]; exact h), f1 _ _ (by omega)]; congr 1; omega
  · have r := ps_r h
    rw [(c3 _ _).1 (by rw [show st + o - st = o by omega]; exact h), f2 _ _ (by omega), f1 _ _ (by omega)]; congr 1; omega
  · rw [(c3 _ _).2 h3, (c2 _ _).2 h2, (c1 _ _).2 h1]
