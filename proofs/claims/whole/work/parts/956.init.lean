/-! new objects -/
theorem new_0 (M : Mem) (t n : Int) : newm M t n 0 0 = M 0 0 + 1 := by unfold newm; rw [if_pos ⟨rfl, rfl⟩]
theorem new_o {M : Mem} {t n a j : Int} (h : a ≠ 0) (h2 : a ≠ M 0 0 + 1) : newm M t n a j = M a j := by unfold newm; rw [if_neg (fun hh => h hh.1), if_neg h2]
theorem new_l {M : Mem} {t n a : Int} (h : a = M 0 0 + 1) (h0 : 0 ≤ M 0 0) : newm M t n a (-1) = n := by unfold newm; rw [if_neg (by omega), if_pos h, if_neg (by decide), if_pos rfl]
theorem new_z {M : Mem} {t n a j : Int} (h : a = M 0 0 + 1) (h0 : 0 ≤ M 0 0) (hj : 0 ≤ j) : newm M t n a j = 0 := by unfold newm; rw [if_neg (by omega), if_pos h, if_neg (by omega), if_neg (by omega)]
theorem ng_0 (M : Mem) (t u n m : Int) : newm2 M t u n m 0 0 = M 0 0 + 1 + n := by unfold newm2; rw [if_pos ⟨rfl, rfl⟩]
theorem ng_o {M : Mem} {t u n m a j : Int} (h : a ≠ 0) (h2 : a < M 0 0 + 1 ∨ M 0 0 + 2 + n ≤ a) (hn : 0 ≤ n) : newm2 M t u n m a j = M a j := by unfold newm2; rw [if_neg (fun hh => h hh.1), if_neg (by omega), if_neg (by omega)]
theorem ng_l {M : Mem} {t u n m a : Int} (h : a = M 0 0 + 1) (h0 : 0 ≤ M 0 0) : newm2 M t u n m a (-1) = n := by unfold newm2; rw [if_neg (by omega), if_pos h, if_neg (by decide), if_pos rfl]
theorem ng_r {M : Mem} {t u n m a j : Int} (h : a = M 0 0 + 1) (h0 : 0 ≤ M 0 0) (j0 : 0 ≤ j) (j1 : j < n) : newm2 M t u n m a j = M 0 0 + 2 + j := by unfold newm2; rw [if_neg (by omega), if_pos h, if_neg (by omega), if_neg (by omega), if_pos ⟨j0, j1⟩]
theorem ng_rl {M : Mem} {t u n m a : Int} (h : M 0 0 + 2 ≤ a ∧ a < M 0 0 + 2 + n) (h0 : 0 ≤ M 0 0) : newm2 M t u n m a (-1) = m := by unfold newm2; rw [if_neg (by omega), if_neg (by omega), if_pos h, if_neg (by decide), if_pos rfl]
theorem ng_rz {M : Mem} {t u n m a j : Int} (h : M 0 0 + 2 ≤ a ∧ a < M 0 0 + 2 + n) (h0 : 0 ≤ M 0 0) (j0 : 0 ≤ j) : newm2 M t u n m a j = 0 := by unfold newm2; rw [if_neg (by omega), if_neg (by omega), if_pos h, if_neg (by omega), if_neg (by omega)]
/-- k new rows behind b, their places in the fields f0.. of o -/
def Rws (M N : Mem) (o f0 b k : Int) (len : Int → Int) : Prop := N 0 0 = b + k ∧ (∀ a j, a ≠ 0 → a ≤ b → ¬ (a = o ∧ f0 ≤ j ∧ j < f0 + k) → N a j = M a j) ∧ ∀ i, 0 ≤ i → i < k → N o (f0 + i) = b + 1 + i ∧ N (b + 1 + i) (-1) = len i ∧ ∀ j, 0 ≤ j → N (b + 1 + i) j = 0
theorem rws_0 {M : Mem} {o f0 b : Int} {len : Int → Int} (h : M 0 0 = b) : Rws M M o f0 b 0 len := ⟨by omega, fun _ _ _ _ _ => rfl, fun i a c => by omega⟩
theorem rws_s {M N : Mem} {o f0 b k t n f : Int} {len : Int → Int} {K : Mem → Option Mem} {Q : Mem → Prop} (h : Rws M N o f0 b k len) (k0 : 0 ≤ k) (b0 : 0 ≤ b) (o0 : 0 < o) (o1 : o ≤ b) (hf : f = f0 + k) (hl : len k = n) (hk : ∀ N', Rws M N' o f0 b (k + 1) len → Tot (K N') Q) : Tot (newo N t n (fun v X => putf X o f v K)) Q := by
  obtain ⟨h1, h2, h3⟩ := h
  rw [t_newo, t_putf]
  have c : N 0 0 + 1 = b + 1 + k := by omega
  refine ⟨by omega, hk _ ⟨?_, fun a j x1 x2 x3 => ?_, fun i i0 i1 => ?_⟩⟩
  · rw [upd2_at, if_neg (by omega), new_0]; omega
  · rw [upd2_at, if_neg (by omega), new_o x1 (by omega)]; exact h2 a j x1 x2 (by omega)
  · by_cases e : i = k
    · subst e
      refine ⟨by rw [upd2_at, if_pos ⟨rfl, hf.symm⟩]; omega, by rw [upd2_at, if_neg (by omega), new_l (by omega) (by omega)]; exact hl.symm, fun j j0 => by rw [upd2_at, if_neg (by omega), new_z (by omega) (by omega) j0]⟩
    · have q := h3 i i0 (by omega)
      refine ⟨by rw [upd2_at, if_neg (by omega), new_o (by omega) (by omega)]; exact q.1, by rw [upd2_at, if_neg (by omega), new_o (by omega) (by omega)]; exact q.2.1, fun j j0 => by rw [upd2_at, if_neg (by omega), new_o (by omega) (by omega)]; exact q.2.2 j j0⟩
theorem initD_e {M : Mem} {d : Int} {Q : Mem → Prop} (hd : 0 < d) (h0 : M 0 0 = d) (hq : ∀ N, N 0 0 = d + 7 → (∀ a j, a ≠ 0 → a < d → N a j = M a j) → LDy N d → N d 0 = 0 → N d 1 = 0 → N d 2 = 0 → Q N) : Tot (f_X0_init d M) Q := by
  unfold f_X0_init
  rw [t_putz, t_putf, t_putf]
  refine ⟨by omega, .inl rfl, by omega, by omega, ?_⟩
  obtain ⟨N0, e0⟩ : ∃ X, X = upd2 (upd2 (upd2 M d 0 0) d 1 0) d 2 0 := ⟨_, rfl⟩
  have z0 : N0 0 0 = d := by rw [e0, upd2_at, if_neg (by omega), upd2_at, if_neg (by omega), upd2_at, if_neg (by omega)]; exact h0
  have k0 : ∀ a j, a ≠ d → N0 a j = M a j := fun a j h => by rw [e0, upd2_at, if_neg (by omega), upd2_at, if_neg (by omega), upd2_at, if_neg (by omega)]
  have v0 : N0 d 0 = 0 ∧ N0 d 1 = 0 ∧ N0 d 2 = 0 := by rw [e0]; simp [upd2_at]
  rw [← e0]
  clear e0
  have r0 : Rws N0 N0 d 3 d 0 (fun _ => 60) := rws_0 z0
  refine rws_s r0 (by omega) (by omega) hd (by omega) (by omega) rfl (fun N1 r1 => ?_)
  refine rws_s r1 (by omega) (by omega) hd (by omega) (by omega) rfl (fun N2 r2 => ?_)
  refine rws_s r2 (by omega) (by omega) hd (by omega) (by omega) rfl (fun N3 r3 => ?_)
  refine rws_s r3 (by omega) (by omega) hd (by omega) (by omega) rfl (fun N4 r4 => ?_)
  refine rws_s r4 (by omega) (by omega) hd (by omega) (by omega) rfl (fun N5 r5 => ?_)
  refine rws_s r5 (by omega) (by omega) hd (by omega) (by omega) rfl (fun N6 r6 => ?_)
  refine rws_s r6 (by omega) (by omega) hd (by omega) (by omega) rfl (fun N r => ?_)
  rw [t_some]
  clear r0 r1 r2 r3 r4 r5 r6 N1 N2 N3 N4 N5 N6
  obtain ⟨q1, q2, q3⟩ := r
  have kd : ∀ j, j < 3 → N d j = N0 d j := fun j hj => q2 _ _ (by omega) (by omega) (by omega)
  have p : ∀ i, 0 ≤ i → i < 7 → N d (3 + i) = d + 1 + i ∧ N (d + 1 + i) (-1) = 60 := fun i i0 i1 => ⟨(q3 i i0 (by omega)).1, (q3 i i0 (by omega)).2.1⟩
  refine hq N (by omega) (fun a j h1 h2 => by rw [q2 _ _ h1 (by omega) (by omega), k0 _ _ (by omega)]) ⟨⟨?_, ?_, ?_, ?_, ?_, ?_, ?_⟩, fun i i0 i1 => ?_⟩ (by rw [kd _ (by omega)]; exact v0.1) (by rw [kd _ (by omega)]; exact v0.2.1) (by rw [kd _ (by omega)]; exact v0.2.2)
  · have := (p 0 (by omega) (by omega)).1; rw [show (3 : Int) + 0 = 3 from rfl] at this; omega
  · have := (p 1 (by omega) (by omega)).1; rw [show (3 : Int) + 1 = 4 from rfl] at this; omega
  · have := (p 2 (by omega) (by omega)).1; rw [show (3 : Int) + 2 = 5 from rfl] at this; omega
  · have := (p 3 (by omega) (by omega)).1; rw [show (3 : Int) + 3 = 6 from rfl] at this; omega
  · have := (p 4 (by omega) (by omega)).1; rw [show (3 : Int) + 4 = 7 from rfl] at this; omega
  · have := (p 5 (by omega) (by omega)).1; rw [show (3 : Int) + 5 = 8 from rfl] at this; omega
  · have := (p 6 (by omega) (by omega)).1; rw [show (3 : Int) + 6 = 9 from rfl] at this; omega
  · have := (p (i - 1) (by omega) (by omega)).2; rw [show d + 1 + (i - 1) = d + i by omega] at this; exact this
def lenS (i : Int) : Int := if i = 0 then 10 else if i = 4 then 100 else if i = 5 then 10 else 12
theorem initS_e {M : Mem} {s : Int} {Q : Mem → Prop} (hs : 0 < s) (h0 : M 0 0 = s) (hq : ∀ N, N 0 0 = s + 6 → (∀ a j, a ≠ 0 → a < s → N a j = M a j) → LSt N s → (N s 0 = 100 ∧ N s 1 = 0 ∧ N s 2 = 0 ∧ N s 3 = 0) → (∀ i j, 1 ≤ i → i ≤ 6 → 0 ≤ j → N (s + i) j = 0) → Q N) : Tot (f_X4_init s M) Q := by
  unfold f_X4_init
  rw [t_putf, t_putf, t_putf, t_putf]
  refine ⟨by omega, by omega, by omega, by omega, ?_⟩
  obtain ⟨N0, e0⟩ : ∃ X, X = upd2 (upd2 (upd2 (upd2 M s 0 100) s 1 0) s 2 0) s 3 0 := ⟨_, rfl⟩
  have z0 : N0 0 0 = s := by rw [e0, upd2_at, if_neg (by omega), upd2_at, if_neg (by omega), upd2_at, if_neg (by omega), upd2_at, if_neg (by omega)]; exact h0
  have k0 : ∀ a j, a ≠ s → N0 a j = M a j := fun a j h => by rw [e0, upd2_at, if_neg (by omega), upd2_at, if_neg (by omega), upd2_at, if_neg (by omega), upd2_at, if_neg (by omega)]
  have v0 : N0 s 0 = 100 ∧ N0 s 1 = 0 ∧ N0 s 2 = 0 ∧ N0 s 3 = 0 := by rw [e0]; simp [upd2_at]
  rw [← e0]
  clear e0
  have r0 : Rws N0 N0 s 4 s 0 lenS := rws_0 z0
  refine rws_s r0 (by omega) (by omega) hs (by omega) (by omega) rfl (fun N1 r1 => ?_)
  refine rws_s r1 (by omega) (by omega) hs (by omega) (by omega) rfl (fun N2 r2 => ?_)
  refine rws_s r2 (by omega) (by omega) hs (by omega) (by omega) rfl (fun N3 r3 => ?_)
  refine rws_s r3 (by omega) (by omega) hs (by omega) (by omega) rfl (fun N4 r4 => ?_)
  refine rws_s r4 (by omega) (by omega) hs (by omega) (by omega) rfl (fun N5 r5 => ?_)
  refine rws_s r5 (by omega) (by omega) hs (by omega) (by omega) rfl (fun N r => ?_)
  rw [t_some]
  clear r0 r1 r2 r3 r4 r5 N1 N2 N3 N4 N5
  obtain ⟨q1, q2, q3⟩ := r
  have kd : ∀ j, j < 4 → N s j = N0 s j := fun j hj => q2 _ _ (by omega) (by omega) (by omega)
  have p : ∀ i, 0 ≤ i → i < 6 → N s (4 + i) = s + 1 + i ∧ N (s + 1 + i) (-1) = lenS i ∧ ∀ j, 0 ≤ j → N (s + 1 + i) j = 0 := fun i i0 i1 => q3 i i0 (by omega)
  have p1 : ∀ i, 1 ≤ i → i ≤ 6 → N s (3 + i) = s + i ∧ N (s + i) (-1) = lenS (i - 1) ∧ ∀ j, 0 ≤ j → N (s + i) j = 0 := fun i i0 i1 => by
    have := p (i - 1) (by omega) (by omega)
    rw [show (4 : Int) + (i - 1) = 3 + i by omega, show s + 1 + (i - 1) = s + i by omega] at this; exact this
  refine hq N (by omega) (fun a j h1 h2 => by rw [q2 _ _ h1 (by omega) (by omega), k0 _ _ (by omega)]) ⟨⟨(p1 1 (by omega) (by omega)).1, (p1 2 (by omega) (by omega)).1, (p1 3 (by omega) (by omega)).1, (p1 4 (by omega) (by omega)).1, (p1 5 (by omega) (by omega)).1, (p1 6 (by omega) (by omega)).1⟩, ⟨(p1 1 (by omega) (by omega)).2.1, (p1 2 (by omega) (by omega)).2.1, (p1 3 (by omega) (by omega)).2.1, (p1 4 (by omega) (by omega)).2.1, (p1 5 (by omega) (by omega)).2.1, (p1 6 (by omega) (by omega)).2.1⟩⟩ ⟨by rw [kd _ (by omega)]; exact v0.1, by rw [kd _ (by omega)]; exact v0.2.1, by rw [kd _ (by omega)]; exact v0.2.2.1, by rw [kd _ (by omega)]; exact v0.2.2.2⟩ (fun i j i0 i1 j0 => (p1 i i0 i1).2.2 j j0)
def lenV (i : Int) : Int := if i = 1 then 6 else 10
theorem initV_e {M : Mem} {v : Int} {Q : Mem → Prop} (hv : 0 < v) (h0 : M 0 0 = v) (hq : ∀ N, N 0 0 = v + 25 → (∀ a j, a ≠ 0 → a < v → N a j = M a j) → LV N v → (N v 0 = 100 ∧ N v 1 = 1440 ∧ N v 2 = 0 ∧ N v 3 = 0 ∧ N v 4 = 0 ∧ N v 5 = 0 ∧ N v 6 = 0 ∧ N v 7 = 1) → Q N) : Tot (f_X8_init v M) Q := by
  unfold f_X8_init
  rw [t_putf, t_putf, t_putf, t_putf, t_putf, t_putf, t_putf, t_putf]
  refine ⟨by omega, by omega, by omega, by omega, by omega, by omega, by omega, by omega, ?_⟩
  obtain ⟨N0, e0⟩ : ∃ X, X = upd2 (upd2 (upd2 (upd2 (upd2 (upd2 (upd2 (upd2 M v 0 100) v 1 1440) v 2 0) v 3 0) v 4 0) v 5 0) v 6 0) v 7 1 := ⟨_, rfl⟩
  have k0 : ∀ a j, a ≠ v → N0 a j = M a j := fun a j h => by rw [e0, upd2_at, if_neg (by omega), upd2_at, if_neg (by omega), upd2_at, if_neg (by omega), upd2_at, if_neg (by omega), upd2_at, if_neg (by omega), upd2_at, if_neg (by omega), upd2_at, if_neg (by omega), upd2_at, if_neg (by omega)]
  have z0 : N0 0 0 = v := by rw [k0 _ _ (by omega)]; exact h0
  have v0 : N0 v 0 = 100 ∧ N0 v 1 = 1440 ∧ N0 v 2 = 0 ∧ N0 v 3 = 0 ∧ N0 v 4 = 0 ∧ N0 v 5 = 0 ∧ N0 v 6 = 0 ∧ N0 v 7 = 1 := by rw [e0]; simp [upd2_at]
  rw [← e0, t_newg, t_putf]
  clear e0
  refine ⟨by omega, ?_⟩
  obtain ⟨N1, e1⟩ : ∃ X, X = upd2 (newm2 N0 14 10 10 6) v 8 (N0 0 0 + 1) := ⟨_, rfl⟩
  have z1 : N1 0 0 = v + 11 := by rw [e1, upd2_at, if_neg (by omega), ng_0]; omega
  have k1 : ∀ a j, a ≠ 0 → a ≤ v → ¬ (a = v ∧ j = 8) → N1 a j = N0 a j := fun a j x1 x2 x3 => by rw [e1, upd2_at, if_neg x3, ng_o x1 (by omega) (by decide)]
  have p8 : N1 v 8 = v + 1 := by rw [e1, upd2_at, if_pos ⟨rfl, rfl⟩]; omega
  have l8 : N1 (v + 1) (-1) = 10 := by rw [e1, upd2_at, if_neg (by omega), ng_l (by omega) (by omega)]
  have g8 : ∀ r, 0 ≤ r → r < 10 → N1 (v + 1) r = v + 2 + r ∧ N1 (v + 2 + r) (-1) = 6 := fun r r0 r1 => ⟨by rw [e1, upd2_at, if_neg (by omega), ng_r (by omega) (by omega) r0 r1]; omega, by rw [e1, upd2_at, if_neg (by omega), ng_rl (by omega) (by omega)]⟩
  rw [← e1, t_newg, t_putf]
  clear e1
  refine ⟨by omega, ?_⟩
  obtain ⟨N2, e2⟩ : ∃ X, X = upd2 (newm2 N1 14 10 10 4) v 9 (N1 0 0 + 1) := ⟨_, rfl⟩
  have z2 : N2 0 0 = v + 22 := by rw [e2, upd2_at, if_neg (by omega), ng_0]; omega
  have k2 : ∀ a j, a ≠ 0 → a ≤ v + 11 → ¬ (a = v ∧ j = 9) → N2 a j = N1 a j := fun a j x1 x2 x3 => by rw [e2, upd2_at, if_neg x3, ng_o x1 (by omega) (by decide)]
  have p9 : N2 v 9 = v + 12 := by rw [e2, upd2_at, if_pos ⟨rfl, rfl⟩]; omega
  have l9 : N2 (v + 12) (-1) = 10 := by rw [e2, upd2_at, if_neg (by omega), ng_l (by omega) (by omega)]
  have g9 : ∀ r, 0 ≤ r → r < 10 → N2 (v + 12) r = v + 13 + r ∧ N2 (v + 13 + r) (-1) = 4 := fun r r0 r1 => ⟨by rw [e2, upd2_at, if_neg (by omega), ng_r (by omega) (by omega) r0 r1]; omega, by rw [e2, upd2_at, if_neg (by omega), ng_rl (by omega) (by omega)]⟩
  rw [← e2]
  clear e2
  have r0 : Rws N2 N2 v 10 (v + 22) 0 lenV := rws_0 z2
  refine rws_s r0 (by omega) (by omega) hv (by omega) (by omega) rfl (fun N3 r3 => ?_)
  refine rws_s r3 (by omega) (by omega) hv (by omega) (by omega) rfl (fun N4 r4 => ?_)
  refine rws_s r4 (by omega) (by omega) hv (by omega) (by omega) rfl (fun N r => ?_)
  rw [t_some]
  clear r0 r3 r4 N3 N4
  obtain ⟨q1, q2, q3⟩ := r
  have a0 := q3 0 (by omega) (by omega)
  have a1 := q3 1 (by omega) (by omega)
  have a2 := q3 2 (by omega) (by omega)
  have kN : ∀ a j, a ≠ 0 → a ≤ v + 22 → ¬ (a = v ∧ 10 ≤ j) → N a j = N2 a j := fun a j x1 x2 x3 => q2 a j x1 x2 (by omega)
  have kv : ∀ j, j < 8 → N v j = N0 v j := fun j hj => by rw [kN _ _ (by omega) (by omega) (by omega), k2 _ _ (by omega) (by omega) (by omega), k1 _ _ (by omega) (by omega) (by omega)]
  refine hq N (by omega) (fun a j h1 h2 => by rw [kN _ _ h1 (by omega) (by omega), k2 _ _ h1 (by omega) (by omega), k1 _ _ h1 (by omega) (by omega), k0 _ _ (by omega)]) ⟨⟨?_, ?_, ?_, ?_, ?_⟩, ⟨?_, ?_, ?_, ?_, ?_⟩, fun r r0 r1 => ⟨?_, ?_, ?_, ?_⟩⟩ ⟨by rw [kv _ (by omega)]; exact v0.1, by rw [kv _ (by omega)]; exact v0.2.1, by rw [kv _ (by omega)]; exact v0.2.2.1, by rw [kv _ (by omega)]; exact v0.2.2.2.1, by rw [kv _ (by omega)]; exact v0.2.2.2.2.1, by rw [kv _ (by omega)]; exact v0.2.2.2.2.2.1, by rw [kv _ (by omega)]; exact v0.2.2.2.2.2.2.1, by rw [kv _ (by omega)]; exact v0.2.2.2.2.2.2.2⟩
  · rw [kN _ _ (by omega) (by omega) (by omega), k2 _ _ (by omega) (by omega) (by omega)]; exact p8
  · rw [kN _ _ (by omega) (by omega) (by omega)]; exact p9
  · have := a0.1; rw [show (10 : Int) + 0 = 10 from rfl] at this; omega
  · have := a1.1; rw [show (10 : Int) + 1 = 11 from rfl] at this; omega
  · have := a2.1; rw [show (10 : Int) + 2 = 12 from rfl] at this; omega
  · rw [kN _ _ (by omega) (by omega) (by omega), k2 _ _ (by omega) (by omega) (by omega)]; exact l8
  · rw [kN _ _ (by omega) (by omega) (by omega)]; exact l9
  · have := a0.2.1; rw [show v + 22 + 1 + 0 = v + 23 by omega] at this; exact this
  · have := a1.2.1; rw [show v + 22 + 1 + 1 = v + 24 by omega] at this; exact this
  · have := a2.2.1; rw [show v + 22 + 1 + 2 = v + 25 by omega] at this; exact this
  · rw [kN _ _ (by omega) (by omega) (by omega), k2 _ _ (by omega) (by omega) (by omega)]; exact (g8 r r0 r1).1
  · rw [kN _ _ (by omega) (by omega) (by omega), k2 _ _ (by omega) (by omega) (by omega)]; exact (g8 r r0 r1).2
  · rw [kN _ _ (by omega) (by omega) (by omega)]; exact (g9 r r0 r1).1
  · rw [kN _ _ (by omega) (by omega) (by omega)]; exact (g9 r r0 r1).2
