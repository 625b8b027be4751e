/-! the days while they are read -/
abbrev blk (c : Int) : Prop := c = 24 ∨ 2300 ≤ c
def lOK (m : Nms) (w : Int → Int) (O : List Int) (k : Int) : Prop := rOK m (stp w k 0, stp w k 1, stp w k 2, stp w k 3, stp w k 5) ∧ (blk (stp w k 0) → k ∈ O ∨ (k < stp w k 4 ∧ stp w k 4 < w 9)) ∧ (stp w k 0 = 25 → 0 ≤ stp w k 4 ∧ stp w k 4 < k ∧ blk (stp w (stp w k 4) 0) ∧ (stp w k 4 + 1 = k ∨ stp w (stp w k 4 + 1) 0 ≠ 25))
def WDs (m : Nms) (σ : DS) : Prop := (0 ≤ σ.2.2 ∧ σ.2.2 ≤ 30 ∧ 0 ≤ σ.1 9 ∧ σ.1 9 + σ.2.1.length ≤ 2 * σ.2.2 ∧ σ.2.1.length ≤ 3) ∧ σ.2.1.Pairwise (fun a b => b < a) ∧ (∀ o, o ∈ σ.2.1 → 0 ≤ o ∧ o < σ.1 9 ∧ blk (stp σ.1 o 0) ∧ (o + 1 < σ.1 9 → stp σ.1 (o + 1) 0 ≠ 25)) ∧ ∀ k, 0 ≤ k → k < σ.1 9 → lOK m σ.1 σ.2.1 k
theorem addD_9 {w : Int → Int} {q : Rw5} : addD w q 9 = w 9 + 1 := if_pos rfl
theorem addD_n {w : Int → Int} {q : Rw5} {i : Int} (h : 0 ≤ w 9) (i0 : 0 ≤ i) (i1 : i < 6) : stp (addD w q) (w 9) i = r5 q i := by
  unfold stp addD; rw [if_neg (by omega), if_pos (by omega)]; congr 1; omega
theorem addD_o {w : Int → Int} {q : Rw5} {k i : Int} (k0 : 0 ≤ k) (k1 : k < w 9) (i0 : 0 ≤ i) (i1 : i < 6) : stp (addD w q) k i = stp w k i := by
  unfold stp addD; rw [if_neg (by omega), if_neg (by omega)]
theorem lnk_9 {w : Int → Int} {n o : Int} (n0 : 0 ≤ n) (o0 : 0 ≤ o) : lnk w n o 9 = w 9 := by
  unfold lnk; rw [upd1_at, if_neg (by omega), upd1_at, if_neg (by omega)]
theorem lnk_s {w : Int → Int} {n o k i : Int} (no : o ≠ n) (k0 : 0 ≤ k) (i0 : 0 ≤ i) (i1 : i < 6) : stp (lnk w n o) k i = if i = 4 ∧ k = o then n else if i = 4 ∧ k = n then o else stp w k i := by
  unfold stp lnk
  rw [upd1_at, upd1_at]
  by_cases c : i = 4 ∧ k = o
  · rw [if_pos (by omega), if_pos c]
  · rw [if_neg (by omega), if_neg c]
    by_cases d : i = 4 ∧ k = n
    · rw [if_pos (by omega), if_pos d]
    · rw [if_neg (by omega), if_neg d]
theorem dsT_end {B K : Int → Int} {n : Int} {m : Nms} {σ : DS} {s : Int} {p : DS × Int} (h : dsT B K n m σ s = .ok p) (c : tkY B K n s = 28) : ∃ o O, σ.2.1 = o :: O ∧ smT B n (nx B n s) = .ok p.2 ∧ p.1 = (lnk (addD σ.1 (25, 0, 0, 0, 0)) (σ.1 9) o, O, σ.2.2) := by
  unfold dsT at h
  rw [if_pos c] at h
  rcases hO : σ.2.1 with _ | ⟨o, O⟩
  · rw [hO] at h; exact nomatch h
  · rw [hO] at h
    dsimp only at h
    obtain ⟨t, e1, h⟩ := bnd_i h
    injection h with h
    exact ⟨o, O, rfl, by rw [← h]; exact e1, by rw [← h]⟩
theorem dsT_step {B K : Int → Int} {n : Int} {m : Nms} {σ : DS} {s : Int} {p : DS × Int} (h : dsT B K n m σ s = .ok p) (c : tkY B K n s ≠ 28) : ∃ q1 q, swd (tkY B K n s) ∧ σ.2.2 ≠ 30 ∧ ¬ ((tkY B K n s = 23 ∨ tkY B K n s = 27) ∧ σ.2.1.length = 3) ∧ a1T B K n m (tkY B K n s) (nx B n s) = .ok q1 ∧ a2T B n (tkY B K n s) q1 = .ok q ∧ smT B n q.2 = .ok p.2 ∧ p.1 = (addD σ.1 q.1, if tkY B K n s = 23 ∨ tkY B K n s = 27 then σ.1 9 :: σ.2.1 else σ.2.1, σ.2.2 + 1) := by
  unfold dsT at h
  rw [if_neg c] at h
  by_cases c1 : ¬ swd (tkY B K n s)
  · rw [if_pos c1] at h; exact nomatch h
  rw [if_neg c1] at h
  by_cases c2 : σ.2.2 = 30
  · rw [if_pos c2] at h; exact nomatch h
  rw [if_neg c2] at h
  by_cases c3 : (tkY B K n s = 23 ∨ tkY B K n s = 27) ∧ σ.2.1.length = 3
  · rw [if_pos c3] at h; exact nomatch h
  rw [if_neg c3] at h
  obtain ⟨q1, e1, h⟩ := bnd_i h
  obtain ⟨q, e2, h⟩ := bnd_i h
  obtain ⟨t, e3, h⟩ := bnd_i h
  injection h with h
  exact ⟨q1, q, Classical.not_not.mp c1, c2, c3, e1, e2, by rw [← h]; exact e3, by rw [← h]⟩
theorem wds_end {m : Nms} {w : Int → Int} {o c : Int} {O : List Int} (h : WDs m (w, o :: O, c)) : WDs m (lnk (addD w (25, 0, 0, 0, 0)) (w 9) o, O, c) := by
  obtain ⟨⟨h1, h2, h3, h4, h5⟩, hp, ho, hl⟩ := h
  dsimp only at h1 h2 h3 h4 h5 hp ho hl
  rw [List.length_cons] at h4 h5
  rw [List.pairwise_cons] at hp
  obtain ⟨o0, o1, o2, o3⟩ := ho o (List.mem_cons_self ..)
  have e9 : lnk (addD w (25, 0, 0, 0, 0)) (w 9) o 9 = w 9 + 1 := by rw [lnk_9 h3 o0, addD_9]
  have eo : ∀ k i, 0 ≤ k → k < w 9 → 0 ≤ i → i < 6 → ¬ (i = 4 ∧ k = o) → stp (lnk (addD w (25, 0, 0, 0, 0)) (w 9) o) k i = stp w k i := fun k i k0 k1 i0 i1 hh => by rw [lnk_s (by omega) k0 i0 i1, if_neg hh, if_neg (by omega), addD_o k0 k1 i0 i1]
  have eo4 : stp (lnk (addD w (25, 0, 0, 0, 0)) (w 9) o) o 4 = w 9 := by rw [lnk_s (by omega) o0 (by omega) (by omega), if_pos ⟨rfl, rfl⟩]
  have en4 : stp (lnk (addD w (25, 0, 0, 0, 0)) (w 9) o) (w 9) 4 = o := by rw [lnk_s (by omega) h3 (by omega) (by omega), if_neg (by omega), if_pos ⟨rfl, rfl⟩]
  have en : ∀ i, 0 ≤ i → i < 6 → i ≠ 4 → stp (lnk (addD w (25, 0, 0, 0, 0)) (w 9) o) (w 9) i = r5 (25, 0, 0, 0, 0) i := fun i i0 i1 i4 => by rw [lnk_s (by omega) h3 i0 i1, if_neg (by omega), if_neg (by omega), addD_n h3 i0 i1]
  refine ⟨⟨h1, h2, ?_, ?_, ?_⟩, hp.2, fun q hq => ?_, fun k k0 k1 => ?_⟩ <;> dsimp only at *
  · omega
  · omega
  · omega
  · obtain ⟨q0, q1, q2, q3⟩ := ho q (List.mem_cons_of_mem _ hq)
    have := hp.1 q hq
    rw [e9, eo q 0 q0 q1 (by omega) (by omega) (by omega), eo (q + 1) 0 (by omega) (by omega) (by omega) (by omega) (by omega)]
    exact ⟨q0, by omega, q2, fun _ => q3 (by omega)⟩
  · rw [e9] at k1
    by_cases ck : k = w 9
    · subst ck
      refine ⟨?_, fun z => ?_, fun _ => ?_⟩
      · rw [en 0 (by omega) (by omega) (by omega)]
        exact .inr (.inr (.inr (.inr (.inr (.inr (.inr (.inr (.inl rfl))))))))
      · rw [en 0 (by omega) (by omega) (by omega)] at z
        have z : (25 : Int) = 24 ∨ 2300 ≤ (25 : Int) := z
        omega
      · rw [en4, eo o 0 o0 o1 (by omega) (by omega) (by omega)]
        refine ⟨o0, o1, o2, ?_⟩
        by_cases d : o + 1 = w 9
        · exact .inl d
        · rw [eo (o + 1) 0 (by omega) (by omega) (by omega) (by omega) (by omega)]; exact .inr (o3 (by omega))
    · obtain ⟨l1, l2, l3⟩ := hl k k0 (by omega)
      have k1' : k < w 9 := by omega
      unfold lOK
      rw [eo k 0 k0 k1' (by omega) (by omega) (by omega), eo k 1 k0 k1' (by omega) (by omega) (by omega), eo k 2 k0 k1' (by omega) (by omega) (by omega), eo k 3 k0 k1' (by omega) (by omega) (by omega), eo k 5 k0 k1' (by omega) (by omega) (by omega)]
      by_cases co : k = o
      · subst co
        rw [eo4, e9]
        refine ⟨l1, fun _ => .inr ⟨o1, by omega⟩, fun z => ?_⟩
        rw [z] at o2; omega
      · rw [eo k 4 k0 k1' (by omega) (by omega) (by omega), e9]
        refine ⟨l1, fun z => ?_, fun z => ?_⟩
        · rcases l2 z with q | q
          · rw [List.mem_cons] at q
            rcases q with q | q
            · exact absurd q co
            · exact .inl q
          · exact .inr ⟨q.1, by omega⟩
        · obtain ⟨a, b, c, d⟩ := l3 z
          rw [eo _ 0 a (by omega) (by omega) (by omega) (by omega)]
          refine ⟨a, b, c, ?_⟩
          rcases d with d | d
          · exact .inl d
          · rw [eo _ 0 (by omega) (by omega) (by omega) (by omega) (by omega)]; exact .inr d
theorem cdY_b {y c : Int} (hy : swd y) (h : cdY y c) : blk c ↔ (y = 23 ∨ y = 27) := by
  obtain ⟨a, b⟩ := h
  by_cases c23 : y = 23
  · have := b c23; unfold blk; omega
  · have e := a c23
    have t : y = 8 ∨ y = 16 ∨ y = 17 ∨ y = 18 ∨ y = 19 ∨ y = 20 ∨ y = 21 ∨ y = 22 ∨ y = 27 ∨ y = 29 := by unfold swd at hy; omega
    rcases t with t | t | t | t | t | t | t | t | t | t <;> subst t <;> rw [e] <;> decide
theorem wds_step {m : Nms} {w : Int → Int} {c y : Int} {O : List Int} {q : Rw5} (h : WDs m (w, O, c)) (hc : c ≠ 30) (hy : swd y) (h3 : ¬ ((y = 23 ∨ y = 27) ∧ O.length = 3)) (hq : rOK m q) (hcd : cdY y q.1) (h25 : q.1 ≠ 25) : WDs m (addD w q, if y = 23 ∨ y = 27 then w 9 :: O else O, c + 1) := by
  obtain ⟨⟨h1, h2, h9, h4, h5⟩, hp, ho, hl⟩ := h
  dsimp only at h1 h2 h9 h4 h5 hp ho hl
  have cb := cdY_b hy hcd
  have en : ∀ i, 0 ≤ i → i < 6 → stp (addD w q) (w 9) i = r5 q i := fun i i0 i1 => addD_n h9 i0 i1
  have eo : ∀ k i, 0 ≤ k → k < w 9 → 0 ≤ i → i < 6 → stp (addD w q) k i = stp w k i := fun k i k0 k1 i0 i1 => addD_o k0 k1 i0 i1
  have hO : ∀ o, o ∈ O → 0 ≤ o ∧ o < addD w q 9 ∧ blk (stp (addD w q) o 0) ∧ (o + 1 < addD w q 9 → stp (addD w q) (o + 1) 0 ≠ 25) := fun o hm => by
    obtain ⟨q0, q1, q2, q3⟩ := ho o hm
    rw [addD_9, eo o 0 q0 q1 (by omega) (by omega)]
    refine ⟨q0, by omega, q2, fun z => ?_⟩
    by_cases d : o + 1 = w 9
    · rw [d, en 0 (by omega) (by omega)]; exact h25
    · rw [eo _ 0 (by omega) (by omega) (by omega) (by omega)]; exact q3 (by omega)
  have sub : ∀ k, k ∈ O → k ∈ (if y = 23 ∨ y = 27 then w 9 :: O else O) := fun k hm => by
    by_cases d : y = 23 ∨ y = 27
    · rw [if_pos d]; exact List.mem_cons_of_mem _ hm
    · rw [if_neg d]; exact hm
  refine ⟨⟨?_, ?_, ?_, ?_, ?_⟩, ?_, fun o hm => ?_, fun k k0 k1 => ?_⟩ <;> dsimp only at *
  · omega
  · omega
  · rw [addD_9]; omega
  · rw [addD_9]
    by_cases d : y = 23 ∨ y = 27
    · rw [if_pos d, List.length_cons]; omega
    · rw [if_neg d]; omega
  · by_cases d : y = 23 ∨ y = 27
    · rw [if_pos d, List.length_cons]; omega
    · rw [if_neg d]; omega
  · by_cases d : y = 23 ∨ y = 27
    · rw [if_pos d, List.pairwise_cons]; exact ⟨fun b hb => (ho b hb).2.1, hp⟩
    · rw [if_neg d]; exact hp
  · by_cases d : y = 23 ∨ y = 27
    · rw [if_pos d, List.mem_cons] at hm
      rcases hm with hm | hm
      · rw [hm, addD_9, en 0 (by omega) (by omega)]
        exact ⟨h9, by omega, cb.mpr d, fun z => by omega⟩
      · exact hO o hm
    · rw [if_neg d] at hm; exact hO o hm
  · rw [addD_9] at k1
    by_cases ck : k = w 9
    · subst ck
      unfold lOK
      rw [en 0 (by omega) (by omega), en 1 (by omega) (by omega), en 2 (by omega) (by omega), en 3 (by omega) (by omega), en 5 (by omega) (by omega)]
      refine ⟨hq, fun z => .inl ?_, fun z => absurd z h25⟩
      rw [if_pos (cb.mp z)]; exact List.mem_cons_self ..
    · obtain ⟨l1, l2, l3⟩ := hl k k0 (by omega)
      have k1' : k < w 9 := by omega
      unfold lOK
      rw [eo k 0 k0 k1' (by omega) (by omega), eo k 1 k0 k1' (by omega) (by omega), eo k 2 k0 k1' (by omega) (by omega), eo k 3 k0 k1' (by omega) (by omega), eo k 4 k0 k1' (by omega) (by omega), eo k 5 k0 k1' (by omega) (by omega), addD_9]
      refine ⟨l1, fun z => ?_, fun z => ?_⟩
      · rcases l2 z with q | q
        · exact .inl (sub k q)
        · exact .inr ⟨q.1, by omega⟩
      · obtain ⟨a, b, c, d⟩ := l3 z
        rw [eo _ 0 a (by omega) (by omega) (by omega)]
        refine ⟨a, b, c, ?_⟩
        rcases d with d | d
        · exact .inl d
        · rw [eo _ 0 (by omega) (by omega) (by omega) (by omega)]; exact .inr d
theorem wds_s {B K : Int → Int} {n : Int} {m : Nms} {σ : DS} {s : Int} {p : DS × Int} (m3 : 0 ≤ m.2.1) (m5 : 0 ≤ m.2.2.2) (h : dsT B K n m σ s = .ok p) (hw : WDs m σ) : WDs m p.1 := by
  by_cases c : tkY B K n s = 28
  · obtain ⟨o, O, e1, e2, e3⟩ := dsT_end h c
    rw [e3]
    refine wds_end ?_
    rw [← e1]; exact hw
  · obtain ⟨q1, q, a1, a2, a3, a4, a5, a6, a7⟩ := dsT_step h c
    obtain ⟨b1, b2, b3⟩ := dsA_i m3 m5 a1 a4 a5
    rw [a7]
    exact wds_step hw a2 a1 a3 b1 b2 b3
theorem wds_0 {m : Nms} {u : Int → Int} : WDs m (δ0 u) := by
  have e : (δ0 u).1 9 = 0 := by show upd1 u 9 0 9 = 0; rw [upd1_at, if_pos rfl]
  refine ⟨⟨Int.le_refl _, by show (0 : Int) ≤ 30; omega, by omega, by rw [e]; show (0 : Int) + ((0 : Nat) : Int) ≤ 2 * 0; omega, Nat.zero_le _⟩, List.Pairwise.nil, fun o ho => (nomatch ho), fun k k0 k1 => by omega⟩
/-- the world with new days -/
def wD (W w : Int → Int) : Int → Int := fun j => if j = 9 ∨ (270 ≤ j ∧ j < 640) then w j else W j
theorem wD_s {W w : Int → Int} {k i : Int} (k0 : 0 ≤ k) (k1 : k ≤ 60) (i0 : 0 ≤ i) (i1 : i < 6) : stp (wD W w) k i = stp w k i := by
  unfold stp wD; rw [if_pos (by omega)]
theorem wfd_new {W : Int → Int} {σ : DS} {m : Nms} (e3 : m.2.1 = W 3) (e5 : m.2.2.2 = W 5) (h : WDs m σ) (hO : σ.2.1 = []) : WFd (wD W σ.1) := by
  obtain ⟨⟨h1, h2, h9, h4, h5⟩, hp, ho, hl⟩ := h
  have e9 : wD W σ.1 9 = σ.1 9 := by unfold wD; rw [if_pos (.inl rfl)]
  have f3 : wD W σ.1 3 = W 3 := by unfold wD; rw [if_neg (by omega)]
  have f5 : wD W σ.1 5 = W 5 := by unfold wD; rw [if_neg (by omega)]
  rw [hO, List.length_nil] at h4
  refine ⟨by omega, by omega, fun k k0 k1 => ?_⟩
  rw [e9] at k1
  obtain ⟨l1, l2, l3⟩ := hl k k0 k1
  rw [hO] at l2
  have l2 : blk (stp σ.1 k 0) → k < stp σ.1 k 4 ∧ stp σ.1 k 4 < σ.1 9 := fun z => by
    rcases l2 z with q | q
    · exact nomatch q
    · exact q
  have s : ∀ i, 0 ≤ i → i < 6 → stp (wD W σ.1) k i = stp σ.1 k i := fun i i0 i1 => wD_s k0 (by omega) i0 i1
  unfold dOK
  rw [s 0 (by omega) (by omega), s 1 (by omega) (by omega), s 2 (by omega) (by omega), s 3 (by omega) (by omega), s 4 (by omega) (by omega), s 5 (by omega) (by omega), f3, f5, e9]
  unfold rOK at l1
  rw [e3, e5] at l1
  dsimp only at l1
  rcases l1 with l | l | l | l | l | l | l | l | l | l | l
  · exact .inl l
  · exact .inr (.inl l)
  · exact .inr (.inr (.inl l))
  · exact .inr (.inr (.inr (.inl l)))
  · exact .inr (.inr (.inr (.inr (.inl l))))
  · exact .inr (.inr (.inr (.inr (.inr (.inl l)))))
  · exact .inr (.inr (.inr (.inr (.inr (.inr (.inl l))))))
  · have := l2 (.inl l.1)
    exact .inr (.inr (.inr (.inr (.inr (.inr (.inr (.inl ⟨l.1, l.2.1, l.2.2, this.1, this.2⟩)))))))
  · obtain ⟨a, b, c, d⟩ := l3 l
    refine .inr (.inr (.inr (.inr (.inr (.inr (.inr (.inr (.inl ⟨l, a, b, ?_, ?_⟩))))))))
    · rw [wD_s a (by omega) (by omega) (by omega)]; exact c
    · rw [wD_s (by omega) (by omega) (by omega) (by omega)]; exact d
  · have := l2 (.inr (by omega))
    exact .inr (.inr (.inr (.inr (.inr (.inr (.inr (.inr (.inr ⟨.inl l, this⟩))))))))
  · have := l2 (.inr (by omega))
    exact .inr (.inr (.inr (.inr (.inr (.inr (.inr (.inr (.inr ⟨.inr l, this⟩))))))))
