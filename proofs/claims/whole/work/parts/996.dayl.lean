/-! the class reads a step of the days -/
theorem sel_congr {p q : Int → Bool} : ∀ (k : Nat) (lo : Int), (∀ x, lo ≤ x → x < lo + k → p x = q x) → selC p lo k = selC q lo k
  | 0, _, _ => rfl
  | k + 1, lo, h => by
    show (if p lo = true then [lo] else []) ++ selC p (lo + 1) k = (if q lo = true then [lo] else []) ++ selC q (lo + 1) k
    rw [h lo (by omega) (by omega), sel_congr k (lo + 1) (fun x a b => h x (by omega) (by omega))]
theorem sel_fil {p q : Int → Bool} {o : Int} : ∀ (k : Nat) (lo : Int), (∀ x, lo ≤ x → x < lo + k → x ≠ o → q x = p x) → q o = false → selC q lo k = (selC p lo k).filter (fun x => decide (x ≠ o))
  | 0, _, _, _ => rfl
  | k + 1, lo, h, ho => by
    show (if q lo = true then [lo] else []) ++ selC q (lo + 1) k = ((if p lo = true then [lo] else []) ++ selC p (lo + 1) k).filter (fun x => decide (x ≠ o))
    rw [List.filter_append, sel_fil k (lo + 1) (fun x a b c => h x (by omega) (by omega) c) ho]
    congr 1
    by_cases c : lo = o
    · rw [c, ho]
      by_cases e : p o = true
      · rw [if_pos e]; simp
      · rw [if_neg e]; simp
    · rw [h lo (by omega) (by omega) c]
      by_cases e : p lo = true
      · rw [if_pos e]; simp [c]
      · rw [if_neg e]; simp
def opnC (M : Mem) (d : Int) (k : Int) : Bool := decide ((M (d + 1) k = 23 ∨ M (d + 1) k = 27) ∧ M (d + 7) k = -1)
theorem opn_t {M : Mem} {d k : Int} : opnC M d k = true ↔ (M (d + 1) k = 23 ∨ M (d + 1) k = 27) ∧ M (d + 7) k = -1 := decide_eq_true_iff
def rowS (w : Int → Int) (k : Int) : Rw5 := (stp w k 0, stp w k 1, stp w k 2, stp w k 3, stp w k 5)
def DC (M : Mem) (d : Int) (σ : DS) : Prop := LDy M d ∧ (M d 1 = σ.2.2 ∧ M d 2 = σ.1 9) ∧ σ.2.1.reverse = selC (opnC M d) 0 (σ.1 9).toNat ∧ ∀ k, 0 ≤ k → k < σ.1 9 → lnB M d k (rowS σ.1 k) ∧ ((stp σ.1 k 0 = 25 ∨ (blk (stp σ.1 k 0) ∧ k ∉ σ.2.1)) → M (d + 7) k = stp σ.1 k 4)
def FrD (M N : Mem) (d : Int) : Prop := ∀ a j, ¬ tpF a j → ¬ PD (a - d) j → N a j = M a j
theorem frd_t {M N P : Mem} {d : Int} (h : FrD M N d) (k : FrD N P d) : FrD M P d := fun a j q r => by rw [k a j q r, h a j q r]
theorem frd_c {M N : Mem} {d : Int} (h : FrC M N) : FrD M N d := fun a j q _ => h a j q
theorem isBlock_e {M : Mem} (y : Int) : f_X0_isBlock y M = some (if y = 23 ∨ y = 27 then 1 else 0) := by
  simp only [f_X0_isBlock, jn, retz]
  by_cases c : y = 23
  · simp [c]
  · by_cases e : y = 27 <;> simp [c, e]
theorem ldy_f {M : Mem} {d : Int} (h : LDy M d) : M d 3 = d + 1 ∧ M d 9 = d + 7 ∧ M (d + 1) (-1) = 60 ∧ M (d + 7) (-1) = 60 := ⟨h.1.1, h.1.2.2.2.2.2.2, h.2 1 (by omega) (by omega), h.2 7 (by omega) (by omega)⟩
def inQ (L : List Int) (u : Int) : Prop := (L = [] ∧ u = -1) ∨ ∃ O, L = u :: O
theorem innermost_e {M : Mem} {d : Int} {σ : DS} (h : DC M d σ) (d0 : 12 < d) (h9 : 0 ≤ σ.1 9 ∧ σ.1 9 ≤ 60) : Tot (f_X0_innermost d M) (inQ σ.2.1) := by
  obtain ⟨hD, ⟨h1, h2⟩, hO, hl⟩ := h
  obtain ⟨p3, p9, l1, l7⟩ := ldy_f hD
  unfold f_X0_innermost
  rw [t_getf, h2, t_letv, w32_s (by omega) (by omega)]
  refine ⟨by omega, ?_⟩
  refine lpI (fun b => -1 ≤ b ∧ b < σ.1 9 ∧ σ.2.1.reverse = selC (opnC M d) 0 (b + 1).toNat) (fun b => (b + 1).toNat) ?_ (by unfold KF; omega) ⟨by omega, by omega, by rw [show σ.1 9 - 1 + 1 = σ.1 9 by omega]; exact hO⟩
  rintro fu b ⟨i0, i1, i2⟩ ih
  unfold f_X0_innermost_L7
  rw [t_ite]
  refine ⟨fun c => ?_, fun c => ?_⟩
  · rw [t_some]
    rw [show (b + 1).toNat = 0 by omega] at i2
    have : σ.2.1.reverse = [] := i2
    exact .inl ⟨List.reverse_eq_nil_iff.mp this, rfl⟩
  have sn := sel_snoc (p := opnC M d) b.toNat 0
  rw [show (0 : Int) + ((b.toNat : Nat) : Int) = b by omega] at sn
  rw [show (b + 1).toNat = b.toNat + 1 by omega, sn] at i2
  rw [t_getf, p3, t_geti, l1, t_callp, isBlock_e, t_some]
  refine ⟨by omega, by omega, by omega, by omega, ?_⟩
  refine t_jq (fun J : Option Int => ¬ opnC M d b = true → Tot J (inQ σ.2.1)) (fun e => ?_) (fun J hJ => ?_)
  · rw [w32_s (by omega) (by omega)]
    rw [if_neg e, List.append_nil] at i2
    exact ih _ (by omega) ⟨by omega, by omega, by rw [show b + -1 + 1 = b by omega]; exact i2⟩
  rw [t_ite]
  refine ⟨fun e => hJ (fun z => ?_), fun e => ?_⟩
  · rw [opn_t] at z
    rw [if_pos z.1] at e; omega
  rw [t_getf, p9, t_geti, l7, t_ite]
  refine ⟨by omega, by omega, by omega, by omega, fun g => hJ (fun z => ?_), fun g => ?_⟩
  · rw [opn_t] at z; exact g z.2
  · have ob : opnC M d b = true := by
      rw [opn_t]
      refine ⟨?_, Classical.not_not.mp g⟩
      by_cases z : M (d + 1) b = 23 ∨ M (d + 1) b = 27
      · exact z
      · rw [if_neg z] at e; exact absurd rfl e
    rw [if_pos ob] at i2
    rw [t_some]
    have := congrArg List.reverse i2
    rw [List.reverse_reverse, List.reverse_append] at this
    exact .inr ⟨_, this⟩
theorem openBlocks_e {M : Mem} {d : Int} {σ : DS} (h : DC M d σ) (d0 : 12 < d) (h9 : 0 ≤ σ.1 9 ∧ σ.1 9 ≤ 60) : Tot (f_X0_openBlocks d M) (fun u => u = σ.2.1.length) := by
  obtain ⟨hD, ⟨h1, h2⟩, hO, hl⟩ := h
  obtain ⟨p3, p9, l1, l7⟩ := ldy_f hD
  have lO : σ.2.1.length = (selC (opnC M d) 0 (σ.1 9).toNat).length := by rw [← hO, List.length_reverse]
  unfold f_X0_openBlocks
  refine lpII (fun a b => 0 ≤ b ∧ b ≤ σ.1 9 ∧ a = (selC (opnC M d) 0 b.toNat).length) (fun _ b => (σ.1 9 - b).toNat) ?_ (by unfold KF; omega) ⟨by omega, by omega, rfl⟩
  rintro fu a b ⟨i0, i1, i2⟩ ih
  unfold f_X0_openBlocks_L4
  rw [t_getf, h2, t_ite]
  refine ⟨by omega, fun c => ?_, fun c => ?_⟩
  · rw [t_some, lO, i2, show b.toNat = (σ.1 9).toNat by omega]
  have sn := sel_snoc (p := opnC M d) b.toNat 0
  rw [show (0 : Int) + ((b.toNat : Nat) : Int) = b by omega] at sn
  have sl := sel_le (p := opnC M d) (lo := 0) (k := b.toNat) 0
  have sb : (selC (opnC M d) 0 b.toNat).length ≤ 60 := by
    have := nd_len (sel_nd (p := opnC M d) b.toNat 0) (n := σ.1 9) h9.1 (fun x hx => by rw [sel_mem] at hx; omega)
    omega
  rw [t_getf, p3, t_geti, l1, t_callp, isBlock_e, t_some]
  refine ⟨by omega, by omega, by omega, by omega, ?_⟩
  refine t_jq (fun J : Int → Option Int => ∀ x, (x = if opnC M d b = true then 1 else 0) → Tot (J x) (fun u => u = (σ.2.1.length : Int))) (fun x hx => ?_) (fun J hJ => ?_)
  · have x01 : x = 0 ∨ x = 1 := by
      by_cases e : opnC M d b = true
      · rw [if_pos e] at hx; omega
      · rw [if_neg e] at hx; omega
    rw [t_letv, w32_s (by omega) (by omega), w32_s (by omega) (by omega)]
    refine ih _ _ (by omega) ⟨by omega, by omega, ?_⟩
    rw [show (b + 1).toNat = b.toNat + 1 by omega, sn, List.length_append]
    by_cases e : opnC M d b = true
    · rw [if_pos e] at hx ⊢; rw [List.length_singleton]; omega
    · rw [if_neg e] at hx ⊢; rw [List.length_nil]; omega
  refine t_jq (fun J2 : Option Int => ¬ opnC M d b = true → Tot J2 (fun u => u = (σ.2.1.length : Int))) (fun e => hJ 0 (by rw [if_neg e])) (fun J2 hJ2 => ?_)
  rw [t_ite]
  refine ⟨fun e => hJ2 (fun z => ?_), fun e => ?_⟩
  · rw [opn_t] at z
    rw [if_pos z.1] at e; omega
  rw [t_getf, p9, t_geti, l7, t_ite]
  refine ⟨by omega, by omega, by omega, by omega, fun g => hJ2 (fun z => ?_), fun g => ?_⟩
  · rw [opn_t] at z; exact g z.2
  · refine hJ 1 ?_
    rw [if_pos]
    rw [opn_t]
    refine ⟨?_, Classical.not_not.mp g⟩
    by_cases z : M (d + 1) b = 23 ∨ M (d + 1) b = 27
    · exact z
    · rw [if_neg z] at e; exact absurd rfl e
theorem addLine_e {M : Mem} {d y n : Int} {Q : Int × Mem → Prop} (hD : LDy M d) (d0 : 12 < d) (h2 : M d 2 = n) (n0 : 0 ≤ n) (n1 : n < 60) (hq : ∀ N, N d 2 = n + 1 → N (d + 1) n = y → N (d + 7) n = -1 → (∀ a j, ¬ (a = d ∧ j = 2) → ¬ ((a = d + 1 ∨ a = d + 7) ∧ j = n) → N a j = M a j) → Q (n, N)) : Tot (f_X0_addLine d y M) Q := by
  obtain ⟨p3, p9, l1, l7⟩ := ldy_f hD
  unfold f_X0_addLine
  rw [t_getf, h2, t_callp, min_e, t_some]
  have e : (if (59 : Int) < n then (59 : Int) else n) = n := by rw [if_neg (by omega)]
  rw [e, t_getf, p3, t_seti, l1, t_getf, upd2_at, if_neg (by omega), p9, t_seti, upd2_at, if_neg (by omega), l7, t_putf, t_some, w32_s (by omega) (by omega)]
  refine ⟨by omega, by omega, by omega, n0, n1, by omega, by omega, n0, n1, by omega, hq _ ?_ ?_ ?_ (fun a j q1 q2 => ?_)⟩
  · rw [upd2_at, if_pos ⟨rfl, rfl⟩]
  · rw [upd2_at, if_neg (by omega), upd2_at, if_neg (by omega), upd2_at, if_pos ⟨rfl, rfl⟩]
  · rw [upd2_at, if_neg (by omega), upd2_at, if_pos ⟨rfl, rfl⟩]
  · rw [upd2_at, if_neg q1, upd2_at, if_neg (by omega), upd2_at, if_neg (by omega)]
theorem isStepWord_e {M : Mem} (y : Int) : f_X1_isStepWord y M = some (if swd y then 1 else 0) := by
  simp only [f_X1_isStepWord, jn, retz, swd]
  grind
theorem mostOf_e {M : Mem} (y : Int) : f_X1_mostOf y M = some (if y = 18 ∨ y = 20 then 999 else if y = 21 then 16 else if y = 27 then 99 else -1) := by
  simp only [f_X1_mostOf]
  grind
theorem leastOf_e {M : Mem} (y : Int) : f_X1_leastOf y M = some (if y = 18 ∨ y = 27 then 1 else 0) := by
  simp only [f_X1_leastOf, jn]
  grind
