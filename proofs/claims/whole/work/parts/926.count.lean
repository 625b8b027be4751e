/-! the class counts -/
def SCc (a j : Int) : Prop := 66 ≤ a ∧ a ≤ 69 ∧ 0 ≤ j
theorem count_e {M : Mem} {v : Int} {w : Int → Int} {Q : Mem → Prop} (hc : CI M v w) (hn : WFn w) (hr : WFr w) (hf : WFf w) {f t o d : Int} (f0 : 0 ≤ f) (f1 : f < w 5) (d0 : 0 ≤ d) (d1 : d ≤ 1440) (ho : ∀ r, 0 ≤ r → r < w 3 → (bt o r ↔ opn w t r)) (hb : ∀ a j, 66 ≤ a → a ≤ 69 → 0 ≤ j → (a ≤ 67 → j < w 3) → (68 ≤ a → j < w 5) → 0 ≤ M a j ∧ M a j ≤ 10000) (hq : ∀ M', (∀ a j, ¬ SCc a j → M' a j = M a j) → (∀ g, 0 ≤ g → g < 10 → M' 68 g = M 68 g + (if g = f then d else 0) ∧ M' 69 g = M 69 g + (if g = f ∧ opn w t (fc w f 0) then d else 0)) → (∀ r, 0 ≤ r → r < w 3 → M' 66 r = M 66 r + (if bel w f r ∧ opn w t r then d else 0) ∧ M' 67 r = M 67 r + (if bel w f r ∧ opn w t (rc w r 0) ∧ ¬ letsW w r t then d else 0)) → Q M') : Tot (f_X5_count 55 v f o d M) Q := by
  have hn' := hn
  unfold WFn at hn'
  obtain ⟨na, nb, nc, nd, ne⟩ := ci_p hc
  obtain ⟨g1, g2, g3, g4, g5, g6, g7⟩ := ci_n hc
  obtain ⟨r1, r2, r3, r4, r5, r6, r7⟩ := ci_f hc hn f0 f1
  have q := hf f f0 f1
  have s0 := r5 0 (by omega) (by omega)
  have hv := hc.1
  obtain ⟨⟨a1, a2, a3, a4, a5, a6, a7, a8, a9, a10, a11, a12⟩, _, ⟨c1, c2, c3, c4, c5, c6, c7, c8, c9, c10, c11, c12, c13, _⟩⟩ := hc.2.2.2.2.1
  have b68 := hb 68 f (by omega) (by omega) f0 (by omega) (by omega)
  have b69 := hb 69 f (by omega) (by omega) f0 (by omega) (by omega)
  unfold f_X5_count
  simp only [t_getf, t_geti, t_seti, r1, r2, r3, r4, s0, a7, c12]
  refine ⟨ne, r6, f0, by omega, r7, by decide, by omega, by decide, by decide, f0, by omega, by decide, f0, by omega, by decide, ?_⟩
  obtain ⟨N1, e1⟩ : ∃ X, X = upd2 M 68 f (w32 (M 68 f + d)) := ⟨_, rfl⟩
  have k1 : ∀ a j, ¬ (a = 68 ∧ j = f) → N1 a j = M a j := fun a j hj => by rw [e1, upd2_at, if_neg hj]
  have v1 : N1 68 f = M 68 f + d := by rw [e1, upd2_at, if_pos ⟨rfl, rfl⟩, w32_s (by omega) (by omega)]
  simp only [← e1]
  rw [k1 _ _ (by omega), a8, k1 _ _ (by omega), c13, k1 _ _ (by omega)]
  refine ⟨by decide, f0, by omega, t_jq (fun j => Tot (j (if opn w t (fc w f 0) then d else 0)) Q) ?_ (fun j hj => ?_)⟩
  rotate_left
  · rw [t_ite]
    refine ⟨fun c => ?_, fun c => ?_⟩
    · rw [if_neg (fun h => c ((ho _ q.1 q.2.1).mpr h))] at hj; exact hj
    · have c' : bt o (fc w f 0) := Classical.not_not.mp c
      rw [if_pos ((ho _ q.1 q.2.1).mp c')] at hj; exact hj
  have bo : 0 ≤ (if opn w t (fc w f 0) then d else 0) ∧ (if opn w t (fc w f 0) then d else 0) ≤ 1440 := by split <;> omega
  rw [t_seti, k1 _ _ (by omega), c13, w32_s (by omega) (by omega)]
  refine ⟨by decide, f0, by omega, ?_⟩
  obtain ⟨N2, e2⟩ : ∃ X, X = upd2 N1 69 f (M 69 f + (if opn w t (fc w f 0) then d else 0)) := ⟨_, rfl⟩
  have k2 : ∀ a j, ¬ (a = 68 ∧ j = f) → ¬ (a = 69 ∧ j = f) → N2 a j = M a j := fun a j hj hk => by rw [e2, upd2_at, if_neg hk, k1 _ _ hj]
  have v2 : ∀ g, 0 ≤ g → g < 10 → N2 68 g = M 68 g + (if g = f then d else 0) ∧ N2 69 g = M 69 g + (if g = f ∧ opn w t (fc w f 0) then d else 0) := by
    intro g x0 x1
    by_cases c : g = f
    · subst c
      simp only [true_and, if_true]
      exact ⟨by rw [e2, upd2_at, if_neg (by omega)]; exact v1, by rw [e2, upd2_at, if_pos ⟨rfl, rfl⟩]⟩
    · simp only [if_neg c]
      rw [if_neg (fun h => c h.1)]
      exact ⟨by rw [k2 _ _ (by omega) (by omega)]; omega, by rw [k2 _ _ (by omega) (by omega)]; omega⟩
  rw [← e2]
  clear bo b68 b69 v1
  refine lpIIM (fun p u N => -1 ≤ p ∧ p < w 3 ∧ 0 ≤ u ∧ u + p ≤ fc w f 0 ∧ (∀ s, (s ∈ ch w (fc w f 0) ∧ s ≤ p) ↔ s ∈ ch w p) ∧ (∀ a j, ¬ (66 ≤ a ∧ a ≤ 67 ∧ 0 ≤ j) → N a j = N2 a j) ∧ ∀ r, 0 ≤ r → r < w 3 → N 66 r = M 66 r + (if (bel w f r ∧ p < r) ∧ opn w t r then d else 0) ∧ N 67 r = M 67 r + (if (bel w f r ∧ p < r) ∧ opn w t (rc w r 0) ∧ ¬ letsW w r t then d else 0)) (fun p _ _ => (p + 1).toNat) ?_ (by unfold KF; omega) ⟨by omega, by omega, by omega, by omega, fun s => ⟨fun h => h.1, fun h => ⟨h, (ch_mem hr (by omega) 10 _ (by omega) (by omega) q.2.1 s h).2⟩⟩, fun _ _ _ => rfl, fun r x0 x1 => ?_⟩
  rotate_left
  · have : ¬ (bel w f r ∧ fc w f 0 < r) := fun h => by
      have := ch_mem hr (by omega) 10 _ (by omega) (by omega) q.2.1 r h.1
      omega
    rw [if_neg (fun h => this h.1), if_neg (fun h => this h.1), k2 _ _ (by omega) (by omega), k2 _ _ (by omega) (by omega)]; omega
  rintro n p u N ⟨i0, i1, i2, i3, i4, i5, i6⟩ ih
  have fin : p = -1 → Q N := by
    intro hp
    subst hp
    refine hq N (fun a j ha => ?_) (fun g x0 x1 => ?_) (fun r x0 x1 => ?_)
    · unfold SCc at ha
      rw [i5 a j (by omega), k2 _ _ (by omega) (by omega)]
    · rw [i5 _ _ (by omega), i5 _ _ (by omega)]; exact v2 g x0 x1
    · have := i6 r x0 x1
      have e : (bel w f r ∧ -1 < r) ↔ bel w f r := ⟨fun h => h.1, fun h => ⟨h, by omega⟩⟩
      simp only [e] at this
      exact this
  unfold f_X5_count_L49
  rw [t_ite, t_ite, t_some]
  refine ⟨fun c => fin (by omega), fun c => ⟨fun c2 => fin c2, fun c2 => ?_⟩⟩
  have kN : ∀ a j, ¬ (66 ≤ a ∧ a ≤ 69 ∧ 0 ≤ j) → N a j = M a j := fun a j ha => by rw [i5 a j (by omega), k2 _ _ (by omega) (by omega)]
  obtain ⟨x1, x2, x3, x4, x5, x6, x7⟩ := ci_r hc hn (show 0 ≤ p by omega) i1
  have y0 := x5 0 (by omega) (by omega)
  have f1' : N v 8 = v + 1 := by rw [kN _ _ (by omega)]; exact x1
  have f2' : N (v + 1) (-1) = 10 := by rw [kN _ _ (by omega)]; exact x2
  have f3' : N (v + 1) p = v + 2 + p := by rw [kN _ _ (by omega)]; exact x3
  have f4' : N (v + 2 + p) (-1) = 6 := by rw [kN _ _ (by omega)]; exact x4
  have f5' : N (v + 2 + p) 0 = rc w p 0 := by rw [kN _ _ (by omega)]; exact y0
  have p66 : N 55 4 = 66 := by rw [kN _ _ (by omega)]; exact a5
  have p67 : N 55 5 = 67 := by rw [kN _ _ (by omega)]; exact a6
  have l66 : N 66 (-1) = 10 := by rw [kN _ _ (by omega)]; exact c10
  have l67 : N 67 (-1) = 10 := by rw [kN _ _ (by omega)]; exact c11
  have qp := hr p (by omega) i1
  have mp : p ∈ ch w p := by rw [ch_s hr (by omega) (by omega) i1]; exact List.mem_cons_self
  have mf : bel w f p := ((i4 p).mpr mp).1
  have os := opn_s hr (by omega) (show 0 ≤ p by omega) i1 t
  have hop := ho p (by omega) i1
  have v6 := i6 p (by omega) i1
  have np : ¬ ((bel w f p ∧ p < p) ∧ opn w t p) := fun h => by omega
  have np2 : ¬ ((bel w f p ∧ p < p) ∧ opn w t (rc w p 0) ∧ ¬ letsW w p t) := fun h => by omega
  rw [if_neg np, if_neg np2] at v6
  clear np np2
  have z66 := hb 66 p (by omega) (by omega) (by omega) (by omega) (by omega)
  have z67 := hb 67 p (by omega) (by omega) (by omega) (by omega) (by omega)
  simp only [t_getf, t_geti, f1', f2', f3', f4', f5']
  refine ⟨ne, x6, by omega, by omega, x7, by decide, by omega, ?_⟩
  rw [w32_s (x := u + 1) (by omega) (by omega)]
  -- what is left to do behind the count at p
  have cont : ∀ N' : Mem, (∀ a j, ¬ (66 ≤ a ∧ a ≤ 67 ∧ j = p) → N' a j = N a j) → N' 66 p = M 66 p + (if opn w t p then d else 0) → N' 67 p = M 67 p + (if opn w t (rc w p 0) ∧ ¬ letsW w p t then d else 0) → Tot (f_X5_count_L49 55 v o d (fun (M25 : Mem) => some M25) n (rc w p 0) (u + 1) N') Q := by
    intro N' kN' u6 u7
    refine ih _ _ _ (by omega) ⟨by omega, by omega, by omega, by omega, fun s => ?_, fun a j ha => by rw [kN' a j (by omega)]; exact i5 a j ha, fun r z0 z1 => ?_⟩
    · have cs := ch_s hr (by omega) (show 0 ≤ p by omega) i1
      constructor
      · rintro ⟨s1, s2⟩
        have := (i4 s).mp ⟨s1, by omega⟩
        rw [cs] at this
        rcases List.mem_cons.mp this with e | e
        · omega
        · exact e
      · intro hs
        have m1 := ch_mem hr (by omega) 10 _ (by omega) qp.1 (show rc w p 0 < w 3 by omega) s hs
        have m2 : s ∈ ch w p := by rw [cs]; exact List.mem_cons_of_mem _ hs
        exact ⟨((i4 s).mpr m2).1, m1.2⟩
    · by_cases e : r = p
      · subst e
        have e1 : (bel w f r ∧ rc w r 0 < r) := ⟨mf, by omega⟩
        rw [u6, u7]
        simp only [e1, true_and]
      · have := i6 r z0 z1
        have e1 : (bel w f r ∧ rc w p 0 < r) ↔ (bel w f r ∧ p < r) := by
          constructor
          · rintro ⟨s1, s2⟩
            refine ⟨s1, ?_⟩
            by_cases hlt : p < r
            · exact hlt
            · have m1 := (i4 r).mp ⟨s1, by omega⟩
              rw [ch_s hr (by omega) (by omega) i1] at m1
              rcases List.mem_cons.mp m1 with e' | e'
              · omega
              · have := ch_mem hr (by omega) 10 _ (by omega) qp.1 (show rc w p 0 < w 3 by omega) r e'
                omega
          · rintro ⟨s1, s2⟩; exact ⟨s1, by omega⟩
        rw [kN' _ _ (by omega), kN' _ _ (by omega)]
        simp only [e1]
        exact this
  refine t_jq (fun j => ∀ N' : Mem, (∀ a j, ¬ (66 ≤ a ∧ a ≤ 67 ∧ j = p) → N' a j = N a j) → N' 66 p = M 66 p + (if opn w t p then d else 0) → N' 67 p = M 67 p + (if opn w t (rc w p 0) ∧ ¬ letsW w p t then d else 0) → Tot (j N') Q) cont (fun j hj => ?_)
  rw [t_ite]
  refine ⟨fun c3 => ?_, fun c3 => ?_⟩
  · have no : ¬ opn w t p := fun h => c3 (hop.mpr h)
    refine t_jq (fun j => opn w t (rc w p 0) → Tot j Q) (fun hop2 => ?_) (fun j2 hj2 => ?_)
    · rw [t_getf, p67, t_geti, l67, t_seti, l67, w32_s (by omega) (by omega)]
      refine ⟨by decide, by decide, by omega, by omega, by decide, by omega, by omega, hj _ (fun a j ha => by rw [upd2_at, if_neg (by omega)]) ?_ ?_⟩
      · rw [upd2_at, if_neg (by omega), if_neg no]; exact v6.1
      · rw [upd2_at, if_pos ⟨rfl, rfl⟩, if_pos ⟨hop2, fun h => no (os.mpr ⟨h, hop2⟩)⟩, v6.2]; omega
    · rw [t_ite, t_ite]
      refine ⟨fun c4 => hj2 (by rw [c4]; exact opn_neg w t), fun c4 => ⟨fun c5 => ?_, fun c5 => ?_⟩⟩
      · have hp0 := ho (rc w p 0) (by omega) (by omega)
        have no2 : ¬ opn w t (rc w p 0) := fun h => c5 (hp0.mpr h)
        refine hj N (fun _ _ _ => rfl) ?_ ?_
        · rw [if_neg no]; exact v6.1
        · rw [if_neg (fun h => no2 h.1)]; exact v6.2
      · have hp0 := ho (rc w p 0) (by omega) (by omega)
        exact hj2 (hp0.mp (Classical.not_not.mp c5))
  · have yo : opn w t p := hop.mp (Classical.not_not.mp c3)
    rw [t_getf, p66, t_geti, l66, t_seti, l66, w32_s (by omega) (by omega)]
    refine ⟨by decide, by decide, by omega, by omega, by decide, by omega, by omega, hj _ (fun a j ha => by rw [upd2_at, if_neg (by omega)]) ?_ ?_⟩
    · rw [upd2_at, if_pos ⟨rfl, rfl⟩, if_pos yo, v6.1]; omega
    · rw [upd2_at, if_neg (by omega), if_neg (fun h => h.2 (os.mp yo).1)]; exact v6.2
