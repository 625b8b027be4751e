/-! swapping -/
def swp (a b x : Int) : Int := if x = a then b else if x = b then a else x
def swapO (w : Int → Int) (a b : Int) : Int → Int := fun j => if 112 ≤ j ∧ j < 112 + w 5 then swp a b (w j) else w j
theorem swapO_o {w : Int → Int} {a b j : Int} (h : j < 112 ∨ 122 ≤ j) (hn : w 5 ≤ 10) : swapO w a b j = w j := by unfold swapO; rw [if_neg (by omega)]
theorem swapO_v {w : Int → Int} {a b : Int} (hn : w 5 ≤ 10) : SameV w (swapO w a b) := fun k hk => swapO_o (by omega) hn
theorem swapO_od {w : Int → Int} {a b k : Int} (h0 : 0 ≤ k) (h1 : k < w 5) : od (swapO w a b) k = swp a b (od w k) := by unfold od swapO; rw [if_pos (by omega)]
theorem swp_i {a b x y : Int} (h : swp a b x = swp a b y) : x = y := by unfold swp at h; grind
theorem swp_s (a b x : Int) : swp a b (swp a b x) = x := by unfold swp; grind
theorem sumZ_upd {g : Int → Int} {i x n : Int} (h0 : 0 ≤ i) (h1 : i < n) : sumZ (fun j => if j = i then x else g j) n = sumZ g n - g i + x := by
  have := foldZ_inv (f := fun j (s : Int) => s + (if j = i then x else g j)) (a := 0) (fun p (s : Int) => 0 ≤ p ∧ s = if i < p then sumZ g p - g i + x else sumZ g p) ⟨by omega, by rw [if_neg (by omega), sumZ_0]⟩ (n := n) (fun k s hk hk1 hs => ⟨by omega, by
    rw [hs.2, sumZ_s _ hk]
    by_cases hik : k = i
    · subst hik; rw [if_neg (by omega), if_pos rfl, if_pos (by omega)]; omega
    · rw [if_neg hik]
      by_cases hlt : i < k
      · rw [if_pos hlt, if_pos (by omega)]; omega
      · rw [if_neg hlt, if_neg (by omega)]⟩) (p := n) (by omega) (Int.le_refl _)
  rw [if_pos h1] at this
  exact this.2
theorem swap_ahead {w : Int → Int} (hn : WFn w) (ho : WFo w) {i k : Int} (h0 : 0 ≤ i) (h1 : i < w 5) (h2 : 0 ≤ k) (h3 : k < w 5) : ahead (swapO w (od w i) (od w k)) (w 5) = ahead w (w 5) := by
  have hn' := hn
  unfold WFn at hn'
  have e : ahead (swapO w (od w i) (od w k)) (w 5) = sumZ (fun j => if j = i then fc w (od w k) 1 else (fun j => if j = k then fc w (od w i) 1 else fc w (od w j) 1) j) (w 5) := by
    unfold ahead
    refine sumZ_congr (fun j j0 j1 => ?_)
    have oi := ho.1 i h0 h1
    have ok := ho.1 k h2 h3
    have oj := ho.1 j j0 j1
    have sj : 0 ≤ swp (od w i) (od w k) (od w j) ∧ swp (od w i) (od w k) (od w j) < w 5 := by unfold swp; split <;> (try split) <;> omega
    rw [swapO_od j0 j1, sv_fc (swapO_v (by omega)) sj.1 (by omega) (by omega) (by omega)]
    have n1 := ho.2.2.1 j i j0 j1 h0 h1
    have n2 := ho.2.2.1 j k j0 j1 h2 h3
    unfold swp
    by_cases c1 : j = i
    · subst c1; simp
    · have : od w j ≠ od w i := fun q => c1 (n1 q)
      rw [if_neg this, if_neg c1]
      by_cases c2 : j = k
      · subst c2; simp
      · have : od w j ≠ od w k := fun q => c2 (n2 q)
        simp only [if_neg this, if_neg c2]
  rw [e, sumZ_upd h0 h1, sumZ_upd h2 h3]
  unfold ahead
  by_cases c : i = k
  · subst c; simp only [if_pos]; omega
  · simp only [if_neg c]; omega
theorem swap_wf {w : Int → Int} (h : WF w) {i k : Int} (h0 : 0 ≤ i) (h1 : i < w 5) (h2 : 0 ≤ k) (h3 : k < w 5) (h8 : w 8 = 0) : WF (swapO w (od w i) (od w k)) := by
  obtain ⟨hn, hr, hf, ho, hl, hw⟩ := h
  have hn' := hn
  unfold WFn at hn'
  have oi := ho.1 i h0 h1
  have ok := ho.1 k h2 h3
  have o : ∀ j, j < 112 ∨ 122 ≤ j → swapO w (od w i) (od w k) j = w j := fun j hj => swapO_o hj (by omega)
  have sv := swapO_v (w := w) (a := od w i) (b := od w k) (by omega)
  obtain ⟨e1, e2, e3, e4, e5⟩ := sv_n sv
  have wn : WFn (swapO w (od w i) (od w k)) := by
    unfold WFn
    rw [o 0 (by omega), o 1 (by omega), o 2 (by omega), o 3 (by omega), o 4 (by omega), o 5 (by omega), o 6 (by omega), o 8 (by omega)]
    exact hn
  have wr : WFr (swapO w (od w i) (od w k)) := by
    intro r r0 r1
    rw [e3] at r1
    simp (disch := omega) only [sv_rc sv]
    exact hr r r0 r1
  have wf : WFf (swapO w (od w i) (od w k)) := by
    intro r r0 r1
    rw [e5] at r1
    rw [e3, e4]
    simp (disch := omega) only [sv_fc sv]
    exact hf r r0 r1
  have sj : ∀ x, 0 ≤ x → x < w 5 → 0 ≤ swp (od w i) (od w k) x ∧ swp (od w i) (od w k) x < w 5 := fun x x0 x1 => by unfold swp; split <;> (try split) <;> omega
  have wo : WFo (swapO w (od w i) (od w k)) := by
    refine ⟨fun j j0 j1 => ?_, fun f f0 f1 => ?_, fun j m j0 j1 m0 m1 e => ?_, ?_⟩
    · rw [e5] at j1 ⊢
      rw [swapO_od j0 j1]
      have := ho.1 j j0 j1
      exact sj _ this.1 this.2
    · rw [e5] at f1 ⊢
      have := sj f f0 f1
      obtain ⟨j, j0, j1, j2⟩ := ho.2.1 _ this.1 this.2
      exact ⟨j, j0, j1, by rw [swapO_od j0 j1, j2, swp_s]⟩
    · rw [e5] at j1 m1
      rw [swapO_od j0 j1, swapO_od m0 m1] at e
      exact ho.2.2.1 j m j0 j1 m0 m1 (swp_i e)
    · rw [e5, swap_ahead hn ho h0 h1 h2 h3, sv_allSh sv hn]
      exact ho.2.2.2
  refine ⟨wn, wr, wf, wo, ⟨fun j j0 j1 => by rw [o 8 (by omega)] at j1; omega, fun j j0 j1 => ?_⟩, ?_⟩
  · have m := edge_mono wn wf wo (j := j) (k := j + 1) j0 (by omega) (by omega)
    unfold leftK lentBy
    rw [o 8 (by omega), h8, sumZ_0]
    omega
  · unfold WFw
    rw [o 6 (by omega), o 8 (by omega), e5]
    unfold ow ac
    refine ⟨fun x y x0 x1 y0 y1 => by rw [o _ (by omega)]; exact hw.1 x y x0 x1 y0 y1, fun f f0 f1 => by rw [o _ (by omega)]; exact hw.2 f f0 f1⟩
