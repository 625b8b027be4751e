/-! trays and tape keep the invariant -/
theorem inv_a {M P : Mem} {v d B m A : Int} {r : Int → Int} (h : INV M v d B r m A) (f : ∀ a j, ¬ (a = 1 ∧ 12 ≤ j ∧ j ≤ 14) → ¬ (4 ≤ a ∧ a ≤ 12 ∧ 0 ≤ j ∧ ¬ (a = 10 ∧ j < 2)) → ¬ (a = 119 ∧ (2 ≤ j ∧ j ≤ 4 ∨ 10 ≤ j ∧ j ≤ 19)) → ¬ (122 ≤ a ∧ a ≤ 126 ∧ 0 ≤ j) → P a j = M a j) (ht : LTr P ∧ ITr P) (hp : TpI P) (st : StI P) : INV P v d B r m A := by
  obtain ⟨⟨hc, hd, hg⟩, ⟨⟨hr, h34⟩, _, hcv, _, hn, ⟨hm1, hm2, hm3⟩⟩, ho, _, hl⟩ := h
  have e : P 120 = M 120 := funext fun j => f _ _ (by omega) (by omega) (by omega) (by omega)
  have hw := hg.1.1
  unfold WFn at hw
  have hdd := hd.1
  have hv := hc.1
  have hc' : CI P v (M 120) := ci_o (by omega) (by omega) hc (fun a j x => f a j (by omega) (by omega) (by omega) (by omega))
  refine ⟨⟨by rw [e]; exact hc', by rw [e]; exact cd_k hd hg.2.2.2.1 ⟨rfl, fun _ _ _ => rfl⟩ (fun a j x => f a j (by omega) (by omega) (by omega) (by omega)), by rw [e]; exact hg⟩, ⟨⟨lr_keep hr (fun a j x1 x2 => f a j (by omega) (by omega) (by omega) (by omega)), by rw [f _ _ (by omega) (by omega) (by omega) (by omega)]; exact h34⟩, ht, ?_, hp, ?_, ⟨?_, ?_, ?_⟩⟩, ?_, st, ?_⟩
  · exact cv_k hcv hc'.2.2.2.1 (fun j x => f _ _ (by omega) (by omega) (by omega) (by omega)) (fun j x => f _ _ (by omega) (by omega) (by omega) (by omega)) ⟨f _ _ (by omega) (by omega) (by omega) (by omega), f _ _ (by omega) (by omega) (by omega) (by omega)⟩ (fun a j x => f _ _ (by omega) (by omega) (by omega) (by omega))
  · exact nmI_k hn (by rw [e]) (by rw [e]) (by rw [e]) (fun c j _ _ => f _ _ (by omega) (by omega) (by omega) (by omega)) (fun j => f _ _ (by omega) (by omega) (by omega) (by omega))
  · exact mkc_k hm1 ⟨f _ _ (by omega) (by omega) (by omega) (by omega), f _ _ (by omega) (by omega) (by omega) (by omega), f _ _ (by omega) (by omega) (by omega) (by omega)⟩ (fun j => f _ _ (by omega) (by omega) (by omega) (by omega)) (fun a j _ => f _ _ (by omega) (by omega) (by omega) (by omega))
  · rw [f _ _ (by omega) (by omega) (by omega) (by omega)]; exact hm2
  · exact fun j j0 j1 => mkJ_k (hm3 j j0 j1) j0 (by have := hm1.1; omega) (fun i _ => by rw [e]) (fun i _ _ => by rw [e]) (fun i i0 i1 => f _ _ (by omega) (by omega) (by omega) (by omega)) (fun a i q => f _ _ (by omega) (by omega) (by omega) (by omega))
  · exact obI_k ho (fun j q => f _ _ (by omega) (by omega) (by omega) (by omega)) (fun a j q => f _ _ (by omega) (by omega) (by omega) (by omega))
  · exact lfI_k hl (f _ _ (by omega) (by omega) (by omega) (by omega)) (f _ _ (by omega) (by omega) (by omega) (by omega)) (fun a j q => f _ _ (by omega) (by omega) (by omega) (by omega))
theorem o_tray {M : Mem} {B : Int} (h : Iv M B) (t s x : Int) : OpK (f_X11_tray 1 t s x M) (fun N => f_X12_tray 119 t s x N) B := by
  obtain ⟨v, d, r, m, A, h⟩ := h
  obtain ⟨ht, hi⟩ := h.2.1.2.1
  have st := h.2.2.2.1
  unfold OpK
  refine c_tray ht t s x (fun c => ?_) (fun c N hN => ?_)
  · have k := riI_k h.2.1 (u12_k M 1)
    exact r_tray (lr_t k.1) t s x (fun _ => ⟨rfl, ref_q h 1⟩) (fun c' => absurd c' c)
  · have c' := c
    unfold okTray at c'
    have k : ∀ a j, 119 ≤ a → N a j = M a j := fun a j ha => by rw [hN, if_neg (by omega), if_neg (by omega), if_neg (by omega), if_neg (by omega)]
    refine r_tray (lr_t (riI_k h.2.1 k).1) t s x (fun x => absurd c x) (fun _ P hP => ⟨rfl, ?_⟩)
    have l : ∀ a j, a < 119 → P a j = N a j := fun a j ha => by rw [hP, if_neg (by omega), if_neg (by omega), if_neg (by omega), if_neg (by omega)]
    refine iv_i (M := P) (inv_a h (fun a j x1 x2 x3 x4 => ?_) ⟨?_, ?_⟩ ?_ ?_) (by omega)
    · rw [hP, if_neg (by omega), if_neg (by omega), if_neg (by omega), if_neg (by omega)]
      show N a j = M a j
      rw [hN, if_neg (by omega), if_neg (by omega), if_neg (by omega), if_neg (by omega)]
    · have kk : ∀ a j, a < 119 → ¬ (a = 1 ∧ j = 12) → (a = 8 ∨ a = 9 ∨ 4 ≤ a ∧ a ≤ 7 → j < 0) → P a j = M a j := fun a j x1 x2 x3 => by rw [l a j x1, hN, if_neg (by omega), if_neg (by omega), if_neg (by omega), if_neg (by omega)]
      obtain ⟨h1, h2, h3, h4, h5, h6, h7, h8, h9⟩ := ht
      refine ⟨?_, ?_, ?_, ?_, ?_, ?_, ?_, fun t t0 t1 => ?_, fun t t0 t1 => ?_⟩ <;> rw [kk _ _ (by omega) (by omega) (by omega)]
      · exact h1
      · exact h2
      · exact h3
      · exact h4
      · exact h5
      · exact h6
      · exact h7
      · exact h8 t t0 t1
      · exact h9 t t0 t1
    · have n8 : ∀ i, P 8 i = if i = t then s else M 8 i := fun i => by
        rw [l _ _ (by omega), hN, if_neg (by omega)]
        by_cases ci : i = t
        · rw [if_pos ⟨rfl, ci⟩, if_pos ci]
        · rw [if_neg (by omega), if_neg (by omega), if_neg (by omega), if_neg ci]
      have n9 : ∀ i, P 9 i = if i = t then x else M 9 i := fun i => by
        rw [l _ _ (by omega), hN, if_neg (by omega), if_neg (by omega)]
        by_cases ci : i = t
        · rw [if_pos ⟨rfl, ci⟩, if_pos ci]
        · rw [if_neg (by omega), if_neg (by omega), if_neg ci]
      have n122 : ∀ i, P 122 i = if i = t then s else M 122 i := fun i => by
        rw [hP, if_neg (by omega)]
        by_cases ci : i = t
        · rw [if_pos ⟨rfl, ci⟩, if_pos ci]
        · rw [if_neg (by omega), if_neg (by omega), if_neg (by omega), if_neg ci]; exact k _ _ (by omega)
      have n123 : ∀ i, P 123 i = if i = t then x else M 123 i := fun i => by
        rw [hP, if_neg (by omega), if_neg (by omega)]
        by_cases ci : i = t
        · rw [if_pos ⟨rfl, ci⟩, if_pos ci]
        · rw [if_neg (by omega), if_neg (by omega), if_neg ci]; exact k _ _ (by omega)
      refine ⟨fun i i0 i1 => ?_, fun i j i0 i1 j0 j1 => ?_⟩
      · rw [n8, n9, n122, n123]
        by_cases ci : i = t
        · simp only [if_pos ci, true_and]; omega
        · simp only [if_neg ci]; exact hi.1 i i0 i1
      · rw [n123] at j1
        by_cases ci : i = t
        · rw [if_pos ci] at j1
          rw [l _ _ (by omega), hN, if_neg (by omega), if_neg (by omega), if_neg (by omega), if_pos (by omega), hP, if_neg (by omega), if_neg (by omega), if_neg (by omega), if_pos (by omega)]
        · rw [if_neg ci] at j1
          have := hi.1 i i0 i1
          rw [l _ _ (by omega), hN, if_neg (by omega), if_neg (by omega), if_neg (by omega), if_neg (by omega), hP, if_neg (by omega), if_neg (by omega), if_neg (by omega), if_neg (by omega)]
          show M (4 + i) j = N 124 (60 * i + j)
          rw [k _ _ (by omega)]; exact hi.2 i j i0 i1 j0 j1
    · refine tpi_k h.2.1.2.2.2.1 (fun j q => ?_) (fun j => ?_) (fun j => ?_) (fun j q => ?_) (fun j => ?_)
      · rw [l _ _ (by omega), hN, if_neg (by omega), if_neg (by omega), if_neg (by omega), if_neg (by omega)]
      · rw [l _ _ (by omega), hN, if_neg (by omega), if_neg (by omega), if_neg (by omega), if_neg (by omega)]
      · rw [l _ _ (by omega), hN, if_neg (by omega), if_neg (by omega), if_neg (by omega), if_neg (by omega)]
      · rw [hP, if_neg (by omega), if_neg (by omega), if_neg (by omega), if_neg (by omega)]; exact k _ _ (by omega)
      · rw [hP, if_neg (by omega), if_neg (by omega), if_neg (by omega), if_neg (by omega)]; exact k _ _ (by omega)
    · unfold StI at st ⊢
      rw [l 1 12 (by omega), l 1 13 (by omega), l 1 14 (by omega)]
      refine ⟨?_, ?_, ?_⟩
      · rw [hN, if_pos ⟨rfl, rfl⟩, hP, if_pos ⟨rfl, rfl⟩]
      · rw [hN, if_neg (by omega), if_neg (by omega), if_neg (by omega), if_neg (by omega), hP, if_neg (by omega), if_neg (by omega), if_neg (by omega), if_neg (by omega)]; exact st.2.1.trans (k _ _ (by omega)).symm
      · rw [hN, if_neg (by omega), if_neg (by omega), if_neg (by omega), if_neg (by omega), hP, if_neg (by omega), if_neg (by omega), if_neg (by omega), if_neg (by omega)]; exact st.2.2.trans (k _ _ (by omega)).symm
theorem o_write {M : Mem} {B : Int} (h : Iv M B) (t p x : Int) : OpK (f_X11_write 1 t p x M) (fun N => f_X12_write 119 t p x N) B := by
  obtain ⟨v, d, r, m, A, h⟩ := h
  obtain ⟨ht, hi⟩ := h.2.1.2.1
  have st := h.2.2.2.1
  have w1 : why1 t p (M 9 t) = why1 t p (M 123 t) := why1_c (fun t0 t1 => (hi.1 t t0 t1).2.1)
  unfold OpK
  refine c_write ht (fun i i0 i1 => by have := hi.1 i i0 i1; omega) t p x (fun c => ?_) (fun c => ?_)
  · have k := u12_k M (why1 t p (M 9 t))
    refine r_write (lr_t (riI_k h.2.1 k).1) (fun i i0 i1 => ?_) t p x (fun c' => ⟨rfl, ?_⟩) (fun c' => ?_)
    · show upd2 M 1 12 _ 123 i ≤ 60
      rw [k _ _ (by omega)]; exact (hi.1 i i0 i1).2.2.2.2.2
    · show Iv (upd2 (upd2 M 1 12 (why1 t p (M 9 t))) 119 2 (why1 t p (upd2 M 1 12 (why1 t p (M 9 t)) 123 t))) _
      rw [k _ _ (by omega), ← w1]; exact ref_q h _
    · exfalso
      have c2 : why1 t p (upd2 M 1 12 (why1 t p (M 9 t)) 123 t) = 0 := c'
      rw [k _ _ (by omega), ← w1] at c2
      exact c c2
  · obtain ⟨t0, t1, c3, p0, p1⟩ := why1_0.mp c
    have e9 := hi.1 t t0 t1
    obtain ⟨N, eN⟩ : ∃ X, X = upd2 (upd2 M (4 + t) p (cutv (M 8 t) x)) 1 12 0 := ⟨_, rfl⟩
    rw [← eN]
    have n1 : ∀ a j, ¬ (a = 4 + t ∧ j = p) → ¬ (a = 1 ∧ j = 12) → N a j = M a j := fun a j x1 x2 => by rw [eN, upd2_at, if_neg x2, upd2_at, if_neg x1]
    have n2 : N (4 + t) p = cutv (M 8 t) x := by rw [eN, upd2_at, if_neg (by omega), upd2_at, if_pos ⟨rfl, rfl⟩]
    have n3 : N 1 12 = 0 := by rw [eN, upd2_at, if_pos ⟨rfl, rfl⟩]
    have k : ∀ a j, 119 ≤ a → N a j = M a j := fun a j ha => n1 a j (by omega) (by omega)
    refine r_write (M := N) (lr_t (riI_k h.2.1 k).1) (fun i i0 i1 => ?_) t p x (fun c' => ?_) (fun c' => ⟨rfl, ?_⟩)
    · rw [k _ _ (by omega)]; exact (hi.1 i i0 i1).2.2.2.2.2
    · exfalso; rw [k _ _ (by omega), ← w1] at c'; exact c' c
    rw [k 122 t (by omega), ← e9.1]
    obtain ⟨P, eP⟩ : ∃ X, X = upd2 (upd2 N 124 (60 * t + p) (cutv (M 8 t) x)) 119 2 0 := ⟨_, rfl⟩
    rw [← eP]
    have q1 : ∀ a j, ¬ (a = 124 ∧ j = 60 * t + p) → ¬ (a = 119 ∧ j = 2) → P a j = N a j := fun a j x1 x2 => by rw [eP, upd2_at, if_neg x2, upd2_at, if_neg x1]
    have q2 : P 124 (60 * t + p) = cutv (M 8 t) x := by rw [eP, upd2_at, if_neg (by omega), upd2_at, if_pos ⟨rfl, rfl⟩]
    have q3 : P 119 2 = 0 := by rw [eP, upd2_at, if_pos ⟨rfl, rfl⟩]
    have f : ∀ a j, ¬ (a = 4 + t ∧ j = p) → ¬ (a = 1 ∧ j = 12) → ¬ (a = 124 ∧ j = 60 * t + p) → ¬ (a = 119 ∧ j = 2) → P a j = M a j := fun a j x1 x2 x3 x4 => by rw [q1 a j x3 x4, n1 a j x1 x2]
    refine iv_i (M := P) (inv_a h (fun a j x1 x2 x3 x4 => f a j (by omega) (by omega) (by omega) (by omega)) ⟨?_, ?_⟩ ?_ ?_) (by omega)
    · obtain ⟨h1, h2, h3, h4, h5, h6, h7, h8, h9⟩ := ht
      refine ⟨?_, ?_, ?_, ?_, ?_, ?_, ?_, fun t t0 t1 => ?_, fun t t0 t1 => ?_⟩ <;> rw [f _ _ (by omega) (by omega) (by omega) (by omega)]
      · exact h1
      · exact h2
      · exact h3
      · exact h4
      · exact h5
      · exact h6
      · exact h7
      · exact h8 t t0 t1
      · exact h9 t t0 t1
    · refine ⟨fun i i0 i1 => ?_, fun i j i0 i1 j0 j1 => ?_⟩
      · rw [f 8 i (by omega) (by omega) (by omega) (by omega), f 9 i (by omega) (by omega) (by omega) (by omega), f 122 i (by omega) (by omega) (by omega) (by omega), f 123 i (by omega) (by omega) (by omega) (by omega)]; exact hi.1 i i0 i1
      · rw [f 123 i (by omega) (by omega) (by omega) (by omega)] at j1
        have := hi.1 i i0 i1
        by_cases ci : i = t ∧ j = p
        · rw [ci.1, ci.2, q2, q1 _ _ (by omega) (by omega), n2]
        · rw [f _ _ (by omega) (by omega) (by omega) (by omega), f _ _ (by omega) (by omega) (by omega) (by omega)]; exact hi.2 i j i0 i1 j0 j1
    · exact tpi_k h.2.1.2.2.2.1 (fun j q => f _ _ (by omega) (by omega) (by omega) (by omega)) (fun j => f _ _ (by omega) (by omega) (by omega) (by omega)) (fun j => f _ _ (by omega) (by omega) (by omega) (by omega)) (fun j q => f _ _ (by omega) (by omega) (by omega) (by omega)) (fun j => f _ _ (by omega) (by omega) (by omega) (by omega))
    · unfold StI at st ⊢
      rw [q1 1 12 (by omega) (by omega), n3, q3, f 1 13 (by omega) (by omega) (by omega) (by omega), f 1 14 (by omega) (by omega) (by omega) (by omega), f 119 3 (by omega) (by omega) (by omega) (by omega), f 119 4 (by omega) (by omega) (by omega) (by omega)]
      exact ⟨rfl, st.2⟩
theorem o_pour {M : Mem} {B : Int} (h : Iv M B) (x p y q z : Int) (hp : r32 p) (hq : r32 q) (hz : r32 z) : OpK (f_X11_pour 1 x p y q z M) (fun N => f_X12_pour 119 x p y q z N) B := by
  obtain ⟨v, d, r, m, A, h⟩ := h
  obtain ⟨ht, hi⟩ := h.2.1.2.1
  have st := h.2.2.2.1
  have w1 : ∀ N : Mem, (∀ a j, 119 ≤ a → N a j = M a j) → why2 N 122 123 x p y q z = why2 M 8 9 x p y q z := fun N k => by
    unfold why2
    by_cases c : 0 ≤ x ∧ x < 4 ∧ 0 ≤ y ∧ y < 4 ∧ 0 ≤ p ∧ 0 ≤ q ∧ 0 ≤ z
    · rw [k 122 _ (by omega), k 122 _ (by omega), k 123 _ (by omega), k 123 _ (by omega), (hi.1 x c.1 c.2.1).1, (hi.1 x c.1 c.2.1).2.1, (hi.1 y c.2.2.1 c.2.2.2.1).1, (hi.1 y c.2.2.1 c.2.2.2.1).2.1]
    · rw [if_pos c, if_pos c]
  unfold OpK
  refine c_pour ht (fun i i0 i1 => by have := hi.1 i i0 i1; omega) x p y q z hz (fun c => ?_) (fun c => ?_)
  · have k := u12_k M (why2 M 8 9 x p y q z)
    refine r_pour (M := upd2 M 1 12 (why2 M 8 9 x p y q z)) (lr_t (riI_k h.2.1 k).1) (fun i i0 i1 => ?_) x p y q z hp hq hz (fun c' => ⟨rfl, ?_⟩) (fun c' => ?_)
    · rw [k _ _ (by omega)]; exact (hi.1 i i0 i1).2.2.2.2
    · rw [w1 _ k]; exact ref_q h _
    · exfalso; rw [w1 _ k] at c'; exact c c'
  · have c' := c
    unfold why2 at c'
    obtain ⟨c1, c2, c3⟩ : (0 ≤ x ∧ x < 4 ∧ 0 ≤ y ∧ y < 4 ∧ 0 ≤ p ∧ 0 ≤ q ∧ 0 ≤ z) ∧ z ≤ M 9 x - p ∧ z ≤ M 9 y - q := by
      split at c'
      · omega
      split at c'
      · omega
      split at c'
      · omega
      split at c'
      · omega
      · omega
    clear c'
    have ex := hi.1 x (by omega) (by omega)
    have ey := hi.1 y (by omega) (by omega)
    obtain ⟨N, eN⟩ : ∃ X, X = upd2 (copym M (4 + x) p (4 + y) q z) 1 12 0 := ⟨_, rfl⟩
    rw [← eN]
    have n1 : ∀ a j, ¬ (a = 4 + y ∧ q ≤ j ∧ j < q + z) → ¬ (a = 1 ∧ j = 12) → N a j = M a j := fun a j x1 x2 => by rw [eN, upd2_at, if_neg x2, copym_at, if_neg x1]
    have n2 : ∀ j, q ≤ j → j < q + z → N (4 + y) j = M (4 + x) (p + (j - q)) := fun j x1 x2 => by rw [eN, upd2_at, if_neg (by omega), copym_at, if_pos ⟨rfl, x1, x2⟩]
    have n3 : N 1 12 = 0 := by rw [eN, upd2_at, if_pos ⟨rfl, rfl⟩]
    have k : ∀ a j, 119 ≤ a → N a j = M a j := fun a j ha => n1 a j (by omega) (by omega)
    refine r_pour (M := N) (lr_t (riI_k h.2.1 k).1) (fun i i0 i1 => ?_) x p y q z hp hq hz (fun c' => ?_) (fun c' P hP => ⟨rfl, ?_⟩)
    · rw [k _ _ (by omega)]; exact (hi.1 i i0 i1).2.2.2.2
    · exfalso; rw [w1 _ k] at c'; exact c' c
    have q1 : ∀ a j, ¬ (a = 124 ∧ 60 * y + q ≤ j ∧ j < 60 * y + q + z) → ¬ (a = 119 ∧ j = 2) → P a j = N a j := fun a j x1 x2 => by rw [hP, if_neg x2, if_neg x1]
    have q2 : ∀ j, 60 * y + q ≤ j → j < 60 * y + q + z → P 124 j = M 124 (60 * x + p + (j - (60 * y + q))) := fun j x1 x2 => by rw [hP, if_neg (by omega), if_pos ⟨rfl, x1, x2⟩, k _ _ (by omega)]
    have q3 : P 119 2 = 0 := by rw [hP, if_pos ⟨rfl, rfl⟩]
    have f : ∀ a j, ¬ (a = 4 + y ∧ q ≤ j ∧ j < q + z) → ¬ (a = 1 ∧ j = 12) → ¬ (a = 124 ∧ 60 * y + q ≤ j ∧ j < 60 * y + q + z) → ¬ (a = 119 ∧ j = 2) → P a j = M a j := fun a j x1 x2 x3 x4 => by rw [q1 a j x3 x4, n1 a j x1 x2]
    refine iv_i (M := P) (inv_a h (fun a j x1 x2 x3 x4 => f a j (by omega) (by omega) (by omega) (by omega)) ⟨?_, ?_⟩ ?_ ?_) (by omega)
    · obtain ⟨h1, h2, h3, h4, h5, h6, h7, h8, h9⟩ := ht
      refine ⟨?_, ?_, ?_, ?_, ?_, ?_, ?_, fun t t0 t1 => ?_, fun t t0 t1 => ?_⟩ <;> rw [f _ _ (by omega) (by omega) (by omega) (by omega)]
      · exact h1
      · exact h2
      · exact h3
      · exact h4
      · exact h5
      · exact h6
      · exact h7
      · exact h8 t t0 t1
      · exact h9 t t0 t1
    · refine ⟨fun i i0 i1 => ?_, fun i j i0 i1 j0 j1 => ?_⟩
      · rw [f 8 i (by omega) (by omega) (by omega) (by omega), f 9 i (by omega) (by omega) (by omega) (by omega), f 122 i (by omega) (by omega) (by omega) (by omega), f 123 i (by omega) (by omega) (by omega) (by omega)]; exact hi.1 i i0 i1
      · rw [f 123 i (by omega) (by omega) (by omega) (by omega)] at j1
        have := hi.1 i i0 i1
        by_cases ci : i = y ∧ q ≤ j ∧ j < q + z
        · rw [ci.1, q2 _ (by omega) (by omega), q1 _ _ (by omega) (by omega), n2 j ci.2.1 ci.2.2, show 60 * x + p + (60 * y + j - (60 * y + q)) = 60 * x + (p + (j - q)) by omega]
          exact hi.2 x _ (by omega) (by omega) (by omega) (by omega)
        · rw [f _ _ (by omega) (by omega) (by omega) (by omega), f _ _ (by omega) (by omega) (by omega) (by omega)]; exact hi.2 i j i0 i1 j0 j1
    · exact tpi_k h.2.1.2.2.2.1 (fun j q => f _ _ (by omega) (by omega) (by omega) (by omega)) (fun j => f _ _ (by omega) (by omega) (by omega) (by omega)) (fun j => f _ _ (by omega) (by omega) (by omega) (by omega)) (fun j q => f _ _ (by omega) (by omega) (by omega) (by omega)) (fun j => f _ _ (by omega) (by omega) (by omega) (by omega))
    · unfold StI at st ⊢
      rw [q1 1 12 (by omega) (by omega), n3, q3, f 1 13 (by omega) (by omega) (by omega) (by omega), f 1 14 (by omega) (by omega) (by omega) (by omega), f 119 3 (by omega) (by omega) (by omega) (by omega), f 119 4 (by omega) (by omega) (by omega) (by omega)]
      exact ⟨rfl, st.2⟩
theorem bys_r (x s : Int) : -128 ≤ bys x s ∧ bys x s ≤ 127 := by unfold bys w8; omega
theorem o_feed {M : Mem} {B : Int} (h : Iv M B) (a b c d' e : Int) : OpK (f_X11_feed 1 a b c d' e M) (fun N => f_X12_feed 119 a b c d' e N) B := by
  obtain ⟨v, d, r, m, A, h⟩ := h
  obtain ⟨t1, t2, t3, t4, t5⟩ := h.2.1.2.2.2.1
  have hcv := h.2.1.2.2.1.2.2.1
  have hr := h.2.1.1.1
  refine t_mono (c_feed a b c d' e hcv.1 hcv.2.1 hcv.2.2.2.1 rfl t1.2.1 t1.2.2) (fun q hq => ?_)
  rcases hq with ⟨q1, q2, q3, q4, q5⟩ | ⟨q1, q2, q3⟩
  · have k : ∀ a j, 119 ≤ a → q.2 a j = M a j := fun a j ha => q5 a j (by omega) (by omega)
    have hrN := (riI_k h.2.1 k).1
    refine t_mono (r_feed (n := M 10 6) a b c d' e hrN.1.2.2.2.2.2.1 hrN.2.2.2.2.2.2.1 (by rw [k _ _ (by omega)]; exact t1.1.symm) t1.2.1 t1.2.2) (fun s hs => ?_)
    rcases hs with ⟨s1, s2, s3, s4, s5⟩ | ⟨s1, _, _⟩
    · have f : ∀ a j, ¬ (a = 10 ∧ j = 6) → ¬ (a = 11 ∧ M 10 6 ≤ j ∧ j < M 10 6 + 20) → ¬ (a = 119 ∧ j = 10) → ¬ (a = 125 ∧ M 10 6 ≤ j ∧ j < M 10 6 + 20) → s.2 a j = M a j := fun a j x1 x2 x3 x4 => by rw [s5 a j x3 x4, q5 a j x1 x2]
      refine ⟨by rw [q2, s2], iv_i (M := s.2) (inv_a h (fun a j x1 x2 x3 x4 => f a j (by omega) (by omega) (by omega) (by omega)) ⟨?_, ?_⟩ ?_ ?_) (by omega)⟩
      · exact ltr_k h.2.1.2.1.1 (fun a j x => f a j (by omega) (by omega) (by omega) (by omega))
      · exact itr_k h.2.1.2.1.2 (fun a j x => f a j (by omega) (by omega) (by omega) (by omega))
      · have n6 : s.2 10 6 = M 10 6 + 20 := by rw [s5 _ _ (by omega) (by omega), q3]
        refine ⟨⟨by rw [n6, s3], by omega, by omega⟩, fun j j0 j1 => ?_, fun j j0 j1 => ?_, ?_, ?_⟩
        · rw [n6] at j1
          by_cases cj : j < M 10 6
          · rw [f 125 j (by omega) (by omega) (by omega) (by omega), f 11 j (by omega) (by omega) (by omega) (by omega)]; exact t2 j j0 cj
          · have e1 := s4 (j - M 10 6) (by omega) (by omega)
            have e2 := q4 (j - M 10 6) (by omega) (by omega)
            rw [show M 10 6 + (j - M 10 6) = j by omega] at e1 e2
            rw [e1, s5 11 j (by omega) (by omega), e2]
            exact ⟨rfl, bys_r _ _⟩
        · rw [f 12 j (by omega) (by omega) (by omega) (by omega)]; exact t3 j j0 j1
        · rw [f 10 11 (by omega) (by omega) (by omega) (by omega), f 119 16 (by omega) (by omega) (by omega) (by omega)]; exact t4
        · rw [f 10 12 (by omega) (by omega) (by omega) (by omega), f 119 17 (by omega) (by omega) (by omega) (by omega)]; exact t5
      · have st := h.2.2.2.1
        unfold StI at st ⊢
        rw [f 1 12 (by omega) (by omega) (by omega) (by omega), f 1 13 (by omega) (by omega) (by omega) (by omega), f 1 14 (by omega) (by omega) (by omega) (by omega), f 119 2 (by omega) (by omega) (by omega) (by omega), f 119 3 (by omega) (by omega) (by omega) (by omega), f 119 4 (by omega) (by omega) (by omega) (by omega)]
        exact st
    · omega
  · rw [q3]
    refine t_mono (r_feed (n := M 10 6) a b c d' e hr.1.2.2.2.2.2.1 hr.2.2.2.2.2.2.1 t1.1.symm t1.2.1 t1.2.2) (fun s hs => ?_)
    rcases hs with ⟨s1, _, _⟩ | ⟨s1, s2, s3⟩
    · omega
    · rw [q2, s2, s3]; exact ⟨rfl, iv_i h (by omega)⟩
