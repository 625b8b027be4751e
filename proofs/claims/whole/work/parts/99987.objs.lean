/-! the two constructors: objects with their rows -/
def Ob (M N : Mem) (o b k : Int) (F len ct : Int → Int) : Prop := N 0 0 = b + k ∧ (∀ a j, a ≠ 0 → a ≤ b → a ≠ o → N a j = M a j) ∧ (∀ j, N o j = F j) ∧ ∀ i, 1 ≤ i → i ≤ k → N (b + i) (-1) = len i ∧ ∀ j, 0 ≤ j → j < len i → N (b + i) j = ct i
theorem ob_0 {M : Mem} {o b : Int} {F len ct : Int → Int} (h : M 0 0 = b) (hF : ∀ j, M o j = F j) : Ob M M o b 0 F len ct := ⟨by omega, fun _ _ _ _ _ => rfl, hF, fun i a c => by omega⟩
theorem ob_p {M N : Mem} {o b k f v : Int} {F len ct : Int → Int} {K : Mem → Option Mem} {Q : Mem → Prop} (h : Ob M N o b k F len ct) (o0 : 0 < o) (o1 : o ≤ b) (hk : ∀ N', Ob M N' o b k (upd1 F f v) len ct → Tot (K N') Q) : Tot (putf N o f v K) Q := by
  obtain ⟨h1, h2, h3, h4⟩ := h
  rw [t_putf]
  refine ⟨by omega, hk _ ⟨?_, fun a j x1 x2 x3 => ?_, fun j => ?_, fun i i0 i1 => ⟨?_, fun j j0 j1 => ?_⟩⟩⟩
  · rw [upd2_at, if_neg (by omega)]; exact h1
  · rw [upd2_at, if_neg (by omega)]; exact h2 a j x1 x2 x3
  · rw [upd2_at, upd1_at]
    by_cases c : j = f
    · rw [if_pos ⟨rfl, c⟩, if_pos c]
    · rw [if_neg (by omega), if_neg c]; exact h3 j
  · rw [upd2_at, if_neg (by omega)]; exact (h4 i i0 i1).1
  · rw [upd2_at, if_neg (by omega)]; exact (h4 i i0 i1).2 j j0 j1
theorem ob_z {M N : Mem} {o b k f v : Int} {F len ct : Int → Int} {K : Mem → Option Mem} {Q : Mem → Prop} (h : Ob M N o b k F len ct) (o0 : 0 < o) (o1 : o ≤ b) (hv : v = 0 ∨ v = 1) (hk : ∀ N', Ob M N' o b k (upd1 F f v) len ct → Tot (K N') Q) : Tot (putz N o f v K) Q := by
  have q := ob_p (f := f) (v := v) h o0 o1 hk
  rw [t_putf] at q
  rw [t_putz]; exact ⟨q.1, hv, q.2⟩
theorem ob_n {M N : Mem} {o b k k' f v t n : Int} {F len ct : Int → Int} {K : Mem → Option Mem} {Q : Mem → Prop} (h : Ob M N o b k F len ct) (k0 : 0 ≤ k) (o0 : 0 < o) (o1 : o ≤ b) (hk' : k' = k + 1) (hv : v = b + k') (hl : len k' = n) (hc : ct k' = 0) (hk : ∀ N', Ob M N' o b k' (upd1 F f v) len ct → Tot (K N') Q) : Tot (newo N t n (fun v X => putf X o f v K)) Q := by
  obtain ⟨h1, h2, h3, h4⟩ := h
  rw [t_newo, t_putf, show N 0 0 + 1 = v by omega]
  have w : ∀ a j, a ≠ 0 → a ≤ b + k → newm N t n a j = N a j := fun a j x1 x2 => new_o x1 (by omega)
  refine ⟨by omega, hk _ ⟨?_, fun a j x1 x2 x3 => ?_, fun j => ?_, fun i i0 i1 => ?_⟩⟩
  · rw [upd2_at, if_neg (by omega), new_0]; omega
  · rw [upd2_at, if_neg (by omega), w _ _ x1 (by omega)]; exact h2 a j x1 x2 x3
  · rw [upd2_at, upd1_at]
    by_cases c : j = f
    · rw [if_pos ⟨rfl, c⟩, if_pos c]
    · rw [if_neg (by omega), if_neg c, w _ _ (by omega) (by omega)]; exact h3 j
  · by_cases e : i = k'
    · subst e
      refine ⟨by rw [upd2_at, if_neg (by omega), new_l (by omega) (by omega)]; exact hl.symm, fun j j0 j1 => by rw [upd2_at, if_neg (by omega), new_z (by omega) (by omega) j0]; exact hc.symm⟩
    · have q := h4 i i0 (by omega)
      refine ⟨by rw [upd2_at, if_neg (by omega), w _ _ (by omega) (by omega)]; exact q.1, fun j j0 j1 => by rw [upd2_at, if_neg (by omega), w _ _ (by omega) (by omega)]; exact q.2 j j0 j1⟩
/-- a row of four, all -1 -/
theorem ob_m {M N : Mem} {o b k k' f v : Int} {F len ct : Int → Int} {K : Mem → Option Mem} {Q : Mem → Prop} (h : Ob M N o b k F len ct) (k0 : 0 ≤ k) (o0 : 0 < o) (o1 : o ≤ b) (hk' : k' = k + 1) (hv : v = b + k') (hl : len k' = 4) (hc : ct k' = -1) (hk : ∀ N', Ob M N' o b k' (upd1 F f v) len ct → Tot (K N') Q) : Tot (newo N 10 4 (fun v X => seti X v 0 (-1) (fun X1 => seti X1 v 1 (-1) (fun X2 => seti X2 v 2 (-1) (fun X3 => seti X3 v 3 (-1) (fun X4 => putf X4 o f v K)))))) Q := by
  obtain ⟨h1, h2, h3, h4⟩ := h
  rw [t_newo, t_seti, t_seti, t_seti, t_seti, t_putf, show N 0 0 + 1 = v by omega]
  have w : ∀ a j, a ≠ 0 → a ≤ b + k → newm N 10 4 a j = N a j := fun a j x1 x2 => new_o x1 (by omega)
  have z : newm N 10 4 0 0 = b + k' := by rw [new_0]; omega
  have l : newm N 10 4 v (-1) = 4 := new_l (by omega) (by omega)
  generalize newm N 10 4 = X at w z l ⊢
  have u : ∀ a j, a ≠ v → upd2 (upd2 (upd2 (upd2 X v 0 (-1)) v 1 (-1)) v 2 (-1)) v 3 (-1) a j = X a j := fun a j x => by rw [upd2_at, if_neg (by omega), upd2_at, if_neg (by omega), upd2_at, if_neg (by omega), upd2_at, if_neg (by omega)]
  have u1 : upd2 (upd2 (upd2 (upd2 X v 0 (-1)) v 1 (-1)) v 2 (-1)) v 3 (-1) v (-1) = 4 := by rw [upd2_at, if_neg (by omega), upd2_at, if_neg (by omega), upd2_at, if_neg (by omega), upd2_at, if_neg (by omega)]; exact l
  have u2 : ∀ j, 0 ≤ j → j < 4 → upd2 (upd2 (upd2 (upd2 X v 0 (-1)) v 1 (-1)) v 2 (-1)) v 3 (-1) v j = -1 := fun j j0 j1 => by
    rcases (show j = 0 ∨ j = 1 ∨ j = 2 ∨ j = 3 by omega) with rfl | rfl | rfl | rfl <;> simp [upd2_at]
  have l0 : 0 < X v (-1) := by omega
  have l1 : 1 < upd2 X v 0 (-1) v (-1) := by rw [upd2_at, if_neg (by omega)]; omega
  have l2 : 2 < upd2 (upd2 X v 0 (-1)) v 1 (-1) v (-1) := by rw [upd2_at, if_neg (by omega), upd2_at, if_neg (by omega)]; omega
  have l3 : 3 < upd2 (upd2 (upd2 X v 0 (-1)) v 1 (-1)) v 2 (-1) v (-1) := by rw [upd2_at, if_neg (by omega), upd2_at, if_neg (by omega), upd2_at, if_neg (by omega)]; omega
  refine ⟨by omega, by omega, l0, by omega, by omega, l1, by omega, by omega, l2, by omega, by omega, l3, by omega, ?_⟩
  generalize upd2 (upd2 (upd2 (upd2 X v 0 (-1)) v 1 (-1)) v 2 (-1)) v 3 (-1) = Y at u u1 u2 ⊢
  clear l0 l1 l2 l3
  refine hk _ ⟨?_, fun a j x1 x2 x3 => ?_, fun j => ?_, fun i i0 i1 => ?_⟩
  · rw [upd2_at, if_neg (by omega), u _ _ (by omega)]; exact z
  · rw [upd2_at, if_neg (by omega), u _ _ (by omega), w _ _ x1 (by omega)]; exact h2 a j x1 x2 x3
  · rw [upd2_at, upd1_at]
    by_cases c : j = f
    · rw [if_pos ⟨rfl, c⟩, if_pos c]
    · rw [if_neg (by omega), if_neg c, u _ _ (by omega), w _ _ (by omega) (by omega)]; exact h3 j
  · by_cases e : i = k'
    · subst e
      rw [← hv]
      refine ⟨by rw [upd2_at, if_neg (by omega), u1]; exact hl.symm, fun j j0 j1 => by rw [upd2_at, if_neg (by omega), u2 j j0 (by omega)]; exact hc.symm⟩
    · have q := h4 i i0 (by omega)
      refine ⟨by rw [upd2_at, if_neg (by omega), u _ _ (by omega), w _ _ (by omega) (by omega)]; exact q.1, fun j j0 j1 => by rw [upd2_at, if_neg (by omega), u _ _ (by omega), w _ _ (by omega) (by omega)]; exact q.2 j j0 j1⟩
/-- a new object in a field of another -/
theorem newC_e {M : Mem} {o f b v e t : Int} {F : Int → Int} {I : Int → Mem → Option Mem} {P : Mem → Prop} {K : Mem → Option Mem} {Q : Mem → Prop} (h0 : M 0 0 = b) (o0 : 0 < o) (o1 : o ≤ b) (hF : ∀ j, M o j = F j) (hv : v = b + 1) (hI : ∀ X, X 0 0 = v → Tot (I v X) (fun N => N 0 0 = e ∧ (∀ c j, c ≠ 0 → c < v → N c j = X c j) ∧ P N)) (hq : ∀ N L, N 0 0 = e → (∀ j, N o j = upd1 F f v j) → (∀ c j, c ≠ 0 → c ≤ b → c ≠ o → N c j = M c j) → P L → (∀ c j, b < c → N c j = L c j) → Tot (K N) Q) : Tot (newo M t 0 (fun v1 M2 => nn v1 (callv (I v1 M2) (fun M4 => putf M4 o f v1 K)))) Q := by
  rw [t_newo, t_nn, t_callv, h0, ← hv]
  refine ⟨by omega, t_mono (hI _ (by rw [new_0]; omega)) (fun L hL => ?_)⟩
  obtain ⟨z, k, p⟩ := hL
  rw [t_putf]
  refine ⟨by omega, hq _ L ?_ (fun j => ?_) (fun c j x1 x2 x3 => ?_) p (fun c j x => ?_)⟩
  · rw [upd2_at, if_neg (by omega)]; exact z
  · rw [upd2_at, upd1_at]
    by_cases c : j = f
    · rw [if_pos ⟨rfl, c⟩, if_pos c]
    · rw [if_neg (by omega), if_neg c, k _ _ (by omega) (by omega), new_o (by omega) (by omega)]; exact hF j
  · rw [upd2_at, if_neg (by omega), k _ _ x1 (by omega), new_o x1 (by omega)]
  · rw [upd2_at, if_neg (by omega)]
