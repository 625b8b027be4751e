/-! the class begins a text -/
theorem begin_e {M : Mem} {x : Int} {Q : Mem → Prop} (h : M 1 1 = 10 ∧ M 10 0 = 11 ∧ M 10 1 = 12 ∧ M 11 (-1) = 900 ∧ M 12 (-1) = 30) (x0 : 0 ≤ x) (x1 : x ≤ M 10 6) (hm : M 10 6 ≤ 900) (hq : ∀ N, (∀ a j, ¬ stF a j → ¬ (a = 10 ∧ (j = 2 ∨ j = 11 ∨ j = 12)) → N a j = M a j) → N 10 2 = x → N 10 11 = 0 → N 10 12 = -1 → TkC N (M 11) (M 12) x (rnE blB (M 11) x 0) → Q N) : Tot (f_X6_begin 10 x M) Q := by
  obtain ⟨h1, h2, h3, h4, h5⟩ := h
  unfold f_X6_begin
  rw [t_getf, t_callp, min_e, t_some, if_neg (by omega), t_putf, t_putf, t_putf, t_putf, t_callv]
  refine ⟨by omega, by omega, by omega, by omega, by omega, ?_⟩
  have z : ∀ a j, ¬ (a = 10 ∧ (j = 2 ∨ j = 3 ∨ j = 11 ∨ j = 12)) → upd2 (upd2 (upd2 (upd2 M 10 2 x) 10 3 0) 10 11 0) 10 12 (-1) a j = M a j := fun a j hh => by rw [upd2_at, if_neg (by omega), upd2_at, if_neg (by omega), upd2_at, if_neg (by omega), upd2_at, if_neg (by omega)]
  have z2 : upd2 (upd2 (upd2 (upd2 M 10 2 x) 10 3 0) 10 11 0) 10 12 (-1) 10 2 = x := by rw [upd2_at, if_neg (by omega), upd2_at, if_neg (by omega), upd2_at, if_neg (by omega), upd2_at, if_pos ⟨rfl, rfl⟩]
  have z3 : upd2 (upd2 (upd2 (upd2 M 10 2 x) 10 3 0) 10 11 0) 10 12 (-1) 10 3 = 0 := by rw [upd2_at, if_neg (by omega), upd2_at, if_neg (by omega), upd2_at, if_pos ⟨rfl, rfl⟩]
  have z11 : upd2 (upd2 (upd2 (upd2 M 10 2 x) 10 3 0) 10 11 0) 10 12 (-1) 10 11 = 0 := by rw [upd2_at, if_neg (by omega), upd2_at, if_pos ⟨rfl, rfl⟩]
  have z12 : upd2 (upd2 (upd2 (upd2 M 10 2 x) 10 3 0) 10 11 0) 10 12 (-1) 10 12 = -1 := by rw [upd2_at, if_pos ⟨rfl, rfl⟩]
  generalize upd2 (upd2 (upd2 (upd2 M 10 2 x) 10 3 0) 10 11 0) 10 12 (-1) = Z at z z2 z3 z11 z12 ⊢
  have zB : Z 11 = M 11 := funext (fun j => z _ _ (by omega))
  have zK : Z 12 = M 12 := funext (fun j => z _ _ (by omega))
  refine step_e (n := x) (p := 0) ⟨⟨by rw [z _ _ (by omega)]; exact h1, by rw [z _ _ (by omega)]; exact h2, by rw [z _ _ (by omega)]; exact h3, by rw [zB]; exact h4, by rw [zK]; exact h5⟩, z2, x0, by omega⟩ z3 (by omega) x0 (fun N kN tN => ?_)
  rw [zB, zK] at tN
  rw [t_some]
  exact hq N (fun a j hh h6 => by have := stF_n hh; rw [kN _ _ hh, z _ _ (by omega)]) (by rw [kN _ _ (by unfold stF; omega)]; exact z2) (by rw [kN _ _ (by unfold stF; omega)]; exact z11) (by rw [kN _ _ (by unfold stF; omega)]; exact z12) tN
