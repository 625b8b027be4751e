/-! blame -/
def blM (M : Mem) (y : Int) : Mem := if M 10 11 ≠ 0 then M else upd2 (upd2 M 10 11 (if M 10 7 = 4 then 1 else y)) 10 12 (M 10 4)
theorem blame_e {M : Mem} (y : Int) : Tot (f_X6_blame 10 y M) (fun q => q.1 = 0 ∧ q.2 = blM M y) := by
  unfold f_X6_blame blM
  rw [t_getf]
  refine ⟨by omega, ?_⟩
  refine t_jq (fun K : Mem → Option (Int × Mem) => ∀ N, Tot (K N) (fun q => q.1 = 0 ∧ q.2 = N)) (fun N => ?_) (fun K hK => ?_)
  · unfold retzm; simp [Tot]
  rw [t_ite]
  refine ⟨fun c => by rw [if_pos c]; exact hK M, fun c => ?_⟩
  rw [if_neg c, t_getf]
  refine ⟨by omega, ?_⟩
  refine t_jq (fun K2 : Int → Option (Int × Mem) => ∀ v, Tot (K2 v) (fun q => q.1 = 0 ∧ q.2 = upd2 (upd2 M 10 11 v) 10 12 (M 10 4))) (fun v => ?_) (fun K2 hK2 => ?_)
  · rw [t_putf, t_getf, t_putf, upd2_at, if_neg (by omega)]
    exact ⟨by omega, by omega, by omega, hK _⟩
  rw [t_ite]
  exact ⟨fun a => by rw [if_neg a]; exact hK2 _, fun a => by rw [if_pos (by omega)]; exact hK2 _⟩
