/-! the reference's blame -/
def flM (M : Mem) (y : Int) : Mem := if M 119 18 ≠ 0 then M else upd2 (upd2 M 119 18 (if M 119 12 = 1 then 1 else y)) 119 17 (M 119 13)
theorem fails_e {M : Mem} (y : Int) : Tot (f_X12_fails 119 y M) (fun q => q.1 = 0 ∧ q.2 = flM M y) := by
  unfold f_X12_fails flM
  rw [t_getf]
  refine ⟨by omega, ?_⟩
  refine t_jq (fun K : Mem → Option (Int × Mem) => ∀ N, Tot (K N) (fun q => q.1 = 0 ∧ q.2 = N)) (fun N => ?_) (fun K hK => ?_)
  · unfold retzm; simp [Tot]
  rw [t_ite]
  refine ⟨fun c => by rw [if_pos c]; exact hK M, fun c => ?_⟩
  rw [if_neg c, t_getf]
  refine ⟨by omega, ?_⟩
  refine t_jq (fun K2 : Int → Option (Int × Mem) => ∀ v, Tot (K2 v) (fun q => q.1 = 0 ∧ q.2 = upd2 (upd2 M 119 18 v) 119 17 (M 119 13))) (fun v => ?_) (fun K2 hK2 => ?_)
  · rw [t_putf, t_getf, t_putf, upd2_at, if_neg (by omega)]
    exact ⟨by omega, by omega, by omega, hK _⟩
  rw [t_ite]
  exact ⟨fun a => by rw [if_neg a]; exact hK2 _, fun a => by rw [if_pos (by omega)]; exact hK2 _⟩
