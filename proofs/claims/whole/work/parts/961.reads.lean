/-! status, top, bottom, fault -/
theorem c_status {M : Mem} : Tot (f_X11_status 1 M) (fun u => u = M 1 12) := by unfold f_X11_status; rw [t_getf, t_some]; exact ⟨by omega, rfl⟩
theorem c_top {M : Mem} : Tot (f_X11_top 1 M) (fun u => u = M 1 13) := by unfold f_X11_top; rw [t_getf, t_some]; exact ⟨by omega, rfl⟩
theorem c_bottom {M : Mem} : Tot (f_X11_bottom 1 M) (fun u => u = M 1 14) := by unfold f_X11_bottom; rw [t_getf, t_some]; exact ⟨by omega, rfl⟩
theorem r_status {M : Mem} : Tot (f_X12_status 119 M) (fun u => u = M 119 2) := by unfold f_X12_status; rw [t_getf, t_some]; exact ⟨by omega, rfl⟩
theorem r_top {M : Mem} : Tot (f_X12_top 119 M) (fun u => u = M 119 3) := by unfold f_X12_top; rw [t_getf, t_some]; exact ⟨by omega, rfl⟩
theorem r_bottom {M : Mem} : Tot (f_X12_bottom 119 M) (fun u => u = M 119 4) := by unfold f_X12_bottom; rw [t_getf, t_some]; exact ⟨by omega, rfl⟩
def fltS (k p x : Int) : Int := if x = 0 then k else if x = 1 then p else -1
theorem c_fault {M : Mem} (x : Int) (h1 : M 1 1 = 10) : Tot (f_X11_fault 1 x M) (fun u => u = fltS (M 10 11) (M 10 12) x) := by
  unfold f_X11_fault fltS
  refine t_jq (fun K : Int → Option Int => ∀ v, K v = some v) (fun v => rfl) (fun K hK => ?_)
  rw [t_ite]
  refine ⟨fun a => ?_, fun a => ?_⟩
  · rw [t_ite, if_neg a]
    refine ⟨fun b => ?_, fun b => ?_⟩
    · rw [hK, t_some, if_neg b]
    · rw [t_getf, h1, t_getf, hK, t_some, if_pos (by omega)]; exact ⟨by omega, by omega, rfl⟩
  · rw [t_getf, h1, t_getf, hK, t_some, if_pos (by omega)]; exact ⟨by omega, by omega, rfl⟩
theorem r_fault {M : Mem} (x : Int) : Tot (f_X12_fault 119 x M) (fun u => u = fltS (M 119 16) (M 119 17) x) := by
  unfold f_X12_fault fltS
  refine t_jq (fun K : Int → Option Int => ∀ v, K v = some v) (fun v => rfl) (fun K hK => ?_)
  rw [t_ite]
  refine ⟨fun a => ?_, fun a => ?_⟩
  · rw [t_ite, if_neg a]
    refine ⟨fun b => ?_, fun b => ?_⟩
    · rw [hK, t_some, if_neg b]
    · rw [t_getf, hK, t_some, if_pos (by omega)]; exact ⟨by omega, rfl⟩
  · rw [t_getf, hK, t_some, if_pos (by omega)]; exact ⟨by omega, rfl⟩
