/-! the reference's bytes -/
def TpR (M : Mem) (n : Int) : Prop := (M 119 9 = 126 ∧ M 126 (-1) = 900) ∧ M 119 11 = n ∧ 0 ≤ n ∧ n ≤ 900
def byR (T : Int → Int) (n x : Int) : Int := if n ≤ x then -1 else iandv (T x) 255
theorem byteAt_e {M : Mem} {n x : Int} (h : TpR M n) (x0 : 0 ≤ x) : Tot (f_X12_byteAt 119 x M) (fun u => u = byR (M 126) n x) := by
  obtain ⟨⟨h1, h2⟩, hn, n0, n1⟩ := h
  unfold f_X12_byteAt byR
  rw [t_getf, hn]
  refine ⟨by omega, ?_⟩
  refine t_jq (fun K : Int → Option Int => ∀ v, K v = some v) (fun v => rfl) (fun K hK => ?_)
  rw [t_ite]
  refine ⟨fun c => ?_, fun c => ?_⟩
  · rw [hK, t_some, if_pos c]
  · rw [t_getf, h1, t_geti, h2, hK, t_some, if_neg c]; exact ⟨by omega, by omega, x0, by omega, rfl⟩
theorem isSmall_e {M : Mem} (x : Int) : Tot (f_X12_isSmall x M) (fun u => u = if 97 ≤ x ∧ x ≤ 122 then 1 else 0) := by
  unfold f_X12_isSmall
  refine t_jq (fun K : Int → Option Int => ∀ v, (v = 0 ∨ v = 1) → Tot (K v) (fun u => u = v)) (fun v hv => ?_) (fun K hK => ?_)
  · unfold retz
    rcases hv with hv | hv <;> subst hv <;> simp [Tot]
  refine t_jq (fun K2 : Option Int => Tot K2 (fun u => u = 0)) (hK 0 (by omega)) (fun K2 hK2 => ?_)
  rw [t_ite]
  refine ⟨fun a => by rw [if_neg (by omega)]; exact hK2, fun a => ?_⟩
  rw [t_ite]
  exact ⟨fun b => by rw [if_neg (by omega)]; exact hK2, fun b => by rw [if_pos (by omega)]; exact hK 1 (by omega)⟩
theorem isDigit_e {M : Mem} (x : Int) : Tot (f_X12_isDigit x M) (fun u => u = if 48 ≤ x ∧ x ≤ 57 then 1 else 0) := by
  unfold f_X12_isDigit
  refine t_jq (fun K : Int → Option Int => ∀ v, (v = 0 ∨ v = 1) → Tot (K v) (fun u => u = v)) (fun v hv => ?_) (fun K hK => ?_)
  · unfold retz
    rcases hv with hv | hv <;> subst hv <;> simp [Tot]
  refine t_jq (fun K2 : Option Int => Tot K2 (fun u => u = 0)) (hK 0 (by omega)) (fun K2 hK2 => ?_)
  rw [t_ite]
  refine ⟨fun a => by rw [if_neg (by omega)]; exact hK2, fun a => ?_⟩
  rw [t_ite]
  exact ⟨fun b => by rw [if_neg (by omega)]; exact hK2, fun b => by rw [if_pos (by omega)]; exact hK 1 (by omega)⟩
theorem iand255n : ∀ n : Nat, n < 128 → iandv (-((n : Int) + 1)) 255 = 255 - n := by decide +kernel
theorem iand255_e {b : Int} (h0 : -128 ≤ b) (h1 : b ≤ 127) : iandv b 255 = b % 256 := by
  by_cases c : 0 ≤ b
  · have q := iand255 b.toNat (by omega)
    rw [show ((b.toNat : Nat) : Int) = b by omega] at q
    rw [q]; omega
  · have q := iand255n (-b - 1).toNat (by omega)
    rw [show -((((-b - 1).toNat : Nat) : Int) + 1) = b by omega] at q
    rw [q]; omega
