/-! the reference's constructor -/
def lenR (i : Int) : Int := ([0, 3840, 140, 4, 4, 240, 900, 900, 12, 3, 10, 24, 24, 24, 1440, 80, 4, 4] : List Int).getD i.toNat 0
def ctR (i : Int) : Int := if i = 4 then -1 else 0
def FdR (N : Mem) : Prop := N 119 2 = 0 ∧ N 119 3 = 0 ∧ N 119 4 = 1 ∧ N 119 10 = 0 ∧ N 119 16 = -1 ∧ N 119 17 = -1 ∧ N 119 34 = -1 ∧ N 119 41 = 0 ∧ N 119 42 = 0
/-- the reference as it is born -/
def RB (N : Mem) (u : Int → Int) : Prop := LR N ∧ FdR N ∧ (∀ t, 0 ≤ t → t < 4 → N 122 t = 0 ∧ N 123 t = -1 ∧ N 136 t = 0) ∧ (∀ k, 0 ≤ k → k < 60 → N 134 k = 0) ∧ ∀ j, 0 ≤ j → j < 640 → N 120 j = plW u j
theorem r_init {M : Mem} (u : Int → Int) (h0 : M 0 0 = 119) (hz : ∀ j, 0 ≤ j → M 119 j = 0) : Tot (f_X12_init 119 M) (fun N => N 0 0 = 136 ∧ (∀ a j, 1 ≤ a → a ≤ 118 → N a j = M a j) ∧ RB N u) := by
  unfold f_X12_init
  have r0 : Ob M M 119 119 0 (M 119) lenR ctR := ob_0 h0 (fun _ => rfl)
  refine ob_n r0 (v := 120) (k' := 1) (by omega) (by omega) (by omega) (by omega) (by omega) (by decide) rfl (fun N1 r1 => ?_)
  refine ob_n r1 (v := 121) (k' := 2) (by omega) (by omega) (by omega) (by omega) (by omega) (by decide) rfl (fun N2 r2 => ?_)
  refine ob_p r2 (by omega) (by omega) (fun N3 r3 => ?_)
  refine ob_n r3 (v := 122) (k' := 3) (by omega) (by omega) (by omega) (by omega) (by omega) (by decide) rfl (fun N4 r4 => ?_)
  refine ob_m r4 (v := 123) (k' := 4) (by omega) (by omega) (by omega) (by omega) (by omega) (by decide) rfl (fun N5 r5 => ?_)
  refine ob_n r5 (v := 124) (k' := 5) (by omega) (by omega) (by omega) (by omega) (by omega) (by decide) rfl (fun N6 r6 => ?_)
  refine ob_n r6 (v := 125) (k' := 6) (by omega) (by omega) (by omega) (by omega) (by omega) (by decide) rfl (fun N7 r7 => ?_)
  refine ob_n r7 (v := 126) (k' := 7) (by omega) (by omega) (by omega) (by omega) (by omega) (by decide) rfl (fun N8 r8 => ?_)
  refine ob_p r8 (by omega) (by omega) (fun N9 r9 => ?_)
  refine ob_p r9 (by omega) (by omega) (fun N10 r10 => ?_)
  refine ob_n r10 (v := 127) (k' := 8) (by omega) (by omega) (by omega) (by omega) (by omega) (by decide) rfl (fun N11 r11 => ?_)
  refine ob_n r11 (v := 128) (k' := 9) (by omega) (by omega) (by omega) (by omega) (by omega) (by decide) rfl (fun N12 r12 => ?_)
  refine ob_n r12 (v := 129) (k' := 10) (by omega) (by omega) (by omega) (by omega) (by omega) (by decide) rfl (fun N13 r13 => ?_)
  refine ob_n r13 (v := 130) (k' := 11) (by omega) (by omega) (by omega) (by omega) (by omega) (by decide) rfl (fun N14 r14 => ?_)
  refine ob_n r14 (v := 131) (k' := 12) (by omega) (by omega) (by omega) (by omega) (by omega) (by decide) rfl (fun N15 r15 => ?_)
  refine ob_n r15 (v := 132) (k' := 13) (by omega) (by omega) (by omega) (by omega) (by omega) (by decide) rfl (fun N16 r16 => ?_)
  refine ob_p r16 (by omega) (by omega) (fun N17 r17 => ?_)
  refine ob_n r17 (v := 133) (k' := 14) (by omega) (by omega) (by omega) (by omega) (by omega) (by decide) rfl (fun N18 r18 => ?_)
  refine ob_n r18 (v := 134) (k' := 15) (by omega) (by omega) (by omega) (by omega) (by omega) (by decide) rfl (fun N19 r19 => ?_)
  refine ob_n r19 (v := 135) (k' := 16) (by omega) (by omega) (by omega) (by omega) (by omega) (by decide) rfl (fun N20 r20 => ?_)
  refine ob_n r20 (v := 136) (k' := 17) (by omega) (by omega) (by omega) (by omega) (by omega) (by decide) rfl (fun N21 r21 => ?_)
  clear r0 r1 r2 r3 r4 r5 r6 r7 r8 r9 r10 r11 r12 r13 r14 r15 r16 r17 r18 r19 r20
  obtain ⟨z, k, hF, hr⟩ := r21
  obtain ⟨N, eN⟩ : ∃ X, X = N21 := ⟨_, rfl⟩
  rw [← eN] at z k hF hr ⊢
  have l : ∀ c, 120 ≤ c → c ≤ 136 → N c (-1) = lenR (c - 119) := fun c c0 c1 => by have := (hr (c - 119) (by omega) (by omega)).1; rwa [show 119 + (c - 119) = c by omega] at this
  have g : ∀ c j, 120 ≤ c → c ≤ 136 → 0 ≤ j → j < lenR (c - 119) → N c j = ctR (c - 119) := fun c j c0 c1 j0 j1 => by have := (hr (c - 119) (by omega) (by omega)).2 j j0 j1; rwa [show 119 + (c - 119) = c by omega] at this
  clear hr
  have hl : LR N := by
    refine ⟨⟨?_, ?_, ?_, ?_, ?_, ?_, ?_, ?_, ?_, ?_, ?_, ?_, ?_, ?_, ?_, ?_, ?_⟩, ⟨?_, ?_, ?_, ?_, ?_, ?_, ?_, ?_, ?_, ?_, ?_, ?_, ?_, ?_, ?_, ?_, ?_⟩⟩
    · rw [hF]; simp [upd1_at]
    · rw [hF]; simp [upd1_at]
    · rw [hF]; simp [upd1_at]
    · rw [hF]; simp [upd1_at]
    · rw [hF]; simp [upd1_at]
    · rw [hF]; simp [upd1_at]
    · rw [hF]; simp [upd1_at]
    · rw [hF]; simp [upd1_at]
    · rw [hF]; simp [upd1_at]
    · rw [hF]; simp [upd1_at]
    · rw [hF]; simp [upd1_at]
    · rw [hF]; simp [upd1_at]
    · rw [hF]; simp [upd1_at]
    · rw [hF]; simp [upd1_at]
    · rw [hF]; simp [upd1_at]
    · rw [hF]; simp [upd1_at]
    · rw [hF]; simp [upd1_at]
    · rw [l _ (by omega) (by omega)]; decide
    · rw [l _ (by omega) (by omega)]; decide
    · rw [l _ (by omega) (by omega)]; decide
    · rw [l _ (by omega) (by omega)]; decide
    · rw [l _ (by omega) (by omega)]; decide
    · rw [l _ (by omega) (by omega)]; decide
    · rw [l _ (by omega) (by omega)]; decide
    · rw [l _ (by omega) (by omega)]; decide
    · rw [l _ (by omega) (by omega)]; decide
    · rw [l _ (by omega) (by omega)]; decide
    · rw [l _ (by omega) (by omega)]; decide
    · rw [l _ (by omega) (by omega)]; decide
    · rw [l _ (by omega) (by omega)]; decide
    · rw [l _ (by omega) (by omega)]; decide
    · rw [l _ (by omega) (by omega)]; decide
    · rw [l _ (by omega) (by omega)]; decide
    · rw [l _ (by omega) (by omega)]; decide
  have hd : FdR N := by
    unfold FdR
    simp only [hF]
    simp [upd1_at, hz]
  clear hF
  rw [t_callv]
  refine plain_e (u := u) hl.1.1 hl.2.1 (by omega) (by omega) (fun P pP fP => ?_)
  rw [t_some]
  have f : ∀ a j, ¬ (a = 120 ∧ 0 ≤ j ∧ j < 640) → P a j = N a j := fun a j x => fP a j (by omega)
  refine ⟨by rw [f _ _ (by omega)]; exact z, fun a j a0 a1 => by rw [f _ _ (by omega)]; exact k a j (by omega) (by omega) (by omega), lr_keep hl (fun a j q1 q2 => f a j (by omega)), ?_, fun t t0 t1 => ⟨?_, ?_, ?_⟩, fun i i0 i1 => ?_, fun j j0 j1 => ?_⟩
  · unfold FdR at hd ⊢
    have q : ∀ j, P 119 j = N 119 j := fun j => f _ _ (by omega)
    simp only [q]; exact hd
  · rw [f _ _ (by omega)]; exact g 122 t (by omega) (by omega) t0 (by rw [show lenR (122 - 119) = 4 by decide]; exact t1)
  · rw [f _ _ (by omega)]; exact g 123 t (by omega) (by omega) t0 (by rw [show lenR (123 - 119) = 4 by decide]; exact t1)
  · rw [f _ _ (by omega)]; exact g 136 t (by omega) (by omega) t0 (by rw [show lenR (136 - 119) = 4 by decide]; exact t1)
  · rw [f _ _ (by omega)]; exact g 134 i (by omega) (by omega) i0 (by rw [show lenR (134 - 119) = 80 by decide]; omega)
  · have := pP j j0 j1; rwa [Int.zero_add] at this
