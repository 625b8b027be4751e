/-! the class's keywords -/
def kSc : List Int → Int → Int → List (Int × Int)
  | [], c, x => [(c, x)]
  | h :: t, c, x => (c, x) :: (if h = 32 then kSc t (c + 1) 0 else kSc t c (x * 32 + (h - 97 + 1)))
def kAt (p : Nat) : Int × Int := (kSc sI1 0 0).getD p (0, 0)
theorem s1_len : s_len (-1) = some 149 := by decide +kernel
theorem kAt_n : ∀ p : Nat, p < 149 → (0 ≤ (kAt p).1 ∧ (kAt p).1 ≤ 30 ∧ 0 ≤ (kAt p).2 ∧ (kAt p).2 < 1099511627776 ∧ 0 ≤ sI1.getD p 0 ∧ sI1.getD p 0 ≤ 122) ∧ (sI1.getD p 0 = 32 → (kAt p).1 < 30 ∧ (kAt p).2 = wC (pR (kAt p).1) ∧ (kAt (p + 1)).1 = (kAt p).1 + 1 ∧ (kAt (p + 1)).2 = 0) ∧ (sI1.getD p 0 ≠ 32 → (kAt (p + 1)).1 = (kAt p).1 ∧ (kAt (p + 1)).2 = (kAt p).2 * 32 + (sI1.getD p 0 - 97 + 1)) := by decide +kernel
theorem kAt_e : (kAt 149).1 = 30 := by decide +kernel
theorem kAt_0 : kAt 0 = (0, 0) := by decide +kernel
theorem s1_chr {p : Nat} (h : p < 149) : s_chr (-1) p = some (sI1.getD p 0) := by
  have e : (sOf (-1)).length = 149 := by decide +kernel
  unfold s_chr
  rw [if_pos ⟨.inl rfl, by omega, by rw [e]; omega⟩]
  rfl
theorem kwL_e {k : Mem → Option Mem} {Q : Mem → Prop} {M : Mem} (h10 : M 10 1 = 12) (h12 : M 12 (-1) = 30) (hk : ∀ N, (∀ a j, ¬ (a = 12 ∧ 0 ≤ j ∧ j < 30) → N a j = M a j) → KwC (N 12) → Tot (k N) Q) : ∀ (n p : Nat) (N : Mem), p ≤ 149 → 150 ≤ p + n → (∀ a j, ¬ (a = 12 ∧ 0 ≤ j ∧ j < 30) → N a j = M a j) → (∀ i, 0 ≤ i → i < (kAt p).1 → N 12 i = wC (pR i)) → Tot (f_X6_init_L83 10 k n (kAt p).1 (kAt p).2 p N) Q
  | 0, p, N, p0, p1, f, g => by exfalso; omega
  | n + 1, p, N, p0, p1, f, g => by
    unfold f_X6_init_L83
    rw [s1_len, t_callp, t_some, t_ite]
    refine ⟨fun c => ?_, fun c => ?_⟩
    · have e : p = 149 := by omega
      subst e
      refine hk N f (fun i i0 i1 => g i i0 (by rw [kAt_e]; exact i1))
    · obtain ⟨⟨a1, a2, a3, a4, a5, a6⟩, s1, s2⟩ := kAt_n p (by omega)
      rw [s1_chr (by omega), t_callp, t_some, w32_s (x := (p : Int) + 1) (by omega) (by omega)]
      have ih := kwL_e h10 h12 hk n (p + 1)
      rw [show ((p + 1 : Nat) : Int) = (p : Int) + 1 by omega] at ih
      generalize hch : sI1.getD p 0 = ch at a5 a6 s1 s2 ⊢
      rw [t_jn, t_ite]
      refine ⟨fun d => ?_, fun d => ?_⟩
      · obtain ⟨b1, b2, b3, b4⟩ := s1 d
        rw [b3, b4] at ih
        rw [t_ite]
        refine ⟨fun q => by omega, fun q => ?_⟩
        have z10 : N 10 1 = 12 := by rw [f _ _ (by omega)]; exact h10
        have z12 : N 12 (-1) = 30 := by rw [f _ _ (by omega)]; exact h12
        rw [t_getf, t_seti, z10, z12, w32_s (x := (kAt p).1 + 1) (by omega) (by omega)]
        refine ⟨by omega, by omega, a1, by omega, ih _ (by omega) (by omega) (fun a j x => ?_) (fun i i0 i1 => ?_)⟩
        · rw [upd2_at, if_neg (by omega)]; exact f a j x
        · rw [upd2_at]
          by_cases e : i = (kAt p).1
          · rw [if_pos ⟨rfl, e⟩, b2, e]
          · rw [if_neg (by omega)]; exact g i i0 (by omega)
      · obtain ⟨b1, b2⟩ := s2 d
        rw [b1, b2] at ih
        rw [t_letv, w32_s (x := ch - 97) (by omega) (by omega), w32_s (x := ch - 97 + 1) (by omega) (by omega), w64_s (x := (kAt p).2 * 32) (by omega) (by omega), w64_s (by omega) (by omega)]
        exact ih N (by omega) (by omega) f g
def lenT (i : Int) : Int := if i = 1 then 900 else 30
/-- the tape -/
def TpN (N : Mem) : Prop := (N 10 0 = 11 ∧ N 10 1 = 12 ∧ N 10 6 = 0 ∧ N 10 11 = -1 ∧ N 10 12 = -1) ∧ (N 11 (-1) = 900 ∧ N 12 (-1) = 30) ∧ KwC (N 12)
theorem initTp_e {M : Mem} (h0 : M 0 0 = 10) : Tot (f_X6_init 10 M) (fun N => N 0 0 = 12 ∧ (∀ c j, c ≠ 0 → c < 10 → N c j = M c j) ∧ TpN N) := by
  unfold f_X6_init
  have r0 : Ob M M 10 10 0 (M 10) lenT (fun _ => 0) := ob_0 h0 (fun j => rfl)
  refine ob_n r0 (v := 11) (k' := 1) (by omega) (by omega) (by omega) (by omega) (by omega) (by decide) rfl (fun N1 r1 => ?_)
  refine ob_n r1 (v := 12) (k' := 2) (by omega) (by omega) (by omega) (by omega) (by omega) (by decide) rfl (fun N2 r2 => ?_)
  refine ob_p r2 (by omega) (by omega) (fun N3 r3 => ?_)
  refine ob_p r3 (by omega) (by omega) (fun N4 r4 => ?_)
  refine ob_p r4 (by omega) (by omega) (fun N5 r5 => ?_)
  refine ob_p r5 (by omega) (by omega) (fun N6 r6 => ?_)
  refine ob_p r6 (by omega) (by omega) (fun N7 r7 => ?_)
  refine ob_p r7 (by omega) (by omega) (fun N8 r8 => ?_)
  refine ob_p r8 (by omega) (by omega) (fun N9 r9 => ?_)
  refine ob_p r9 (by omega) (by omega) (fun N10 r10 => ?_)
  refine ob_p r10 (by omega) (by omega) (fun N11 r11 => ?_)
  refine ob_p r11 (by omega) (by omega) (fun N12 r12 => ?_)
  refine ob_p r12 (by omega) (by omega) (fun N r => ?_)
  clear r0 r1 r2 r3 r4 r5 r6 r7 r8 r9 r10 r11 r12
  obtain ⟨z, k, hF, hr⟩ := r
  have l1 := (hr 1 (by omega) (by omega)).1
  have l2 := (hr 2 (by omega) (by omega)).1
  rw [show (10 : Int) + 1 = 11 from rfl, show lenT 1 = 900 from rfl] at l1
  rw [show (10 : Int) + 2 = 12 from rfl, show lenT 2 = 30 from rfl] at l2
  have g0 : N 10 0 = 11 := by rw [hF]; simp [upd1_at]
  have g1 : N 10 1 = 12 := by rw [hF]; simp [upd1_at]
  have g6 : N 10 6 = 0 := by rw [hF]; simp [upd1_at]
  have g11 : N 10 11 = -1 := by rw [hF]; simp [upd1_at]
  have g12 : N 10 12 = -1 := by rw [hF]; simp [upd1_at]
  clear hF hr
  have t := kwL_e (k := fun M31 => some M31) (Q := fun P => P 0 0 = 12 ∧ (∀ c j, c ≠ 0 → c < 10 → P c j = M c j) ∧ TpN P) (M := N) g1 l2 (fun P f hK => by
    rw [t_some]
    refine ⟨by rw [f _ _ (by omega)]; exact z, fun c j c0 c1 => by rw [f _ _ (by omega)]; exact k c j c0 (by omega) (by omega), ⟨?_, ?_, ?_, ?_, ?_⟩, ⟨?_, ?_⟩, hK⟩
    · rw [f _ _ (by omega)]; exact g0
    · rw [f _ _ (by omega)]; exact g1
    · rw [f _ _ (by omega)]; exact g6
    · rw [f _ _ (by omega)]; exact g11
    · rw [f _ _ (by omega)]; exact g12
    · rw [f _ _ (by omega)]; exact l1
    · rw [f _ _ (by omega)]; exact l2) KF 0 N (by omega) (by unfold KF; omega) (fun _ _ _ => rfl) (fun i i0 i1 => by rw [kAt_0] at i1; omega)
  rw [kAt_0] at t
  exact t
