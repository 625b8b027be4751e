/-! a call keeps the invariant: questions -/
def OpK (c : Option (Int × Mem)) (f : Mem → Option (Int × Mem)) (B : Int) : Prop := Tot c (fun q => Tot (f q.2) (fun s => q.1 = s.1 ∧ Iv s.2 (B + 1000000)))
theorem iv_i {M : Mem} {v d B B' m A : Int} {r : Int → Int} (h : INV M v d B r m A) (hb : B ≤ B') : Iv M B' := ⟨v, d, r, m, A, h.1, h.2.1, h.2.2.1, h.2.2.2.1, lfI_m h.2.2.2.2 hb⟩
theorem ci_kq {M N : Mem} {v : Int} {w : Int → Int} (hn : w 3 ≤ 10) (hf : w 5 ≤ 10) (h : CI M v w) (hK : ∀ a k, a < 119 → ¬ SC a k → ¬ (a = 1 ∧ 12 ≤ k ∧ k ≤ 14) → N a k = M a k) : CI N v w := by
  obtain ⟨N', e⟩ : ∃ X : Mem, X = fun a j => if a < 119 then N a j else M a j := ⟨_, rfl⟩
  have c1 : CI N' v w := ci_keep hn hf h (fun a k h1 h2 => by
    rw [e]; dsimp only
    by_cases c : a < 119
    · rw [if_pos c]; exact hK a k c h1 h2
    · rw [if_neg c])
  exact ci_o hn hf c1 (fun a j q => by rw [e]; dsimp only; rw [if_pos (by omega)])
theorem inv_q {M P : Mem} {v d B m A : Int} {r : Int → Int} (h : INV M v d B r m A) (f : ∀ a j, ¬ SC a j → ¬ SR a j → ¬ (a = 1 ∧ 12 ≤ j ∧ j ≤ 14) → ¬ (a = 119 ∧ 2 ≤ j ∧ j ≤ 4) → P a j = M a j) (st : StI P) : INV P v d B r m A := by
  obtain ⟨⟨hc, hd, hg⟩, hr, ho, _, hl⟩ := h
  have e : P 120 = M 120 := funext fun j => f _ _ (by unfold SC; omega) (by unfold SR; omega) (by omega) (by omega)
  have hn := hg.1.1
  unfold WFn at hn
  have h9 := hg.2.2.2.1
  have hc' : CI P v (M 120) := ci_kq (by omega) (by omega) hc (fun a k q1 q2 q3 => f a k q2 (by unfold SR; omega) q3 (by omega))
  have hdd := hd.1
  refine ⟨⟨by rw [e]; exact hc', by rw [e]; exact cd_k hd h9 ⟨rfl, fun _ _ _ => rfl⟩ (fun a j q => f a j (by unfold SC; omega) (by unfold SR; omega) (by omega) (by omega)), by rw [e]; exact hg⟩, ?_, ?_, st, ?_⟩
  · refine rsI_k hr (fun a j q => ?_) (fun j _ => by rw [e]) (fun j _ _ => by rw [e]) (by rw [e]) (by rw [e]) (by rw [e]) hc'.2.2.2.1
    refine f a j (fun x => q ?_) (fun x => q ?_) (fun x => q ?_) (fun x => q ?_)
    · unfold cgF SW; exact .inl (.inl x)
    · unfold cgF SRl; exact .inr (.inr (.inr (.inr (.inl (.inl x)))))
    · unfold cgF; exact .inr (.inl ⟨x.1, .inr x.2⟩)
    · unfold cgF; exact .inr (.inr (.inr (.inr (.inr (.inl ⟨x.1, .inl x.2⟩)))))
  · exact obI_k ho (fun j q => f _ _ (by unfold SC; omega) (by unfold SR; omega) (by omega) (by omega)) (fun a j q => f _ _ (by unfold SC; omega) (by unfold SR; omega) (by omega) (by omega))
  · exact lfI_k hl (f _ _ (by unfold SC; omega) (by unfold SR; omega) (by omega) (by omega)) (f _ _ (by unfold SC; omega) (by unfold SR; omega) (by omega) (by omega)) (fun a j q => f _ _ (by unfold SC; omega) (by unfold SR; omega) (by omega) (by omega))
theorem qop {M : Mem} {v d B m A : Int} {r : Int → Int} {o : Ans} {c : Option (Int × Mem)} {f : Mem → Option (Int × Mem)} (h : INV M v d B r m A) (hc : Tot c (AC o M)) (hf : ∀ N, RI N (M 120) (-1) → (∀ a j, 119 ≤ a → N a j = M a j) → Tot (f N) (AR o N)) : OpK c f B := by
  refine t_mono hc (fun q hq => ?_)
  obtain ⟨q1, q2, q3, q4⟩ := hq
  have k : ∀ a j, 119 ≤ a → q.2 a j = M a j := fun a j ha => q4 a j (by unfold SC; omega) (by omega)
  have hr := h.2.1.1
  have e : q.2 120 = M 120 := funext fun j => k _ _ (by omega)
  refine t_mono (hf q.2 ⟨lr_keep hr.1 (fun a j x _ => k a j x.1), e, by rw [k _ _ (by omega)]; exact hr.2⟩ k) (fun s hs => ?_)
  obtain ⟨s1, s2, s3, s4⟩ := hs
  have l : ∀ a j, a < 119 → s.2 a j = q.2 a j := fun a j ha => s4 a j (by unfold SR; omega) (by omega)
  refine ⟨by rw [q1, s1], iv_i (inv_q h (fun a j x1 x2 x3 x4 => by rw [s4 a j x2 x4, q4 a j x1 x3]) ?_) (by omega)⟩
  have st := h.2.2.2.1
  unfold StI at st ⊢
  rw [l 1 12 (by omega), l 1 13 (by omega), l 1 14 (by omega), q2, s2]
  refine ⟨rfl, ?_⟩
  cases ho : o.2.2 with
  | none =>
    rw [ho] at q3 s3
    simp only at q3 s3
    rw [q3.1, q3.2, s3.1, s3.2, k _ _ (by omega), k _ _ (by omega)]; exact st.2
  | some x =>
    obtain ⟨n, dd⟩ := x
    rw [ho] at q3 s3
    simp only at q3 s3
    rw [q3.1, q3.2, s3.1, s3.2]; exact ⟨rfl, rfl⟩
