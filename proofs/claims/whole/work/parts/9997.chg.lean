/-! changes keep the invariant -/
theorem inv_w {M P : Mem} {v d B B' m A : Int} {r r' : Int → Int} (h : INV M v d B r m A) (fr : ∀ a j, ¬ cgF a j → P a j = M a j) (hc : CI P v (P 120)) (hd : CD P d (P 120)) (hg : GW (P 120)) (sv : SameV (M 120) (P 120)) (s0 : ∀ j, j < 0 → P 120 j = M 120 j) (s1 : ∀ j, 640 ≤ j → j < 2560 → P 120 j = M 120 j) (st : StI P) (ho : ObI P) (hl : LfI P B' r') : INV P v d B' r' m A :=
  ⟨⟨hc, hd, hg⟩, rsI_k h.2.1 fr s0 s1 (sv 3 (by omega)) (sv 4 (by omega)) (sv 5 (by omega)) hc.2.2.2.1, ho, st, hl⟩
theorem cop {M : Mem} {v d B m A : Int} {r : Int → Int} {o : Int × Int × (Int → Int)} {c : Option (Int × Mem)} {f : Mem → Option (Int × Mem)} (h : INV M v d B r m A) (hc : Tot c (fun q => q.1 = o.1 ∧ ChC M q.2 v o.2.2 o.2.1)) (hf : ∀ N, RI N (M 120) (-1) → Tot (f N) (fun q => q.1 = o.1 ∧ ChR N q.2 o.2.2 o.2.1)) (hg : GW o.2.2 ∧ SameV (M 120) o.2.2 ∧ SameD (M 120) o.2.2) (hh : SameH (M 120) o.2.2) : OpK c f B := by
  refine t_mono hc (fun q hq => ?_)
  obtain ⟨q1, q2, q3, q4⟩ := hq
  have k : ∀ a j, 119 ≤ a → q.2 a j = M a j := fun a j ha => q4 a j (by unfold SW SC; omega) (by omega)
  have hr := h.2.1.1
  have e : q.2 120 = M 120 := funext fun j => k _ _ (by omega)
  refine t_mono (hf q.2 ⟨lr_keep hr.1 (fun a j x _ => k a j x.1), e, by rw [k _ _ (by omega)]; exact hr.2⟩) (fun s hs => ?_)
  obtain ⟨s1, s2, s3, s4⟩ := hs
  have l : ∀ a j, a < 119 → s.2 a j = q.2 a j := fun a j ha => s4 a j (by unfold SR; omega) (by omega) (by omega)
  have hn := hg.1.1.1
  unfold WFn at hn
  have hd := h.1.2.1
  have hdd := hd.1
  have h9 := h.1.2.2.2.2.2.1
  have st := h.2.2.2.1
  have fr : ∀ a j, ¬ cgF a j → s.2 a j = M a j := fun a j hx => by
    rw [s4 a j (fun x => hx ?_) (fun x => hx ?_) (fun x => hx ?_), q4 a j (fun x => hx ?_) (fun x => hx ?_)]
    · unfold cgF; exact .inl x
    · unfold cgF; exact .inr (.inl ⟨x.1, by omega⟩)
    · unfold cgF SRl; exact .inr (.inr (.inr (.inr (.inl (.inl x)))))
    · unfold cgF SRl; exact .inr (.inr (.inr (.inr (.inl (.inr (.inl x))))))
    · unfold cgF; exact .inr (.inr (.inr (.inr (.inr (.inl ⟨x.1, by omega⟩)))))
  refine ⟨by rw [q1, s1], iv_i (r := r) (B := B) (inv_w h fr ?_ ?_ ?_ ?_ ?_ ?_ ?_ ?_ ?_) (by omega)⟩
  · rw [s2]; exact ci_o (by omega) (by omega) q2 (fun a j x => l a j (by omega))
  · rw [s2]; exact cd_k hd h9 hg.2.2 (fun a j x => by rw [l a j (by omega), q4 a j (by unfold SW SC; omega) (by omega)])
  · rw [s2]; exact hg.1
  · rw [s2]; exact hg.2.1
  · intro j hj; rw [s2]; exact hh j (by omega)
  · intro j hj _; rw [s2]; exact hh j (by omega)
  · unfold StI at st ⊢
    rw [l 1 12 (by omega), l 1 13 (by omega), l 1 14 (by omega), q3, s3, q4 1 13 (by unfold SW SC; omega) (by omega), q4 1 14 (by unfold SW SC; omega) (by omega), s4 119 3 (by unfold SR; omega) (by omega) (by omega), s4 119 4 (by unfold SR; omega) (by omega) (by omega), k _ _ (by omega), k _ _ (by omega)]
    exact ⟨rfl, st.2⟩
  · exact obI_k h.2.2.1 (fun j x => by rw [l 1 j (by omega), q4 1 j (by unfold SW SC; omega) (by omega)]) (fun a j x => by rw [l a j (by omega), q4 a j (by unfold SW SC; omega) (by omega)])
  · refine lfI_k h.2.2.2.2 (by rw [l 1 10 (by omega), q4 1 10 (by unfold SW SC; omega) (by omega)]) (by rw [s4 119 41 (by unfold SR; omega) (by omega) (by omega), k _ _ (by omega)]) (fun a j x => ?_)
    rw [s4 a j (by unfold SR; omega) (by omega) (by omega), q4 a j (by unfold SW SC; omega) (by omega)]
theorem sh_r (w : Int → Int) : SameH w w := fun _ _ => rfl
theorem o_head {M : Mem} {B : Int} (h : Iv M B) (x : Int) : OpK (f_X11_head 1 x M) (fun N => f_X12_head 119 x N) B := by
  obtain ⟨v, d, r, m, A, h⟩ := h
  have hg := h.1.2.2
  refine cop h (c_head h.1.1 hg.1.1 x) (fun N hN => ?_) ?_ ?_
  · have t := r_head hN.1 x; rw [hN.2.1] at t; exact t
  · unfold headW; split
    · exact gw_u hg (.inr ⟨rfl, by omega, by omega⟩)
    · exact ⟨hg, same_r _⟩
  · unfold headW; split
    · intro j hj; simp only; rw [upd1_at, if_neg (by omega)]
    · exact sh_r _
theorem o_close {M : Mem} {B : Int} (h : Iv M B) (q x : Int) : OpK (f_X11_close 1 q x M) (fun N => f_X12_close 119 q x N) B := by
  obtain ⟨v, d, r, m, A, h⟩ := h
  have hg := h.1.2.2
  refine cop h (c_close h.1.1 hg.1.1 q x) (fun N hN => ?_) ?_ ?_
  · have t := r_close hN.1 q x; rw [hN.2.1] at t; exact t
  · unfold closeW; split
    · exact gw_u hg (.inl rfl)
    · exact ⟨hg, same_r _⟩
  · unfold closeW; split
    · intro j hj; simp only; rw [upd1_at, if_neg (by omega)]
    · exact sh_r _
theorem o_swap {M : Mem} {B : Int} (h : Iv M B) (x y : Int) : OpK (f_X11_swap 1 x y M) (fun N => f_X12_swap 119 x y N) B := by
  obtain ⟨v, d, r, m, A, h⟩ := h
  have hg := h.1.2.2
  have hn := hg.1.1
  unfold WFn at hn
  refine cop h (c_swap h.1.1 hg.1.1 x y) (fun N hN => ?_) ?_ ?_
  · have t := r_swap hN.1 (by rw [hN.2.1]; exact hg.1.1) (by rw [hN.2.1]; exact hg.1.2.2.2.1) x y; rw [hN.2.1] at t; exact t
  · unfold swapW; split
    · split
      · exact ⟨hg, same_r _⟩
      · exact gw_swap hg (by omega) (by omega) (by omega) (by omega) (by omega)
    · exact ⟨hg, same_r _⟩
  · unfold swapW; split
    · split
      · exact sh_r _
      · exact fun j hj => swapO_o (by omega) (by omega)
    · exact sh_r _
theorem o_lend {M : Mem} {B : Int} (h : Iv M B) (x y z : Int) : OpK (f_X11_lend 1 x y z M) (fun N => f_X12_lend 119 x y z N) B := by
  obtain ⟨v, d, r, m, A, h⟩ := h
  have hg := h.1.2.2
  have hn := hg.1.1
  unfold WFn at hn
  refine cop h (c_lend h.1.1 hg.1 x y z) (fun N hN => ?_) ?_ ?_
  · have t := r_lend hN.1 (by rw [hN.2.1]; exact hg.1) x y z; rw [hN.2.1] at t; exact t
  · unfold lendW; split
    · split
      · exact ⟨hg, same_r _⟩
      · split
        · exact ⟨hg, same_r _⟩
        · exact gw_lend hg (by omega) (by omega) (by omega) (by omega) (by omega) (by omega) (by omega) (by omega) (.inl (by omega))
    · exact ⟨hg, same_r _⟩
  · unfold lendW; split
    · split
      · exact sh_r _
      · split
        · exact sh_r _
        · exact fun j hj => lendO_o (by omega) (by omega) (by omega) (by omega) (by omega) (by omega) (by omega)
    · exact sh_r _
theorem o_pass {M : Mem} {B : Int} (h : Iv M B) : OpK (f_X11_pass 1 M) (fun N => f_X12_pass 119 N) B := by
  obtain ⟨v, d, r, m, A, h⟩ := h
  have hg := h.1.2.2
  have hn := hg.1.1
  unfold WFn at hn
  refine cop h (c_pass h.1.1 hg.1 hg.2.1) (fun N hN => r_pass hN hg.1 hg.2.1) ?_ ?_
  · unfold passW; split
    · exact ⟨hg, same_r _⟩
    · exact gw_pass hg (by omega)
  · unfold passW; split
    · exact sh_r _
    · exact fun j hj => by simp only; unfold passO; rw [upd1_at, if_neg (by omega), upd1_at, if_neg (by omega), passP_o (by omega)]
