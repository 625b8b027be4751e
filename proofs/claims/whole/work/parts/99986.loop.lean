/-! the law's loop -/
theorem sgt_e {ρ : Type} {xs : Int → Int} {L i : Int} {k : Int → Option ρ} (h0 : 0 ≤ i) (h1 : i < L) : sgt xs L i k = k (xs i) := by unfold sgt; rw [if_pos ⟨h0, h1⟩]
theorem jb_e {ρ : Type} {K : Int → Option ρ} {a : Int} : jn K (fun j => if a = 0 then j 0 else j 1) = K (if a = 0 then 0 else 1) := by unfold jn; split <;> rfl
theorem fin_k {c : Option (Int × Mem)} {f : Mem → Option (Int × Mem)} {B : Int} {J : Mem → Option Int} {Q : Int → Prop} (h : OpK c f B) (hJ : ∀ P, Iv P (B + 1000000) → Tot (J P) Q) : Tot (nn 1 (call c (fun v N => nn 119 (call (f N) (fun u P => if v = u then (J P) else (some 0)))))) Q := by
  rw [t_nn, t_call]
  refine ⟨by omega, t_mono h (fun q hq => ?_)⟩
  rw [t_nn, t_call]
  refine ⟨by omega, t_mono hq (fun s hs => ?_)⟩
  rw [if_pos hs.1]; exact hJ _ hs.2
theorem fin_p {c f : Option Int} {M : Mem} {x y : Int} {J : Mem → Option Int} {Q : Int → Prop} (hc : Tot c (fun u => u = x)) (hf : Tot f (fun u => u = y)) (e : x = y) (hJ : Tot (J M) Q) : Tot (nn 1 (callp c (fun v => nn 119 (callp f (fun u => if v = u then (J M) else (some 0)))))) Q := by
  rw [t_nn, t_callp]
  refine ⟨by omega, t_mono hc (fun q hq => ?_)⟩
  rw [t_nn, t_callp]
  refine ⟨by omega, t_mono hf (fun s hs => ?_)⟩
  rw [if_pos (by rw [hq, hs, e])]; exact hJ
theorem iv_m {M : Mem} {B : Int} (h : Iv M B) : Iv M (B + 1000000) := by
  obtain ⟨v, d, r, m, A, h⟩ := h
  exact iv_i h (by omega)
theorem law_step {xs : Int → Int} {L : Int} (hL : L ≤ 3072) (hx : ∀ i, 0 ≤ i → i < L → r32 (xs i)) {n : Nat} {p B : Int} {M : Mem} (p0 : 0 ≤ p) (p1 : p + 6 ≤ L) (B0 : 0 ≤ B) (B1 : B ≤ 1900000000) (h : Iv M B) (ih : ∀ P, Iv P (B + 1000000) → Tot (f_L_law_L18 xs L 1 119 n (p + 6) P) (fun u => u = 1)) : Tot (f_L_law_L18 xs L 1 119 (n + 1) p M) (fun u => u = 1) := by
  unfold f_L_law_L18
  have s0 : ∀ (k : Int → Option Int), sgt xs L p k = k (xs p) := fun k => sgt_e (by omega) (by omega)
  have s1 : ∀ (k : Int → Option Int), sgt xs L (w32 (p + 1)) k = k (xs (p + 1)) := fun k => by rw [w32_s (x := p + 1) (by omega) (by omega)]; exact sgt_e (by omega) (by omega)
  have s2 : ∀ (k : Int → Option Int), sgt xs L (w32 (p + 2)) k = k (xs (p + 2)) := fun k => by rw [w32_s (x := p + 2) (by omega) (by omega)]; exact sgt_e (by omega) (by omega)
  have s3 : ∀ (k : Int → Option Int), sgt xs L (w32 (p + 3)) k = k (xs (p + 3)) := fun k => by rw [w32_s (x := p + 3) (by omega) (by omega)]; exact sgt_e (by omega) (by omega)
  have s4 : ∀ (k : Int → Option Int), sgt xs L (w32 (p + 4)) k = k (xs (p + 4)) := fun k => by rw [w32_s (x := p + 4) (by omega) (by omega)]; exact sgt_e (by omega) (by omega)
  have s5 : ∀ (k : Int → Option Int), sgt xs L (w32 (p + 5)) k = k (xs (p + 5)) := fun k => by rw [w32_s (x := p + 5) (by omega) (by omega)]; exact sgt_e (by omega) (by omega)
  rw [w32_s (x := L - 6) (by omega) (by omega), if_neg (by omega), s0, w32_s (x := p + 6) (by omega) (by omega)]
  refine t_jq (fun K : Mem → Option Int => ∀ P, Iv P (B + 1000000) → Tot (K P) (fun u => u = 1)) ih (fun K hK => ?_)
  clear ih s0
  have hS : StI M := by obtain ⟨_, _, _, _, _, h⟩ := h; exact h.2.2.2.1
  have hF : M 1 1 = 10 ∧ M 10 11 = M 119 16 ∧ M 10 12 = M 119 17 := by obtain ⟨_, _, _, _, _, h⟩ := h; exact ⟨h.2.1.2.2.1.2.2.1.1, h.2.1.2.2.2.1.2.2.2.1, h.2.1.2.2.2.1.2.2.2.2⟩
  rw [t_ite]; refine ⟨fun _ => ?_, fun _ => ?_⟩
  · exact fin_p c_status r_status hS.1 (hK M (iv_m h))
  rw [t_ite]; refine ⟨fun _ => ?_, fun _ => ?_⟩
  · exact fin_p c_top r_top hS.2.1 (hK M (iv_m h))
  rw [t_ite]; refine ⟨fun _ => ?_, fun _ => ?_⟩
  · exact fin_p c_bottom r_bottom hS.2.2 (hK M (iv_m h))
  rw [t_ite]; refine ⟨fun _ => ?_, fun _ => ?_⟩
  · simp only [s1, s2, s3]; exact fin_k (o_tray h _ _ _) hK
  rw [t_ite]; refine ⟨fun _ => ?_, fun _ => ?_⟩
  · simp only [s1, s2, s3, s4]; exact fin_k (o_write h _ _ _) hK
  rw [t_ite]; refine ⟨fun _ => ?_, fun _ => ?_⟩
  · simp only [s1, s2]; exact fin_k (o_read h _ _) hK
  rw [t_ite]; refine ⟨fun _ => ?_, fun _ => ?_⟩
  · simp only [s1, s2, s3, s4, s5]; exact fin_k (o_pour h _ _ _ _ _ (hx _ (by omega) (by omega)) (hx _ (by omega) (by omega)) (hx _ (by omega) (by omega))) hK
  rw [t_ite]; refine ⟨fun _ => ?_, fun _ => ?_⟩
  · simp only [s1, s2, s3, s4, s5]; exact fin_k (o_feed h _ _ _ _ _) hK
  rw [t_ite]; refine ⟨fun _ => ?_, fun _ => ?_⟩
  · simp only [s1]; exact fin_k (o_valley h _) hK
  rw [t_ite]; refine ⟨fun _ => ?_, fun _ => ?_⟩
  · simp only [s1]; exact fin_k (o_days h _) hK
  rw [t_ite]; refine ⟨fun _ => ?_, fun _ => ?_⟩
  · simp only [s1]; exact fin_p (c_fault _ hF.1) (r_fault _) (by rw [hF.2.1, hF.2.2]) (hK M (iv_m h))
  rw [t_ite]; refine ⟨fun _ => ?_, fun _ => ?_⟩
  · simp only [s1]; exact fin_k (o_told h _) hK
  rw [t_ite]; refine ⟨fun _ => ?_, fun _ => ?_⟩
  · simp only [s1, s2]; exact fin_k (o_reach h _ _) hK
  rw [t_ite]; refine ⟨fun _ => ?_, fun _ => ?_⟩
  · simp only [s1, s2]; exact fin_k (o_field h _ _) hK
  rw [t_ite]; refine ⟨fun _ => ?_, fun _ => ?_⟩
  · simp only [s1]; exact fin_k (o_below h _) hK
  rw [t_ite]; refine ⟨fun _ => ?_, fun _ => ?_⟩
  · simp only [s1]; exact fin_k (o_order h _ (hx _ (by omega) (by omega))) hK
  rw [t_ite]; refine ⟨fun _ => ?_, fun _ => ?_⟩
  · simp only [s1, s2]; exact fin_k (o_turn h _ _) hK
  rw [t_ite]; refine ⟨fun _ => ?_, fun _ => ?_⟩
  · simp only [s1, s2]; exact fin_k (o_swap h _ _) hK
  rw [t_ite]; refine ⟨fun _ => ?_, fun _ => ?_⟩
  · simp only [s1, s2, s3]; exact fin_k (o_lend h _ _ _) hK
  rw [t_ite]; refine ⟨fun _ => ?_, fun _ => ?_⟩
  · simp only [s1, s2]; exact fin_k (o_owed h _ _) hK
  rw [t_ite]; refine ⟨fun _ => ?_, fun _ => ?_⟩
  · exact fin_k (o_slots h) hK
  rw [t_ite]; refine ⟨fun _ => ?_, fun _ => ?_⟩
  · simp only [s1, s2]; exact fin_k (o_slot h _ _) hK
  rw [t_ite]; refine ⟨fun _ => ?_, fun _ => ?_⟩
  · simp only [s1]; exact fin_k (o_whose h _) hK
  rw [t_ite]; refine ⟨fun _ => ?_, fun _ => ?_⟩
  · simp only [s1, s2]; exact fin_k (o_minutes h _ _) hK
  rw [t_ite]; refine ⟨fun _ => ?_, fun _ => ?_⟩
  · simp only [s1, s2, jb_e]; exact fin_k (o_close h _ _) hK
  rw [t_ite]; refine ⟨fun _ => ?_, fun _ => ?_⟩
  · simp only [s1]; exact fin_k (o_head h _) hK
  rw [t_ite]; refine ⟨fun _ => ?_, fun _ => ?_⟩
  · simp only [s1, s2]; exact fin_k (o_lets h _ _) hK
  rw [t_ite]; refine ⟨fun _ => ?_, fun _ => ?_⟩
  · simp only [s1]; exact fin_k (o_rate h _) hK
  rw [t_ite]; refine ⟨fun _ => ?_, fun _ => ?_⟩
  · simp only [s1]; exact fin_k (o_water h _) hK
  rw [t_ite]; refine ⟨fun _ => ?_, fun _ => ?_⟩
  · simp only [s1]; exact fin_k (o_lost h _) hK
  rw [t_ite]; refine ⟨fun _ => ?_, fun _ => ?_⟩
  · simp only [s1]; exact fin_k (o_runsOut h _) hK
  rw [t_ite]; refine ⟨fun _ => ?_, fun _ => ?_⟩
  · simp only [s1]; exact fin_k (o_waterOf h _) hK
  rw [t_ite]; refine ⟨fun _ => ?_, fun _ => ?_⟩
  · simp only [s1]; exact fin_k (o_lacking h _) hK
  rw [t_ite]; refine ⟨fun _ => ?_, fun _ => ?_⟩
  · simp only [s1]; exact fin_k (o_spare h _) hK
  rw [t_ite]; refine ⟨fun _ => ?_, fun _ => ?_⟩
  · exact fin_k (o_fewest h) hK
  rw [t_ite]; refine ⟨fun _ => ?_, fun _ => ?_⟩
  · exact fin_k (o_neediest h) hK
  rw [t_ite]; refine ⟨fun _ => ?_, fun _ => ?_⟩
  · simp only [s1, jb_e]; exact fin_k (o_richest h _) hK
  rw [t_ite]; refine ⟨fun _ => ?_, fun _ => ?_⟩
  · exact fin_k (o_mending h) hK
  rw [t_ite]; refine ⟨fun _ => ?_, fun _ => ?_⟩
  · exact fin_k (o_off h) hK
  rw [t_ite]; refine ⟨fun _ => ?_, fun _ => ?_⟩
  · exact fin_k (o_driest h) hK
  rw [t_ite]; refine ⟨fun _ => ?_, fun _ => ?_⟩
  · simp only [s1, s2]; exact fin_k (o_waits h _ _) hK
  rw [t_ite]; refine ⟨fun _ => ?_, fun _ => ?_⟩
  · simp only [s1]; exact fin_k (o_headFor h _) hK
  rw [t_ite]; refine ⟨fun _ => ?_, fun _ => ?_⟩
  · exact fin_k (o_shadow h) hK
  rw [t_ite]; refine ⟨fun _ => ?_, fun _ => ?_⟩
  · simp only [s1]; exact fin_k (o_bestSwap h _) hK
  rw [t_ite]; refine ⟨fun _ => ?_, fun _ => ?_⟩
  · exact fin_k (o_debts h) hK
  rw [t_ite]; refine ⟨fun _ => ?_, fun _ => ?_⟩
  · simp only [s1]; exact fin_k (o_balance h _) hK
  rw [t_ite]; refine ⟨fun _ => ?_, fun _ => ?_⟩
  · simp only [s1, s2]; exact fin_k (o_mean h _ _) hK
  rw [t_ite]; refine ⟨fun _ => ?_, fun _ => ?_⟩
  · simp only [s1, s2]; exact fin_k (o_gaps h _ _) hK
  rw [t_ite]; refine ⟨fun _ => ?_, fun _ => ?_⟩
  · simp only [s1]; exact fin_k (o_suspects h _) hK
  rw [t_ite]; refine ⟨fun _ => ?_, fun _ => ?_⟩
  · exact fin_k (o_pass h) hK
  rw [t_ite]; refine ⟨fun _ => ?_, fun _ => ?_⟩
  · simp only [s1]; exact fin_k (o_account h _) hK
  rw [t_ite]; refine ⟨fun _ => ?_, fun _ => ?_⟩
  · simp only [s1]; exact fin_k (o_live h B0 B1 _) hK
  rw [t_ite]; refine ⟨fun _ => ?_, fun _ => ?_⟩
  · simp only [s1]; exact fin_k (o_lived h _) hK
  rw [t_ite]; refine ⟨fun _ => ?_, fun _ => ?_⟩
  · simp only [s1, s2, s3, s4]; exact fin_k (o_odds h B0 B1 _ _ _ _ (hx _ (by omega) (by omega))) hK
  rw [t_ite]; refine ⟨fun _ => ?_, fun _ => ?_⟩
  · exact fin_k (o_mark h) hK
  rw [t_ite]; refine ⟨fun _ => ?_, fun _ => ?_⟩
  · exact fin_k (o_back h) hK
  · exact hK M (iv_m h)
theorem law_loop {xs : Int → Int} {L : Int} (hL0 : 0 ≤ L) (hL : L ≤ 3072) (hx : ∀ i, 0 ≤ i → i < L → r32 (xs i)) : ∀ (n : Nat) (i : Int) (M : Mem), 0 ≤ i → 6 * i ≤ L → 513 ≤ i + n → Iv M (1000000 * i) → Tot (f_L_law_L18 xs L 1 119 n (6 * i) M) (fun u => u = 1)
  | 0, i, M, i0, i1, hn, h => by
    exfalso; omega
  | n + 1, i, M, i0, i1, hn, h => by
    by_cases c : L - 6 < 6 * i
    · unfold f_L_law_L18
      rw [w32_s (x := L - 6) (by omega) (by omega), if_pos c, t_some]
    · refine law_step hL hx (B := 1000000 * i) (by omega) (by omega) (by omega) (by omega) h (fun P hP => ?_)
      have t := law_loop hL0 hL hx n (i + 1) P (by omega) (by omega) (by omega) (by rw [show 1000000 * (i + 1) = 1000000 * i + 1000000 by omega]; exact hP)
      rw [show 6 * (i + 1) = 6 * i + 6 by omega] at t; exact t
