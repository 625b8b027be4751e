/-! every question keeps the invariant -/
theorem o_told {M : Mem} {B : Int} (h : Iv M B) (x : Int) : OpK (f_X11_told 1 x M) (fun N => f_X12_told 119 x N) B := by
  obtain ⟨v, d, r, m, A, h⟩ := h
  have hw := h.1.2.2.1
  have hn := hw.1
  have h3 : M 120 3 ≤ 10 := by unfold WFn at hn; omega
  have h5 : M 120 5 ≤ 10 := by unfold WFn at hn; omega
  refine qop h (c_told h.1.1 x) (fun N hN _ => ?_)
  have t := r_told hN.1 x
  rw [hN.2.1] at t; exact t
theorem o_reach {M : Mem} {B : Int} (h : Iv M B) (q x : Int) : OpK (f_X11_reach 1 q x M) (fun N => f_X12_reach 119 q x N) B := by
  obtain ⟨v, d, r, m, A, h⟩ := h
  have hw := h.1.2.2.1
  have hn := hw.1
  have h3 : M 120 3 ≤ 10 := by unfold WFn at hn; omega
  have h5 : M 120 5 ≤ 10 := by unfold WFn at hn; omega
  refine qop h (c_reach h.1.1 h3 q x) (fun N hN _ => ?_)
  have t := r_reach hN.1 (by rw [hN.2.1]; exact h3) q x
  rw [hN.2.1] at t; exact t
theorem o_field {M : Mem} {B : Int} (h : Iv M B) (q x : Int) : OpK (f_X11_field 1 q x M) (fun N => f_X12_field 119 q x N) B := by
  obtain ⟨v, d, r, m, A, h⟩ := h
  have hw := h.1.2.2.1
  have hn := hw.1
  have h3 : M 120 3 ≤ 10 := by unfold WFn at hn; omega
  have h5 : M 120 5 ≤ 10 := by unfold WFn at hn; omega
  refine qop h (c_field h.1.1 h5 q x) (fun N hN _ => ?_)
  have t := r_field hN.1 (by rw [hN.2.1]; exact h5) q x
  rw [hN.2.1] at t; exact t
theorem o_order {M : Mem} {B : Int} (h : Iv M B) (k : Int) (hk : r32 k) : OpK (f_X11_order 1 k M) (fun N => f_X12_order 119 k N) B := by
  obtain ⟨v, d, r, m, A, h⟩ := h
  have hw := h.1.2.2.1
  have hn := hw.1
  have h3 : M 120 3 ≤ 10 := by unfold WFn at hn; omega
  have h5 : M 120 5 ≤ 10 := by unfold WFn at hn; omega
  refine qop h (c_order h.1.1 h5 k) (fun N hN _ => ?_)
  have t := r_order hN.1 (by rw [hN.2.1]; exact h5) k hk
  rw [hN.2.1] at t; exact t
theorem o_owed {M : Mem} {B : Int} (h : Iv M B) (x y : Int) : OpK (f_X11_owed 1 x y M) (fun N => f_X12_owed 119 x y N) B := by
  obtain ⟨v, d, r, m, A, h⟩ := h
  have hw := h.1.2.2.1
  have hn := hw.1
  have h3 : M 120 3 ≤ 10 := by unfold WFn at hn; omega
  have h5 : M 120 5 ≤ 10 := by unfold WFn at hn; omega
  refine qop h (c_owed h.1.1 h5 x y) (fun N hN _ => ?_)
  have t := r_owed hN.1 (by rw [hN.2.1]; exact h5) x y
  rw [hN.2.1] at t; exact t
theorem o_account {M : Mem} {B : Int} (h : Iv M B) (x : Int) : OpK (f_X11_account 1 x M) (fun N => f_X12_account 119 x N) B := by
  obtain ⟨v, d, r, m, A, h⟩ := h
  have hw := h.1.2.2.1
  have hn := hw.1
  have h3 : M 120 3 ≤ 10 := by unfold WFn at hn; omega
  have h5 : M 120 5 ≤ 10 := by unfold WFn at hn; omega
  refine qop h (c_account h.1.1 h5 x) (fun N hN _ => ?_)
  have t := r_account hN.1 (by rw [hN.2.1]; exact h5) x
  rw [hN.2.1] at t; exact t
theorem o_lets {M : Mem} {B : Int} (h : Iv M B) (q x : Int) : OpK (f_X11_lets 1 q x M) (fun N => f_X12_lets 119 q x N) B := by
  obtain ⟨v, d, r, m, A, h⟩ := h
  have hw := h.1.2.2.1
  have hn := hw.1
  have h3 : M 120 3 ≤ 10 := by unfold WFn at hn; omega
  have h5 : M 120 5 ≤ 10 := by unfold WFn at hn; omega
  refine qop h (c_lets h.1.1 hn q x) (fun N hN _ => ?_)
  have t := r_lets hN.1 (by rw [hN.2.1]; exact hn) q x
  rw [hN.2.1] at t; exact t
theorem o_balance {M : Mem} {B : Int} (h : Iv M B) (o : Int) : OpK (f_X11_balance 1 o M) (fun N => f_X12_balance 119 o N) B := by
  obtain ⟨v, d, r, m, A, h⟩ := h
  have hw := h.1.2.2.1
  have hn := hw.1
  have h3 : M 120 3 ≤ 10 := by unfold WFn at hn; omega
  have h5 : M 120 5 ≤ 10 := by unfold WFn at hn; omega
  refine qop h (c_balance h.1.1 hw.2.2.2.2.2 hn o) (fun N hN _ => ?_)
  have t := r_balance hN.1 (by rw [hN.2.1]; exact hw.2.2.2.2.2) (by rw [hN.2.1]; exact hn) o
  rw [hN.2.1] at t; exact t
theorem o_debts {M : Mem} {B : Int} (h : Iv M B) : OpK (f_X11_debts 1 M) (fun N => f_X12_debts 119 N) B := by
  obtain ⟨v, d, r, m, A, h⟩ := h
  have hw := h.1.2.2.1
  have hn := hw.1
  have h3 : M 120 3 ≤ 10 := by unfold WFn at hn; omega
  have h5 : M 120 5 ≤ 10 := by unfold WFn at hn; omega
  refine qop h (c_debts h.1.1 hw.2.2.2.2.2 hn) (fun N hN _ => ?_)
  have t := r_debts hN.1 (by rw [hN.2.1]; exact hw.2.2.2.2.2) (by rw [hN.2.1]; exact hn)
  rw [hN.2.1] at t; exact t
theorem o_turn {M : Mem} {B : Int} (h : Iv M B) (f x : Int) : OpK (f_X11_turn 1 f x M) (fun N => f_X12_turn 119 f x N) B := by
  obtain ⟨v, d, r, m, A, h⟩ := h
  have hw := h.1.2.2.1
  have hn := hw.1
  have h3 : M 120 3 ≤ 10 := by unfold WFn at hn; omega
  have h5 : M 120 5 ≤ 10 := by unfold WFn at hn; omega
  refine qop h (c_turn h.1.1 hn hw.2.2.1 hw.2.2.2.1 hw.2.2.2.2.1 f x) (fun N hN _ => ?_)
  have t := r_turn hN.1 (by rw [hN.2.1]; exact hn) (by rw [hN.2.1]; exact hw.2.2.1) (by rw [hN.2.1]; exact hw.2.2.2.1) f x
  rw [hN.2.1] at t; exact t
theorem o_slots {M : Mem} {B : Int} (h : Iv M B) : OpK (f_X11_slots 1 M) (fun N => f_X12_slots 119 N) B := by
  obtain ⟨v, d, r, m, A, h⟩ := h
  have hw := h.1.2.2.1
  have hn := hw.1
  have h3 : M 120 3 ≤ 10 := by unfold WFn at hn; omega
  have h5 : M 120 5 ≤ 10 := by unfold WFn at hn; omega
  refine qop h (c_slots h.1.1 hn hw.2.2.1 hw.2.2.2.1 hw.2.2.2.2.1) (fun N hN _ => ?_)
  have t := r_slots hN.1 (by rw [hN.2.1]; exact hn) (by rw [hN.2.1]; exact hw.2.2.1) (by rw [hN.2.1]; exact hw.2.2.2.1) (by rw [hN.2.1]; exact hw.2.2.2.2.1)
  rw [hN.2.1] at t; exact t
theorem o_slot {M : Mem} {B : Int} (h : Iv M B) (k x : Int) : OpK (f_X11_slot 1 k x M) (fun N => f_X12_slot 119 k x N) B := by
  obtain ⟨v, d, r, m, A, h⟩ := h
  have hw := h.1.2.2.1
  have hn := hw.1
  have h3 : M 120 3 ≤ 10 := by unfold WFn at hn; omega
  have h5 : M 120 5 ≤ 10 := by unfold WFn at hn; omega
  refine qop h (c_slot h.1.1 hn hw.2.2.1 hw.2.2.2.1 hw.2.2.2.2.1 k x) (fun N hN _ => ?_)
  have t := r_slot hN.1 (by rw [hN.2.1]; exact hn) (by rw [hN.2.1]; exact hw.2.2.1) (by rw [hN.2.1]; exact hw.2.2.2.1) (by rw [hN.2.1]; exact hw.2.2.2.2.1) k x
  rw [hN.2.1] at t; exact t
theorem o_whose {M : Mem} {B : Int} (h : Iv M B) (x : Int) : OpK (f_X11_whose 1 x M) (fun N => f_X12_whose 119 x N) B := by
  obtain ⟨v, d, r, m, A, h⟩ := h
  have hw := h.1.2.2.1
  have hn := hw.1
  have h3 : M 120 3 ≤ 10 := by unfold WFn at hn; omega
  have h5 : M 120 5 ≤ 10 := by unfold WFn at hn; omega
  refine qop h (c_whose h.1.1 hn hw.2.2.1 hw.2.2.2.1 hw.2.2.2.2.1 x) (fun N hN _ => ?_)
  have t := r_whose hN.1 (by rw [hN.2.1]; exact hn) (by rw [hN.2.1]; exact hw.2.2.1) (by rw [hN.2.1]; exact hw.2.2.2.1) (by rw [hN.2.1]; exact hw.2.2.2.2.1) x
  rw [hN.2.1] at t; exact t
theorem o_minutes {M : Mem} {B : Int} (h : Iv M B) (f x : Int) : OpK (f_X11_minutes 1 f x M) (fun N => f_X12_minutes 119 f x N) B := by
  obtain ⟨v, d, r, m, A, h⟩ := h
  have hw := h.1.2.2.1
  have hn := hw.1
  have h3 : M 120 3 ≤ 10 := by unfold WFn at hn; omega
  have h5 : M 120 5 ≤ 10 := by unfold WFn at hn; omega
  exact qop h (c_minutes h.1.1 hw f x) (fun N hN _ => r_minutes hN hw f x)
theorem o_rate {M : Mem} {B : Int} (h : Iv M B) (f : Int) : OpK (f_X11_rate 1 f M) (fun N => f_X12_rate 119 f N) B := by
  obtain ⟨v, d, r, m, A, h⟩ := h
  have hw := h.1.2.2.1
  have hn := hw.1
  have h3 : M 120 3 ≤ 10 := by unfold WFn at hn; omega
  have h5 : M 120 5 ≤ 10 := by unfold WFn at hn; omega
  exact qop h (c_rate h.1.1 hw f) (fun N hN _ => r_rate hN hw f)
theorem o_water {M : Mem} {B : Int} (h : Iv M B) (f : Int) : OpK (f_X11_water 1 f M) (fun N => f_X12_water 119 f N) B := by
  obtain ⟨v, d, r, m, A, h⟩ := h
  have hw := h.1.2.2.1
  have hn := hw.1
  have h3 : M 120 3 ≤ 10 := by unfold WFn at hn; omega
  have h5 : M 120 5 ≤ 10 := by unfold WFn at hn; omega
  exact qop h (c_water h.1.1 hw f) (fun N hN _ => r_water hN hw f)
theorem o_lost {M : Mem} {B : Int} (h : Iv M B) (q : Int) : OpK (f_X11_lost 1 q M) (fun N => f_X12_lost 119 q N) B := by
  obtain ⟨v, d, r, m, A, h⟩ := h
  have hw := h.1.2.2.1
  have hn := hw.1
  have h3 : M 120 3 ≤ 10 := by unfold WFn at hn; omega
  have h5 : M 120 5 ≤ 10 := by unfold WFn at hn; omega
  exact qop h (c_lost h.1.1 hw q) (fun N hN _ => r_lost hN hw q)
theorem o_runsOut {M : Mem} {B : Int} (h : Iv M B) (q : Int) : OpK (f_X11_runsOut 1 q M) (fun N => f_X12_runsOut 119 q N) B := by
  obtain ⟨v, d, r, m, A, h⟩ := h
  have hw := h.1.2.2.1
  have hn := hw.1
  have h3 : M 120 3 ≤ 10 := by unfold WFn at hn; omega
  have h5 : M 120 5 ≤ 10 := by unfold WFn at hn; omega
  exact qop h (c_runsOut h.1.1 hw q) (fun N hN _ => r_runsOut hN hw q)
theorem o_waterOf {M : Mem} {B : Int} (h : Iv M B) (o : Int) : OpK (f_X11_waterOf 1 o M) (fun N => f_X12_waterOf 119 o N) B := by
  obtain ⟨v, d, r, m, A, h⟩ := h
  have hw := h.1.2.2.1
  have hn := hw.1
  have h3 : M 120 3 ≤ 10 := by unfold WFn at hn; omega
  have h5 : M 120 5 ≤ 10 := by unfold WFn at hn; omega
  exact qop h (c_waterOf h.1.1 hw o) (fun N hN _ => r_waterOf hN hw o)
theorem o_lacking {M : Mem} {B : Int} (h : Iv M B) (f : Int) : OpK (f_X11_lacking 1 f M) (fun N => f_X12_lacking 119 f N) B := by
  obtain ⟨v, d, r, m, A, h⟩ := h
  have hw := h.1.2.2.1
  have hn := hw.1
  have h3 : M 120 3 ≤ 10 := by unfold WFn at hn; omega
  have h5 : M 120 5 ≤ 10 := by unfold WFn at hn; omega
  exact qop h (c_lacking h.1.1 hw f) (fun N hN _ => r_lacking hN hw f)
theorem o_spare {M : Mem} {B : Int} (h : Iv M B) (f : Int) : OpK (f_X11_spare 1 f M) (fun N => f_X12_spare 119 f N) B := by
  obtain ⟨v, d, r, m, A, h⟩ := h
  have hw := h.1.2.2.1
  have hn := hw.1
  have h3 : M 120 3 ≤ 10 := by unfold WFn at hn; omega
  have h5 : M 120 5 ≤ 10 := by unfold WFn at hn; omega
  exact qop h (c_spare h.1.1 hw f) (fun N hN _ => r_spare hN hw f)
theorem o_fewest {M : Mem} {B : Int} (h : Iv M B) : OpK (f_X11_fewest 1 M) (fun N => f_X12_fewest 119 N) B := by
  obtain ⟨v, d, r, m, A, h⟩ := h
  have hw := h.1.2.2.1
  have hn := hw.1
  have h3 : M 120 3 ≤ 10 := by unfold WFn at hn; omega
  have h5 : M 120 5 ≤ 10 := by unfold WFn at hn; omega
  exact qop h (c_fewest h.1.1 hw) (fun N hN _ => r_fewest hN hw)
theorem o_neediest {M : Mem} {B : Int} (h : Iv M B) : OpK (f_X11_neediest 1 M) (fun N => f_X12_neediest 119 N) B := by
  obtain ⟨v, d, r, m, A, h⟩ := h
  have hw := h.1.2.2.1
  have hn := hw.1
  have h3 : M 120 3 ≤ 10 := by unfold WFn at hn; omega
  have h5 : M 120 5 ≤ 10 := by unfold WFn at hn; omega
  exact qop h (c_neediest h.1.1 hw) (fun N hN _ => r_neediest hN hw)
theorem o_richest {M : Mem} {B : Int} (h : Iv M B) (x : Int) : OpK (f_X11_richest 1 x M) (fun N => f_X12_richest 119 x N) B := by
  obtain ⟨v, d, r, m, A, h⟩ := h
  have hw := h.1.2.2.1
  have hn := hw.1
  have h3 : M 120 3 ≤ 10 := by unfold WFn at hn; omega
  have h5 : M 120 5 ≤ 10 := by unfold WFn at hn; omega
  exact qop h (c_richest h.1.1 hw x) (fun N hN _ => r_richest hN hw x)
theorem o_below {M : Mem} {B : Int} (h : Iv M B) (q : Int) : OpK (f_X11_below 1 q M) (fun N => f_X12_below 119 q N) B := by
  obtain ⟨v, d, r, m, A, h⟩ := h
  have hw := h.1.2.2.1
  have hn := hw.1
  have h3 : M 120 3 ≤ 10 := by unfold WFn at hn; omega
  have h5 : M 120 5 ≤ 10 := by unfold WFn at hn; omega
  exact qop h (c_below h.1.1 hw q) (fun N hN _ => r_below hN hw q)
theorem o_mending {M : Mem} {B : Int} (h : Iv M B) : OpK (f_X11_mending 1 M) (fun N => f_X12_mending 119 N) B := by
  obtain ⟨v, d, r, m, A, h⟩ := h
  have hw := h.1.2.2.1
  have hn := hw.1
  have h3 : M 120 3 ≤ 10 := by unfold WFn at hn; omega
  have h5 : M 120 5 ≤ 10 := by unfold WFn at hn; omega
  exact qop h (c_mending h.1.1 hw) (fun N hN _ => r_mending hN hw)
theorem o_off {M : Mem} {B : Int} (h : Iv M B) : OpK (f_X11_off 1 M) (fun N => f_X12_off 119 N) B := by
  obtain ⟨v, d, r, m, A, h⟩ := h
  have hw := h.1.2.2.1
  have hn := hw.1
  have h3 : M 120 3 ≤ 10 := by unfold WFn at hn; omega
  have h5 : M 120 5 ≤ 10 := by unfold WFn at hn; omega
  exact qop h (c_off h.1.1 hw) (fun N hN _ => r_off hN hw)
theorem o_headFor {M : Mem} {B : Int} (h : Iv M B) (f : Int) : OpK (f_X11_headFor 1 f M) (fun N => f_X12_headFor 119 f N) B := by
  obtain ⟨v, d, r, m, A, h⟩ := h
  have hw := h.1.2.2.1
  have hn := hw.1
  have h3 : M 120 3 ≤ 10 := by unfold WFn at hn; omega
  have h5 : M 120 5 ≤ 10 := by unfold WFn at hn; omega
  exact qop h (c_headFor h.1.1 hw f) (fun N hN _ => r_headFor hN hw f)
theorem o_shadow {M : Mem} {B : Int} (h : Iv M B) : OpK (f_X11_shadow 1 M) (fun N => f_X12_shadow 119 N) B := by
  obtain ⟨v, d, r, m, A, h⟩ := h
  have hw := h.1.2.2.1
  have hn := hw.1
  have h3 : M 120 3 ≤ 10 := by unfold WFn at hn; omega
  have h5 : M 120 5 ≤ 10 := by unfold WFn at hn; omega
  exact qop h (c_shadow h.1.1 hw) (fun N hN _ => r_shadow hN hw)
theorem o_bestSwap {M : Mem} {B : Int} (h : Iv M B) (x : Int) : OpK (f_X11_bestSwap 1 x M) (fun N => f_X12_bestSwap 119 x N) B := by
  obtain ⟨v, d, r, m, A, h⟩ := h
  have hw := h.1.2.2.1
  have hn := hw.1
  have h3 : M 120 3 ≤ 10 := by unfold WFn at hn; omega
  have h5 : M 120 5 ≤ 10 := by unfold WFn at hn; omega
  exact qop h (c_bestSwap h.1.1 hw x) (fun N hN _ => r_bestSwap hN hw x)
theorem o_driest {M : Mem} {B : Int} (h : Iv M B) : OpK (f_X11_driest 1 M) (fun N => f_X12_driest 119 N) B := by
  obtain ⟨v, d, r, m, A, h⟩ := h
  have hw := h.1.2.2.1
  have hn := hw.1
  have h3 : M 120 3 ≤ 10 := by unfold WFn at hn; omega
  have h5 : M 120 5 ≤ 10 := by unfold WFn at hn; omega
  exact qop h (c_driest h.1.1 hw) (fun N hN _ => r_driest hN hw)
theorem o_waits {M : Mem} {B : Int} (h : Iv M B) (f x : Int) : OpK (f_X11_waits 1 f x M) (fun N => f_X12_waits 119 f x N) B := by
  obtain ⟨v, d, r, m, A, h⟩ := h
  have hw := h.1.2.2.1
  have hn := hw.1
  have h3 : M 120 3 ≤ 10 := by unfold WFn at hn; omega
  have h5 : M 120 5 ≤ 10 := by unfold WFn at hn; omega
  exact qop h (c_waits h.1.1 hw f x) (fun N hN _ => r_waits hN hw f x)
theorem o_lived {M : Mem} {B : Int} (h : Iv M B) (x : Int) : OpK (f_X11_lived 1 x M) (fun N => f_X12_lived 119 x N) B := by
  obtain ⟨v, d, r, m, A, h⟩ := h
  have ho := h.2.2.1
  refine qop h (c_lived ho.2.2.1 ho.2.2.2.1 x) (fun N hN k => ?_)
  have t := r_lived hN.1 x
  have e : livedQ (N 119 41) (N 136) x = livedQ (M 1 10) (M 84) x := by
    have hl := h.2.2.2.2.1
    unfold livedQ
    rw [k _ _ (by omega), hl.1]
    split
    · rename_i c
      rw [k _ _ (by omega), hl.2 x c.1 (by omega)]
    · rfl
  rw [e] at t; exact t
/-! trays asked -/
theorem whyG_c {t c n n' most : Int} {g g' : Int → Int} (h : 0 ≤ t → t < 4 → n = n' ∧ ∀ k, 0 ≤ k → k < n' → g k = g' k) : whyG t c n most g = whyG t c n' most g' := by
  unfold whyG
  by_cases ht : 0 ≤ t ∧ t < 4
  · obtain ⟨e, hk⟩ := h ht.1 ht.2
    subst e
    by_cases c2 : n < c
    · simp only [c2, if_true]
    · rw [okIn_congr (fun k k0 k1 => hk k k0 (by omega))]
  · rw [if_pos ht, if_pos ht]
theorem tr_c {M N : Mem} {t : Int} (h : ITr M) (k : ∀ a j, 119 ≤ a → N a j = M a j) : 0 ≤ t → t < 4 → M 9 t = N 123 t ∧ ∀ j, 0 ≤ j → j < N 123 t → M (4 + t) j = (fun i => N 124 (60 * t + i)) j := fun t0 t1 => by
  rw [k 123 _ (by omega)]
  refine ⟨(h.1 t t0 t1).2.1, fun j j0 j1 => ?_⟩
  dsimp only
  rw [k 124 _ (by omega)]; exact h.2 t j t0 t1 j0 j1
theorem tr_b {M N : Mem} (h : ITr M) (k : ∀ a j, 119 ≤ a → N a j = M a j) : (∀ t, 0 ≤ t → t < 4 → -1 ≤ M 9 t ∧ M 9 t ≤ 60) ∧ (∀ t, 0 ≤ t → t < 4 → -1 ≤ N 123 t ∧ N 123 t ≤ 60) := ⟨fun t t0 t1 => by rw [(h.1 t t0 t1).2.1]; exact (h.1 t t0 t1).2.2.2.2, fun t t0 t1 => by rw [k _ _ (by omega)]; exact (h.1 t t0 t1).2.2.2.2⟩
theorem lr_t {N : Mem} (h : LR N) : LTrR N := by
  obtain ⟨⟨_, _, a3, a4, a5, _⟩, ⟨_, _, c3, c4, c5, _⟩⟩ := h
  exact ⟨a3, a4, a5, c3, c4, c5⟩
theorem o_suspects {M : Mem} {B : Int} (h : Iv M B) (t : Int) : OpK (f_X11_suspects 1 t M) (fun N => f_X12_suspects 119 t N) B := by
  obtain ⟨v, d, r, m, A, h⟩ := h
  have hw := h.1.2.2.1
  have ht := h.2.1.2.1
  refine qop h (c_suspects h.1.1 hw ht.1 (tr_b (N := M) ht.2 (fun _ _ _ => rfl)).1 t) (fun N hN k => ?_)
  have q := r_suspects hN hw (tr_b ht.2 k).2 t
  have e : suspQ (M 120) t (N 123 t) (fun i => N 124 (60 * t + i)) = suspQ (M 120) t (M 9 t) (M (4 + t)) := by
    have u := whyG_c (c := M 120 5) (most := 999) (tr_c (t := t) ht.2 k)
    unfold suspQ
    rw [u]
    by_cases c : whyG t (M 120 5) (N 123 t) 999 (fun i => N 124 (60 * t + i)) = 0
    · rw [if_pos c, if_pos c]
      obtain ⟨t0, t1, _, cn, _⟩ := whyG_z c
      have hk := (tr_c (t := t) ht.2 k t0 t1).2
      have e1 : lesZ (M 120) (fun i => N 124 (60 * t + i)) (M 120 5) = lesZ (M 120) (M (4 + t)) (M 120 5) := setZ_congr (fun j j0 j1 => by rw [hk j j0 (by omega)])
      have e2 : hasZ (fun i => N 124 (60 * t + i)) (M 120 5) = hasZ (M (4 + t)) (M 120 5) := setZ_congr (fun j j0 j1 => by rw [hk j j0 (by omega)])
      unfold susZ
      rw [e1, e2]
    · rw [if_neg c, if_neg c]
  rw [e] at q; exact q
def meanQ (t m n : Int) (g : Int → Int) : Ans := if whyM t m n g = 0 then (if (meanF g m).2 = 0 then (0, 6, none) else (1, 0, some ((meanF g m).1, (meanF g m).2))) else (0, whyM t m n g, none)
def gapQ (t m n : Int) (g : Int → Int) : Ans := if whyM t m n g = 0 then ((gapF g m).1, 0, none) else (-1, whyM t m n g, none)
def readQ (t p n : Int) (g : Int → Int) : Ans := if why1 t p n = 0 then (g p, 0, none) else (-1, why1 t p n, none)
theorem whyM_c {t c n n' : Int} {g g' : Int → Int} (h : 0 ≤ t → t < 4 → n = n' ∧ ∀ k, 0 ≤ k → k < n' → g k = g' k) : whyM t c n g = whyM t c n' g' := by
  unfold whyM; rw [whyG_c h]
theorem whyM_z {t c n : Int} {g : Int → Int} (h : whyM t c n g = 0) : 0 ≤ t ∧ t < 4 ∧ c ≤ n := by
  unfold whyM at h
  split at h
  · obtain ⟨a, b, _, e, _⟩ := whyG_z h; exact ⟨a, b, e⟩
  · omega
theorem o_mean {M : Mem} {B : Int} (h : Iv M B) (t x : Int) : OpK (f_X11_mean 1 t x M) (fun N => f_X12_mean 119 t x N) B := by
  obtain ⟨v, d, r, m, A, h⟩ := h
  have ht := h.2.1.2.1
  refine qop (o := meanQ t x (M 9 t) (M (4 + t))) h (c_mean ht.1 (tr_b (N := M) ht.2 (fun _ _ _ => rfl)).1 t x (fun c => ?_) (fun c c6 => ?_) (fun c c6 => ?_)) (fun N hN k => ?_)
  · unfold meanQ; rw [if_neg c]; exact ac_st (fun _ _ _ => rfl) _ _
  · unfold meanQ; rw [if_pos c, if_pos c6]; exact ac_st (fun _ _ _ => rfl) _ _
  · unfold meanQ; rw [if_pos c, if_neg c6]; exact ac_fr (fun _ _ _ => rfl) _ _ _
  · have q := tr_c (t := t) ht.2 k
    have u := whyM_c (c := x) q
    have e : meanQ t x (M 9 t) (M (4 + t)) = meanQ t x (N 123 t) (fun i => N 124 (60 * t + i)) := by
      unfold meanQ
      rw [u]
      by_cases c : whyM t x (N 123 t) (fun i => N 124 (60 * t + i)) = 0
      · obtain ⟨t0, t1, cn⟩ := whyM_z c
        have e1 : meanF (M (4 + t)) x = meanF (fun i => N 124 (60 * t + i)) x := foldZ_congr (fun j y j0 j1 => by rw [(q t0 t1).2 j j0 (by omega)])
        rw [e1]
      · rw [if_neg c, if_neg c]
    rw [e]
    refine r_mean (lr_t hN.1) (tr_b ht.2 k).2 t x rfl (fun c => ?_) (fun c c6 => ?_) (fun c c6 => ?_)
    · unfold meanQ; rw [if_neg c]; exact ar_st (fun _ _ _ => rfl) _ _
    · unfold meanQ; rw [if_pos c, if_pos c6]; exact ar_st (fun _ _ _ => rfl) _ _
    · unfold meanQ; rw [if_pos c, if_neg c6]; exact ar_fr (fun _ _ _ => rfl) _ _ _
theorem o_gaps {M : Mem} {B : Int} (h : Iv M B) (t x : Int) : OpK (f_X11_gaps 1 t x M) (fun N => f_X12_gaps 119 t x N) B := by
  obtain ⟨v, d, r, m, A, h⟩ := h
  have ht := h.2.1.2.1
  refine qop (o := gapQ t x (M 9 t) (M (4 + t))) h (c_gaps ht.1 (tr_b (N := M) ht.2 (fun _ _ _ => rfl)).1 t x (fun c => ?_) (fun c => ?_)) (fun N hN k => ?_)
  · unfold gapQ; rw [if_neg c]; exact ac_st (fun _ _ _ => rfl) _ _
  · unfold gapQ; rw [if_pos c]; exact ac_st (fun _ _ _ => rfl) _ _
  · have q := tr_c (t := t) ht.2 k
    have u := whyM_c (c := x) q
    have e : gapQ t x (M 9 t) (M (4 + t)) = gapQ t x (N 123 t) (fun i => N 124 (60 * t + i)) := by
      unfold gapQ
      rw [u]
      by_cases c : whyM t x (N 123 t) (fun i => N 124 (60 * t + i)) = 0
      · obtain ⟨t0, t1, cn⟩ := whyM_z c
        have e1 : gapF (M (4 + t)) x = gapF (fun i => N 124 (60 * t + i)) x := foldZ_congr (fun j y j0 j1 => by rw [(q t0 t1).2 j j0 (by omega)])
        rw [e1]
      · rw [if_neg c, if_neg c]
    rw [e]
    refine r_gaps (lr_t hN.1) (tr_b ht.2 k).2 t x rfl (fun c => ?_) (fun c => ?_)
    · unfold gapQ; rw [if_neg c]; exact ar_st (fun _ _ _ => rfl) _ _
    · unfold gapQ; rw [if_pos c]; exact ar_st (fun _ _ _ => rfl) _ _
theorem why1_c {t p n n' : Int} (h : 0 ≤ t → t < 4 → n = n') : why1 t p n = why1 t p n' := by
  unfold why1
  by_cases c : 0 ≤ t ∧ t < 4
  · rw [h c.1 c.2]
  · rw [if_pos c, if_pos c]
theorem o_read {M : Mem} {B : Int} (h : Iv M B) (t p : Int) : OpK (f_X11_read 1 t p M) (fun N => f_X12_read 119 t p N) B := by
  obtain ⟨v, d, r, m, A, h⟩ := h
  have ht := h.2.1.2.1
  refine qop (o := readQ t p (M 9 t) (M (4 + t))) h (c_read ht.1 (fun s s0 s1 => ((tr_b (N := M) ht.2 (fun _ _ _ => rfl)).1 s s0 s1).2) t p (fun c => ?_) (fun c => ?_)) (fun N hN k => ?_)
  · unfold readQ; rw [if_neg c]; exact ac_st (fun _ _ _ => rfl) _ _
  · unfold readQ; rw [if_pos c]; exact ac_st (fun _ _ _ => rfl) _ _
  · have q := tr_c (t := t) ht.2 k
    have u := why1_c (p := p) (fun t0 t1 => (q t0 t1).1)
    have e : readQ t p (M 9 t) (M (4 + t)) = readQ t p (N 123 t) (fun i => N 124 (60 * t + i)) := by
      unfold readQ
      rw [u]
      by_cases c : why1 t p (N 123 t) = 0
      · rw [if_pos c, if_pos c]
        obtain ⟨t0, t1, _, p0, p1⟩ := why1_0.mp c
        rw [(q t0 t1).2 p p0 p1]
      · rw [if_neg c, if_neg c]
    rw [e]
    refine r_read (lr_t hN.1) (fun s s0 s1 => ((tr_b ht.2 k).2 s s0 s1).2) t p (fun c => ?_) (fun c => ?_)
    · unfold readQ; rw [if_neg c]; exact ar_st (fun _ _ _ => rfl) _ _
    · unfold readQ; rw [if_pos c]; exact ar_st (fun _ _ _ => rfl) _ _
