/-! the reference lays the order -/
theorem sel_split {p : Int → Bool} : ∀ (a b : Nat) (lo : Int), selC p lo (a + b) = selC p lo a ++ selC p (lo + a) b
  | 0, b, lo => by
    show selC p lo (0 + b) = [] ++ selC p (lo + ((0 : Nat) : Int)) b
    rw [Nat.zero_add, List.nil_append, show lo + ((0 : Nat) : Int) = lo by omega]
  | a + 1, b, lo => by
    rw [show a + 1 + b = (a + b) + 1 by omega]
    show (if p lo = true then [lo] else []) ++ selC p (lo + 1) (a + b) = ((if p lo = true then [lo] else []) ++ selC p (lo + 1) a) ++ selC p (lo + ((a + 1 : Nat) : Int)) b
    rw [sel_split a b (lo + 1), List.append_assoc, show lo + 1 + ((a : Nat) : Int) = lo + ((a + 1 : Nat) : Int) by omega]
def Stk (X : Mem) (S : List Int) : Prop := ∀ i : Int, 0 ≤ i → i < S.length → X 127 (S.length - 1 - i) = lg S i
theorem stk_nil {X : Mem} : Stk X [] := fun i i0 i1 => by rw [List.length_nil] at i1; omega
theorem stk_push {X Y : Mem} {S : List Int} {x : Int} (h : Stk X S) (k : ∀ j : Int, 0 ≤ j → j < S.length → Y 127 j = X 127 j) (hx : Y 127 S.length = x) : Stk Y (x :: S) := fun i i0 i1 => by
  rw [List.length_cons] at i1 ⊢
  by_cases c : i = 0
  · rw [c, lg_c0, ← hx]; congr 1; omega
  · rw [lg_cs (by omega), ← h (i - 1) (by omega) (by omega), show (((S.length + 1 : Nat) : Int)) - 1 - i = S.length - 1 - (i - 1) by omega, k _ (by omega) (by omega)]
theorem stk_pop {X : Mem} {S : List Int} {r : Int} (h : Stk X (r :: S)) : X 127 S.length = r ∧ Stk X S := by
  refine ⟨?_, fun i i0 i1 => ?_⟩
  · have := h 0 (by omega) (by rw [List.length_cons]; omega)
    rw [lg_c0, List.length_cons] at this
    rw [← this]; congr 1; omega
  · have := h (i + 1) (by omega) (by rw [List.length_cons]; omega)
    rw [lg_cs (by omega), List.length_cons, show i + 1 - 1 = i by omega] at this
    rw [← this]; congr 1; omega
theorem stk_k {X Y : Mem} {S : List Int} (h : Stk X S) (k : ∀ j : Int, 0 ≤ j → j < S.length → Y 127 j = X 127 j) : Stk Y S := fun i i0 i1 => by rw [k _ (by omega) (by omega)]; exact h i i0 i1
/-- nothing but the stack and the order has changed -/
def FrO (M N : Mem) : Prop := ∀ a j, ¬ (a = 127 ∧ 0 ≤ j) → ¬ (a = 120 ∧ 2672 ≤ j ∧ j < 2682) → N a j = M a j
def RO (M : Mem) (w : Int → Int) : Prop := (M 119 0 = 120 ∧ M 120 (-1) = 3840 ∧ M 119 21 = 127 ∧ M 127 (-1) = 12) ∧ ∀ j, 0 ≤ j → j < 112 → M 120 (2560 + j) = w j
theorem ro_k {M N : Mem} {w : Int → Int} (h : RO M w) (f : FrO M N) : RO N w := by
  obtain ⟨⟨a, b, c, d⟩, e⟩ := h
  exact ⟨⟨by rw [f _ _ (by omega) (by omega)]; exact a, by rw [f _ _ (by omega) (by omega)]; exact b, by rw [f _ _ (by omega) (by omega)]; exact c, by rw [f _ _ (by omega) (by omega)]; exact d⟩, fun j j0 j1 => by rw [f _ _ (by omega) (by omega)]; exact e j j0 j1⟩
theorem oL72_e {M : Mem} {r p19 n0 : Int} {w : Int → Int} {k : Int → Mem → Option Mem} {Q : Mem → Prop} (h5 : 0 ≤ w 5 ∧ w 5 ≤ 10) (h : RO M w) (p0 : 0 ≤ n0) (p1 : n0 + (fld w r).length ≤ 10) (hk : ∀ N, CL N 120 (2672 + n0) (fld w r) → (∀ a j, ¬ (a = 120 ∧ 2672 + n0 ≤ j ∧ j < 2672 + n0 + (fld w r).length) → N a j = M a j) → Tot (k (n0 + (fld w r).length) N) Q) : Tot (f_X12_orders_L72 p19 r 119 k KF n0 0 M) Q := by
  have ef : fld w r = selC (fun f => decide (fc w f 0 = r)) 0 (w 5).toNat := rfl
  generalize hP : (fun f => decide (fc w f 0 = r)) = P at ef
  have hp : ∀ f, P f = true ↔ fc w f 0 = r := fun f => by rw [← hP]; exact decide_eq_true_iff
  refine lpIIM (fun a b X => ∃ q : Nat, b = q ∧ (q : Int) ≤ w 5 ∧ a = n0 + (selC P 0 q).length ∧ CL X 120 (2672 + n0) (selC P 0 q) ∧ ∀ c j, ¬ (c = 120 ∧ 2672 + n0 ≤ j ∧ j < 2672 + a) → X c j = M c j) (fun _ b _ => (w 5 - b).toNat) ?_ (by unfold KF; omega) ⟨0, by omega, by omega, by show n0 = n0 + ((0 : Nat) : Int); omega, cl_nil, fun _ _ _ => rfl⟩
  rintro fu a b X ⟨q, rfl, i1, i2, i3, i4⟩ ih
  have sl := sel_le (p := P) (lo := 0) (k := q) ((w 5).toNat - q)
  rw [show q + ((w 5).toNat - q) = (w 5).toNat by omega, ← ef] at sl
  have hX : RO X w := ro_k h (fun c j q1 q2 => i4 c j (by omega))
  obtain ⟨⟨a1, a2, a3, a4⟩, aw⟩ := hX
  have x5 : X 120 2565 = w 5 := aw 5 (by omega) (by omega)
  unfold f_X12_orders_L72
  rw [t_getf, a1, t_geti, a2, x5, t_ite]
  refine ⟨by omega, by omega, by omega, by omega, fun c => ?_, fun c => ?_⟩
  · have e : selC P 0 q = fld w r := by rw [ef]; congr 1; omega
    rw [e] at i2 i3
    rw [i2]
    exact hk X i3 (fun c j hh => i4 c j (by omega))
  have sn := sel_snoc (p := P) q 0
  rw [Int.zero_add] at sn
  have le : (selC P 0 (q + 1)).length ≤ (fld w r).length := by
    rw [ef]
    have := sel_le (p := P) (lo := 0) (k := q + 1) ((w 5).toNat - (q + 1))
    rw [show q + 1 + ((w 5).toNat - (q + 1)) = (w 5).toNat by omega] at this
    exact this
  have xf : X 120 (2632 + 4 * q) = fc w q 0 := by
    have := aw (72 + 4 * q) (by omega) (by omega)
    rw [show 2632 + 4 * (q : Int) = 2560 + (72 + 4 * q) by omega, this]; unfold fc; rw [Int.add_zero]
  rw [t_getf, a1, t_geti, a2, w32_s (x := 4 * (q : Int)) (by omega) (by omega), w32_s (x := 2632 + 4 * (q : Int)) (by omega) (by omega), xf]
  refine ⟨by omega, by omega, by omega, by omega, ?_⟩
  have nx : ∀ Y : Mem, ∀ a', a' = n0 + (selC P 0 (q + 1)).length → CL Y 120 (2672 + n0) (selC P 0 (q + 1)) → (∀ c j, ¬ (c = 120 ∧ 2672 + n0 ≤ j ∧ j < 2672 + a') → Y c j = M c j) → Tot (f_X12_orders_L72 p19 r 119 k fu a' (w32 ((q : Int) + 1)) Y) Q := fun Y a' e1 e2 e3 => by
    rw [w32_s (by omega) (by omega)]
    exact ih _ _ _ (by omega) ⟨q + 1, by omega, by omega, e1, e2, e3⟩
  refine t_jq (fun J : Int → Mem → Option Mem => ∀ (a' : Int) (Y : Mem), a' = n0 + (selC P 0 (q + 1)).length → CL Y 120 (2672 + n0) (selC P 0 (q + 1)) → (∀ c j, ¬ (c = 120 ∧ 2672 + n0 ≤ j ∧ j < 2672 + a') → Y c j = M c j) → Tot (J a' Y) Q) (fun a' Y e1 e2 e3 => nx Y a' e1 e2 e3) (fun J hJ => ?_)
  rw [t_ite]
  refine ⟨fun e => ?_, fun e => ?_⟩
  rotate_left
  · rw [if_neg (fun z => e ((hp _).mp z)), List.append_nil] at sn
    rw [sn] at hJ
    exact hJ _ _ i2 i3 i4
  rw [if_pos ((hp _).mpr e)] at sn
  rw [sn, List.length_append, List.length_singleton] at le
  rw [t_getf, a1, t_seti, a2, w32_s (x := 2672 + a) (by omega) (by omega), w32_s (x := a + 1) (by omega) (by omega)]
  refine ⟨by omega, by omega, by omega, by omega, hJ _ _ (by rw [sn, List.length_append, List.length_singleton]; omega) ?_ (fun c j hh => by rw [upd2_at, if_neg (by omega)]; exact i4 c j (by omega))⟩
  rw [sn]
  refine cl_app (cl_k i3 (fun j j0 j1 => by rw [upd2_at, if_neg (by omega)])) (cl_one ?_)
  rw [upd2_at, if_pos ⟨rfl, by omega⟩]
theorem oL138_e {M : Mem} {r q37 : Int} {S : List Int} {w : Int → Int} {k : Int → Mem → Option Mem} {Q : Mem → Prop} (h3 : 0 ≤ w 3 ∧ w 3 ≤ 10) (h : RO M w) (hS : Stk M S) (hl : ((chl w r ++ S).length : Int) ≤ 10) (hk : ∀ N, Stk N (chl w r ++ S) → (∀ a j, ¬ (a = 127 ∧ 0 ≤ j) → N a j = M a j) → Tot (k (chl w r ++ S).length N) Q) : Tot (f_X12_orders_L138 q37 r 119 k KF S.length (w 3 - 1) M) Q := by
  have ef : chl w r = selC (fun q => decide (rc w q 0 = r)) 0 (w 3).toNat := rfl
  generalize hP : (fun q => decide (rc w q 0 = r)) = P at ef
  have hp : ∀ f, P f = true ↔ rc w f 0 = r := fun f => by rw [← hP]; exact decide_eq_true_iff
  rw [List.length_append] at hl
  refine lpIIM (fun a b X => -1 ≤ b ∧ b < w 3 ∧ a = (selC P (b + 1) (w 3 - 1 - b).toNat ++ S).length ∧ Stk X (selC P (b + 1) (w 3 - 1 - b).toNat ++ S) ∧ ∀ c j, ¬ (c = 127 ∧ 0 ≤ j) → X c j = M c j) (fun _ b _ => (b + 1).toNat) ?_ (by unfold KF; omega) ⟨by omega, by omega, ?_, ?_, fun _ _ _ => rfl⟩
  rotate_left
  · rw [show (w 3 - 1 - (w 3 - 1)).toNat = 0 by omega]; rfl
  · rw [show (w 3 - 1 - (w 3 - 1)).toNat = 0 by omega]; exact hS
  rintro fu a b X ⟨i0, i1, i2, i3, i4⟩ ih
  have hX : RO X w := ro_k h (fun c j q1 q2 => i4 c j q1)
  obtain ⟨⟨a1, a2, a3, a4⟩, aw⟩ := hX
  unfold f_X12_orders_L138
  rw [t_ite]
  refine ⟨fun c => ?_, fun c => ?_⟩
  · have e : selC P (b + 1) (w 3 - 1 - b).toNat = chl w r := by rw [ef, show b + 1 = 0 by omega]; congr 1; omega
    rw [e] at i2 i3
    rw [i2]
    exact hk X i3 i4
  have sn : selC P b (w 3 - b).toNat = (if P b = true then [b] else []) ++ selC P (b + 1) (w 3 - 1 - b).toNat := by
    rw [show (w 3 - b).toNat = (w 3 - 1 - b).toNat + 1 by omega]; rfl
  have le : (selC P b (w 3 - b).toNat).length ≤ (chl w r).length := by
    rw [ef, show (w 3).toNat = b.toNat + (w 3 - b).toNat by omega, sel_split, List.length_append, show (0 : Int) + ((b.toNat : Nat) : Int) = b by omega]
    omega
  have xr : X 120 (2572 + 6 * b) = rc w b 0 := by
    have := aw (12 + 6 * b) (by omega) (by omega)
    rw [show 2572 + 6 * b = 2560 + (12 + 6 * b) by omega, this]; unfold rc; rw [Int.add_zero]
  rw [t_getf, a1, t_geti, a2, w32_s (x := 6 * b) (by omega) (by omega), w32_s (x := 2572 + 6 * b) (by omega) (by omega), xr]
  refine ⟨by omega, by omega, by omega, by omega, ?_⟩
  refine t_jq (fun J : Int → Mem → Option Mem => ∀ (a' : Int) (Y : Mem), a' = (selC P b (w 3 - b).toNat ++ S).length → Stk Y (selC P b (w 3 - b).toNat ++ S) → (∀ c j, ¬ (c = 127 ∧ 0 ≤ j) → Y c j = M c j) → Tot (J a' Y) Q) (fun a' Y e1 e2 e3 => ?_) (fun J hJ => ?_)
  · rw [w32_s (x := b + -1) (by omega) (by omega)]
    refine ih _ _ _ (by omega) ⟨by omega, by omega, ?_, ?_, e3⟩
    · rw [show b + -1 + 1 = b by omega, show w 3 - 1 - (b + -1) = w 3 - b by omega]; exact e1
    · rw [show b + -1 + 1 = b by omega, show w 3 - 1 - (b + -1) = w 3 - b by omega]; exact e2
  rw [t_ite]
  refine ⟨fun e => ?_, fun e => ?_⟩
  rotate_left
  · rw [if_neg (fun z => e ((hp _).mp z)), List.nil_append] at sn
    rw [sn] at hJ
    exact hJ _ _ i2 i3 i4
  rw [if_pos ((hp _).mpr e)] at sn
  rw [sn, List.length_append, List.length_singleton] at le
  rw [List.length_append] at i2
  rw [t_getf, a3, t_seti, a4, w32_s (x := a + 1) (by omega) (by omega)]
  refine ⟨by omega, by omega, by omega, by omega, hJ _ _ ?_ ?_ (fun c j hh => by rw [upd2_at, if_neg (by omega)]; exact i4 c j hh)⟩
  · rw [sn, List.length_append, List.length_append, List.length_singleton]; omega
  · rw [sn, show [b] ++ selC P (b + 1) (w 3 - 1 - b).toNat ++ S = b :: (selC P (b + 1) (w 3 - 1 - b).toNat ++ S) from rfl]
    refine stk_push i3 (fun j j0 j1 => by rw [List.length_append] at j1; rw [upd2_at, if_neg (by omega)]) ?_
    rw [upd2_at, if_pos ⟨rfl, by rw [List.length_append]; omega⟩]
theorem oL55_e {M : Mem} {w : Int → Int} {Q : Mem → Prop} (hr : WFr w) (hf : WFf w) (h3 : 0 ≤ w 3 ∧ w 3 ≤ 10) (h5 : 0 ≤ w 5 ∧ w 5 ≤ 10) (hM : RO M w) (hq : ∀ N, CL N 120 2672 (ordL w) → (∀ a j, ¬ (a = 127 ∧ 0 ≤ j) → ¬ (a = 120 ∧ 2672 ≤ j ∧ j < 2672 + w 5) → N a j = M a j) → Q N) : ∀ (k fu : Nat) (S V : List Int) (X : Mem), w 3 - V.length ≤ k → k < fu → Vst w S V → V.flatMap (fld w) ++ S.flatMap (dfs w 11) = ordL w → Stk X S → CL X 120 2672 (V.flatMap (fld w)) → (∀ a j : Int, ¬ (a = 127 ∧ 0 ≤ j) → ¬ (a = 120 ∧ 2672 ≤ j ∧ j < 2672 + (V.flatMap (fld w)).length) → X a j = M a j) → Tot (f_X12_orders_L55 119 (fun (M56 : Mem) => some M56) fu S.length (V.flatMap (fld w)).length X) Q := by
  obtain ⟨on, om, ol⟩ := ord_ok hr hf h3.1 h3.2 h5.1
  intro k
  induction k with
  | zero =>
    intro fu S V X hk hfu hV ho hS hc hX
    have l := vst_len h3.1 hV
    obtain ⟨fu, rfl⟩ : ∃ q, fu = q + 1 := ⟨fu - 1, by omega⟩
    cases S with
    | nil =>
      rw [List.flatMap_nil, List.append_nil] at ho
      unfold f_X12_orders_L55
      rw [if_pos (by rw [List.length_nil]; omega), t_some]
      rw [ho] at hc hX
      exact hq X hc (fun a j q1 q2 => hX a j q1 (by omega))
    | cons r S => rw [List.length_cons] at l; omega
  | succ k ih =>
    intro fu S V X hk hfu hV ho hS hc hX
    obtain ⟨fu, rfl⟩ : ∃ q, fu = q + 1 := ⟨fu - 1, by omega⟩
    cases S with
    | nil =>
      rw [List.flatMap_nil, List.append_nil] at ho
      unfold f_X12_orders_L55
      rw [if_pos (by rw [List.length_nil]; omega), t_some]
      rw [ho] at hc hX
      exact hq X hc (fun a j q1 q2 => hX a j q1 (by omega))
    | cons r S =>
      have ll := congrArg List.length ho
      rw [List.length_append] at ll
      have hX' : RO X w := ro_k hM (fun a j q1 q2 => hX a j q1 (by omega))
      have hrm := hV.2.1 r (List.mem_append_right _ (List.mem_cons_self ..))
      obtain ⟨top, hS'⟩ := stk_pop hS
      have hV' := vst_s hr h3.1 hV
      have l' := vst_len h3.1 hV'
      have e11 : dfs w 11 r = fld w r ++ (chl w r).flatMap (dfs w 11) := by
        show fld w r ++ (chl w r).flatMap (dfs w 10) = _
        rw [fm_congr (fun x hx => dfs_st hr hf h3.1 h5.1 10 x (by rw [mem_chl h3.1] at hx; omega) (by rw [mem_chl h3.1] at hx; omega))]
      have ho' : (V ++ [r]).flatMap (fld w) ++ (chl w r ++ S).flatMap (dfs w 11) = ordL w := by
        rw [← ho, List.flatMap_append, List.flatMap_append, List.flatMap_cons, List.flatMap_cons, List.flatMap_nil, List.append_nil, e11, List.append_assoc, List.append_assoc]
      have lf : (V.flatMap (fld w)).length + (fld w r).length ≤ (ordL w).length := by
        rw [← ho', List.flatMap_append, List.flatMap_cons, List.flatMap_nil, List.append_nil, List.length_append, List.length_append]; omega
      have sl : ((r :: S).length : Int) = S.length + 1 := by rw [List.length_cons]; omega
      obtain ⟨⟨a1, a2, a3, a4⟩, aw⟩ := hX'
      unfold f_X12_orders_L55
      rw [t_ite]
      refine ⟨fun z => by omega, fun _ => ?_⟩
      have ls := vst_len h3.1 hV
      rw [sl, w32_s (x := (S.length : Int) + 1 + -1) (by omega) (by omega), show (S.length : Int) + 1 + -1 = S.length by omega, t_getf, a3, t_geti, a4, top]
      refine ⟨by omega, by omega, by omega, by omega, ?_⟩
      refine oL72_e h5 ⟨⟨a1, a2, a3, a4⟩, aw⟩ (by omega) (by omega) (fun Y cY fY => ?_)
      have hY : RO Y w := ro_k ⟨⟨a1, a2, a3, a4⟩, aw⟩ (fun a j q1 q2 => fY a j (by omega))
      have hY' := hY
      obtain ⟨⟨b1, b2, b3, b4⟩, bw⟩ := hY'
      have y3 : Y 120 2563 = w 3 := bw 3 (by omega) (by omega)
      rw [t_getf, b1, t_geti, b2, y3, t_letv, w32_s (x := w 3 - 1) (by omega) (by omega)]
      refine ⟨by omega, by omega, by omega, by omega, ?_⟩
      refine oL138_e h3 hY (stk_k hS' (fun j j0 j1 => fY _ _ (by omega))) (by omega) (fun W sW fW => ?_)
      have eV : (V ++ [r]).flatMap (fld w) = V.flatMap (fld w) ++ fld w r := by rw [List.flatMap_append, List.flatMap_cons, List.flatMap_nil, List.append_nil]
      have := ih fu (chl w r ++ S) (V ++ [r]) W (by rw [List.length_append, List.length_singleton]; omega) (by omega) hV' ho' sW (by
        rw [eV]
        refine cl_app (cl_k hc (fun j j0 j1 => ?_)) (cl_k cY (fun j j0 j1 => fW _ _ (by omega)))
        rw [fW _ _ (by omega), fY _ _ (by omega)]) (fun a j q1 q2 => by
        rw [eV, List.length_append] at q2
        rw [fW _ _ q1, fY _ _ (by omega), hX _ _ q1 (by omega)])
      rw [eV, List.length_append (as := V.flatMap (fld w))] at this
      rw [show ((V.flatMap (fld w)).length : Int) + ((fld w r).length : Int) = (((V.flatMap (fld w)).length + (fld w r).length : Nat) : Int) by omega]
      exact this
theorem ordersR_e {M : Mem} {w : Int → Int} {Q : Mem → Prop} (hr : LR M) (hw : NW M w) (hv : WV w) (hq : ∀ N, CL N 120 2672 (ordL w) → (∀ a j, ¬ (a = 127 ∧ 0 ≤ j) → ¬ (a = 120 ∧ 2672 ≤ j ∧ j < 2672 + w 5) → N a j = M a j) → Q N) : Tot (f_X12_orders 119 M) Q := by
  obtain ⟨⟨c3, c4, c5⟩, wb, hr', hf, hz⟩ := hv
  obtain ⟨ra, rl⟩ := lr_a hr
  have r21 : M 119 21 = 127 := hr.1.2.2.2.2.2.2.2.1
  have l27 : M 127 (-1) = 12 := hr.2.2.2.2.2.2.2.2.1
  have w3 : M 120 2563 = w 3 := hw 3 (by omega) (by omega)
  have hM : RO M w := ⟨⟨ra, rl, r21, l27⟩, fun j j0 j1 => hw j j0 (by omega)⟩
  unfold f_X12_orders
  rw [t_getf, ra, t_geti, rl, w3, t_letv, w32_s (x := w 3 - 1) (by omega) (by omega)]
  refine ⟨by omega, by omega, by omega, by omega, ?_⟩
  have fin : ∀ X, Stk X (chl w (-1)) → (∀ a j, ¬ (a = 127 ∧ 0 ≤ j) → X a j = M a j) → Tot (f_X12_orders_L55 119 (fun (M56 : Mem) => some M56) KF (chl w (-1)).length 0 X) Q := fun X sX fX => by
    have := oL55_e hr' hf c3 c5 hM hq 10 KF (chl w (-1)) [] X (by rw [List.length_nil]; omega) (by unfold KF; omega) (vst_0 c3.1) (by rw [List.flatMap_nil, List.nil_append]; rfl) sX cl_nil (fun a j q1 _ => fX a j q1)
    exact this
  have ef : chl w (-1) = selC (fun q => decide (rc w q 0 = -1)) 0 (w 3).toNat := rfl
  generalize hP : (fun q => decide (rc w q 0 = -1)) = P at ef
  have hp : ∀ f, P f = true ↔ rc w f 0 = -1 := fun f => by rw [← hP]; exact decide_eq_true_iff
  have lc := vst_len c3.1 (vst_0 c3.1)
  rw [List.length_nil] at lc
  refine lpIIM (fun a b X => -1 ≤ b ∧ b < w 3 ∧ a = (selC P (b + 1) (w 3 - 1 - b).toNat).length ∧ Stk X (selC P (b + 1) (w 3 - 1 - b).toNat) ∧ ∀ c j, ¬ (c = 127 ∧ 0 ≤ j) → X c j = M c j) (fun _ b _ => (b + 1).toNat) ?_ (by unfold KF; omega) ⟨by omega, by omega, ?_, ?_, fun _ _ _ => rfl⟩
  rotate_left
  · rw [show (w 3 - 1 - (w 3 - 1)).toNat = 0 by omega]; rfl
  · rw [show (w 3 - 1 - (w 3 - 1)).toNat = 0 by omega]; exact stk_nil
  rintro fu a b X ⟨i0, i1, i2, i3, i4⟩ ih
  have hX : RO X w := ro_k hM (fun c j q1 q2 => i4 c j q1)
  obtain ⟨⟨a1, a2, a3, a4⟩, aw⟩ := hX
  unfold f_X12_orders_L15
  rw [t_ite]
  refine ⟨fun c => ?_, fun c => ?_⟩
  · have e : selC P (b + 1) (w 3 - 1 - b).toNat = chl w (-1) := by rw [ef, show b + 1 = 0 by omega]; congr 1; omega
    rw [e] at i2 i3
    rw [i2]
    exact fin X i3 i4
  have sn : selC P b (w 3 - b).toNat = (if P b = true then [b] else []) ++ selC P (b + 1) (w 3 - 1 - b).toNat := by
    rw [show (w 3 - b).toNat = (w 3 - 1 - b).toNat + 1 by omega]; rfl
  have le : (selC P b (w 3 - b).toNat).length ≤ (chl w (-1)).length := by
    rw [ef, show (w 3).toNat = b.toNat + (w 3 - b).toNat by omega, sel_split, List.length_append, show (0 : Int) + ((b.toNat : Nat) : Int) = b by omega]
    omega
  have xr : X 120 (2572 + 6 * b) = rc w b 0 := by
    have := aw (12 + 6 * b) (by omega) (by omega)
    rw [show 2572 + 6 * b = 2560 + (12 + 6 * b) by omega, this]; unfold rc; rw [Int.add_zero]
  rw [t_getf, a1, t_geti, a2, w32_s (x := 6 * b) (by omega) (by omega), w32_s (x := 2572 + 6 * b) (by omega) (by omega), xr]
  refine ⟨by omega, by omega, by omega, by omega, ?_⟩
  refine t_jq (fun J : Int → Mem → Option Mem => ∀ (a' : Int) (Y : Mem), a' = (selC P b (w 3 - b).toNat).length → Stk Y (selC P b (w 3 - b).toNat) → (∀ c j, ¬ (c = 127 ∧ 0 ≤ j) → Y c j = M c j) → Tot (J a' Y) Q) (fun a' Y e1 e2 e3 => ?_) (fun J hJ => ?_)
  · rw [w32_s (x := b + -1) (by omega) (by omega)]
    refine ih _ _ _ (by omega) ⟨by omega, by omega, ?_, ?_, e3⟩
    · rw [show b + -1 + 1 = b by omega, show w 3 - 1 - (b + -1) = w 3 - b by omega]; exact e1
    · rw [show b + -1 + 1 = b by omega, show w 3 - 1 - (b + -1) = w 3 - b by omega]; exact e2
  rw [t_ite]
  refine ⟨fun e => ?_, fun e => ?_⟩
  rotate_left
  · rw [if_neg (fun z => e ((hp _).mp z)), List.nil_append] at sn
    rw [sn] at hJ
    exact hJ _ _ i2 i3 i4
  rw [if_pos ((hp _).mpr e)] at sn
  rw [sn, List.length_append, List.length_singleton] at le
  rw [t_getf, a3, t_seti, a4, w32_s (x := a + 1) (by omega) (by omega)]
  refine ⟨by omega, by omega, by omega, by omega, hJ _ _ ?_ ?_ (fun c j hh => by rw [upd2_at, if_neg (by omega)]; exact i4 c j hh)⟩
  · rw [sn, List.length_append, List.length_singleton]; omega
  · rw [sn, show [b] ++ selC P (b + 1) (w 3 - 1 - b).toNat = b :: selC P (b + 1) (w 3 - 1 - b).toNat from rfl]
    refine stk_push i3 (fun j j0 j1 => by rw [upd2_at, if_neg (by omega)]) ?_
    rw [upd2_at, if_pos ⟨rfl, by omega⟩]
