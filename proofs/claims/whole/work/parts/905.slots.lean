/-! slots -/
abbrev Slo : Type := Int × Int × Int
def lsl (w : Int → Int) (f : Int) : Nat → Int → List Slo
  | 0, _ => []
  | n + 1, a => if lo w n 0 = f then (lo w n 1, a, lo w n 2) :: lsl w f n (a + lo w n 2) else lsl w f n a
def ownS (w : Int → Int) (k : Int) : List Slo := if 0 < leftK w k then [(od w k, edge w k, leftK w k)] else []
def turnS (w : Int → Int) (k : Int) : List Slo := ownS w k ++ lsl w (od w k) (w 8).toNat (edge w k + leftK w k)
def slotsTo (w : Int → Int) (k : Int) : List Slo := foldZ (fun k l => l ++ turnS w k) [] k
def slotsW (w : Int → Int) : List Slo := slotsTo w (w 5)
theorem slotsTo_s (w : Int → Int) {k : Int} (h : 0 ≤ k) : slotsTo w (k + 1) = slotsTo w k ++ turnS w k := foldZ_s _ _ h
theorem slotsTo_le (w : Int → Int) {k : Int} (h : 0 ≤ k) (d : Nat) : (slotsTo w k).length ≤ (slotsTo w (k + d)).length := by
  induction d with
  | zero => simp
  | succ d ih =>
    rw [show k + ((d + 1 : Nat) : Int) = k + d + 1 by omega, slotsTo_s w (by omega), List.length_append]
    omega
theorem inj_cnt {g : Int → Int} {c n : Int} (hi : ∀ j k, 0 ≤ j → j < n → 0 ≤ k → k < n → g j = g k → j = k) {p : Int} (h0 : 0 ≤ p) (h1 : p ≤ n) : sumZ (fun k => if c = g k then 1 else 0) p ≤ 1 ∧ (sumZ (fun k => if c = g k then 1 else 0) p ≠ 0 → ∃ j, 0 ≤ j ∧ j < p ∧ g j = c) :=
  foldZ_inv (fun p (x : Int) => x ≤ 1 ∧ (x ≠ 0 → ∃ j, 0 ≤ j ∧ j < p ∧ g j = c)) ⟨by omega, by omega⟩ (n := n) (fun k x hk hk1 hx => by
    by_cases e : c = g k
    · have : x = 0 := by
        by_cases hz : x = 0
        · exact hz
        · obtain ⟨j, j0, j1, j2⟩ := hx.2 hz
          have := hi j k j0 (by omega) hk hk1 (by omega)
          omega
      simp only [if_pos e, this]
      exact ⟨by omega, fun _ => ⟨k, hk, by omega, e.symm⟩⟩
    · simp only [if_neg e]
      exact ⟨by omega, fun hz => by
        obtain ⟨j, j0, j1, j2⟩ := hx.2 (by omega)
        exact ⟨j, j0, by omega, j2⟩⟩) h0 h1
def cntL (w : Int → Int) (f : Int) (n : Nat) : Int := sumZ (fun i => if lo w i 0 = f then 1 else 0) n
theorem lsl_len (w : Int → Int) (f : Int) : ∀ (n : Nat) (a : Int), ((lsl w f n a).length : Int) = cntL w f n := by
  intro n
  induction n with
  | zero => intro a; rfl
  | succ n ih =>
    intro a
    have e : cntL w f (n + 1) = cntL w f n + _ := sumZ_s (fun i => if lo w i 0 = f then 1 else 0) (p := (n : Int)) (by omega)
    rw [e]
    unfold lsl
    split
    · simp only [List.length_cons]
      have := ih (a + lo w n 2)
      omega
    · rw [ih]; omega
theorem sumZ_add (g f : Int → Int) {n : Int} (h : 0 ≤ n) : sumZ (fun k => g k + f k) n = sumZ g n + sumZ f n := by
  have := foldZ_inv (f := fun k (x : Int) => x + (g k + f k)) (a := 0) (fun p (x : Int) => 0 ≤ p ∧ x = sumZ g p + sumZ f p) ⟨by omega, by simp [sumZ_0]⟩ (n := n) (fun k x hk hk1 hx => ⟨by omega, by rw [hx.2, sumZ_s _ hk, sumZ_s _ hk]; omega⟩) h (Int.le_refl _)
  exact this.2
theorem cnt_all {w : Int → Int} (ho : WFo w) (hn : 0 ≤ w 5) : ∀ n : Nat, sumZ (fun k => cntL w (od w k) n) (w 5) ≤ n := by
  intro n
  induction n with
  | zero => rw [sumZ_z (g := fun k => cntL w (od w k) 0) (fun k _ _ => rfl)]; omega
  | succ n ih =>
    have e : ∀ k, cntL w (od w k) (n + 1) = cntL w (od w k) n + (if lo w n 0 = od w k then 1 else 0) := fun k => sumZ_s (fun i => if lo w i 0 = od w k then 1 else 0) (p := (n : Int)) (by omega)
    rw [sumZ_congr (fun k _ _ => e k), sumZ_add _ _ hn]
    have := (inj_cnt (g := od w) (c := lo w n 0) (n := w 5) ho.2.2.1 hn (Int.le_refl _)).1
    omega
theorem slots_len {w : Int → Int} (hn : WFn w) (ho : WFo w) {k : Int} (h0 : 0 ≤ k) (h1 : k ≤ w 5) : (slotsTo w k).length ≤ 22 := by
  have key : ((slotsTo w (w 5)).length : Int) ≤ w 5 + sumZ (fun k => cntL w (od w k) (w 8).toNat) (w 5) := by
    have := foldZ_inv (f := fun k (l : List Slo) => l ++ turnS w k) (a := []) (fun p (l : List Slo) => 0 ≤ p ∧ (l.length : Int) ≤ p + sumZ (fun k => cntL w (od w k) (w 8).toNat) p) ⟨by omega, by simp [sumZ_0]⟩ (n := w 5) (fun k x hk hk1 hx => ⟨by omega, by
      rw [sumZ_s _ hk, List.length_append]
      unfold turnS
      rw [List.length_append]
      have e := lsl_len w (od w k) (w 8).toNat (edge w k + leftK w k)
      have e2 : (ownS w k).length ≤ 1 := by unfold ownS; split <;> simp
      omega⟩) (p := w 5) (by unfold WFn at hn; omega) (Int.le_refl _)
    exact this.2
  unfold WFn at hn
  have c := cnt_all ho (by omega) (w 8).toNat
  have m := slotsTo_le w h0 (w 5 - k).toNat
  rw [show k + ((w 5 - k).toNat : Int) = w 5 by omega] at m
  omega
/-- the slots that stand in the cells: class, reference -/
def HC (M : Mem) (L : List Slo) : Prop := M 56 3 = L.length ∧ ∀ (i : Nat) x, L[i]? = some x → M 60 i = x.1 ∧ M 61 i = x.2.1 ∧ M 62 i = x.2.2
def HS (M : Mem) (L : List Slo) : Prop := M 119 30 = L.length ∧ ∀ (i : Nat) x, L[i]? = some x → M 130 i = x.1 ∧ M 131 i = x.2.1 ∧ M 132 i = x.2.2
def SCs (a k : Int) : Prop := (a = 56 ∧ k = 3) ∨ (57 ≤ a ∧ a ≤ 62 ∧ 0 ≤ k)
theorem getapp {L : List Slo} {y : Slo} {i : Nat} {x : Slo} (h : (L ++ [y])[i]? = some x) : (i < L.length ∧ L[i]? = some x) ∨ (i = L.length ∧ x = y) := by
  by_cases h1 : i < L.length
  · rw [List.getElem?_append_left h1] at h; exact .inl ⟨h1, h⟩
  · rw [List.getElem?_append_right (by omega)] at h
    by_cases h2 : i = L.length
    · subst h2; simp at h; exact .inr ⟨rfl, h.symm⟩
    · have : 1 ≤ i - L.length := by omega
      rw [List.getElem?_eq_none (by simpa using this)] at h; simp at h
theorem add_e {M : Mem} {L : List Slo} {f a m : Int} {Q : Mem → Prop} (hl : LW M) (hh : HC M L) (hlen : L.length < 22) (hm : 0 < m) (hq : ∀ M', (∀ x k, ¬ ((x = 56 ∧ k = 3) ∨ (60 ≤ x ∧ x ≤ 62 ∧ 0 ≤ k)) → M' x k = M x k) → HC M' (L ++ [(f, a, m)]) → Q M') : Tot (f_X3_add 56 f a m M) Q := by
  obtain ⟨_, ⟨b1, b2, b3, b4, b5, b6⟩, ⟨c1, c2, c3, c4, c5, c6, _⟩⟩ := hl
  obtain ⟨h1, h2⟩ := hh
  simp only [f_X3_add, t_ite, t_callp, t_call, t_callv, t_jn, t_retz, t_retzm, t_some, t_getf, t_putf, t_putz, t_seti, t_setz, t_geti, t_alen, t_nn, t_letv, t_idivc, t_iremc, t_ldivc, t_lremc, t_acopy, upd2_at, i10, i11, n10, h1, b4, b5, b6, c4, c5, c6]
  refine ⟨by omega, fun _ => ⟨by decide, by omega, fun _ => ⟨by decide, by decide, by decide, by omega, by omega, ?_⟩⟩⟩
  simp [b4, b5, b6, c4, c5, c6, h1]
  refine ⟨by omega, ?_⟩
  rw [w32_s (by omega) (by omega)]
  refine hq _ (fun x k hx => ?_) ⟨by simp [upd2_at], fun i x hx => ?_⟩
  · simp only [upd2_at]
    rw [if_neg (by omega), if_neg (by omega), if_neg (by omega), if_neg (by omega)]
  · rcases getapp hx with ⟨hi, hx'⟩ | ⟨hi, rfl⟩
    · have := h2 i x hx'
      simp only [upd2_at]
      grind
    · subst hi
      simp [upd2_at]
theorem aSlot_e {M : Mem} {L : List Slo} {f a m : Int} {Q : Mem → Prop} (hl : LR M) (hh : HS M L) (hlen : L.length < 22) (hq : ∀ M', (∀ x k, ¬ ((x = 119 ∧ k = 30) ∨ (130 ≤ x ∧ x ≤ 132 ∧ 0 ≤ k)) → M' x k = M x k) → HS M' (L ++ [(f, a, m)]) → Q M') : Tot (f_X12_aSlot 119 f a m M) Q := by
  obtain ⟨⟨a1, a2, a3, a4, a5, a6, a7, a8, a9, a10, a11, a12, a13, a14, a15, a16, a17⟩, ⟨c1, c2, c3, c4, c5, c6, c7, c8, c9, c10, c11, c12, c13, c14, c15, c16, c17⟩⟩ := hl
  obtain ⟨h1, h2⟩ := hh
  simp only [f_X12_aSlot, t_ite, t_callp, t_call, t_callv, t_jn, t_retz, t_retzm, t_some, t_getf, t_putf, t_putz, t_seti, t_setz, t_geti, t_alen, t_nn, t_letv, t_idivc, t_iremc, t_ldivc, t_lremc, t_acopy, upd2_at, i10, i11, n10, h1, a11, a12, a13, c11, c12, c13]
  refine ⟨by decide, by decide, by decide, by omega, by omega, ?_⟩
  simp [a11, a12, a13, c11, c12, c13, h1]
  refine ⟨by omega, ?_⟩
  rw [w32_s (by omega) (by omega)]
  refine hq _ (fun x k hx => ?_) ⟨by simp [upd2_at], fun i x hx => ?_⟩
  · simp only [upd2_at]
    rw [if_neg (by omega), if_neg (by omega), if_neg (by omega), if_neg (by omega)]
  · rcases getapp hx with ⟨hi, hx'⟩ | ⟨hi, rfl⟩
    · have := h2 i x hx'
      simp only [upd2_at]
      grind
    · subst hi
      simp [upd2_at]
/-! edges -/
theorem allSh_le {w : Int → Int} (hn : WFn w) (hf : WFf w) : w 5 ≤ allSh w ∧ allSh w ≤ 990 := by
  unfold WFn at hn
  have := sumZ_le (g := fun f => fc w f 1) (n := w 5) (lo := 1) (hi := 99) (fun k a b => by have := hf k a b; constructor <;> omega) (p := w 5) (by omega) (by omega)
  unfold allSh; omega
theorem ahead_le {w : Int → Int} (hn : WFn w) (hf : WFf w) (ho : WFo w) {k : Int} (h0 : 0 ≤ k) (h1 : k ≤ w 5) : k ≤ ahead w k ∧ ahead w k ≤ 990 := by
  unfold WFn at hn
  have := sumZ_le (g := fun i => fc w (od w i) 1) (n := w 5) (lo := 1) (hi := 99) (fun k a b => by
    have := ho.1 k a b
    have := hf (od w k) this.1 this.2
    constructor <;> omega) (p := k) (by omega) (by omega)
  unfold ahead; omega
theorem ahead_s {w : Int → Int} {k : Int} (h0 : 0 ≤ k) : ahead w (k + 1) = ahead w k + fc w (od w k) 1 := sumZ_s _ h0
theorem mul_le {x y a b : Int} (h0 : 0 ≤ x) (h1 : x ≤ a) (h2 : 0 ≤ y) (h3 : y ≤ b) : 0 ≤ x * y ∧ x * y ≤ a * b :=
  ⟨Int.mul_nonneg h0 h2, Int.mul_le_mul h1 h3 h2 (by omega)⟩
theorem wa_le {w : Int → Int} (hn : WFn w) (hf : WFf w) (ho : WFo w) {k : Int} (h0 : 0 ≤ k) (h1 : k ≤ w 5) : 0 ≤ w 1 * ahead w k ∧ w 1 * ahead w k ≤ 1425600 := by
  have a := ahead_le hn hf ho h0 h1
  unfold WFn at hn
  have := mul_le (x := w 1) (y := ahead w k) (a := 1440) (b := 990) (by omega) (by omega) (by omega) (by omega)
  omega
theorem ahead_mono {w : Int → Int} (hf : WFf w) (ho : WFo w) {j : Int} (h0 : 0 ≤ j) (d : Nat) (h1 : j + d ≤ w 5) : ahead w j ≤ ahead w (j + d) := by
  induction d with
  | zero => simp
  | succ d ih =>
    rw [show j + ((d + 1 : Nat) : Int) = j + d + 1 by omega, ahead_s (by omega)]
    have q := ho.1 (j + d) (by omega) (by omega)
    have := hf _ q.1 q.2
    have := ih (by omega)
    omega
theorem edge_mono {w : Int → Int} (hn : WFn w) (hf : WFf w) (ho : WFo w) {j k : Int} (h0 : 0 ≤ j) (h1 : j ≤ k) (h2 : k ≤ w 5) : edge w j ≤ edge w k := by
  have hs := allSh_le hn hf
  by_cases hz : j = k
  · rw [hz]; omega
  unfold edge
  have m := ahead_mono hf ho h0 (k - j).toNat (by omega)
  rw [show j + ((k - j).toNat : Int) = k by omega] at m
  have : w 1 * ahead w j ≤ w 1 * ahead w k := Int.mul_le_mul_of_nonneg_left m (by unfold WFn at hn; omega)
  exact Int.ediv_le_ediv (by omega) this
theorem edge_0 (w : Int → Int) : edge w 0 = 0 := by unfold edge ahead; rw [sumZ_0]; simp
theorem edge_n {w : Int → Int} (hn : WFn w) (hf : WFf w) (ho : WFo w) (h : 0 < w 5) : edge w (w 5) = w 1 := by
  have hs := allSh_le hn hf
  unfold edge
  rw [ho.2.2.2, Int.mul_ediv_cancel _ (by omega)]
theorem edge_le {w : Int → Int} (hn : WFn w) (hf : WFf w) (ho : WFo w) {k : Int} (h0 : 0 ≤ k) (h1 : k ≤ w 5) : 0 ≤ edge w k ∧ edge w k ≤ w 1 := by
  have a := edge_mono hn hf ho (j := 0) (k := k) (by omega) h0 h1
  rw [edge_0] at a
  by_cases hz : w 5 = 0
  · rw [show k = 0 by omega, edge_0]; unfold WFn at hn; omega
  · have b := edge_mono hn hf ho h0 h1 (Int.le_refl _)
    rw [edge_n hn hf ho (by omega)] at b
    omega
