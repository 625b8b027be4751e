/-! a new world: its order, and that it is well formed -/
def lg (L : List Int) (i : Int) : Int := L.getD i.toNat 0
theorem lg_c0 {x : Int} {L : List Int} : lg (x :: L) 0 = x := rfl
theorem lg_cs {x : Int} {L : List Int} {i : Int} (h : 0 < i) : lg (x :: L) i = lg L (i - 1) := by
  unfold lg; rw [show i.toNat = (i - 1).toNat + 1 by omega]; rfl
theorem lg_app {R : List Int} : ∀ (L : List Int) (i : Int), 0 ≤ i → lg (L ++ R) i = if i < L.length then lg L i else lg R (i - L.length)
  | [], i, h => by
    rw [List.nil_append, if_neg (by rw [List.length_nil]; omega), List.length_nil]; congr 1; omega
  | x :: L, i, h => by
    rw [List.cons_append]
    by_cases c : i = 0
    · rw [c, if_pos (by rw [List.length_cons]; omega)]; rfl
    · rw [lg_cs (by omega), lg_app L (i - 1) (by omega), List.length_cons]
      by_cases d : i - 1 < L.length
      · rw [if_pos d, if_pos (by omega), lg_cs (by omega)]
      · rw [if_neg d, if_neg (by omega)]; congr 1; omega
theorem lg_mem : ∀ (L : List Int) (i : Int), 0 ≤ i → i < L.length → lg L i ∈ L
  | [], i, h, h1 => by rw [List.length_nil] at h1; omega
  | x :: L, i, h, h1 => by
    by_cases c : i = 0
    · rw [c]; exact List.mem_cons_self ..
    · rw [lg_cs (by omega)]
      rw [List.length_cons] at h1
      exact List.mem_cons_of_mem _ (lg_mem L (i - 1) (by omega) (by omega))
theorem lg_ex : ∀ (L : List Int) (x : Int), x ∈ L → ∃ i : Int, 0 ≤ i ∧ i < L.length ∧ lg L i = x
  | [], x, h => nomatch h
  | y :: L, x, h => by
    rw [List.mem_cons] at h
    rcases h with h | h
    · exact ⟨0, by omega, by rw [List.length_cons]; omega, h.symm⟩
    · obtain ⟨i, i0, i1, i2⟩ := lg_ex L x h
      exact ⟨i + 1, by omega, by rw [List.length_cons]; omega, by rw [lg_cs (by omega), show i + 1 - 1 = i by omega]; exact i2⟩
theorem lg_inj : ∀ (L : List Int), ND L → ∀ (i j : Int), 0 ≤ i → i < L.length → 0 ≤ j → j < L.length → lg L i = lg L j → i = j
  | [], _, i, j, i0, i1, _, _, _ => by rw [List.length_nil] at i1; omega
  | x :: L, h, i, j, i0, i1, j0, j1, e => by
    rw [nd_cons] at h
    rw [List.length_cons] at i1 j1
    by_cases ci : i = 0
    · by_cases cj : j = 0
      · omega
      · rw [ci, lg_c0, lg_cs (by omega)] at e
        exact absurd e (h.1 _ (lg_mem L (j - 1) (by omega) (by omega)))
    · by_cases cj : j = 0
      · rw [cj, lg_c0, lg_cs (by omega)] at e
        exact absurd e.symm (h.1 _ (lg_mem L (i - 1) (by omega) (by omega)))
      · rw [lg_cs (by omega), lg_cs (by omega)] at e
        have := lg_inj L h.2 (i - 1) (j - 1) (by omega) (by omega) (by omega) (by omega) e
        omega
def lsum (g : Int → Int) : List Int → Int
  | [] => 0
  | x :: L => g x + lsum g L
theorem lsum_app {g : Int → Int} : ∀ (L R : List Int), lsum g (L ++ R) = lsum g L + lsum g R
  | [], R => by show lsum g R = 0 + lsum g R; omega
  | x :: L, R => by
    show g x + lsum g (L ++ R) = g x + lsum g L + lsum g R
    rw [lsum_app L R]; omega
theorem lsum_er {g : Int → Int} : ∀ (L : List Int) (x : Int), x ∈ L → lsum g L = g x + lsum g (L.erase x)
  | [], x, h => nomatch h
  | y :: L, x, h => by
    by_cases c : y = x
    · rw [c, List.erase_cons_head]; rfl
    · rw [List.erase_cons_tail (by rw [beq_iff_eq]; exact c)]
      rw [List.mem_cons] at h
      rcases h with h | h
      · exact absurd h.symm c
      · show g y + lsum g L = g x + (g y + lsum g (L.erase x))
        rw [lsum_er L x h]; omega
theorem lsum_same {g : Int → Int} : ∀ (L R : List Int), ND L → ND R → (∀ x, x ∈ L ↔ x ∈ R) → lsum g L = lsum g R
  | [], R, _, _, h => by
    cases R with
    | nil => rfl
    | cons y R => exact absurd ((h y).mpr (List.mem_cons_self ..)) (fun q => nomatch q)
  | x :: L, R, hl, hr, h => by
    rw [nd_cons] at hl
    have hx := (h x).mp (List.mem_cons_self ..)
    rw [lsum_er R x hx]
    show g x + lsum g L = _
    have nr : ND (R.erase x) := List.Pairwise.sublist (List.erase_sublist ..) hr
    rw [lsum_same L (R.erase x) hl.2 nr (fun y => ?_)]
    have e : y ∈ R.erase x ↔ y ≠ x ∧ y ∈ R := List.Nodup.mem_erase_iff hr
    rw [e]
    refine ⟨fun hy => ⟨fun q => hl.1 y hy q.symm, (h y).mp (List.mem_cons_of_mem _ hy)⟩, fun hy => ?_⟩
    have := (h y).mpr hy.2
    rw [List.mem_cons] at this
    rcases this with q | q
    · exact absurd q hy.1
    · exact q
theorem sum_lg {g : Int → Int} (L : List Int) : ∀ (n : Nat), n ≤ L.length → sumZ (fun k => g (lg L k)) n = lsum g (L.take n)
  | 0, _ => rfl
  | n + 1, h => by
    rw [show ((n + 1 : Nat) : Int) = (n : Int) + 1 by omega, sumZ_s _ (by omega), sum_lg L n (by omega), List.take_succ, lsum_app]
    congr 1
    have e : L[n]? = some (lg L n) := by
      unfold lg
      rw [show ((n : Int)).toNat = n by omega, List.getD_eq_getElem?_getD, List.getElem?_eq_getElem (by omega)]; rfl
    rw [e]
    show g (lg L n) = g (lg L n) + 0
    omega
theorem sum_sel {g : Int → Int} : ∀ (n : Nat), sumZ g n = lsum g (selC (fun _ => true) 0 n)
  | 0 => rfl
  | n + 1 => by
    rw [show ((n + 1 : Nat) : Int) = (n : Int) + 1 by omega, sumZ_s _ (by omega), sum_sel n, sel_snoc, lsum_app, if_pos rfl, Int.zero_add]
    congr 1
    show g n = g n + 0
    omega
theorem sum_perm {g : Int → Int} {L : List Int} {n : Int} (n0 : 0 ≤ n) (hl : (L.length : Int) = n) (hn : ND L) (hm : ∀ x, x ∈ L ↔ 0 ≤ x ∧ x < n) : sumZ (fun k => g (lg L k)) n = sumZ g n := by
  have e1 := sum_lg (g := g) L n.toNat (by omega)
  have e2 := sum_sel (g := g) n.toNat
  rw [show ((n.toNat : Nat) : Int) = n by omega] at e1 e2
  rw [e1, e2, List.take_of_length_le (by omega)]
  exact lsum_same _ _ hn (sel_nd _ _) (fun x => by rw [hm, sel_mem]; exact ⟨fun q => ⟨by omega, by omega, rfl⟩, fun q => ⟨by omega, by omega⟩⟩)
def wO (w : Int → Int) : Int → Int := fun j => if 112 ≤ j ∧ j < 112 + w 5 then lg (ordL w) (j - 112) else w j
theorem wO_o {w : Int → Int} {j : Int} (h : ¬ (112 ≤ j ∧ j < 112 + w 5)) : wO w j = w j := if_neg h
theorem wO_i {w : Int → Int} {k : Int} (h0 : 0 ≤ k) (h1 : k < w 5) : od (wO w) k = lg (ordL w) k := by
  unfold od wO; rw [if_pos (by omega)]; congr 1; omega
theorem gw_new {w : Int → Int} (h : WV w) : GW (wO w) := by
  obtain ⟨⟨c3, c4, c5⟩, ⟨b1, b2, b3, b4, b5, b6⟩, hr, hf, hz⟩ := h
  have o : ∀ j, j < 112 → wO w j = w j := fun j hj => wO_o (by omega)
  have z : ∀ j, 122 ≤ j → j < 640 → wO w j = 0 := fun j j0 j1 => by
    rw [wO_o (by omega), hz j (by omega), if_neg (by omega)]
  have z6 : wO w 6 = 0 := by rw [o 6 (by omega), hz 6 (by omega), if_neg (by omega)]
  have z8 : wO w 8 = 0 := by rw [o 8 (by omega), hz 8 (by omega), if_neg (by omega)]
  have z9 : wO w 9 = -1 := by rw [o 9 (by omega), hz 9 (by omega), if_pos rfl]
  have e0 := o 0 (by omega)
  have e1 := o 1 (by omega)
  have e2 := o 2 (by omega)
  have e3 := o 3 (by omega)
  have e4 := o 4 (by omega)
  have e5 := o 5 (by omega)
  obtain ⟨on, om, ol⟩ := ord_ok hr hf c3.1 c3.2 c5.1
  have hn' : WFn (wO w) := by unfold WFn; omega
  have hr' : WFr (wO w) := fun r r0 r1 => by
    rw [e3] at r1
    have g : ∀ k, k < 6 → rc (wO w) r k = rc w r k := fun k k1 => o _ (by omega)
    rw [g 0 (by omega), g 1 (by omega), g 2 (by omega), g 3 (by omega), g 4 (by omega), g 5 (by omega)]
    exact hr r r0 r1
  have gf : ∀ f k, f < w 5 → k < 4 → fc (wO w) f k = fc w f k := fun f k f1 k1 => o _ (by omega)
  have hf' : WFf (wO w) := fun f f0 f1 => by
    rw [e5] at f1
    rw [gf f 0 f1 (by omega), gf f 1 f1 (by omega), gf f 2 f1 (by omega), gf f 3 f1 (by omega), e3, e4]
    exact hf f f0 f1
  have ho' : WFo (wO w) := by
    unfold WFo
    rw [e5]
    refine ⟨fun k k0 k1 => ?_, fun f f0 f1 => ?_, fun j k j0 j1 k0 k1 he => ?_, ?_⟩
    · rw [wO_i k0 k1]; exact (om _).mp (lg_mem _ _ k0 (by omega))
    · obtain ⟨i, i0, i1, i2⟩ := lg_ex _ _ ((om f).mpr ⟨f0, f1⟩)
      exact ⟨i, i0, by omega, by rw [wO_i i0 (by omega)]; exact i2⟩
    · rw [wO_i j0 j1, wO_i k0 k1] at he
      exact lg_inj _ on j k j0 (by omega) k0 (by omega) he
    · unfold ahead allSh
      rw [e5, ← sum_perm (g := fun f => fc (wO w) f 1) c5.1 ol on om]
      exact sumZ_congr (fun k k0 k1 => by rw [wO_i k0 k1])
  refine ⟨⟨hn', hr', hf', ho', ⟨fun i i0 i1 => by omega, fun k k0 k1 => ?_⟩, fun i j i0 i1 j0 j1 => ?_, fun f f0 f1 => ?_⟩, fun f f0 f1 => ?_, by omega, by omega, fun k k0 k1 => by omega⟩
  · unfold leftK lentBy
    rw [z8, sumZ_0]
    have := edge_mono hn' hf' ho' (j := k) (k := k + 1) k0 (by omega) (by omega)
    omega
  · have : ow (wO w) i j = 0 := z _ (by omega) (by omega)
    rw [this, z6, z8]; exact ⟨by omega, by omega, fun q => absurd rfl q⟩
  · have : ac (wO w) f = 0 := z _ (by omega) (by omega)
    rw [this]; omega
  · have : ac (wO w) f = 0 := z _ (by omega) (by omega)
    rw [this, z6]; omega
