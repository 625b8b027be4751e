/-! feed; status, top, bottom, fault -/
def bys (x p : Int) : Int := w8 (w8 (ishrv x p))
def FdM (M N : Mem) (o b f n k : Int) (g : Int → Int) : Prop := N o f = n + k ∧ (∀ i, 0 ≤ i → i < k → N b (n + i) = g i) ∧ ∀ a j, ¬ (a = o ∧ j = f) → ¬ (a = b ∧ n ≤ j ∧ j < n + k) → N a j = M a j
theorem fd_0 {M : Mem} {o b f n : Int} {g : Int → Int} (h : M o f = n) : FdM M M o b f n 0 g := ⟨by omega, fun i a c => by omega, fun _ _ _ _ => rfl⟩
theorem fd_s {M N : Mem} {o b f n k v : Int} {g : Int → Int} (h : FdM M N o b f n k g) (ob : o ≠ b) (k0 : 0 ≤ k) (hv : g k = v) : FdM M (upd2 (upd2 N b (n + k) v) o f (n + (k + 1))) o b f n (k + 1) g := by
  obtain ⟨h1, h2, h3⟩ := h
  refine ⟨by rw [upd2_at, if_pos ⟨rfl, rfl⟩], fun i i0 i1 => ?_, fun a j c1 c2 => ?_⟩
  · rw [upd2_at, if_neg (by omega), upd2_at]
    by_cases e : i = k
    · rw [e, if_pos ⟨rfl, rfl⟩]; exact hv.symm
    · rw [if_neg (by omega)]; exact h2 i i0 (by omega)
  · rw [upd2_at, if_neg c1, upd2_at, if_neg (by omega)]; exact h3 a j c1 (by omega)
theorem addInt_e {M N : Mem} {n k x : Int} {g : Int → Int} {Q : Mem → Prop} (h : FdM M N 10 11 6 n k g) (hp : M 10 0 = 11) (hl : M 11 (-1) = 900) (n0 : 0 ≤ n) (k0 : 0 ≤ k) (nk : n + k + 4 ≤ 900) (hx : ∀ i, 0 ≤ i → i < 4 → g (k + i) = bys x (24 - 8 * i)) (hq : ∀ N', FdM M N' 10 11 6 n (k + 4) g → Q N') : Tot (f_X6_addInt 10 x N) Q := by
  unfold f_X6_addInt
  refine lpIM (fun p X => ∃ i, p = 24 - 8 * i ∧ 0 ≤ i ∧ i ≤ 4 ∧ FdM M X 10 11 6 n (k + i) g) (fun p _ => (p + 8).toNat) ?_ (by unfold KF; omega) ⟨0, by omega, by omega, by omega, by rw [Int.add_zero]; exact h⟩
  rintro fu p X ⟨i, e, i0, i1, hX⟩ ih
  unfold f_X6_addInt_L3
  rw [t_ite]
  refine ⟨fun c => ?_, fun c => ?_⟩
  · have : i = 4 := by omega
    subst this
    rw [t_some]; exact hq X hX
  have s := fd_s hX (by omega) (by omega) (hx i i0 (by omega))
  obtain ⟨x1, x2, x3⟩ := hX
  rw [t_getf, x1, t_ite]
  refine ⟨by omega, fun c => by omega, fun _ => ?_⟩
  rw [t_getf, x3 10 0 (by omega) (by omega), hp, t_getf, x1, t_seti, x3 11 (-1) (by omega) (by omega), hl, t_getf, upd2_at, if_neg (by omega), x1, t_putf, w32_s (x := n + (k + i) + 1) (by omega) (by omega), w32_s (x := p + -8) (by omega) (by omega), show n + (k + i) + 1 = n + (k + i + 1) by omega, e]
  refine ⟨by omega, by omega, by omega, by omega, by omega, by omega, by omega, ih _ _ (by omega) ⟨i + 1, by omega, by omega, by omega, ?_⟩⟩
  rw [show k + (i + 1) = k + i + 1 by omega]
  exact s
theorem four_e {M N : Mem} {n k x : Int} {g : Int → Int} {Q : Mem → Prop} (h : FdM M N 119 125 10 n k g) (hp : M 119 8 = 125) (hl : M 125 (-1) = 900) (n0 : 0 ≤ n) (k0 : 0 ≤ k) (nk : n + k + 4 ≤ 900) (hx : ∀ i, 0 ≤ i → i < 4 → g (k + i) = bys x (24 - 8 * i)) (hq : ∀ N', FdM M N' 119 125 10 n (k + 4) g → Q N') : Tot (f_X12_four 119 x N) Q := by
  unfold f_X12_four
  refine lpIM (fun p X => ∃ i, p = 24 - 8 * i ∧ 0 ≤ i ∧ i ≤ 4 ∧ FdM M X 119 125 10 n (k + i) g) (fun p _ => (p + 8).toNat) ?_ (by unfold KF; omega) ⟨0, by omega, by omega, by omega, by rw [Int.add_zero]; exact h⟩
  rintro fu p X ⟨i, e, i0, i1, hX⟩ ih
  unfold f_X12_four_L3
  rw [t_ite]
  refine ⟨fun c => ?_, fun c => ?_⟩
  · have : i = 4 := by omega
    subst this
    rw [t_some]; exact hq X hX
  have s := fd_s hX (by omega) (by omega) (hx i i0 (by omega))
  obtain ⟨x1, x2, x3⟩ := hX
  rw [t_getf, x3 119 8 (by omega) (by omega), hp, t_getf, x1, t_seti, x3 125 (-1) (by omega) (by omega), hl, t_getf, upd2_at, if_neg (by omega), x1, t_putf, w32_s (x := n + (k + i) + 1) (by omega) (by omega), w32_s (x := p + -8) (by omega) (by omega), show n + (k + i) + 1 = n + (k + i + 1) by omega, e]
  refine ⟨by omega, by omega, by omega, by omega, by omega, by omega, by omega, ih _ _ (by omega) ⟨i + 1, by omega, by omega, by omega, ?_⟩⟩
  rw [show k + (i + 1) = k + i + 1 by omega]
  exact s
def g5 (a b c d e : Int) (i : Int) : Int := bys (if i < 4 then a else if i < 8 then b else if i < 12 then c else if i < 16 then d else e) (24 - 8 * (i % 4))
theorem g5_a (a b c d e : Int) : ∀ i, 0 ≤ i → i < 4 → g5 a b c d e (0 + i) = bys a (24 - 8 * i) := fun i h0 h1 => by unfold g5; rw [if_pos (by omega)]; congr 1; omega
theorem g5_b (a b c d e : Int) : ∀ i, 0 ≤ i → i < 4 → g5 a b c d e (4 + i) = bys b (24 - 8 * i) := fun i h0 h1 => by unfold g5; rw [if_neg (by omega), if_pos (by omega)]; congr 1; omega
theorem g5_c (a b c d e : Int) : ∀ i, 0 ≤ i → i < 4 → g5 a b c d e (8 + i) = bys c (24 - 8 * i) := fun i h0 h1 => by unfold g5; rw [if_neg (by omega), if_neg (by omega), if_pos (by omega)]; congr 1; omega
theorem g5_d (a b c d e : Int) : ∀ i, 0 ≤ i → i < 4 → g5 a b c d e (12 + i) = bys d (24 - 8 * i) := fun i h0 h1 => by unfold g5; rw [if_neg (by omega), if_neg (by omega), if_neg (by omega), if_pos (by omega)]; congr 1; omega
theorem g5_e (a b c d e : Int) : ∀ i, 0 ≤ i → i < 4 → g5 a b c d e (16 + i) = bys e (24 - 8 * i) := fun i h0 h1 => by unfold g5; rw [if_neg (by omega), if_neg (by omega), if_neg (by omega), if_neg (by omega)]; congr 1; omega
def FdP (M : Mem) (o b f n : Int) (g : Int → Int) (q : Int × Mem) : Prop := (n + 20 ≤ 900 ∧ q.1 = n + 20 ∧ FdM M q.2 o b f n 20 g) ∨ (900 < n + 20 ∧ q.1 = -1 ∧ q.2 = M)
theorem c_feed {M : Mem} {n : Int} (a b c d e : Int) (h1 : M 1 1 = 10) (hp : M 10 0 = 11) (hl : M 11 (-1) = 900) (hn : M 10 6 = n) (n0 : 0 ≤ n) (n1 : n ≤ 900) : Tot (f_X11_feed 1 a b c d e M) (FdP M 10 11 6 n (g5 a b c d e)) := by
  unfold f_X11_feed
  rw [t_getf, h1, t_nn, t_callp]
  refine ⟨by omega, by omega, ?_⟩
  unfold f_X6_hasRoom
  rw [t_getf, hn, w32_s (by omega) (by omega)]
  refine ⟨by omega, ?_⟩
  have z : ∀ v : Int, (v = 0 → 900 < n + 20) → (v ≠ 0 → n + 20 ≤ 900) → Tot (jn (fun (q4 : Int) (M5 : Mem) => some (q4, M5)) (fun j30 => if v = 0 then (j30 (-1) M) else (getf M 1 1 (fun v6 => nn v6 (call (f_X6_add v6 a b c d e M) (fun v8 M9 => j30 v8 M9)))))) (FdP M 10 11 6 n (g5 a b c d e)) := by
    intro v v0 v1
    refine t_jq (fun K : Int → Mem → Option (Int × Mem) => ∀ x N, K x N = some (x, N)) (fun x N => rfl) (fun K hK => ?_)
    rw [t_ite]
    refine ⟨fun q => ?_, fun q => ?_⟩
    · rw [hK, t_some]; exact .inr ⟨v0 q, rfl, rfl⟩
    have r := v1 q
    rw [t_getf, h1, t_nn, t_call]
    refine ⟨by omega, by omega, ?_⟩
    unfold f_X6_add
    rw [t_callv]
    refine addInt_e (fd_0 hn) hp hl n0 (by omega) (by omega) (g5_a a b c d e) (fun N1 k1 => ?_)
    rw [t_callv]
    refine addInt_e k1 hp hl n0 (by omega) (by omega) (g5_b a b c d e) (fun N2 k2 => ?_)
    rw [t_callv]
    refine addInt_e k2 hp hl n0 (by omega) (by omega) (g5_c a b c d e) (fun N3 k3 => ?_)
    rw [t_callv]
    refine addInt_e k3 hp hl n0 (by omega) (by omega) (g5_d a b c d e) (fun N4 k4 => ?_)
    rw [t_callv]
    refine addInt_e k4 hp hl n0 (by omega) (by omega) (g5_e a b c d e) (fun N5 k5 => ?_)
    rw [t_getf, t_some]
    dsimp only
    rw [hK, t_some]
    exact ⟨by omega, .inl ⟨r, k5.1, k5⟩⟩
  refine t_jq (fun K : Int → Option Int => ∀ v, (v = 0 ∨ v = 1) → Tot (K v) (fun u => u = v)) (fun v hv => ?_) (fun K hK => ?_)
  · unfold retz
    rcases hv with hv | hv <;> subst hv <;> simp [Tot]
  rw [t_ite]
  refine ⟨fun q => t_mono (hK 0 (by omega)) (fun u hu => ?_), fun q => t_mono (hK 1 (by omega)) (fun u hu => ?_)⟩
  · subst hu; exact z _ (fun _ => q) (fun hh => absurd rfl hh)
  · subst hu; exact z _ (fun hh => by omega) (fun _ => by omega)
theorem r_feed {M : Mem} {n : Int} (a b c d e : Int) (hp : M 119 8 = 125) (hl : M 125 (-1) = 900) (hn : M 119 10 = n) (n0 : 0 ≤ n) (n1 : n ≤ 900) : Tot (f_X12_feed 119 a b c d e M) (FdP M 119 125 10 n (g5 a b c d e)) := by
  unfold f_X12_feed
  rw [t_getf, hn, w32_s (by omega) (by omega), t_ite]
  refine ⟨by omega, fun r => ?_, fun r => ?_⟩
  rotate_left
  · rw [t_some]; exact .inr ⟨by omega, rfl, rfl⟩
  rw [t_callv]
  refine four_e (fd_0 hn) hp hl n0 (by omega) (by omega) (g5_a a b c d e) (fun N1 k1 => ?_)
  rw [t_callv]
  refine four_e k1 hp hl n0 (by omega) (by omega) (g5_b a b c d e) (fun N2 k2 => ?_)
  rw [t_callv]
  refine four_e k2 hp hl n0 (by omega) (by omega) (g5_c a b c d e) (fun N3 k3 => ?_)
  rw [t_callv]
  refine four_e k3 hp hl n0 (by omega) (by omega) (g5_d a b c d e) (fun N4 k4 => ?_)
  rw [t_callv]
  refine four_e k4 hp hl n0 (by omega) (by omega) (g5_e a b c d e) (fun N5 k5 => ?_)
  rw [t_getf, t_some]
  exact ⟨by omega, .inl ⟨r, k5.1, k5⟩⟩
