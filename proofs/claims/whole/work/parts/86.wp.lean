/-! STAGE 2: what the functions do, without a machine -/
/-- o comes to an end, and with Q -/
def Tot {ρ : Type} (o : Option ρ) (Q : ρ → Prop) : Prop := ∃ x, o = some x ∧ Q x
theorem t_some {ρ : Type} {x : ρ} {Q : ρ → Prop} : Tot (some x) Q ↔ Q x := by simp [Tot]
theorem t_none {ρ : Type} {Q : ρ → Prop} : Tot (none : Option ρ) Q ↔ False := by simp [Tot]
theorem t_mono {ρ : Type} {o : Option ρ} {Q R : ρ → Prop} (h : Tot o Q) (hr : ∀ x, Q x → R x) : Tot o R := by
  obtain ⟨x, h1, h2⟩ := h; exact ⟨x, h1, hr x h2⟩
theorem t_ite {ρ : Type} {c : Prop} [Decidable c] {a b : Option ρ} {Q : ρ → Prop} : Tot (if c then a else b) Q ↔ (c → Tot a Q) ∧ (¬ c → Tot b Q) := by
  by_cases h : c <;> simp [h]
theorem t_letv {ρ : Type} {x : Int} {k : Int → Option ρ} {Q : ρ → Prop} : Tot (letv x k) Q ↔ Tot (k x) Q := Iff.rfl
theorem t_jn {α ρ : Type} {j : α} {b : α → Option ρ} {Q : ρ → Prop} : Tot (jn j b) Q ↔ Tot (b j) Q := Iff.rfl
theorem t_getf {ρ : Type} {M : Mem} {r f : Int} {k : Int → Option ρ} {Q : ρ → Prop} : Tot (getf M r f k) Q ↔ r ≠ 0 ∧ Tot (k (M r f)) Q := by
  unfold getf; by_cases h : r = 0 <;> simp [h, t_none]
theorem t_nn {ρ : Type} {r : Int} {o : Option ρ} {Q : ρ → Prop} : Tot (nn r o) Q ↔ r ≠ 0 ∧ Tot o Q := by
  unfold nn; by_cases h : r = 0 <;> simp [h, t_none]
theorem t_putf {ρ : Type} {M : Mem} {r f v : Int} {k : Mem → Option ρ} {Q : ρ → Prop} : Tot (putf M r f v k) Q ↔ r ≠ 0 ∧ Tot (k (upd2 M r f v)) Q := by
  unfold putf; by_cases h : r = 0 <;> simp [h, t_none]
theorem t_putz {ρ : Type} {M : Mem} {r f v : Int} {k : Mem → Option ρ} {Q : ρ → Prop} : Tot (putz M r f v k) Q ↔ r ≠ 0 ∧ (v = 0 ∨ v = 1) ∧ Tot (k (upd2 M r f v)) Q := by
  unfold putz; by_cases h : r = 0 <;> by_cases h2 : v = 0 ∨ v = 1 <;> simp [h, h2, t_none]
theorem t_alen {ρ : Type} {M : Mem} {a : Int} {k : Int → Option ρ} {Q : ρ → Prop} : Tot (alen M a k) Q ↔ a ≠ 0 ∧ Tot (k (M a (-1))) Q := by
  unfold alen; by_cases h : a = 0 <;> simp [h, t_none]
theorem t_geti {ρ : Type} {M : Mem} {a i : Int} {k : Int → Option ρ} {Q : ρ → Prop} : Tot (geti M a i k) Q ↔ a ≠ 0 ∧ 0 ≤ i ∧ i < M a (-1) ∧ Tot (k (M a i)) Q := by
  unfold geti; by_cases h : a = 0 <;> by_cases h2 : 0 ≤ i ∧ i < M a (-1) <;> simp [h, h2, t_none]
  intro h3 h4; exact absurd ⟨h3, h4⟩ h2
theorem t_seti {ρ : Type} {M : Mem} {a i v : Int} {k : Mem → Option ρ} {Q : ρ → Prop} : Tot (seti M a i v k) Q ↔ a ≠ 0 ∧ 0 ≤ i ∧ i < M a (-1) ∧ Tot (k (upd2 M a i v)) Q := by
  unfold seti; by_cases h : a = 0 <;> by_cases h2 : 0 ≤ i ∧ i < M a (-1) <;> simp [h, h2, t_none]
  intro h3 h4; exact absurd ⟨h3, h4⟩ h2
theorem t_setz {ρ : Type} {M : Mem} {a i v : Int} {k : Mem → Option ρ} {Q : ρ → Prop} : Tot (setz M a i v k) Q ↔ a ≠ 0 ∧ 0 ≤ i ∧ i < M a (-1) ∧ (v = 0 ∨ v = 1) ∧ Tot (k (upd2 M a i v)) Q := by
  unfold setz; by_cases h : a = 0 <;> by_cases h2 : 0 ≤ i ∧ i < M a (-1) <;> by_cases h3 : v = 0 ∨ v = 1 <;> simp [h, h2, h3, t_none]
  all_goals (intro h4 h5; exact absurd ⟨h4, h5⟩ h2)
theorem t_seta {ρ : Type} {M : Mem} {a i v : Int} {k : Mem → Option ρ} {Q : ρ → Prop} : Tot (seta M a i v k) Q ↔ a ≠ 0 ∧ v ≠ 0 ∧ 0 ≤ i ∧ i < M a (-1) ∧ Tot (k (upd2 M a i v)) Q := by
  unfold seta; by_cases h : a = 0 <;> by_cases h3 : v = 0 <;> by_cases h2 : 0 ≤ i ∧ i < M a (-1) <;> simp [h, h2, h3, t_none]
  intro h4 h5; exact absurd ⟨h4, h5⟩ h2
theorem t_call {ρ : Type} {o : Option (Int × Mem)} {k : Int → Mem → Option ρ} {Q : ρ → Prop} : Tot (call o k) Q ↔ Tot o (fun q => Tot (k q.1 q.2) Q) := by
  cases o <;> simp [call, Tot]
theorem t_callp {ρ : Type} {o : Option Int} {k : Int → Option ρ} {Q : ρ → Prop} : Tot (callp o k) Q ↔ Tot o (fun q => Tot (k q) Q) := by
  cases o <;> simp [callp, Tot]
theorem t_callv {ρ : Type} {o : Option Mem} {k : Mem → Option ρ} {Q : ρ → Prop} : Tot (callv o k) Q ↔ Tot o (fun q => Tot (k q) Q) := by
  cases o <;> simp [callv, Tot]
theorem t_idivc {ρ : Type} {a b : Int} {k : Int → Option ρ} {Q : ρ → Prop} : Tot (idivc a b k) Q ↔ b ≠ 0 ∧ Tot (k (idivv a b)) Q := by
  unfold idivc; by_cases h : b = 0 <;> simp [h, t_none]
theorem t_iremc {ρ : Type} {a b : Int} {k : Int → Option ρ} {Q : ρ → Prop} : Tot (iremc a b k) Q ↔ b ≠ 0 ∧ Tot (k (iremv a b)) Q := by
  unfold iremc; by_cases h : b = 0 <;> simp [h, t_none]
theorem t_ldivc {ρ : Type} {a b : Int} {k : Int → Option ρ} {Q : ρ → Prop} : Tot (ldivc a b k) Q ↔ b ≠ 0 ∧ Tot (k (ldivv a b)) Q := by
  unfold ldivc; by_cases h : b = 0 <;> simp [h, t_none]
theorem t_lremc {ρ : Type} {a b : Int} {k : Int → Option ρ} {Q : ρ → Prop} : Tot (lremc a b k) Q ↔ b ≠ 0 ∧ Tot (k (lremv a b)) Q := by
  unfold lremc; by_cases h : b = 0 <;> simp [h, t_none]
theorem t_acopy {ρ : Type} {M : Mem} {a i b j n : Int} {k : Mem → Option ρ} {Q : ρ → Prop} : Tot (acopy M a i b j n k) Q ↔ (a ≠ 0 ∧ b ≠ 0 ∧ 0 ≤ i ∧ 0 ≤ j ∧ 0 ≤ n ∧ i + n ≤ M a (-1) ∧ j + n ≤ M b (-1)) ∧ Tot (k (copym M a i b j n)) Q := by
  unfold acopy
  by_cases h : a = 0 ∨ b = 0
  · simp [h, t_none]; intro h1 h2; omega
  · by_cases h2 : 0 ≤ i ∧ 0 ≤ j ∧ 0 ≤ n ∧ i + n ≤ M a (-1) ∧ j + n ≤ M b (-1)
    · have h3 : a ≠ 0 ∧ b ≠ 0 := by omega
      simp only [if_neg h, if_pos h2]
      exact ⟨fun q => ⟨⟨h3.1, h3.2, h2⟩, q⟩, fun q => q.2⟩
    · simp only [if_neg h, if_neg h2, t_none]
      exact ⟨fun q => q.elim, fun q => h2 q.1.2.2⟩
theorem t_retz {x : Int} {Q : Int → Prop} : Tot (retz x) Q ↔ (x = 0 ∨ x = 1) ∧ Q x := by
  unfold retz; by_cases h : x = 0 ∨ x = 1 <;> simp [h, t_none, t_some]
theorem t_retzm {x : Int} {M : Mem} {Q : Int × Mem → Prop} : Tot (retzm x M) Q ↔ (x = 0 ∨ x = 1) ∧ Q (x, M) := by
  unfold retzm; by_cases h : x = 0 ∨ x = 1 <;> simp [h, t_none, t_some]
theorem t_newo {ρ : Type} {M : Mem} {t n : Int} {k : Int → Mem → Option ρ} {Q : ρ → Prop} : Tot (newo M t n k) Q ↔ Tot (k (M 0 0 + 1) (newm M t n)) Q := Iff.rfl
theorem t_newg {ρ : Type} {M : Mem} {t u n m : Int} {k : Int → Mem → Option ρ} {Q : ρ → Prop} : Tot (newg M t u n m k) Q ↔ Tot (k (M 0 0 + 1) (newm2 M t u n m)) Q := Iff.rfl
theorem t_eq {ρ : Type} {o : Option ρ} {x : ρ} : Tot o (fun y => y = x) ↔ o = some x := by
  unfold Tot; exact ⟨fun ⟨_, h1, h2⟩ => h2 ▸ h1, fun h => ⟨x, h, rfl⟩⟩
theorem t_of {ρ : Type} {o : Option ρ} {x : ρ} {Q : ρ → Prop} (h : o = some x) (hq : Q x) : Tot o Q := ⟨x, h, hq⟩
theorem upd2_at {M : Mem} {a k v x y : Int} : upd2 M a k v x y = if x = a ∧ y = k then v else M x y := rfl
theorem copym_at {M : Mem} {a i b j n x y : Int} : copym M a i b j n x y = if x = b ∧ j ≤ y ∧ y < j + n then M a (i + (y - j)) else M x y := rfl
theorem kf_succ : KF = 199999 + 1 := rfl
theorem lpI {ρ : Type} {Q : ρ → Prop} {F : Nat → Int → Option ρ} (I : Int → Prop) (μ : Int → Nat) (step : ∀ n p, I p → (∀ p', μ p' < μ p → I p' → Tot (F n p') Q) → Tot (F (n + 1) p) Q) {n : Nat} {p : Int} (hn : μ p < n) (hi : I p) : Tot (F n p) Q := by
  have key : ∀ (d n : Nat) (p : Int), μ p ≤ d → d < n → I p → Tot (F n p) Q := by
    intro d
    induction d with
    | zero =>
      intro n p h1 h2 h3
      obtain ⟨n, rfl⟩ : ∃ m, n = m + 1 := ⟨n - 1, by omega⟩
      exact step n p h3 (fun p' h4 h5 => absurd h4 (by omega))
    | succ d ih =>
      intro n p h1 h2 h3
      obtain ⟨n, rfl⟩ : ∃ m, n = m + 1 := ⟨n - 1, by omega⟩
      exact step n p h3 (fun p' h4 h5 => ih n p' (by omega) (by omega) h5)
  exact key (μ p) n p (Nat.le_refl _) hn hi
theorem lpII {ρ : Type} {Q : ρ → Prop} {F : Nat → Int → Int → Option ρ} (I : Int → Int → Prop) (μ : Int → Int → Nat) (step : ∀ n p q, I p q → (∀ p' q', μ p' q' < μ p q → I p' q' → Tot (F n p' q') Q) → Tot (F (n + 1) p q) Q) {n : Nat} {p q : Int} (hn : μ p q < n) (hi : I p q) : Tot (F n p q) Q := by
  have key : ∀ (d n : Nat) (p : Int) (q : Int), μ p q ≤ d → d < n → I p q → Tot (F n p q) Q := by
    intro d
    induction d with
    | zero =>
      intro n p q h1 h2 h3
      obtain ⟨n, rfl⟩ : ∃ m, n = m + 1 := ⟨n - 1, by omega⟩
      exact step n p q h3 (fun p' q' h4 h5 => absurd h4 (by omega))
    | succ d ih =>
      intro n p q h1 h2 h3
      obtain ⟨n, rfl⟩ : ∃ m, n = m + 1 := ⟨n - 1, by omega⟩
      exact step n p q h3 (fun p' q' h4 h5 => ih n p' q' (by omega) (by omega) h5)
  exact key (μ p q) n p q (Nat.le_refl _) hn hi
theorem lpIII {ρ : Type} {Q : ρ → Prop} {F : Nat → Int → Int → Int → Option ρ} (I : Int → Int → Int → Prop) (μ : Int → Int → Int → Nat) (step : ∀ n p q r, I p q r → (∀ p' q' r', μ p' q' r' < μ p q r → I p' q' r' → Tot (F n p' q' r') Q) → Tot (F (n + 1) p q r) Q) {n : Nat} {p q r : Int} (hn : μ p q r < n) (hi : I p q r) : Tot (F n p q r) Q := by
  have key : ∀ (d n : Nat) (p : Int) (q : Int) (r : Int), μ p q r ≤ d → d < n → I p q r → Tot (F n p q r) Q := by
    intro d
    induction d with
    | zero =>
      intro n p q r h1 h2 h3
      obtain ⟨n, rfl⟩ : ∃ m, n = m + 1 := ⟨n - 1, by omega⟩
      exact step n p q r h3 (fun p' q' r' h4 h5 => absurd h4 (by omega))
    | succ d ih =>
      intro n p q r h1 h2 h3
      obtain ⟨n, rfl⟩ : ∃ m, n = m + 1 := ⟨n - 1, by omega⟩
      exact step n p q r h3 (fun p' q' r' h4 h5 => ih n p' q' r' (by omega) (by omega) h5)
  exact key (μ p q r) n p q r (Nat.le_refl _) hn hi
theorem lpIIII {ρ : Type} {Q : ρ → Prop} {F : Nat → Int → Int → Int → Int → Option ρ} (I : Int → Int → Int → Int → Prop) (μ : Int → Int → Int → Int → Nat) (step : ∀ n p q r s, I p q r s → (∀ p' q' r' s', μ p' q' r' s' < μ p q r s → I p' q' r' s' → Tot (F n p' q' r' s') Q) → Tot (F (n + 1) p q r s) Q) {n : Nat} {p q r s : Int} (hn : μ p q r s < n) (hi : I p q r s) : Tot (F n p q r s) Q := by
  have key : ∀ (d n : Nat) (p : Int) (q : Int) (r : Int) (s : Int), μ p q r s ≤ d → d < n → I p q r s → Tot (F n p q r s) Q := by
    intro d
    induction d with
    | zero =>
      intro n p q r s h1 h2 h3
      obtain ⟨n, rfl⟩ : ∃ m, n = m + 1 := ⟨n - 1, by omega⟩
      exact step n p q r s h3 (fun p' q' r' s' h4 h5 => absurd h4 (by omega))
    | succ d ih =>
      intro n p q r s h1 h2 h3
      obtain ⟨n, rfl⟩ : ∃ m, n = m + 1 := ⟨n - 1, by omega⟩
      exact step n p q r s h3 (fun p' q' r' s' h4 h5 => ih n p' q' r' s' (by omega) (by omega) h5)
  exact key (μ p q r s) n p q r s (Nat.le_refl _) hn hi
theorem lpIM {ρ : Type} {Q : ρ → Prop} {F : Nat → Int → Mem → Option ρ} (I : Int → Mem → Prop) (μ : Int → Mem → Nat) (step : ∀ n p N, I p N → (∀ p' N', μ p' N' < μ p N → I p' N' → Tot (F n p' N') Q) → Tot (F (n + 1) p N) Q) {n : Nat} {p : Int} {N : Mem} (hn : μ p N < n) (hi : I p N) : Tot (F n p N) Q := by
  have key : ∀ (d n : Nat) (p : Int) (N : Mem), μ p N ≤ d → d < n → I p N → Tot (F n p N) Q := by
    intro d
    induction d with
    | zero =>
      intro n p N h1 h2 h3
      obtain ⟨n, rfl⟩ : ∃ m, n = m + 1 := ⟨n - 1, by omega⟩
      exact step n p N h3 (fun p' N' h4 h5 => absurd h4 (by omega))
    | succ d ih =>
      intro n p N h1 h2 h3
      obtain ⟨n, rfl⟩ : ∃ m, n = m + 1 := ⟨n - 1, by omega⟩
      exact step n p N h3 (fun p' N' h4 h5 => ih n p' N' (by omega) (by omega) h5)
  exact key (μ p N) n p N (Nat.le_refl _) hn hi
theorem lpIIM {ρ : Type} {Q : ρ → Prop} {F : Nat → Int → Int → Mem → Option ρ} (I : Int → Int → Mem → Prop) (μ : Int → Int → Mem → Nat) (step : ∀ n p q N, I p q N → (∀ p' q' N', μ p' q' N' < μ p q N → I p' q' N' → Tot (F n p' q' N') Q) → Tot (F (n + 1) p q N) Q) {n : Nat} {p q : Int} {N : Mem} (hn : μ p q N < n) (hi : I p q N) : Tot (F n p q N) Q := by
  have key : ∀ (d n : Nat) (p : Int) (q : Int) (N : Mem), μ p q N ≤ d → d < n → I p q N → Tot (F n p q N) Q := by
    intro d
    induction d with
    | zero =>
      intro n p q N h1 h2 h3
      obtain ⟨n, rfl⟩ : ∃ m, n = m + 1 := ⟨n - 1, by omega⟩
      exact step n p q N h3 (fun p' q' N' h4 h5 => absurd h4 (by omega))
    | succ d ih =>
      intro n p q N h1 h2 h3
      obtain ⟨n, rfl⟩ : ∃ m, n = m + 1 := ⟨n - 1, by omega⟩
      exact step n p q N h3 (fun p' q' N' h4 h5 => ih n p' q' N' (by omega) (by omega) h5)
  exact key (μ p q N) n p q N (Nat.le_refl _) hn hi
theorem lpIIIM {ρ : Type} {Q : ρ → Prop} {F : Nat → Int → Int → Int → Mem → Option ρ} (I : Int → Int → Int → Mem → Prop) (μ : Int → Int → Int → Mem → Nat) (step : ∀ n p q r N, I p q r N → (∀ p' q' r' N', μ p' q' r' N' < μ p q r N → I p' q' r' N' → Tot (F n p' q' r' N') Q) → Tot (F (n + 1) p q r N) Q) {n : Nat} {p q r : Int} {N : Mem} (hn : μ p q r N < n) (hi : I p q r N) : Tot (F n p q r N) Q := by
  have key : ∀ (d n : Nat) (p : Int) (q : Int) (r : Int) (N : Mem), μ p q r N ≤ d → d < n → I p q r N → Tot (F n p q r N) Q := by
    intro d
    induction d with
    | zero =>
      intro n p q r N h1 h2 h3
      obtain ⟨n, rfl⟩ : ∃ m, n = m + 1 := ⟨n - 1, by omega⟩
      exact step n p q r N h3 (fun p' q' r' N' h4 h5 => absurd h4 (by omega))
    | succ d ih =>
      intro n p q r N h1 h2 h3
      obtain ⟨n, rfl⟩ : ∃ m, n = m + 1 := ⟨n - 1, by omega⟩
      exact step n p q r N h3 (fun p' q' r' N' h4 h5 => ih n p' q' r' N' (by omega) (by omega) h5)
  exact key (μ p q r N) n p q r N (Nat.le_refl _) hn hi
theorem lpIIIIM {ρ : Type} {Q : ρ → Prop} {F : Nat → Int → Int → Int → Int → Mem → Option ρ} (I : Int → Int → Int → Int → Mem → Prop) (μ : Int → Int → Int → Int → Mem → Nat) (step : ∀ n p q r s N, I p q r s N → (∀ p' q' r' s' N', μ p' q' r' s' N' < μ p q r s N → I p' q' r' s' N' → Tot (F n p' q' r' s' N') Q) → Tot (F (n + 1) p q r s N) Q) {n : Nat} {p q r s : Int} {N : Mem} (hn : μ p q r s N < n) (hi : I p q r s N) : Tot (F n p q r s N) Q := by
  have key : ∀ (d n : Nat) (p : Int) (q : Int) (r : Int) (s : Int) (N : Mem), μ p q r s N ≤ d → d < n → I p q r s N → Tot (F n p q r s N) Q := by
    intro d
    induction d with
    | zero =>
      intro n p q r s N h1 h2 h3
      obtain ⟨n, rfl⟩ : ∃ m, n = m + 1 := ⟨n - 1, by omega⟩
      exact step n p q r s N h3 (fun p' q' r' s' N' h4 h5 => absurd h4 (by omega))
    | succ d ih =>
      intro n p q r s N h1 h2 h3
      obtain ⟨n, rfl⟩ : ∃ m, n = m + 1 := ⟨n - 1, by omega⟩
      exact step n p q r s N h3 (fun p' q' r' s' N' h4 h5 => ih n p' q' r' s' N' (by omega) (by omega) h5)
  exact key (μ p q r s N) n p q r s N (Nat.le_refl _) hn hi
theorem lpM {ρ : Type} {Q : ρ → Prop} {F : Nat → Mem → Option ρ} (I : Mem → Prop) (μ : Mem → Nat) (step : ∀ n N, I N → (∀ N', μ N' < μ N → I N' → Tot (F n N') Q) → Tot (F (n + 1) N) Q) {n : Nat} {N : Mem} (hn : μ N < n) (hi : I N) : Tot (F n N) Q := by
  have key : ∀ (d n : Nat) (N : Mem), μ N ≤ d → d < n → I N → Tot (F n N) Q := by
    intro d
    induction d with
    | zero =>
      intro n N h1 h2 h3
      obtain ⟨n, rfl⟩ : ∃ m, n = m + 1 := ⟨n - 1, by omega⟩
      exact step n N h3 (fun N' h4 h5 => absurd h4 (by omega))
    | succ d ih =>
      intro n N h1 h2 h3
      obtain ⟨n, rfl⟩ : ∃ m, n = m + 1 := ⟨n - 1, by omega⟩
      exact step n N h3 (fun N' h4 h5 => ih n N' (by omega) (by omega) h5)
  exact key (μ N) n N (Nat.le_refl _) hn hi
theorem w32_s {x : Int} (h1 : -2147483648 ≤ x) (h2 : x ≤ 2147483647) : w32 x = x := by unfold w32; omega
theorem w64_s {x : Int} (h1 : -9223372036854775808 ≤ x) (h2 : x ≤ 9223372036854775807) : w64 x = x := by unfold w64; omega
/-- fill -/
theorem fill_i {M : Mem} {a x : Int} {Q : Mem → Prop} (ha : a ≠ 0) (h0 : 0 ≤ M a (-1)) (h1 : M a (-1) ≤ 100000) (hq : ∀ M', (∀ b j, M' b j = if b = a ∧ 0 ≤ j ∧ j < M a (-1) then x else M b j) → Q M') : Tot (f_J7_fill_53178 a x M) Q := by
  unfold f_J7_fill_53178
  rw [t_alen]
  refine ⟨ha, lpIM (fun p N => 0 ≤ p ∧ p ≤ M a (-1) ∧ ∀ b j, N b j = if b = a ∧ 0 ≤ j ∧ j < p then x else M b j) (fun p _ => (M a (-1) - p).toNat) ?_ (by unfold KF; omega) ⟨by omega, by omega, fun b j => by rw [if_neg (by omega)]⟩⟩
  rintro n p N ⟨i0, i1, i2⟩ ih
  unfold f_J7_fill_53178_L5
  rw [t_ite, t_some, t_seti]
  refine ⟨fun h => hq N (by grind), fun h => ⟨ha, i0, by grind, ?_⟩⟩
  rw [w32_s (by omega) (by omega)]
  refine ih _ _ (by omega) ⟨by grind, by grind, fun b j => ?_⟩
  simp only [upd2_at, i2]; grind
theorem fill_l {M : Mem} {a x : Int} {Q : Mem → Prop} (ha : a ≠ 0) (h0 : 0 ≤ M a (-1)) (h1 : M a (-1) ≤ 100000) (hq : ∀ M', (∀ b j, M' b j = if b = a ∧ 0 ≤ j ∧ j < M a (-1) then x else M b j) → Q M') : Tot (f_J7_fill_d0a16 a x M) Q := by
  unfold f_J7_fill_d0a16
  rw [t_alen]
  refine ⟨ha, lpIM (fun p N => 0 ≤ p ∧ p ≤ M a (-1) ∧ ∀ b j, N b j = if b = a ∧ 0 ≤ j ∧ j < p then x else M b j) (fun p _ => (M a (-1) - p).toNat) ?_ (by unfold KF; omega) ⟨by omega, by omega, fun b j => by rw [if_neg (by omega)]⟩⟩
  rintro n p N ⟨i0, i1, i2⟩ ih
  unfold f_J7_fill_d0a16_L6
  rw [t_ite, t_some, t_seti]
  refine ⟨fun h => hq N (by grind), fun h => ⟨ha, i0, by grind, ?_⟩⟩
  rw [w32_s (by omega) (by omega)]
  refine ih _ _ (by omega) ⟨by grind, by grind, fun b j => ?_⟩
  simp only [upd2_at, i2]; grind
theorem i10 {c : Prop} [Decidable c] : ((if c then (1 : Int) else 0) = 0) = ¬ c := by by_cases h : c <;> simp [h]
theorem i11 {c : Prop} [Decidable c] : ((if c then (1 : Int) else 0) = 1) = c := by by_cases h : c <;> simp [h]
theorem n10 {c : Prop} [Decidable c] : ((if c then (1 : Int) else 0) ≠ 0) = c := by by_cases h : c <;> simp [h]
