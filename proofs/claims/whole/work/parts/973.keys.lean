/-! keywords of both; names of both -/
def pR (y : Int) : Int := if y < 0 then -1 else ([0, 1, 5, 2, 6, 7, 8, 9, 10, 11, 3, 4, 12, 13, 14, 15, 16, 17, 18, 19, 20, 21, 22, 23, 27, 28, 29, 24, 25, 26] : List Int).getD y.toNat (-1)
def qR (y : Nat) : Nat := ([0, 1, 3, 10, 11, 2, 4, 5, 6, 7, 8, 9, 12, 13, 14, 15, 16, 17, 18, 19, 20, 21, 22, 23, 27, 28, 29, 24, 25, 26] : List Nat).getD y 0
theorem pR_n : ∀ y : Nat, y < 30 → 0 ≤ pR y ∧ pR y < 30 ∧ qR y < 30 ∧ pR (qR y) = y ∧ qR (pR y).toNat = y := by decide +kernel
theorem pR_i {y : Int} (h0 : 0 ≤ y) (h1 : y < 30) : 0 ≤ pR y ∧ pR y < 30 := by
  have q := pR_n y.toNat (by omega)
  rw [show ((y.toNat : Nat) : Int) = y by omega] at q
  exact ⟨q.1, q.2.1⟩
theorem pR_m : pR (-1) = -1 := rfl
theorem pR_inj {a b : Int} (a0 : -1 ≤ a) (a1 : a < 30) (b0 : -1 ≤ b) (b1 : b < 30) (h : pR a = pR b) : a = b := by
  by_cases ca : a = -1
  · by_cases cb : b = -1
    · omega
    · have := pR_i (y := b) (by omega) b1
      rw [ca, pR_m] at h; omega
  · by_cases cb : b = -1
    · have := pR_i (y := a) (by omega) a1
      rw [cb, pR_m] at h; omega
    · have qa := (pR_n a.toNat (by omega)).2.2.2.2
      have qb := (pR_n b.toNat (by omega)).2.2.2.2
      rw [show ((a.toNat : Nat) : Int) = a by omega] at qa
      rw [show ((b.toNat : Nat) : Int) = b by omega] at qb
      rw [h, qb] at qa; omega
theorem wC_n : ∀ i : Nat, i < 30 → ∀ j : Nat, j < 30 → wC i = wC j → i = j := by decide +kernel
theorem wC_inj {i j : Int} (i0 : 0 ≤ i) (i1 : i < 30) (j0 : 0 ≤ j) (j1 : j < 30) (h : wC i = wC j) : i = j := by
  have q := wC_n i.toNat (by omega) j.toNat (by omega)
  rw [show ((i.toNat : Nat) : Int) = i by omega, show ((j.toNat : Nat) : Int) = j by omega] at q
  have := q h; omega
def KwC (K : Int → Int) : Prop := ∀ k, 0 ≤ k → k < 30 → K k = wC (pR k)
theorem ky_last {K : Int → Int} {c : Int} : ∀ (m : Nat) (p y : Int), p + m = 30 → (kyS K c m p y = y ∧ ∀ k, p ≤ k → k < 30 → K k ≠ c) ∨ (p ≤ kyS K c m p y ∧ kyS K c m p y < 30 ∧ K (kyS K c m p y) = c)
  | 0, p, y, h => .inl ⟨rfl, fun k a b => by omega⟩
  | m + 1, p, y, h => by
    show (kyS K c m (p + 1) (if K p = c then p else y) = y ∧ _) ∨ (p ≤ kyS K c m (p + 1) (if K p = c then p else y) ∧ kyS K c m (p + 1) (if K p = c then p else y) < 30 ∧ K (kyS K c m (p + 1) (if K p = c then p else y)) = c)
    have q := ky_last (K := K) (c := c) m (p + 1) (if K p = c then p else y) (by omega)
    rcases q with ⟨q1, q2⟩ | ⟨q1, q2, q3⟩
    · rw [q1]
      by_cases d : K p = c
      · rw [if_pos d]; exact .inr ⟨by omega, by omega, d⟩
      · rw [if_neg d]
        refine .inl ⟨rfl, fun k a b => ?_⟩
        by_cases g : k = p
        · rw [g]; exact d
        · exact q2 k (by omega) b
    · exact .inr ⟨by omega, q2, q3⟩
theorem kyO_c {K : Int → Int} {c : Int} (hc : c ≠ 0) : (kyO K c = -1 ∧ ∀ k, 0 ≤ k → k < 30 → K k ≠ c) ∨ (0 ≤ kyO K c ∧ kyO K c < 30 ∧ K (kyO K c) = c) := by
  unfold kyO; rw [if_neg hc]; exact ky_last _ _ _ (by omega)
theorem kyO_r {K : Int → Int} {c : Int} : -1 ≤ kyO K c ∧ kyO K c < 30 := by
  by_cases h : c = 0
  · unfold kyO; rw [if_pos h]; omega
  · rcases kyO_c (K := K) h with ⟨q, _⟩ | ⟨q1, q2, _⟩ <;> omega
theorem kyO_hit {K : Int → Int} {c i : Int} (hK : KwC K) (i0 : 0 ≤ i) (i1 : i < 30) (h : c = wC i) (hc : c ≠ 0) : pR (kyO K c) = i := by
  have q := pR_n i.toNat (by omega)
  rcases kyO_c (K := K) hc with ⟨q1, q2⟩ | ⟨q1, q2, q3⟩
  · refine absurd ?_ (q2 ((qR i.toNat : Nat) : Int) (by omega) (by omega))
    rw [hK _ (by omega) (by omega), q.2.2.2.1, h]; congr 1; omega
  · rw [hK _ q1 q2] at q3
    have r := pR_i q1 q2
    exact wC_inj r.1 r.2 i0 i1 (q3.trans h)
theorem kyO_miss {K : Int → Int} {c : Int} (hK : KwC K) (h : ∀ i, 0 ≤ i → i < 30 → c ≠ wC i) : kyO K c = -1 := by
  by_cases hc : c = 0
  · unfold kyO; rw [if_pos hc]
  rcases kyO_c (K := K) hc with ⟨q1, q2⟩ | ⟨q1, q2, q3⟩
  · exact q1
  · rw [hK _ q1 q2] at q3
    have r := pR_i q1 q2
    exact absurd q3.symm (h _ r.1 r.2)
theorem tkY_r {B K : Int → Int} {n s : Int} : -1 ≤ tkY B K n s ∧ tkY B K n s < 30 := by
  unfold tkY
  by_cases c : s < n ∧ 97 ≤ B s ∧ B s ≤ 122
  · rw [if_pos c]; exact kyO_r
  · rw [if_neg c]; omega
theorem tk_w {B : Int → Int} {n s : Int} : tkK B n s = 1 ↔ (s < n ∧ 97 ≤ B s ∧ B s ≤ 122) := by
  by_cases c : n ≤ s
  · rw [(tk_0 (K := B) c).2.1]; omega
  by_cases w : 97 ≤ B s ∧ B s ≤ 122
  · rw [(tk_1 (K := B) (by omega) w).2.1]; omega
  by_cases d : 48 ≤ B s ∧ B s ≤ 57
  · rw [(tk_2 (K := B) (by omega) d).2.1]
    refine ⟨fun q => ?_, fun q => by omega⟩
    by_cases g : rnE (rgB 48 57) B n s - s ≤ 4
    · rw [if_pos g] at q; omega
    · rw [if_neg g] at q; omega
  · rw [(tk_3 (K := B) (by omega) w d).2.1]
    refine ⟨fun q => ?_, fun q => by omega⟩
    by_cases g : B s = 59 ∨ B s = 60 ∨ B s = 61 ∨ B s = 62
    · rw [if_pos g] at q; omega
    · rw [if_neg g] at q; omega
theorem tk_r {B : Int → Int} {n s : Int} : 0 ≤ tkK B n s ∧ tkK B n s ≤ 4 := by
  by_cases c : n ≤ s
  · rw [(tk_0 (K := B) c).2.1]; omega
  by_cases w : 97 ≤ B s ∧ B s ≤ 122
  · rw [(tk_1 (K := B) (by omega) w).2.1]; omega
  by_cases d : 48 ≤ B s ∧ B s ≤ 57
  · rw [(tk_2 (K := B) (by omega) d).2.1]
    by_cases g : rnE (rgB 48 57) B n s - s ≤ 4
    · rw [if_pos g]; omega
    · rw [if_neg g]; omega
  · rw [(tk_3 (K := B) (by omega) w d).2.1]
    by_cases g : B s = 59 ∨ B s = 60 ∨ B s = 61 ∨ B s = 62
    · rw [if_pos g]; omega
    · rw [if_neg g]; omega
theorem kR_2 {k : Int} (h0 : 0 ≤ k) (h1 : k ≤ 4) : (kR k = 2 ↔ k = 1) ∧ (kR k = 1 ↔ k = 4) ∧ (kR k = 3 ↔ k = 2) ∧ (kR k = 4 ↔ k = 3) ∧ (kR k = 0 ↔ k = 0) := by
  unfold kR
  by_cases c : k = 4
  · rw [if_pos c]; omega
  by_cases d : k = 0
  · rw [if_neg c, if_pos d]; omega
  · rw [if_neg c, if_neg d]; omega
/-- the letters of a word -/
theorem tk_l {B : Int → Int} {n s : Int} (h : tkK B n s = 1) : s < tkE B n s ∧ tkE B n s ≤ n ∧ ∀ j, s ≤ j → j < tkE B n s → 97 ≤ B j ∧ B j ≤ 122 := by
  obtain ⟨h1, h2⟩ := tk_w.mp h
  obtain ⟨t1, _⟩ := tk_1 (K := B) h1 h2
  obtain ⟨r1, r2, r3, r4⟩ := rn_b (C := rgB 97 122) (B := B) (n := n) (p := s) (by omega)
  rw [← t1] at r1 r2 r3 r4
  have : s < tkE B n s := by
    by_cases c : tkE B n s = s
    · have := r4 (by omega)
      rw [c, rg_t] at this; omega
    · omega
  exact ⟨this, r2, fun j a b => rg_t.mp (r3 j a b)⟩
theorem inWords_e {M : Mem} {B K : Int → Int} {n s : Int} (h : TxR M B n) (ht : TkR M B n s) (s0 : 0 ≤ s) (hK : KwC K) : Tot (f_X12_inWords 119 (-2) M) (fun u => u = pR (tkY B K n s)) := by
  obtain ⟨t1, t2, t3, _, _⟩ := ht
  have kr := kR_2 (k := tkK B n s) tk_r.1 tk_r.2
  unfold f_X12_inWords
  rw [t_getf, t3, t_ite]
  refine ⟨by omega, fun c => ?_, fun c => ?_⟩
  · have k1 := kr.1.mp c
    obtain ⟨l1, l2, l3⟩ := tk_l k1
    refine t_mono (inW_L h t1 t2 s0 l1 l2 l3) (fun u hu => ?_)
    obtain ⟨w1, w2⟩ := tk_w.mp k1
    obtain ⟨_, _, e3, e4⟩ := tk_1 (K := K) w1 w2
    rw [e4, e3]
    unfold nmO
    rcases hu with ⟨u1, u2⟩ | ⟨u1, u2, u3⟩
    · rw [u1]
      by_cases g : tkE B n s - s ≤ 8
      · rw [if_pos g, kyO_miss hK u2]; rfl
      · rw [if_neg g]; rfl
    · obtain ⟨q1, q2, q3, q4, q5, q6⟩ := ws_i u1 u2
      have lB : ltrs B s (tkE B n s - s).toNat := fun j a b => l3 j a (by omega)
      have lS : ltrs S2 (wS u) (wS (u + 1) - 1 - wS u).toNat := fun j a b => q6 j a (by omega)
      have r1 := (nm_inj _ _ lB lS u3).1
      rw [if_pos (by omega)]
      refine (kyO_hit hK u1 u2 u3 (fun z => ?_)).symm
      have := nm_inj (p := s) (q := s) (S := B) _ 0 lB (fun j a b => by omega) z
      omega
  · rw [t_some]
    have : ¬ tkK B n s = 1 := fun z => c (kr.1.mpr z)
    rw [tk_w] at this
    unfold tkY; rw [if_neg this]; rfl
/-! names -/
def rmS (B : Int → Int) : Nat → Int → Int → Int
  | 0, _, a => a
  | k + 1, p, a => rmS B k (p + 1) (a * 256 + B p)
theorem rm_s {B : Int → Int} {e p a : Int} (h : p < e) : rmS B (e - p).toNat p a = rmS B (e - (p + 1)).toNat (p + 1) (a * 256 + B p) := by rw [show (e - p).toNat = (e - (p + 1)).toNat + 1 by omega]; rfl
theorem rm_n {B : Int → Int} {e p a : Int} (h : e ≤ p) : rmS B (e - p).toNat p a = a := by rw [show (e - p).toNat = 0 by omega]; rfl
theorem rm_snoc {B : Int → Int} : ∀ (k : Nat) (p a : Int), rmS B (k + 1) p a = rmS B k p a * 256 + B (p + k)
  | 0, p, a => by
    show rmS B 0 (p + 1) (a * 256 + B p) = a * 256 + B (p + ((0 : Nat) : Int))
    rw [show p + ((0 : Nat) : Int) = p by omega]; rfl
  | k + 1, p, a => by
    show rmS B (k + 1) (p + 1) (a * 256 + B p) = rmS B k (p + 1) (a * 256 + B p) * 256 + B (p + ((k + 1 : Nat) : Int))
    rw [rm_snoc k, show p + 1 + ((k : Nat) : Int) = p + ((k + 1 : Nat) : Int) by omega]
def ucN : Nat → Int → Int
  | 0, _ => 0
  | k + 1, r => if r = 0 then 0 else ucN k (r / 256) * 32 + (r % 256 - 96)
def cvN : Nat → Int → Int
  | 0, _ => 0
  | k + 1, c => if c = 0 then 0 else cvN k (c / 32) * 256 + (c % 32 + 96)
theorem uc_s {k : Nat} {r : Int} (h : r ≠ 0) : ucN (k + 1) r = ucN k (r / 256) * 32 + (r % 256 - 96) := if_neg h
theorem cv_s {k : Nat} {r : Int} (h : r ≠ 0) : cvN (k + 1) r = cvN k (r / 32) * 256 + (r % 32 + 96) := if_neg h
/-- one name, as the class and as the reference write it -/
def NmR (c r : Int) : Prop := ucN 8 r = c ∧ cvN 8 c = r
theorem nmr_iff {c r c' r' : Int} (h : NmR c r) (h' : NmR c' r') : c = c' ↔ r = r' := by
  obtain ⟨a, b⟩ := h
  obtain ⟨a', b'⟩ := h'
  exact ⟨fun e => by rw [← b, ← b', e], fun e => by rw [← a, ← a', e]⟩
theorem nmr_k {B : Int → Int} {p : Int} : ∀ (k : Nat), ltrs B p k → 0 ≤ rmS B k p 0 ∧ ∀ m, k ≤ m → ucN m (rmS B k p 0) = nmS B k p 0 ∧ cvN m (nmS B k p 0) = rmS B k p 0
  | 0, _ => ⟨Int.le_refl _, fun m _ => by
    show ucN m 0 = 0 ∧ cvN m 0 = 0
    cases m
    · exact ⟨rfl, rfl⟩
    · exact ⟨if_pos rfl, if_pos rfl⟩⟩
  | k + 1, h => by
    obtain ⟨h1, h2⟩ := ltrs_s h
    obtain ⟨r0, r1⟩ := nmr_k k h1
    have n0 := nm_nn k h1
    rw [rm_snoc, nm_snoc]
    refine ⟨by omega, fun m hm => ?_⟩
    obtain ⟨m, rfl⟩ : ∃ q, m = q + 1 := ⟨m - 1, by omega⟩
    obtain ⟨q1, q2⟩ := r1 m (by omega)
    rw [uc_s (by omega), cv_s (by omega)]
    rw [show (rmS B k p 0 * 256 + B (p + k)) / 256 = rmS B k p 0 by omega, show (rmS B k p 0 * 256 + B (p + k)) % 256 = B (p + k) by omega, show (nmS B k p 0 * 32 + (B (p + k) - 96)) / 32 = nmS B k p 0 by omega, show (nmS B k p 0 * 32 + (B (p + k) - 96)) % 32 = B (p + k) - 96 by omega, q1, q2]
    exact ⟨rfl, by omega⟩
theorem nmr_t {B : Int → Int} {n s : Int} (h : tkK B n s = 1) (h8 : tkE B n s - s ≤ 8) : NmR (tkN B n s) (rmS B (tkE B n s - s).toNat s 0) := by
  obtain ⟨l1, l2, l3⟩ := tk_l h
  obtain ⟨w1, w2⟩ := tk_w.mp h
  obtain ⟨_, _, e3, e4⟩ := tk_1 (K := B) w1 w2
  rw [e3]; unfold nmO; rw [if_pos h8]
  exact (nmr_k (B := B) (p := s) (tkE B n s - s).toNat (fun j a b => l3 j a (by omega))).2 8 (by omega)
theorem tkN_0 {B : Int → Int} {n s : Int} (h : tkK B n s = 1) : tkN B n s ≠ 0 ↔ tkE B n s - s ≤ 8 := by
  obtain ⟨l1, l2, l3⟩ := tk_l h
  obtain ⟨w1, w2⟩ := tk_w.mp h
  obtain ⟨_, _, e3, e4⟩ := tk_1 (K := B) w1 w2
  rw [e3]; unfold nmO
  by_cases g : tkE B n s - s ≤ 8
  · rw [if_pos g]
    refine ⟨fun _ => g, fun _ z => ?_⟩
    have := nm_inj (p := s) (q := s) (S := B) _ 0 (fun j a b => l3 j a (by omega)) (fun j a b => by omega) z
    omega
  · rw [if_neg g]; exact ⟨fun z => absurd rfl z, fun z => absurd z g⟩
