/-! names, looked up -/
theorem lor256 {v b : Int} (v0 : 0 ≤ v) (v1 : v < 36028797018963968) (b0 : 0 ≤ b) (b1 : b < 256) : lorv (lshlv v 8) b = v * 256 + b := by
  obtain ⟨x, rfl⟩ : ∃ x : Nat, v = x := ⟨v.toNat, by omega⟩
  obtain ⟨y, rfl⟩ : ∃ y : Nat, b = y := ⟨b.toNat, by omega⟩
  have key : (((Int32.ofInt 8).toInt64 &&& 63).toBitVec.smod 64) = 8#64 := by decide +kernel
  have hx : (Int64.ofInt (x : Int)).toBitVec = BitVec.ofNat 64 x := by
    show BitVec.ofInt 64 (x : Int) = _
    exact BitVec.ofInt_natCast _ _
  have hy : (Int64.ofInt (y : Int)).toBitVec = BitVec.ofNat 64 y := by
    show BitVec.ofInt 64 (y : Int) = _
    exact BitVec.ofInt_natCast _ _
  unfold lorv lshlv
  rw [Int64.ofInt_toInt]
  show ((Int64.ofInt (x : Int) <<< ((Int32.ofInt 8).toInt64 &&& 63)).toBitVec ||| (Int64.ofInt (y : Int)).toBitVec).toInt = _
  rw [Int64.toBitVec_shiftLeft, key, hx, hy]
  have t : (BitVec.ofNat 64 x <<< 8#64 ||| BitVec.ofNat 64 y).toNat = x * 256 + y := by
    rw [BitVec.toNat_or]
    have e1 : (BitVec.ofNat 64 x <<< 8#64).toNat = x <<< 8 := by
      show (BitVec.ofNat 64 x <<< (8 : Nat)).toNat = _
      rw [BitVec.toNat_shiftLeft, BitVec.toNat_ofNat, Nat.mod_eq_of_lt (a := x) (by omega), Nat.shiftLeft_eq, Nat.mod_eq_of_lt (by omega)]
    rw [e1, BitVec.toNat_ofNat, Nat.mod_eq_of_lt (a := y) (by omega), ← Nat.shiftLeft_add_eq_or_of_lt (by omega), Nat.shiftLeft_eq]
  rw [BitVec.toInt_eq_toNat_of_lt (by rw [t]; omega), t]; omega
def nbr (p s a : Int) : Prop := (p = s ∧ a < 1) ∨ (p = s + 1 ∧ a < 123) ∨ (p = s + 2 ∧ a < 31488) ∨ (p = s + 3 ∧ a < 8060928) ∨ (p = s + 4 ∧ a < 2063597568) ∨ (p = s + 5 ∧ a < 528280977408) ∨ (p = s + 6 ∧ a < 135239930216448) ∨ (p = s + 7 ∧ a < 34621422135410688) ∨ p = s + 8
theorem nameHere_e {M : Mem} {B : Int → Int} {n s : Int} (h : TxR M B n) (ht : TkR M B n s) (s0 : 0 ≤ s) (k1 : tkK B n s = 1) (h8 : tkE B n s - s ≤ 8) : Tot (f_X12_nameHere 119 M) (fun u => u = rmS B (tkE B n s - s).toNat s 0) := by
  obtain ⟨t1, t2, _, _, _⟩ := ht
  obtain ⟨l1, l2, l3⟩ := tk_l k1
  have hn : n ≤ 900 := h.1.2.2.2
  generalize tkE B n s = e at *
  unfold f_X12_nameHere
  rw [t_getf, t1]
  refine ⟨by omega, ?_⟩
  refine lpII (fun a p => s ≤ p ∧ p ≤ e ∧ 0 ≤ a ∧ nbr p s a ∧ rmS B (e - p).toNat p a = rmS B (e - s).toNat s 0) (fun _ p => (e - p).toNat) ?_ (by unfold KF; omega) ⟨by omega, by omega, by omega, by unfold nbr; omega, rfl⟩
  rintro fu a p ⟨i0, i1, i2, i3, i4⟩ ih
  unfold f_X12_nameHere_L7
  rw [t_getf, t2, t_ite]
  refine ⟨by omega, fun c => ?_, fun c => ?_⟩
  · rw [t_some, ← i4, rm_n c]
  rw [t_callp]
  refine t_mono (byte_e h (by omega)) (fun y hy => ?_)
  have lb := l3 p i0 (by omega)
  rw [b8_i (by omega)] at hy
  have hy2 : y = B p := by omega
  have b55 : a < 36028797018963968 := by unfold nbr at i3; omega
  rw [t_letv, lor256 i2 b55 (by omega) (by omega), w32_s (by omega) (by omega), hy2]
  refine ih _ _ (by omega) ⟨by omega, by omega, by omega, by unfold nbr at i3 ⊢; omega, ?_⟩
  rw [← i4, rm_s (p := p) (by omega)]
def fdS (g : Int → Int) (c : Int) : Nat → Int → Int
  | 0, _ => -1
  | m + 1, p => if g p = c then p else fdS g c m (p + 1)
def fdO (g : Int → Int) (n c : Int) : Int := fdS g c n.toNat 0
theorem fdS_s {g : Int → Int} {c n p : Int} (h : p < n) : fdS g c (n - p).toNat p = if g p = c then p else fdS g c (n - (p + 1)).toNat (p + 1) := by rw [show (n - p).toNat = (n - (p + 1)).toNat + 1 by omega]; rfl
theorem fdS_n {g : Int → Int} {c n p : Int} (h : n ≤ p) : fdS g c (n - p).toNat p = -1 := by rw [show (n - p).toNat = 0 by omega]; rfl
theorem fdO_e {g : Int → Int} {c n : Int} : fdO g n c = fdS g c (n - 0).toNat 0 := by unfold fdO; rw [Int.sub_zero]
theorem fdS_b {g : Int → Int} {c : Int} : ∀ (m : Nat) (p : Int), (fdS g c m p = -1 ∧ ∀ k, p ≤ k → k < p + m → g k ≠ c) ∨ (p ≤ fdS g c m p ∧ fdS g c m p < p + m ∧ g (fdS g c m p) = c)
  | 0, p => .inl ⟨rfl, fun k a b => by omega⟩
  | m + 1, p => by
    show ((if g p = c then p else fdS g c m (p + 1)) = -1 ∧ _) ∨ (p ≤ (if g p = c then p else fdS g c m (p + 1)) ∧ (if g p = c then p else fdS g c m (p + 1)) < p + ((m + 1 : Nat) : Int) ∧ g (if g p = c then p else fdS g c m (p + 1)) = c)
    by_cases d : g p = c
    · rw [if_pos d]; exact .inr ⟨by omega, by omega, d⟩
    · rw [if_neg d]
      rcases fdS_b (g := g) (c := c) m (p + 1) with ⟨q1, q2⟩ | ⟨q1, q2, q3⟩
      · refine .inl ⟨q1, fun k a b => ?_⟩
        by_cases e : k = p
        · rw [e]; exact d
        · exact q2 k (by omega) (by omega)
      · exact .inr ⟨by omega, by omega, q3⟩
theorem fdO_b {g : Int → Int} {c n : Int} (hn : 0 ≤ n) : (fdO g n c = -1 ∧ ∀ k, 0 ≤ k → k < n → g k ≠ c) ∨ (0 ≤ fdO g n c ∧ fdO g n c < n ∧ g (fdO g n c) = c) := by
  rcases fdS_b (g := g) (c := c) n.toNat 0 with ⟨q1, q2⟩ | ⟨q1, q2, q3⟩
  · exact .inl ⟨q1, fun k a b => q2 k a (by omega)⟩
  · exact .inr ⟨q1, by unfold fdO; omega, q3⟩
theorem fdS_congr {g f : Int → Int} {c : Int} : ∀ (m : Nat) (p : Int), (∀ k, p ≤ k → k < p + m → g k = f k) → fdS g c m p = fdS f c m p
  | 0, _, _ => rfl
  | m + 1, p, h => by
    show (if g p = c then p else fdS g c m (p + 1)) = (if f p = c then p else fdS f c m (p + 1))
    rw [h p (by omega) (by omega), fdS_congr m (p + 1) (fun k a b => h k (by omega) (by omega))]
theorem fdO_congr {g f : Int → Int} {c n : Int} (h : ∀ k, 0 ≤ k → k < n → g k = f k) : fdO g n c = fdO f n c := fdS_congr _ _ (fun k a b => h k a (by omega))
theorem findHere_e {M : Mem} {B g : Int → Int} {n s b m : Int} (h : TxR M B n) (ht : TkR M B n s) (s0 : 0 ≤ s) (k1 : tkK B n s = 1) (h8 : tkE B n s - s ≤ 8) (hp : M 119 1 = 121) (hl : M 121 (-1) = 140) (b0 : 0 ≤ b) (m0 : 0 ≤ m) (bm : b + m ≤ 140) (hg : ∀ k, 0 ≤ k → k < m → NmR (g k) (M 121 (b + k))) : Tot (f_X12_findHere 119 b m M) (fun u => u = fdO g m (tkN B n s)) := by
  have nr := nmr_t k1 h8
  unfold f_X12_findHere
  refine lpI (fun p => 0 ≤ p ∧ p ≤ m ∧ fdS g (tkN B n s) (m - p).toNat p = fdO g m (tkN B n s)) (fun p => (m - p).toNat) ?_ (by unfold KF; omega) ⟨by omega, by omega, by rw [fdO_e]⟩
  rintro fu p ⟨i0, i1, i2⟩ ih
  unfold f_X12_findHere_L2
  rw [t_ite]
  refine ⟨fun c => ?_, fun c => ?_⟩
  · rw [t_some, ← i2, fdS_n c]
  rw [t_getf, hp, t_geti, hl, w32_s (x := b + p) (by omega) (by omega), t_callp]
  refine ⟨by omega, by omega, by omega, by omega, t_mono (nameHere_e h ht s0 k1 h8) (fun u hu => ?_)⟩
  have q := nmr_iff (hg p i0 (by omega)) nr
  rw [fdS_s (by omega)] at i2
  rw [t_ite, w32_s (by omega) (by omega)]
  refine ⟨fun d => ?_, fun d => ?_⟩
  · rw [if_neg (fun z => d (by rw [hu]; exact q.mp z))] at i2
    exact ih _ (by omega) ⟨by omega, by omega, i2⟩
  · rw [if_pos (q.mpr (by rw [← hu]; omega))] at i2
    rw [t_some]; exact i2
theorem isName_e {M : Mem} {B K : Int → Int} {n s : Int} (h : TxR M B n) (ht : TkR M B n s) (s0 : 0 ≤ s) (sn : s ≤ n) (hK : KwC K) : Tot (f_X12_isName 119 (-2) M) (fun u => u = if tkK B n s = 1 ∧ tkY B K n s = -1 ∧ tkN B n s ≠ 0 then 1 else 0) := by
  have hn : n ≤ 900 := h.1.2.2.2
  have ht' := ht
  obtain ⟨t1, t2, t3, _, _⟩ := ht
  have kr := kR_2 (k := tkK B n s) tk_r.1 tk_r.2
  unfold f_X12_isName
  rw [t_getf, t3]
  refine ⟨by omega, ?_⟩
  refine t_jq (fun J : Int → Option Int => ∀ v, (v = 0 ∨ v = 1) → Tot (J v) (fun u => u = v)) (fun v hv => ?_) (fun J hJ => ?_)
  · unfold retz
    rcases hv with hv | hv <;> subst hv <;> simp [Tot]
  refine t_jq (fun K2 : Option Int => Tot K2 (fun u => u = 0)) (hJ 0 (by omega)) (fun K2 hK2 => ?_)
  rw [t_ite]
  refine ⟨fun a => ?_, fun a => ?_⟩
  · rw [if_neg (fun z => a (kr.1.mpr z.1))]; exact hK2
  have k1 : tkK B n s = 1 := kr.1.mp (by omega)
  obtain ⟨l1, l2, l3⟩ := tk_l k1
  have n0 := tkN_0 k1
  rw [t_getf, t2, t_getf, t1, t_ite, w32_s (by omega) (by omega)]
  refine ⟨by omega, by omega, fun b => ?_, fun b => ?_⟩
  · rw [if_neg (fun z => by have := n0.mp z.2.2; omega)]; exact hK2
  rw [t_callp]
  refine t_mono (inWords_e h ht' s0 hK) (fun u hu => ?_)
  have yr := tkY_r (B := B) (K := K) (n := n) (s := s)
  rw [t_ite]
  refine ⟨fun c => ?_, fun c => ?_⟩
  · rw [if_neg (fun z => c (by rw [hu, z.2.1]; rfl))]; exact hK2
  · rw [if_pos ⟨k1, pR_inj yr.1 yr.2 (by omega) (by omega) (by rw [← hu]; exact Classical.not_not.mp c), n0.mpr (by omega)⟩]
    exact hJ 1 (by omega)
/-! the class -/
theorem find_e {M : Mem} {a m c : Int} (a0 : a ≠ 0) (m0 : 0 ≤ m) (ml : m ≤ M a (-1)) (m1 : m ≤ 1000) : Tot (f_X8_find a m c M) (fun u => u = fdO (M a) m c) := by
  unfold f_X8_find
  refine lpI (fun p => 0 ≤ p ∧ p ≤ m ∧ fdS (M a) c (m - p).toNat p = fdO (M a) m c) (fun p => (m - p).toNat) ?_ (by unfold KF; omega) ⟨by omega, by omega, by rw [fdO_e]⟩
  rintro fu p ⟨i0, i1, i2⟩ ih
  unfold f_X8_find_L3
  rw [t_ite]
  refine ⟨fun c => ?_, fun c => ?_⟩
  · rw [t_some, ← i2, fdS_n c]
  rw [t_alen, t_ite]
  refine ⟨a0, fun d => by omega, fun _ => ?_⟩
  rw [fdS_s (by omega)] at i2
  rw [t_geti, t_ite, w32_s (by omega) (by omega)]
  refine ⟨a0, i0, by omega, fun d => ?_, fun d => ?_⟩
  · rw [if_neg d] at i2
    exact ih _ (by omega) ⟨by omega, by omega, i2⟩
  · rw [if_pos (Classical.not_not.mp d)] at i2
    rw [t_some]; exact i2
