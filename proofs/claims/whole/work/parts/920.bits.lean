/-! bits -/
def bitv (v r : Int) : Bool := (Int32.ofInt v).toBitVec.getLsbD r.toNat
theorem and1 (y : BitVec 32) : ((y &&& 1#32).toInt = 1) ↔ y.getLsbD 0 = true := by
  rw [BitVec.and_one_eq_setWidth_ofBool_getLsbD]
  cases y.getLsbD 0 <;> decide
theorem bt_bit {v r : Int} (h0 : 0 ≤ r) (h1 : r < 10) : bt v r ↔ bitv v r = true := by
  obtain ⟨n, rfl⟩ : ∃ n : Fin 10, r = (n.val : Int) := ⟨⟨r.toNat, by omega⟩, by simp; omega⟩
  have key : ∀ n : Fin 10, ((Int32.ofInt (n.val : Int) &&& 31).toBitVec.smod 32).toNat = n.val := by decide +kernel
  show iandv (ishrv v (n.val : Int)) 1 = 1 ↔ _
  unfold iandv ishrv bitv
  rw [Int32.ofInt_toInt]
  show ((Int32.ofInt v >>> (Int32.ofInt (n.val : Int) &&& 31)).toBitVec &&& 1#32).toInt = 1 ↔ _
  rw [and1, Int32.toBitVec_shiftRight]
  show ((Int32.ofInt v).toBitVec.sshiftRight ((Int32.ofInt (n.val : Int) &&& 31).toBitVec.smod 32).toNat).getLsbD 0 = true ↔ _
  rw [key, BitVec.getLsbD_sshiftRight]
  have := n.isLt
  simp
  intro h; omega
theorem bit_or (a b s : Int) : bitv (iorv a b) s = (bitv a s || bitv b s) := by
  unfold bitv iorv
  rw [Int32.ofInt_toInt, Int32.toBitVec_or, BitVec.getLsbD_or]
theorem bit_shl {r s : Int} (h0 : 0 ≤ r) (h1 : r < 10) (h2 : 0 ≤ s) (h3 : s < 10) : bitv (ishlv 1 r) s = decide (s = r) := by
  obtain ⟨n, rfl⟩ : ∃ n : Fin 10, r = (n.val : Int) := ⟨⟨r.toNat, by omega⟩, by simp; omega⟩
  obtain ⟨m, rfl⟩ : ∃ n : Fin 10, s = (n.val : Int) := ⟨⟨s.toNat, by omega⟩, by simp; omega⟩
  have key : ∀ n m : Fin 10, bitv (ishlv 1 (n.val : Int)) (m.val : Int) = decide ((m.val : Int) = (n.val : Int)) := by decide +kernel
  exact key n m
theorem bt_0 {s : Int} (h0 : 0 ≤ s) (h1 : s < 10) : ¬ bt 0 s := by
  rw [bt_bit h0 h1]; unfold bitv
  rw [show Int32.ofInt 0 = 0 from rfl]; simp
theorem bt_m1 {s : Int} (h0 : 0 ≤ s) (h1 : s < 10) : bt (-1) s := by
  obtain ⟨n, rfl⟩ : ∃ n : Fin 10, s = (n.val : Int) := ⟨⟨s.toNat, by omega⟩, by simp; omega⟩
  have key : ∀ n : Fin 10, bt (-1) (n.val : Int) := by decide +kernel
  exact key n
theorem bt_or {o r s : Int} (h0 : 0 ≤ r) (h1 : r < 10) (h2 : 0 ≤ s) (h3 : s < 10) : bt (iorv o (ishlv 1 r)) s ↔ bt o s ∨ s = r := by
  rw [bt_bit h2 h3, bt_bit h2 h3, bit_or, bit_shl h0 h1 h2 h3]; simp
theorem bt_1 {r s : Int} (h0 : 0 ≤ r) (h1 : r < 10) (h2 : 0 ≤ s) (h3 : s < 10) : bt (ishlv 1 r) s ↔ s = r := by
  rw [bt_bit h2 h3, bit_shl h0 h1 h2 h3]; simp
theorem bt_or0 {o s : Int} (h2 : 0 ≤ s) (h3 : s < 10) : bt (iorv o 0) s ↔ bt o s := by
  rw [bt_bit h2 h3, bt_bit h2 h3, bit_or]
  have : bitv 0 s = false := by
    have := bt_0 h2 h3
    rw [bt_bit h2 h3] at this; simpa using this
  rw [this]; simp
theorem and1_01 (x : Int) : iandv x 1 = 0 ∨ iandv x 1 = 1 := by
  unfold iandv
  show ((Int32.ofInt x).toBitVec &&& 1#32).toInt = 0 ∨ ((Int32.ofInt x).toBitVec &&& 1#32).toInt = 1
  rw [BitVec.and_one_eq_setWidth_ofBool_getLsbD]
  cases (Int32.ofInt x).toBitVec.getLsbD 0 <;> decide
theorem nbt {v r : Int} (h : ¬ bt v r) : iandv (ishrv v r) 1 = 0 := by
  rcases and1_01 (ishrv v r) with q | q
  · exact q
  · exact absurd q h
theorem shl_0 {f : Int} (h0 : 0 ≤ f) (h1 : f < 10) : ishlv 0 f = 0 := by
  obtain ⟨n, rfl⟩ : ∃ n : Fin 10, f = (n.val : Int) := ⟨⟨f.toNat, by omega⟩, by simp; omega⟩
  have key : ∀ n : Fin 10, ishlv 0 (n.val : Int) = 0 := by decide +kernel
  exact key n
/-- the set of those k < n with p k -/
def setZ (p : Int → Prop) [DecidablePred p] (n : Int) : Int := foldZ (fun k x => iorv x (if p k then ishlv 1 k else 0)) 0 n
theorem setZ_s (p : Int → Prop) [DecidablePred p] {k : Int} (h : 0 ≤ k) : setZ p (k + 1) = iorv (setZ p k) (if p k then ishlv 1 k else 0) := foldZ_s _ _ h
theorem setZ_congr {p q : Int → Prop} [DecidablePred p] [DecidablePred q] {n : Int} (h : ∀ k, 0 ≤ k → k < n → (p k ↔ q k)) : setZ p n = setZ q n :=
  foldZ_congr (fun k x h0 h1 => by simp only [h k h0 h1])
theorem bt_setZ {p : Int → Prop} [DecidablePred p] {n : Int} (hn : n ≤ 10) (h0 : 0 ≤ n) {s : Int} (s0 : 0 ≤ s) (s1 : s < 10) : bt (setZ p n) s ↔ s < n ∧ p s := by
  have := foldZ_inv (f := fun k (x : Int) => iorv x (if p k then ishlv 1 k else 0)) (a := 0) (fun q (x : Int) => 0 ≤ q ∧ (bt x s ↔ s < q ∧ p s)) ⟨by omega, by
    constructor
    · intro h; exact absurd h (bt_0 s0 s1)
    · intro h; omega⟩ (n := n) (fun k x hk hk1 hx => ⟨by omega, by
      by_cases c : p k
      · rw [if_pos c, bt_or hk (by omega) s0 s1, hx.2]
        constructor
        · rintro (q | q)
          · exact ⟨by omega, q.2⟩
          · rw [q]; exact ⟨by omega, c⟩
        · rintro ⟨q1, q2⟩
          by_cases e : s = k
          · exact .inr e
          · exact .inl ⟨by omega, q2⟩
      · rw [if_neg c, bt_or0 s0 s1, hx.2]
        constructor
        · rintro ⟨q1, q2⟩; exact ⟨by omega, q2⟩
        · rintro ⟨q1, q2⟩
          by_cases e : s = k
          · subst e; exact absurd q2 c
          · exact ⟨by omega, q2⟩⟩) h0 (Int.le_refl _)
  exact this.2
/-! the way up -/
def chF (w : Int → Int) : Nat → Int → List Int
  | 0, _ => []
  | n + 1, r => if r < 0 then [] else r :: chF w n (rc w r 0)
def ch (w : Int → Int) (r : Int) : List Int := chF w 12 r
theorem chF_u {w : Int → Int} (hr : WFr w) : ∀ (n : Nat) (r : Int), r < n → r < w 3 → chF w n r = chF w (n + 1) r := by
  intro n
  induction n with
  | zero => intro r h1 h2; simp [chF, show r < 0 by omega]
  | succ n ih =>
    intro r h1 h2
    by_cases c : r < 0
    · simp [chF, c]
    · have q := hr r (by omega) h2
      have := ih (rc w r 0) (by omega) (by omega)
      show (if r < 0 then [] else r :: chF w n (rc w r 0)) = (if r < 0 then [] else r :: chF w (n + 1) (rc w r 0))
      rw [this]
theorem ch_neg (w : Int → Int) : ch w (-1) = [] := rfl
theorem ch_s {w : Int → Int} (hr : WFr w) (hn : w 3 ≤ 10) {r : Int} (h0 : 0 ≤ r) (h1 : r < w 3) : ch w r = r :: ch w (rc w r 0) := by
  have q := hr r h0 h1
  have e := chF_u hr 11 (rc w r 0) (by omega) (by omega)
  show (if r < 0 then [] else r :: chF w 11 (rc w r 0)) = _
  rw [if_neg (by omega), e]; rfl
theorem ch_mem {w : Int → Int} (hr : WFr w) (hn : w 3 ≤ 10) : ∀ (n : Nat) (r : Int), r < n → -1 ≤ r → r < w 3 → ∀ s, s ∈ ch w r → 0 ≤ s ∧ s ≤ r := by
  intro n
  induction n with
  | zero =>
    intro r h1 h2 h3 s hs
    rw [show r = -1 by omega, ch_neg] at hs
    simp at hs
  | succ n ih =>
    intro r h1 h2 h3 s hs
    by_cases c : r = -1
    · rw [c, ch_neg] at hs; simp at hs
    · have q := hr r (by omega) h3
      rw [ch_s hr hn (by omega) h3] at hs
      rcases List.mem_cons.mp hs with e | e
      · omega
      · have := ih (rc w r 0) (by omega) (by omega) (by omega) s e
        omega
abbrev opn (w : Int → Int) (m r : Int) : Prop := ∀ s ∈ ch w r, letsW w s m
abbrev bel (w : Int → Int) (f r : Int) : Prop := r ∈ ch w (fc w f 0)
theorem opn_neg (w : Int → Int) (m : Int) : opn w m (-1) := by intro s hs; rw [ch_neg] at hs; simp at hs
theorem opn_s {w : Int → Int} (hr : WFr w) (hn : w 3 ≤ 10) {r : Int} (h0 : 0 ≤ r) (h1 : r < w 3) (m : Int) : opn w m r ↔ letsW w r m ∧ opn w m (rc w r 0) := by
  unfold opn
  rw [ch_s hr hn h0 h1]; simp only [List.mem_cons, forall_eq_or_imp]
