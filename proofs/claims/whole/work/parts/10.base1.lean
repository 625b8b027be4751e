/-! MY MACHINE: memory as one function of two whole numbers; ints and longs as whole numbers in their range -/
abbrev Mem : Type := Int → Int → Int
def w32 (x : Int) : Int := (x + 2147483648) % 4294967296 - 2147483648
def w64 (x : Int) : Int := (x + 9223372036854775808) % 18446744073709551616 - 9223372036854775808
def w16 (x : Int) : Int := (x + 32768) % 65536 - 32768
def w8 (x : Int) : Int := (x + 128) % 256 - 128
def r32 (x : Int) : Prop := -2147483648 ≤ x ∧ x ≤ 2147483647
def r64 (x : Int) : Prop := -9223372036854775808 ≤ x ∧ x ≤ 9223372036854775807
theorem r32_w (x : Int) : r32 (w32 x) := by unfold r32 w32; omega
theorem r64_w (x : Int) : r64 (w64 x) := by unfold r64 w64; omega
theorem w32_id {x : Int} (h : r32 x) : w32 x = x := by unfold r32 at h; unfold w32; omega
theorem w64_id {x : Int} (h : r64 x) : w64 x = x := by unfold r64 at h; unfold w64; omega
theorem toI32 (x : Int) : (Int32.ofInt x).toInt = w32 x := by
  rw [Int32.toInt_ofInt]; unfold w32; simp only [Int.bmod, Int32.size]; omega
theorem toI64 (x : Int) : (Int64.ofInt x).toInt = w64 x := by
  rw [Int64.toInt_ofInt]; unfold w64; simp only [Int.bmod, Int64.size]; omega
theorem toI32r {x : Int} (h : r32 x) : (Int32.ofInt x).toInt = x := by rw [toI32, w32_id h]
theorem toI64r {x : Int} (h : r64 x) : (Int64.ofInt x).toInt = x := by rw [toI64, w64_id h]
theorem of32_of {y : Int32} {x : Int} (h : y.toInt = x) : y = Int32.ofInt x := by
  apply Int32.toInt_inj.mp
  have h1 := Int32.toInt_lt y
  have h2 := Int32.le_toInt y
  rw [toI32, ← h]; unfold w32; omega
theorem of64_of {y : Int64} {x : Int} (h : y.toInt = x) : y = Int64.ofInt x := by
  apply Int64.toInt_inj.mp
  have h1 := Int64.toInt_lt y
  have h2 := Int64.le_toInt y
  rw [toI64, ← h]; unfold w64; omega
theorem r32_toInt (y : Int32) : r32 y.toInt := by
  have h1 := Int32.toInt_lt y
  have h2 := Int32.le_toInt y
  unfold r32; omega
theorem r64_toInt (y : Int64) : r64 y.toInt := by
  have h1 := Int64.toInt_lt y
  have h2 := Int64.le_toInt y
  unfold r64; omega
theorem a_iadd (a b : Int) : Int32.ofInt a + Int32.ofInt b = Int32.ofInt (w32 (a + b)) := by
  apply Int32.toInt_inj.mp
  rw [Int32.toInt_add, toI32, toI32, toI32]; unfold w32; simp only [Int.bmod]; omega
theorem a_isub (a b : Int) : Int32.ofInt a - Int32.ofInt b = Int32.ofInt (w32 (a - b)) := by
  apply Int32.toInt_inj.mp
  rw [Int32.toInt_sub, toI32, toI32, toI32]; unfold w32; simp only [Int.bmod]; omega
theorem a_ineg (a : Int) : - Int32.ofInt a = Int32.ofInt (w32 (- a)) := by
  apply Int32.toInt_inj.mp
  rw [Int32.toInt_neg, toI32, toI32]; unfold w32; simp only [Int.bmod]; omega
theorem a_imul {a b : Int} (ha : r32 a) (hb : r32 b) : Int32.ofInt a * Int32.ofInt b = Int32.ofInt (w32 (a * b)) := by
  apply Int32.toInt_inj.mp
  rw [Int32.toInt_mul, toI32r ha, toI32r hb, toI32]
  generalize a * b = x
  unfold w32; simp only [Int.bmod]; omega
theorem a_ladd (a b : Int) : Int64.ofInt a + Int64.ofInt b = Int64.ofInt (w64 (a + b)) := by
  apply Int64.toInt_inj.mp
  rw [Int64.toInt_add, toI64, toI64, toI64]; unfold w64; simp only [Int.bmod]; omega
theorem a_lsub (a b : Int) : Int64.ofInt a - Int64.ofInt b = Int64.ofInt (w64 (a - b)) := by
  apply Int64.toInt_inj.mp
  rw [Int64.toInt_sub, toI64, toI64, toI64]; unfold w64; simp only [Int.bmod]; omega
theorem a_lmul {a b : Int} (ha : r64 a) (hb : r64 b) : Int64.ofInt a * Int64.ofInt b = Int64.ofInt (w64 (a * b)) := by
  apply Int64.toInt_inj.mp
  rw [Int64.toInt_mul, toI64r ha, toI64r hb, toI64]
  generalize a * b = x
  unfold w64; simp only [Int.bmod]; omega
theorem ne32 {b : Int} (hb : r32 b) (h : b ≠ 0) : ¬ Int32.ofInt b = 0 := by
  intro e
  have := congrArg Int32.toInt e
  rw [toI32r hb, Int32.toInt_zero] at this
  exact h this
theorem ne64 {b : Int} (hb : r64 b) (h : b ≠ 0) : ¬ Int64.ofInt b = 0 := by
  intro e
  have := congrArg Int64.toInt e
  rw [toI64r hb, Int64.toInt_zero] at this
  exact h this
def idivv (a b : Int) : Int := w32 (a.tdiv b)
def iremv (a b : Int) : Int := w32 (a - w32 (w32 (a.tdiv b) * b))
def ldivv (a b : Int) : Int := w64 (a.tdiv b)
def lremv (a b : Int) : Int := w64 (a - w64 (w64 (a.tdiv b) * b))
theorem a_idiv {a b : Int} (ha : r32 a) (hb : r32 b) : Int32.ofInt a / Int32.ofInt b = Int32.ofInt (idivv a b) := by
  apply Int32.toInt_inj.mp
  unfold idivv
  rw [Int32.toInt_div, toI32r ha, toI32r hb, toI32]
  generalize a.tdiv b = x
  unfold w32; simp only [Int.bmod]; omega
theorem a_irem {a b : Int} (ha : r32 a) (hb : r32 b) : Int32.ofInt a - Int32.ofInt a / Int32.ofInt b * Int32.ofInt b = Int32.ofInt (iremv a b) := by
  rw [a_idiv ha hb]; unfold idivv iremv; rw [a_imul (r32_w _) hb, a_isub]
theorem a_ldiv {a b : Int} (ha : r64 a) (hb : r64 b) : Int64.ofInt a / Int64.ofInt b = Int64.ofInt (ldivv a b) := by
  apply Int64.toInt_inj.mp
  unfold ldivv
  rw [Int64.toInt_div, toI64r ha, toI64r hb, toI64]
  generalize a.tdiv b = x
  unfold w64; simp only [Int.bmod]; omega
theorem a_lrem {a b : Int} (ha : r64 a) (hb : r64 b) : Int64.ofInt a - Int64.ofInt a / Int64.ofInt b * Int64.ofInt b = Int64.ofInt (lremv a b) := by
  rw [a_ldiv ha hb]; unfold ldivv lremv; rw [a_lmul (r64_w _) hb, a_lsub]
def iandv (a b : Int) : Int := (Int32.ofInt a &&& Int32.ofInt b).toInt
def iorv (a b : Int) : Int := (Int32.ofInt a ||| Int32.ofInt b).toInt
def ixorv (a b : Int) : Int := (Int32.ofInt a ^^^ Int32.ofInt b).toInt
def ishlv (a b : Int) : Int := (Int32.ofInt a <<< (Int32.ofInt b &&& 31)).toInt
def ishrv (a b : Int) : Int := (Int32.ofInt a >>> (Int32.ofInt b &&& 31)).toInt
def landv (a b : Int) : Int := (Int64.ofInt a &&& Int64.ofInt b).toInt
def lorv (a b : Int) : Int := (Int64.ofInt a ||| Int64.ofInt b).toInt
def lshlv (a b : Int) : Int := (Int64.ofInt a <<< ((Int32.ofInt b).toInt64 &&& 63)).toInt
theorem a_l2i (a : Int) : (Int64.ofInt a).toInt32 = Int32.ofInt (w32 a) := by
  apply Int32.toInt_inj.mp
  rw [Int64.toInt_toInt32, toI64, toI32]; unfold w32 w64; simp only [Int.bmod]; omega
theorem a_i2l {a : Int} (h : r32 a) : (Int32.ofInt a).toInt64 = Int64.ofInt a := by
  apply Int64.toInt_inj.mp
  rw [Int32.toInt_toInt64, toI32r h, toI64]; unfold r32 at h; unfold w64; omega
theorem a_i2b (a : Int) : (Int32.ofInt a).toInt8.toInt32 = Int32.ofInt (w8 a) := by
  apply Int32.toInt_inj.mp
  rw [Int8.toInt_toInt32, Int32.toInt_toInt8, toI32, toI32]; unfold w32 w8; simp only [Int.bmod]; omega
theorem a_i2s (a : Int) : (Int32.ofInt a).toInt16.toInt32 = Int32.ofInt (w16 a) := by
  apply Int32.toInt_inj.mp
  rw [Int16.toInt_toInt32, Int32.toInt_toInt16, toI32, toI32]; unfold w32 w16; simp only [Int.bmod]; omega
theorem eq32 {a b : Int} (ha : r32 a) (hb : r32 b) : Int32.ofInt a = Int32.ofInt b ↔ a = b :=
  ⟨fun e => by have := congrArg Int32.toInt e; rwa [toI32r ha, toI32r hb] at this, fun e => by rw [e]⟩
theorem lt32 {a b : Int} (ha : r32 a) (hb : r32 b) : Int32.ofInt a < Int32.ofInt b ↔ a < b := by
  rw [Int32.lt_iff_toInt_lt, toI32r ha, toI32r hb]
theorem le32 {a b : Int} (ha : r32 a) (hb : r32 b) : Int32.ofInt a ≤ Int32.ofInt b ↔ a ≤ b := by
  rw [Int32.le_iff_toInt_le, toI32r ha, toI32r hb]
theorem eq64 {a b : Int} (ha : r64 a) (hb : r64 b) : Int64.ofInt a = Int64.ofInt b ↔ a = b :=
  ⟨fun e => by have := congrArg Int64.toInt e; rwa [toI64r ha, toI64r hb] at this, fun e => by rw [e]⟩
theorem lt64 {a b : Int} (ha : r64 a) (hb : r64 b) : Int64.ofInt a < Int64.ofInt b ↔ a < b := by
  rw [Int64.lt_iff_toInt_lt, toI64r ha, toI64r hb]
def lcmpv (a b : Int) : Int := if b < a then 1 else if a = b then 0 else -1
theorem a_lcmp {a b : Int} (ha : r64 a) (hb : r64 b) : lg_cmp (Int64.ofInt a) (Int64.ofInt b) = Int32.ofInt (lcmpv a b) := by
  unfold lg_cmp lcmpv
  simp only [lt64 hb ha, eq64 ha hb]
  split
  · decide
  · split <;> decide
theorem zero32 : (0 : Int32) = Int32.ofInt 0 := by decide
theorem cl32 {x : Int} (h0 : 0 ≤ x) (h : r32 x) : (Int32.ofInt x).toNatClampNeg = x.toNat := by
  show ((Int32.ofInt x).toInt).toNat = x.toNat
  rw [toI32r h]
theorem in32 {x : Int} {n : Nat} (h0 : 0 ≤ x) (h1 : x < n) (h : r32 x) : ¬ (Int32.ofInt x < 0 ∨ n ≤ (Int32.ofInt x).toNatClampNeg) := by
  rw [cl32 h0 h, zero32, lt32 h (by unfold r32; omega)]
  omega
