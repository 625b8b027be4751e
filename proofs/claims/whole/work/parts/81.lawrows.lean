/-! the law's own rows -/
def LawQ (E : EnvT) (C : Cx) : Prop := ∃ b : Nat, (cMeth C).sig.returnType = ret ∧ (cMeth C).locks = false ∧ cA C = #[Value.ref b] ∧ cR C = room_1 ∧ C.2.2.2.2.2.2.2.2.2.2 = lw_Z C.2.2.2.2.2.2.2.1 #[Value.ref b] (cS C) ∧ (cS C).heap.size ≤ E.1
def LawX (E : EnvT) (C : Cx) (xs : Int → Int) (L : Int) : Prop := ∃ (n : Nat) (ys : Nat → Int32), ¬ E.1 ≤ E.2.2.2.1 (-3) ∧ L = n ∧ n ≤ 3072 ∧ (∀ j : Nat, j < n → xs j = (ys j).toInt) ∧ va_X (E.2.2.2.1 (-3)) n ys (cS C) E.2.1
section ROWS
variable {E : EnvT} {C : Cx} {ρ : Type} {x0 : ρ} {Mi M M0 : Mem} {cc : ByteArray} {nL h mc ms cl sl : Nat} {own : String} {ls : List (Nat × Int × Int)} {st : List (Int × Int)} {o : Option ρ} {xs : Int → Int} {L : Int}
theorem r_xlen (pc : Nat) (hC : CxOK E C cc nL own h mc ms) (hX : LawX E C xs L) (hd : decode cc pc = .ok (.arraylength, 1)) (kk : Bk E C nL Mi x0 (pc + 1) ls ((0, L) :: st) M cl sl o) : Bk E C nL Mi x0 pc ls ((2, -3) :: st) M cl sl o := by
  intro ho hE hl hs H locs la hH hL hla
  rw [oks_c] at hs
  obtain ⟨n, ys, h1, rfl, h2, h3, scr, s1, s2, s3, s4, s5⟩ := hX
  have k := kk ho hE hl (oks_c.mpr ⟨okx_0.mpr (by unfold r32; omega), hs.2⟩) H locs la hH hL hla
  obtain ⟨hx, hb, -⟩ := hC
  simp only [encs, List.map_cons, enc_0] at k ⊢
  rw [enc_s (by decide)]
  refine W.alen hx hb (by rw [old_at hH h1]; exact s1) s2 (n := Int32.ofInt (n : Int)) ?_ rfl rfl hd k
  rw [s4]
  apply of32_of
  show (Int32.ofNat n).toInt = _
  rw [Int32.toInt_ofNat_small (by omega)]
theorem r_xld (pc : Nat) (hC : CxOK E C cc nL own h mc ms) (hX : LawX E C xs L) {i : Int} {f : Int → Option ρ} (hd : decode cc pc = .ok (.iaload, 1)) (kk : ∀ v, Bk E C nL Mi x0 (pc + 1) ls ((0, v) :: st) M cl sl (f v)) : Bk E C nL Mi x0 pc ls ((0, i) :: (2, -3) :: st) M cl sl (sgt xs L i f) := by
  intro ho hE hl hs H locs la hH hL hla
  rw [oks_c, oks_c] at hs
  obtain ⟨n, ys, h1, rfl, h2, h3, scr, s1, s2, s3, s4, s5⟩ := hX
  unfold sgt at ho
  by_cases hi : 0 ≤ i ∧ i < (n : Int)
  · rw [if_pos hi] at ho
    have e : xs i = (ys i.toNat).toInt := by
      have := h3 i.toNat (by omega)
      rwa [show ((i.toNat : Nat) : Int) = i by omega] at this
    have k := kk _ ho hE hl (oks_c.mpr ⟨okx_0.mpr (by rw [e]; exact r32_toInt _), hs.2.2⟩) H locs la hH hL hla
    obtain ⟨hx, hb, -⟩ := hC
    have hi32 := okx_0.mp hs.1
    simp only [encs, List.map_cons, enc_0] at k ⊢
    rw [enc_s (by decide)]
    rw [e, ← of32_of (y := ys i.toNat) rfl] at k
    exact W.iald hx hb (by rw [old_at hH h1]; exact s1) s2 s3 (by rw [s4]; exact in32 hi.1 hi.2 hi32) (by rw [cl32 hi.1 hi32]; exact s5 _ (by omega)) rfl rfl hd k
  · rw [if_neg hi] at ho; cases ho
theorem r_lawret (pc : Nat) (hC : CxOK E C code nL own h mc ms) (hq : LawQ E C) {x : Int} (hcl : cl ≤ 600000) (hsl : sl ≤ 7302250) (hd : decode code pc = .ok (.ireturn, 1)) : Bk E C nL Mi (1 : Int) pc ls [(0, x)] M cl sl (some x) := by
  intro ho hE hl hs H locs la hH hL hla
  obtain ⟨hx, hb, -⟩ := hC
  obtain ⟨p, l, e, R, s, m, args, below, meth, c, Q⟩ := C
  obtain ⟨b, q1, q2, q3, q4, q5, q6⟩ := hq
  dsimp only [cMeth, cA, cR, cS, cCode] at *
  subst q3; subst q4; subst q5
  cases ho
  simp only [encs, List.map_cons, List.map_nil, enc_0]
  refine va_forget (fun q hq => Nat.le_trans q6 (hL q hq)) ?_
  refine W.widen hcl hsl ?_
  exact lw_ret hx hb q1 q2 hd
end ROWS
