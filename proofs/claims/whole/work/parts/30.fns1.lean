/-! the class: what its methods do to my memory (printed by wip/tools/emit.py) -/
/-- WaterTurns$Days.<init>()V -/
def f_X0_init (x0 : Int) (M : Mem) : Option (Mem) :=
    putz M x0 0 0 (fun M1 => putf M1 x0 1 0 (fun M2 => putf M2 x0 2 0 (fun M3 => newo M3 10 60 (fun v4 M5 => putf M5 x0 3 v4 (fun M6 => newo M6 10 60 (fun v7 M8 => putf M8 x0 4 v7 (fun M9 => newo M9 10 60 (fun v10 M11 => putf M11 x0 5 v10 (fun M12 => newo M12 10 60 (fun v13 M14 => putf M14 x0 6 v13 (fun M15 => newo M15 10 60 (fun v16 M17 => putf M17 x0 7 v16 (fun M18 => newo M18 10 60 (fun v19 M20 => putf M20 x0 8 v19 (fun M21 => newo M21 10 60 (fun v22 M23 => putf M23 x0 9 v22 (fun M24 => some M24)))))))))))))))))

/-- WaterTurns$Days.clear()V -/
def f_X0_clear (x0 : Int) (M : Mem) : Option (Mem) :=
    putz M x0 0 0 (fun M1 => putf M1 x0 1 0 (fun M2 => putf M2 x0 2 0 (fun M3 => some M3)))

/-- WaterTurns$Days.take(LWaterTurns$Days;)V -/
def f_X0_take (x0 x1 : Int) (M : Mem) : Option (Mem) :=
    getf M x1 0 (fun v1 => putz M x0 0 v1 (fun M2 => getf M2 x1 1 (fun v3 => putf M2 x0 1 v3 (fun M4 => getf M4 x1 2 (fun v5 => putf M4 x0 2 v5 (fun M6 => getf M6 x1 3 (fun v7 => getf M6 x0 3 (fun v8 => acopy M6 v7 0 v8 0 60 (fun M9 => getf M9 x1 4 (fun v10 => getf M9 x0 4 (fun v11 => acopy M9 v10 0 v11 0 60 (fun M12 => getf M12 x1 5 (fun v13 => getf M12 x0 5 (fun v14 => acopy M12 v13 0 v14 0 60 (fun M15 => getf M15 x1 6 (fun v16 => getf M15 x0 6 (fun v17 => acopy M15 v16 0 v17 0 60 (fun M18 => getf M18 x1 7 (fun v19 => getf M18 x0 7 (fun v20 => acopy M18 v19 0 v20 0 60 (fun M21 => getf M21 x1 8 (fun v22 => getf M21 x0 8 (fun v23 => acopy M21 v22 0 v23 0 60 (fun M24 => getf M24 x1 9 (fun v25 => getf M24 x0 9 (fun v26 => acopy M24 v25 0 v26 0 60 (fun M27 => some M27)))))))))))))))))))))))))))

/-- java/lang/Math.min(II)I -/
def f_J9_min_7cf53 (x0 x1 : Int) (M : Mem) : Option (Int) :=
    jn (fun (q1 : Int) => some q1) (fun j10 => if x1 < x0 then (j10 x1)
      else (j10 x0))

/-- WaterTurns$Days.addLine(I)I -/
def f_X0_addLine (x0 x1 : Int) (M : Mem) : Option (Int × Mem) :=
    getf M x0 2 (fun v1 => callp (f_J9_min_7cf53 v1 59 M) (fun v2 => getf M x0 3 (fun v3 => seti M v3 v2 x1 (fun M4 => getf M4 x0 9 (fun v5 => seti M4 v5 v2 (-1) (fun M6 => putf M6 x0 2 (w32 (v2 + 1)) (fun M7 => some (v2, M7))))))))

/-- WaterTurns$Days.isBlock(I)Z -/
def f_X0_isBlock (x0 : Int) (M : Mem) : Option (Int) :=
    jn (fun (q1 : Int) => retz q1) (fun j17 => jn (j17 1) (fun j12 => if x0 = 23 then (j12)
      else (if x0 ≠ 27 then (j17 0)
      else (j12))))

/-- WaterTurns$Days.innermost()I -/
def f_X0_innermost_L7 (M : Mem) (x0 : Int) (k : Option (Int)) : Nat → Int → Option (Int)
  | 0, _ => none
  | n + 1, p3 =>
    if p3 < 0 then (k)
      else (getf M x0 3 (fun v4 => geti M v4 p3 (fun v5 => callp (f_X0_isBlock v5 M) (fun v6 => jn (f_X0_innermost_L7 M x0 k n (w32 (p3 + (-1)))) (fun j35 => if v6 = 0 then (j35)
      else (getf M x0 9 (fun v7 => geti M v7 p3 (fun v8 => if v8 ≠ (-1) then (j35)
      else (some p3)))))))))

def f_X0_innermost (x0 : Int) (M : Mem) : Option (Int) :=
    getf M x0 2 (fun v1 => letv (w32 (v1 - 1)) (fun v2 => f_X0_innermost_L7 M x0 (some (-1)) KF v2))

/-- WaterTurns$Days.openBlocks()I -/
def f_X0_openBlocks_L4 (M : Mem) (x0 : Int) (k : Int → Option (Int)) : Nat → Int → Int → Option (Int)
  | 0, _, _ => none
  | n + 1, p1, p2 =>
    getf M x0 2 (fun v3 => if v3 ≤ p2 then (k p1)
      else (getf M x0 3 (fun v4 => geti M v4 p2 (fun v5 => callp (f_X0_isBlock v5 M) (fun v6 => jn (fun (q7 : Int) => letv (w32 (p1 + q7)) (fun v8 => f_X0_openBlocks_L4 M x0 k n v8 (w32 (p2 + 1)))) (fun j40 => jn (j40 0) (fun j39 => if v6 = 0 then (j39)
      else (getf M x0 9 (fun v9 => geti M v9 p2 (fun v10 => if v10 ≠ (-1) then (j39)
      else (j40 1)))))))))))

def f_X0_openBlocks (x0 : Int) (M : Mem) : Option (Int) :=
    f_X0_openBlocks_L4 M x0 (fun (q12 : Int) => some q12) KF 0 0

/-- WaterTurns$Tape.runEnd(CC)I -/
def f_X6_runEnd_L5 (M : Mem) (x0 x1 x2 : Int) (k : Int → Option (Int)) : Nat → Int → Option (Int)
  | 0, _ => none
  | n + 1, p2 =>
    getf M x0 2 (fun v3 => if v3 ≤ p2 then (k p2)
      else (getf M x0 0 (fun v4 => geti M v4 p2 (fun v5 => if v5 < x1 then (k p2)
      else (getf M x0 0 (fun v6 => geti M v6 p2 (fun v7 => if x2 < v7 then (k p2)
      else (f_X6_runEnd_L5 M x0 x1 x2 k n (w32 (p2 + 1))))))))))

def f_X6_runEnd (x0 x1 x2 : Int) (M : Mem) : Option (Int) :=
    getf M x0 4 (fun v1 => f_X6_runEnd_L5 M x0 x1 x2 (fun (q9 : Int) => some q9) KF v1)

/-- WaterTurns$Tape.spell()V -/
def f_X6_spell_L5 (x0 : Int) (k : Mem → Option (Mem)) : Nat → Int → Mem → Option (Mem)
  | 0, _, _ => none
  | n + 1, p2, M3 =>
    getf M3 x0 3 (fun v4 => if v4 ≤ p2 then (k M3)
      else (getf M3 x0 3 (fun v5 => getf M3 x0 4 (fun v6 => if 8 < w32 (v5 - v6) then (k M3)
      else (getf M3 x0 10 (fun v7 => getf M3 x0 0 (fun v8 => geti M3 v8 p2 (fun v9 => putf M3 x0 10 (w64 ((w64 (v7 * 32)) + (w32 ((w32 (v9 - 97)) + 1)))) (fun M10 => f_X6_spell_L5 x0 k n (w32 (p2 + 1)) M10)))))))))

def f_X6_spell_L60 (x0 : Int) (k : Mem → Option (Mem)) : Nat → Int → Mem → Option (Mem)
  | 0, _, _ => none
  | n + 1, p13, M14 =>
    if 30 ≤ p13 then (k M14)
      else (getf M14 x0 10 (fun v15 => if v15 = 0 then (k M14)
      else (getf M14 x0 1 (fun v16 => geti M14 v16 p13 (fun v17 => getf M14 x0 10 (fun v18 => jn (fun (q19 : Int) => putf M14 x0 9 q19 (fun M20 => f_X6_spell_L60 x0 k n (w32 (p13 + 1)) M20)) (fun j98 => if v17 ≠ v18 then (getf M14 x0 9 (fun v21 => j98 v21))
      else (j98 p13))))))))

def f_X6_spell (x0 : Int) (M : Mem) : Option (Mem) :=
    getf M x0 4 (fun v1 => f_X6_spell_L5 x0 (fun (M12 : Mem) => f_X6_spell_L60 x0 (fun (M23 : Mem) => some M23) KF 0 M12) KF v1 M)

/-- WaterTurns$Tape.value()I -/
def f_X6_value_L7 (M : Mem) (x0 : Int) (k : Int → Option (Int)) : Nat → Int → Int → Option (Int)
  | 0, _, _ => none
  | n + 1, p2, p3 =>
    getf M x0 3 (fun v4 => if v4 ≤ p3 then (k p2)
      else (getf M x0 0 (fun v5 => geti M v5 p3 (fun v6 => letv (w32 ((w32 (p2 * 10)) + (w32 (v6 - 48)))) (fun v7 => f_X6_value_L7 M x0 k n v7 (w32 (p3 + 1)))))))

def f_X6_value (x0 : Int) (M : Mem) : Option (Int) :=
    getf M x0 4 (fun v1 => f_X6_value_L7 M x0 (fun (q9 : Int) => some q9) KF 0 v1)

/-- WaterTurns$Tape.step()V -/
def f_X6_step_L0 (k : Int → Mem → Option (Mem)) : Nat → Int → Mem → Option (Mem)
  | 0, _, _ => none
  | n + 1, p1, M2 =>
    getf M2 p1 3 (fun v3 => getf M2 p1 2 (fun v4 => if v4 ≤ v3 then (k p1 M2)
      else (getf M2 p1 0 (fun v5 => getf M2 p1 3 (fun v6 => geti M2 v5 v6 (fun v7 => jn (getf M2 p1 3 (fun v8 => putf M2 p1 3 (w32 (v8 + 1)) (fun M9 => f_X6_step_L0 k n p1 M9))) (fun j39 => if v7 = 10 then (j39)
      else (getf M2 p1 0 (fun v10 => getf M2 p1 3 (fun v11 => geti M2 v10 v11 (fun v12 => if v12 ≠ 32 then (k p1 M2)
      else (j39))))))))))))

def f_X6_step (x0 : Int) (M : Mem) : Option (Mem) :=
    f_X6_step_L0 (fun (q15 : Int) (M16 : Mem) => getf M16 q15 3 (fun v17 => putf M16 q15 4 v17 (fun M18 => putf M18 q15 9 (-1) (fun M19 => putf M19 q15 10 0 (fun M20 => getf M20 q15 3 (fun v21 => getf M20 q15 2 (fun v22 => jn (fun (M23 : Mem) => some M23) (fun j294 => if v21 < v22 then (getf M20 q15 0 (fun v24 => getf M20 q15 3 (fun v25 => geti M20 v24 v25 (fun v26 => jn (getf M20 q15 0 (fun v27 => getf M20 q15 3 (fun v28 => geti M20 v27 v28 (fun v29 => jn (getf M20 q15 0 (fun v30 => getf M20 q15 3 (fun v31 => geti M20 v30 v31 (fun v32 => putf M20 q15 8 v32 (fun M33 => getf M33 q15 3 (fun v34 => putf M33 q15 3 (w32 (v34 + 1)) (fun M35 => getf M35 q15 8 (fun v36 => jn (fun (q37 : Int) => putf M35 q15 7 q37 (fun M38 => j294 M38)) (fun j291 => jn (j291 3) (fun j286 => if v36 = 59 then (j286)
      else (getf M35 q15 8 (fun v39 => if v39 = 60 then (j286)
      else (getf M35 q15 8 (fun v40 => if v40 = 62 then (j286)
      else (getf M35 q15 8 (fun v41 => if v41 ≠ 61 then (j291 4)
      else (j286))))))))))))))))) (fun j226 => if v29 < 48 then (j226)
      else (getf M20 q15 0 (fun v42 => getf M20 q15 3 (fun v43 => geti M20 v42 v43 (fun v44 => if 57 < v44 then (j226)
      else (nn q15 (callp (f_X6_runEnd q15 48 57 M20) (fun v46 => putf M20 q15 3 v46 (fun M47 => getf M47 q15 3 (fun v48 => getf M47 q15 4 (fun v49 => jn (fun (q50 : Int) => putf M47 q15 7 q50 (fun M51 => getf M51 q15 7 (fun v52 => jn (fun (q53 : Int) => putf M51 q15 5 q53 (fun M54 => j294 M54)) (fun j220 => if v52 ≠ 2 then (j220 0)
      else (callp (f_X6_value q15 M51) (fun v55 => j220 v55)))))) (fun j200 => if 4 < w32 (v48 - v49) then (j200 4)
      else (j200 2))))))))))))))))) (fun j141 => if v26 < 97 then (j141)
      else (getf M20 q15 0 (fun v56 => getf M20 q15 3 (fun v57 => geti M20 v56 v57 (fun v58 => if 122 < v58 then (j141)
      else (nn q15 (callp (f_X6_runEnd q15 97 122 M20) (fun v60 => putf M20 q15 3 v60 (fun M61 => putf M61 q15 7 1 (fun M62 => callv (f_X6_spell q15 M62) (fun M63 => j294 M63)))))))))))))))
      else (putf M20 q15 7 0 (fun M64 => j294 M64)))))))))) KF x0 M

/-- WaterTurns$Tape.begin(I)V -/
def f_X6_begin (x0 x1 : Int) (M : Mem) : Option (Mem) :=
    getf M x0 6 (fun v1 => callp (f_J9_min_7cf53 x1 v1 M) (fun v2 => putf M x0 2 v2 (fun M3 => putf M3 x0 3 0 (fun M4 => putf M4 x0 11 0 (fun M5 => putf M5 x0 12 (-1) (fun M6 => callv (f_X6_step x0 M6) (fun M7 => some M7)))))))

/-- WaterTurns$Tape.isAtEnd()Z -/
def f_X6_isAtEnd (x0 : Int) (M : Mem) : Option (Int) :=
    getf M x0 7 (fun v1 => jn (fun (q2 : Int) => retz q2) (fun j12 => if v1 ≠ 0 then (j12 0)
      else (j12 1)))

/-- WaterTurns$Tape.isAt(I)Z -/
def f_X6_isAt (x0 x1 : Int) (M : Mem) : Option (Int) :=
    getf M x0 7 (fun v1 => jn (fun (q2 : Int) => retz q2) (fun j21 => jn (j21 0) (fun j20 => if v1 ≠ 1 then (j20)
      else (getf M x0 9 (fun v3 => if v3 ≠ x1 then (j20)
      else (j21 1))))))

/-- WaterTurns$Tape.blame(I)Z -/
def f_X6_blame (x0 x1 : Int) (M : Mem) : Option (Int × Mem) :=
    getf M x0 11 (fun v1 => jn (fun (M2 : Mem) => retzm 0 M2) (fun j32 => if v1 ≠ 0 then (j32 M)
      else (getf M x0 7 (fun v3 => jn (fun (q4 : Int) => putf M x0 11 q4 (fun M5 => getf M5 x0 4 (fun v6 => putf M5 x0 12 v6 (fun M7 => j32 M7)))) (fun j21 => if v3 ≠ 4 then (j21 x1)
      else (j21 1))))))

/-- WaterTurns$Tape.skipSemicolon()Z -/
def f_X6_skipSemicolon (x0 : Int) (M : Mem) : Option (Int × Mem) :=
    getf M x0 7 (fun v1 => jn (call (f_X6_blame x0 2 M) (fun v2 M3 => retzm v2 M3)) (fun j17 => if v1 ≠ 3 then (j17)
      else (getf M x0 8 (fun v4 => if v4 = 59 then (callv (f_X6_step x0 M) (fun M5 => retzm 1 M5))
      else (j17)))))

/-- WaterTurns$DaysReader.readEnd(LWaterTurns$Tape;LWaterTurns$Days;)Z -/
def f_X1_readEnd (x0 x1 : Int) (M : Mem) : Option (Int × Mem) :=
    nn x1 (callp (f_X0_innermost x1 M) (fun v2 => if v2 ≠ (-1) then (nn x0 (callv (f_X6_step x0 M) (fun M4 => call (f_X0_addLine x1 28 M4) (fun v5 M6 => getf M6 x1 9 (fun v7 => seti M6 v7 v5 v2 (fun M8 => getf M8 x1 9 (fun v9 => seti M8 v9 v2 v5 (fun M10 => call (f_X6_skipSemicolon x0 M10) (fun v11 M12 => retzm v11 M12)))))))))
      else (nn x0 (call (f_X6_blame x0 2 M) (fun v14 M15 => retzm v14 M15)))))

/-- WaterTurns$DaysReader.isStepWord(I)Z -/
def f_X1_isStepWord (x0 : Int) (M : Mem) : Option (Int) :=
    jn (fun (q1 : Int) => retz q1) (fun j35 => jn (j35 1) (fun j30 => if x0 = 8 then (j30)
      else (jn (if x0 = 27 then (j30)
      else (if x0 ≠ 29 then (j35 0)
      else (j30))) (fun j18 => if x0 < 16 then (j18)
      else (if x0 ≤ 23 then (j30)
      else (j18))))))

/-- WaterTurns$Tape.isAtName()Z -/
def f_X6_isAtName (x0 : Int) (M : Mem) : Option (Int) :=
    getf M x0 7 (fun v1 => jn (fun (q2 : Int) => retz q2) (fun j30 => jn (j30 0) (fun j29 => if v1 ≠ 1 then (j29)
      else (getf M x0 9 (fun v3 => if v3 ≠ (-1) then (j29)
      else (getf M x0 10 (fun v4 => if v4 = 0 then (j29)
      else (j30 1))))))))

/-- WaterTurns$Valley.find([JIJ)I -/
def f_X8_find_L3 (M : Mem) (x0 x1 x2 : Int) (k : Option (Int)) : Nat → Int → Option (Int)
  | 0, _ => none
  | n + 1, p1 =>
    if x1 ≤ p1 then (k)
      else (alen M x0 (fun v2 => if v2 ≤ p1 then (k)
      else (geti M x0 p1 (fun v3 => if v3 ≠ x2 then (f_X8_find_L3 M x0 x1 x2 k n (w32 (p1 + 1)))
      else (some p1)))))

def f_X8_find (x0 x1 x2 : Int) (M : Mem) : Option (Int) :=
    f_X8_find_L3 M x0 x1 x2 (some (-1)) KF 0

/-- WaterTurns$Tape.takeKnown([JI)I -/
def f_X6_takeKnown (x0 x1 x2 : Int) (M : Mem) : Option (Int × Mem) :=
    callp (f_X6_isAtName x0 M) (fun v1 => if v1 ≠ 0 then (getf M x0 10 (fun v2 => callp (f_X8_find x1 x2 v2 M) (fun v3 => if v3 ≠ (-1) then (callv (f_X6_step x0 M) (fun M4 => some (v3, M4)))
      else (call (f_X6_blame x0 3 M) (fun v5 M6 => some ((-1), M6))))))
      else (call (f_X6_blame x0 2 M) (fun v7 M8 => some ((-1), M8))))

/-- WaterTurns$DaysReader.readReachName(LWaterTurns$Tape;LWaterTurns$Valley;LWaterTurns$Days;I)Z -/
def f_X1_readReachName (x0 x1 x2 x3 : Int) (M : Mem) : Option (Int × Mem) :=
    getf M x2 5 (fun v1 => getf M x1 10 (fun v2 => getf M x1 3 (fun v3 => nn x0 (call (f_X6_takeKnown x0 v2 v3 M) (fun v5 M6 => seti M6 v1 x3 v5 (fun M7 => getf M7 x2 5 (fun v8 => geti M7 v8 x3 (fun v9 => jn (fun (q10 : Int) => retzm q10 M7) (fun j33 => if v9 = (-1) then (j33 0)
      else (j33 1))))))))))

/-- WaterTurns$DaysReader.readSign(LWaterTurns$Tape;LWaterTurns$Days;I)Z -/
def f_X1_readSign (x0 x1 x2 : Int) (M : Mem) : Option (Int × Mem) :=
    getf M x0 7 (fun v1 => jn (nn x0 (call (f_X6_blame x0 2 M) (fun v3 M4 => retzm v3 M4))) (fun j17 => if v1 ≠ 3 then (j17)
      else (getf M x0 8 (fun v5 => if v5 ≠ 59 then (getf M x1 7 (fun v6 => getf M x0 8 (fun v7 => seti M v6 x2 v7 (fun M8 => nn x0 (callv (f_X6_step x0 M8) (fun M10 => retzm 1 M10))))))
      else (j17)))))

/-- WaterTurns$Tape.takeNumber(II)I -/
def f_X6_takeNumber (x0 x1 x2 : Int) (M : Mem) : Option (Int × Mem) :=
    getf M x0 7 (fun v1 => if v1 = 2 then (getf M x0 5 (fun v2 => jn (call (f_X6_blame x0 4 M) (fun v3 M4 => some ((-1), M4))) (fun j32 => if v2 < x1 then (j32)
      else (getf M x0 5 (fun v5 => if v5 ≤ x2 then (getf M x0 5 (fun v6 => callv (f_X6_step x0 M) (fun M7 => some (v6, M7))))
      else (j32))))))
      else (call (f_X6_blame x0 2 M) (fun v8 M9 => some ((-1), M9))))

/-- WaterTurns$DaysReader.readNumber(LWaterTurns$Tape;LWaterTurns$Days;III)Z -/
def f_X1_readNumber (x0 x1 x2 x3 x4 : Int) (M : Mem) : Option (Int × Mem) :=
    getf M x1 8 (fun v1 => nn x0 (call (f_X6_takeNumber x0 x3 x4 M) (fun v3 M4 => seti M4 v1 x2 v3 (fun M5 => getf M5 x1 8 (fun v6 => geti M5 v6 x2 (fun v7 => jn (fun (q8 : Int) => retzm q8 M5) (fun j28 => if v7 = (-1) then (j28 0)
      else (j28 1))))))))

/-- WaterTurns$DaysReader.readTest(LWaterTurns$Tape;LWaterTurns$Valley;LWaterTurns$Days;I)Z -/
def f_X1_readTest (x0 x1 x2 x3 : Int) (M : Mem) : Option (Int × Mem) :=
    getf M x0 9 (fun v1 => jn (getf M x2 4 (fun v2 => seti M v2 x3 v1 (fun M3 => nn x0 (callv (f_X6_step x0 M3) (fun M5 => if v1 ≠ 8 then (getf M5 x2 5 (fun v6 => getf M5 x1 12 (fun v7 => getf M5 x1 5 (fun v8 => call (f_X6_takeKnown x0 v7 v8 M5) (fun v9 M10 => seti M10 v6 x3 v9 (fun M11 => getf M11 x2 5 (fun v12 => geti M11 v12 x3 (fun v13 => jn (fun (q14 : Int) (M15 : Mem) => retzm q14 M15) (fun j128 => jn (fun (M16 : Mem) => j128 0 M16) (fun j127 => if v13 = (-1) then (j127 M11)
      else (call (f_X1_readSign x0 x2 x3 M11) (fun v17 M18 => if v17 = 0 then (j127 M18)
      else (jn (fun (q19 : Int) => call (f_X1_readNumber x0 x2 x3 0 q19 M18) (fun v20 M21 => if v20 = 0 then (j127 M21)
      else (j128 1 M21))) (fun j117 => if v1 ≠ 25 then (j117 9999)
      else (j117 999)))))))))))))))
      else (call (f_X1_readReachName x0 x1 x2 x3 M5) (fun v22 M23 => retzm v22 M23))))))) (fun j33 => if v1 = 8 then (j33)
      else (if v1 = 25 then (j33)
      else (if v1 = 26 then (j33)
      else (nn x0 (call (f_X6_blame x0 2 M) (fun v25 M26 => retzm v25 M26)))))))

/-- WaterTurns$DaysReader.readTwoFields(LWaterTurns$Tape;LWaterTurns$Valley;LWaterTurns$Days;I)Z -/
def f_X1_readTwoFields (x0 x1 x2 x3 : Int) (M : Mem) : Option (Int × Mem) :=
    getf M x2 5 (fun v1 => getf M x1 12 (fun v2 => getf M x1 5 (fun v3 => nn x0 (call (f_X6_takeKnown x0 v2 v3 M) (fun v5 M6 => seti M6 v1 x3 v5 (fun M7 => getf M7 x2 5 (fun v8 => geti M7 v8 x3 (fun v9 => if v9 ≠ (-1) then (getf M7 x2 6 (fun v10 => getf M7 x1 12 (fun v11 => getf M7 x1 5 (fun v12 => call (f_X6_takeKnown x0 v11 v12 M7) (fun v13 M14 => seti M14 v10 x3 v13 (fun M15 => getf M15 x2 6 (fun v16 => geti M15 v16 x3 (fun v17 => jn (fun (q18 : Int) => retzm q18 M15) (fun j63 => if v17 = (-1) then (j63 0)
      else (j63 1))))))))))
      else (retzm 0 M7)))))))))

/-- WaterTurns$DaysReader.mostOf(I)I -/
def f_X1_mostOf (x0 : Int) (M : Mem) : Option (Int) :=
    if x0 = 18 then (some 999)
      else if x0 = 20 then (some 999)
      else if x0 = 21 then (some 16)
      else if x0 = 27 then (some 99)
      else (some (-1))

/-- WaterTurns$DaysReader.leastOf(I)I -/
def f_X1_leastOf (x0 : Int) (M : Mem) : Option (Int) :=
    jn (fun (q1 : Int) => some q1) (fun j17 => jn (j17 1) (fun j12 => if x0 = 18 then (j12)
      else (if x0 ≠ 27 then (j17 0)
      else (j12))))

/-- WaterTurns$DaysReader.readStep(LWaterTurns$Tape;LWaterTurns$Valley;LWaterTurns$Days;)Z -/
def f_X1_readStep (x0 x1 x2 : Int) (M : Mem) : Option (Int × Mem) :=
    getf M x0 9 (fun v1 => callp (f_X1_isStepWord v1 M) (fun v2 => if v2 ≠ 0 then (getf M x2 1 (fun v3 => if v3 < 30 then (callp (f_X0_isBlock v1 M) (fun v4 => jn (nn x0 (callv (f_X6_step x0 M) (fun M6 => getf M6 x2 1 (fun v7 => putf M6 x2 1 (w32 (v7 + 1)) (fun M8 => nn x2 (call (f_X0_addLine x2 v1 M8) (fun v10 M11 => jn (fun (q12 : Int) (M13 : Mem) => jn (fun (q14 : Int) (M15 : Mem) => jn (fun (q16 : Int) (M17 : Mem) => retzm q16 M17) (fun j199 => jn (fun (M18 : Mem) => j199 0 M18) (fun j198 => if q14 = 0 then (j198 M15)
      else (call (f_X6_skipSemicolon x0 M15) (fun v19 M20 => if v19 = 0 then (j198 M20)
      else (j199 1 M20)))))) (fun j182 => if q12 = 0 then (j182 q12 M13)
      else (callp (f_X1_mostOf v1 M13) (fun v21 => if v21 = (-1) then (j182 q12 M13)
      else (callp (f_X1_leastOf v1 M13) (fun v22 => callp (f_X1_mostOf v1 M13) (fun v23 => call (f_X1_readNumber x0 x2 v10 v22 v23 M13) (fun v24 M25 => j182 v24 M25)))))))) (fun j152 => jn (call (f_X1_readReachName x0 x1 x2 v10 M11) (fun v26 M27 => j152 v26 M27)) (fun j92 => if v1 = 8 then (j92)
      else (if v1 ≠ 16 then (if v1 ≠ 23 then (jn (call (f_X1_readTwoFields x0 x1 x2 v10 M11) (fun v28 M29 => j152 v28 M29)) (fun j142 => if v1 = 17 then (j142)
      else (if v1 = 19 then (j142)
      else (if v1 ≠ 18 then (j152 1 M11)
      else (j142)))))
      else (call (f_X1_readTest x0 x1 x2 v10 M11) (fun v30 M31 => j152 v30 M31)))
      else (j92))))))))))) (fun j56 => if v4 = 0 then (j56)
      else (nn x2 (callp (f_X0_openBlocks x2 M) (fun v33 => if v33 < 3 then (j56)
      else (nn x0 (call (f_X6_blame x0 7 M) (fun v35 M36 => retzm v35 M36)))))))))
      else (nn x0 (call (f_X6_blame x0 6 M) (fun v38 M39 => retzm v38 M39)))))
      else (nn x0 (call (f_X6_blame x0 2 M) (fun v41 M42 => retzm v41 M42)))))

/-- WaterTurns$DaysReader.takes(LWaterTurns$Tape;ILWaterTurns$Valley;LWaterTurns$Days;)Z -/
def f_X1_takes_L12 (x0 x2 x3 : Int) (k : Mem → Option (Int × Mem)) : Nat → Int → Mem → Option (Int × Mem)
  | 0, _, _ => none
  | n + 1, p5, M6 =>
    if 60 < p5 then (k M6)
      else (nn x0 (callp (f_X6_isAtEnd x0 M6) (fun v8 => if v8 ≠ 0 then (k M6)
      else (callp (f_X6_isAt x0 28 M6) (fun v9 => jn (fun (q10 : Int) (M11 : Mem) => if q10 ≠ 0 then (f_X1_takes_L12 x0 x2 x3 k n (w32 (p5 + 1)) M11)
      else (retzm 0 M11)) (fun j49 => if v9 = 0 then (call (f_X1_readStep x0 x2 x3 M6) (fun v12 M13 => j49 v12 M13))
      else (call (f_X1_readEnd x0 x3 M6) (fun v14 M15 => j49 v14 M15))))))))

def f_X1_takes (x0 x1 x2 x3 : Int) (M : Mem) : Option (Int × Mem) :=
    nn x3 (callv (f_X0_clear x3 M) (fun M2 => nn x0 (callv (f_X6_begin x0 x1 M2) (fun M4 => f_X1_takes_L12 x0 x2 x3 (fun (M17 : Mem) => callp (f_X0_innermost x3 M17) (fun v18 => jn (fun (q19 : Int) (M20 : Mem) => putz M20 x3 0 q19 (fun M21 => getf M21 x3 0 (fun v22 => retzm v22 M21))) (fun j86 => jn (fun (M23 : Mem) => j86 1 M23) (fun j81 => if v18 = (-1) then (j81 M17)
      else (call (f_X6_blame x0 2 M17) (fun v24 M25 => if v24 = 0 then (j86 0 M25)
      else (j81 M25))))))) KF 0 M4))))

/-- WaterTurns$Life.<init>()V -/
def f_X2_init (x0 : Int) (M : Mem) : Option (Mem) :=
    putf M x0 0 0 (fun M1 => putf M1 x0 1 0 (fun M2 => putf M2 x0 2 0 (fun M3 => putf M3 x0 3 0 (fun M4 => putz M4 x0 4 0 (fun M5 => putf M5 x0 5 0 (fun M6 => newo M6 10 60 (fun v7 M8 => putf M8 x0 6 v7 (fun M9 => some M9))))))))

/-- WaterTurns$Life.behindEnd(LWaterTurns$Days;I)I -/
def f_X2_behindEnd (x0 x1 x2 : Int) (M : Mem) : Option (Int × Mem) :=
    getf M x1 9 (fun v1 => geti M v1 x2 (fun v2 => jn (some (w32 (x2 + 1), M)) (fun j23 => if v2 = (-1) then (j23)
      else (getf M x1 3 (fun v3 => geti M v3 v2 (fun v4 => if v4 = 27 then (getf M x0 6 (fun v5 => geti M v5 v2 (fun v6 => seti M v5 v2 (w32 (v6 - 1)) (fun M7 => getf M7 x0 6 (fun v8 => geti M7 v8 v2 (fun v9 => jn (fun (q10 : Int) => some (q10, M7)) (fun j55 => if v9 ≤ 0 then (j55 (w32 (x2 + 1)))
      else (j55 (w32 (v2 + 1))))))))))
      else (j23)))))))

/-- WaterTurns$Standing.setClosed(IZ)V -/
def f_X4_setClosed (x0 x1 x2 : Int) (M : Mem) : Option (Mem) :=
    jn (fun (q1 : Int) => putf M x0 2 q1 (fun M2 => some M2)) (fun j26 => if x2 = 0 then (getf M x0 2 (fun v3 => j26 (iandv v3 (ixorv (ishlv 1 x1) (-1)))))
      else (getf M x0 2 (fun v4 => j26 (iorv v4 (ishlv 1 x1)))))

/-- WaterTurns$World.changePlaces(II)I -/
def f_X10_changePlaces_L15 (x0 x1 x2 : Int) (k : Mem → Option (Int × Mem)) : Nat → Int → Mem → Option (Int × Mem)
  | 0, _, _ => none
  | n + 1, p3, M4 =>
    getf M4 x0 0 (fun v5 => getf M4 v5 5 (fun v6 => if v6 ≤ p3 then (k M4)
      else (getf M4 x0 2 (fun v7 => getf M4 v7 4 (fun v8 => geti M4 v8 p3 (fun v9 => getf M4 x0 2 (fun v10 => getf M4 v10 4 (fun v11 => jn (fun (q12 : Int) => seti M4 v11 p3 q12 (fun M13 => f_X10_changePlaces_L15 x0 x1 x2 k n (w32 (p3 + 1)) M13)) (fun j67 => if v9 ≠ x1 then (if v9 ≠ x2 then (j67 v9)
      else (j67 x1))
      else (j67 x2))))))))))

def f_X10_changePlaces (x0 x1 x2 : Int) (M : Mem) : Option (Int × Mem) :=
    getf M x0 2 (fun v1 => getf M v1 3 (fun v2 => if v2 ≤ 0 then (f_X10_changePlaces_L15 x0 x1 x2 (fun (M15 : Mem) => some (0, M15)) KF 0 M)
      else (some (7, M))))

/-- WaterTurns$Valley.turnEdge(I)I -/
def f_X8_turnEdge (x0 x1 : Int) (M : Mem) : Option (Int) :=
    getf M x0 6 (fun v1 => jn (fun (q2 : Int) => some q2) (fun j23 => if 1 ≤ v1 then (getf M x0 1 (fun v3 => getf M x0 6 (fun v4 => idivc (w32 (v3 * x1)) v4 (fun v5 => j23 v5))))
      else (j23 0)))

/-- WaterTurns$Slots.add(III)V -/
def f_X3_add (x0 x1 x2 x3 : Int) (M : Mem) : Option (Mem) :=
    jn (fun (M1 : Mem) => some M1) (fun j53 => if x3 ≤ 0 then (j53 M)
      else (getf M x0 3 (fun v2 => if 22 ≤ v2 then (j53 M)
      else (getf M x0 4 (fun v3 => getf M x0 3 (fun v4 => seti M v3 v4 x1 (fun M5 => getf M5 x0 5 (fun v6 => getf M5 x0 3 (fun v7 => seti M5 v6 v7 x2 (fun M8 => getf M8 x0 6 (fun v9 => getf M8 x0 3 (fun v10 => seti M8 v9 v10 x3 (fun M11 => getf M11 x0 3 (fun v12 => putf M11 x0 3 (w32 (v12 + 1)) (fun M13 => j53 M13)))))))))))))))

/-- WaterTurns$Slots.layTurn(LWaterTurns$Standing;I)V -/
def f_X3_layTurn_L14 (x0 x1 x2 : Int) (k : Mem → Option (Mem)) : Nat → Int → Mem → Option (Mem)
  | 0, _, _ => none
  | n + 1, p5, M6 =>
    getf M6 x1 3 (fun v7 => if v7 ≤ p5 then (k M6)
      else (getf M6 x0 2 (fun v8 => geti M6 v8 x2 (fun v9 => getf M6 x1 5 (fun v10 => geti M6 v10 p5 (fun v11 => jn (fun (q12 : Int) => seti M6 v8 x2 (w32 (v9 - q12)) (fun M13 => f_X3_layTurn_L14 x0 x1 x2 k n (w32 (p5 + 1)) M13)) (fun j49 => if v11 ≠ x2 then (j49 0)
      else (getf M6 x1 7 (fun v14 => geti M6 v14 p5 (fun v15 => j49 v15))))))))))

def f_X3_layTurn_L96 (x0 x1 x2 : Int) (k : Mem → Option (Mem)) : Nat → Int → Int → Mem → Option (Mem)
  | 0, _, _, _ => none
  | n + 1, p30, p31, M32 =>
    if p31 < 0 then (k M32)
      else (getf M32 x1 5 (fun v33 => geti M32 v33 p31 (fun v34 => jn (fun (q35 : Int) (M36 : Mem) => f_X3_layTurn_L96 x0 x1 x2 k n q35 (w32 (p31 + (-1))) M36) (fun j141 => if v34 ≠ x2 then (j141 p30 M32)
      else (getf M32 x1 6 (fun v37 => geti M32 v37 p31 (fun v38 => getf M32 x1 7 (fun v39 => geti M32 v39 p31 (fun v40 => callv (f_X3_add x0 v38 p30 v40 M32) (fun M41 => getf M41 x1 7 (fun v42 => geti M41 v42 p31 (fun v43 => letv (w32 (p30 + v43)) (fun v44 => j141 v44 M41)))))))))))))

def f_X3_layTurn (x0 x1 x2 : Int) (M : Mem) : Option (Mem) :=
    getf M x0 2 (fun v1 => getf M x0 1 (fun v2 => geti M v2 x2 (fun v3 => seti M v1 x2 v3 (fun M4 => f_X3_layTurn_L14 x0 x1 x2 (fun (M17 : Mem) => getf M17 x0 0 (fun v18 => geti M17 v18 x2 (fun v19 => getf M17 x0 2 (fun v20 => geti M17 v20 x2 (fun v21 => callv (f_X3_add x0 x2 v19 v21 M17) (fun M22 => getf M22 x0 0 (fun v23 => geti M22 v23 x2 (fun v24 => getf M22 x0 2 (fun v25 => geti M22 v25 x2 (fun v26 => letv (w32 (v24 + v26)) (fun v27 => getf M22 x1 3 (fun v28 => letv (w32 (v28 - 1)) (fun v29 => f_X3_layTurn_L96 x0 x1 x2 (fun (M46 : Mem) => some M46) KF v27 v29 M22))))))))))))) KF 0 M4))))

/-- WaterTurns$Slots.lay(LWaterTurns$World;)V -/
def f_X3_lay_L15 (v1 x0 x1 : Int) (k : Mem → Option (Mem)) : Nat → Int → Int → Mem → Option (Mem)
  | 0, _, _, _ => none
  | n + 1, p3, p4, M5 =>
    getf M5 v1 5 (fun v6 => if v6 ≤ p4 then (k M5)
      else (getf M5 x1 2 (fun v7 => getf M5 v7 4 (fun v8 => geti M5 v8 p4 (fun v9 => getf M5 x0 0 (fun v10 => nn v1 (callp (f_X8_turnEdge v1 p3 M5) (fun v12 => seti M5 v10 v9 v12 (fun M13 => getf M13 v1 9 (fun v14 => geti M13 v14 v9 (fun v15 => geti M13 v15 1 (fun v16 => letv (w32 (p3 + v16)) (fun v17 => getf M13 x0 1 (fun v18 => callp (f_X8_turnEdge v1 v17 M13) (fun v19 => getf M13 x0 0 (fun v20 => geti M13 v20 v9 (fun v21 => seti M13 v18 v9 (w32 (v19 - v21)) (fun M22 => getf M22 x1 2 (fun v23 => callv (f_X3_layTurn x0 v23 v9 M22) (fun M24 => f_X3_lay_L15 v1 x0 x1 k n v17 (w32 (p4 + 1)) M24))))))))))))))))))))

def f_X3_lay (x0 x1 : Int) (M : Mem) : Option (Mem) :=
    getf M x1 0 (fun v1 => putf M x0 3 0 (fun M2 => f_X3_lay_L15 v1 x0 x1 (fun (M26 : Mem) => some M26) KF 0 0 M2))

/-- WaterTurns$Standing.debt(II)I -/
def f_X4_debt (x0 x1 x2 : Int) (M : Mem) : Option (Int) :=
    getf M x0 8 (fun v1 => geti M v1 (w32 ((w32 (x1 * 10)) + x2)) (fun v2 => some v2))

/-- WaterTurns$Standing.addLoan(III)V -/
def f_X4_addLoan (x0 x1 x2 x3 : Int) (M : Mem) : Option (Mem) :=
    getf M x0 5 (fun v1 => getf M x0 3 (fun v2 => seti M v1 v2 x1 (fun M3 => getf M3 x0 6 (fun v4 => getf M3 x0 3 (fun v5 => seti M3 v4 v5 x2 (fun M6 => getf M6 x0 7 (fun v7 => getf M6 x0 3 (fun v8 => seti M6 v7 v8 x3 (fun M9 => getf M9 x0 3 (fun v10 => putf M9 x0 3 (w32 (v10 + 1)) (fun M11 => callp (f_X4_debt x0 x1 x2 M11) (fun v12 => callp (f_J9_min_7cf53 x3 v12 M11) (fun v13 => getf M11 x0 8 (fun v14 => geti M11 v14 (w32 ((w32 (x1 * 10)) + x2)) (fun v15 => seti M11 v14 (w32 ((w32 (x1 * 10)) + x2)) (w32 (v15 - v13)) (fun M16 => getf M16 x0 8 (fun v17 => geti M16 v17 (w32 ((w32 (x2 * 10)) + x1)) (fun v18 => seti M16 v17 (w32 ((w32 (x2 * 10)) + x1)) (w32 (v18 + (w32 (x3 - v13)))) (fun M19 => some M19)))))))))))))))))))

/-- WaterTurns$World.makeLoan(IIILWaterTurns$Slots;)I -/
def f_X10_makeLoan (x0 x1 x2 x3 x4 : Int) (M : Mem) : Option (Int × Mem) :=
    getf M x0 2 (fun v1 => getf M v1 3 (fun v2 => if v2 < 12 then (nn x4 (callv (f_X3_lay x4 x0 M) (fun M4 => getf M4 x4 2 (fun v5 => geti M4 v5 x1 (fun v6 => if x3 ≤ v6 then (getf M4 x0 2 (fun v7 => nn v7 (callv (f_X4_addLoan v7 x1 x2 x3 M4) (fun M9 => some (0, M9)))))
      else (some (7, M4)))))))
      else (some (4, M))))

/-- WaterTurns$Life.pay(LWaterTurns$World;LWaterTurns$Slots;II)I -/
def f_X2_pay (x0 x1 x2 x3 : Int) (M : Mem) : Option (Int × Mem) :=
    nn x1 (callv (f_X3_lay x1 x0 M) (fun M2 => getf M2 x0 2 (fun v3 => nn v3 (callp (f_X4_debt v3 x2 x3 M2) (fun v5 => getf M2 x1 2 (fun v6 => geti M2 v6 x2 (fun v7 => callp (f_J9_min_7cf53 v5 v7 M2) (fun v8 => jn (fun (q9 : Int) (M10 : Mem) => some (q9, M10)) (fun j45 => if 1 ≤ v8 then (nn x0 (call (f_X10_makeLoan x0 x2 x3 v8 x1 M2) (fun v12 M13 => j45 v12 M13)))
      else (j45 7 M2))))))))))

/-- WaterTurns$Life.draw(LWaterTurns$World;I)V -/
def f_X2_draw (x0 x1 x2 : Int) (M : Mem) : Option (Mem) :=
    getf M x0 5 (fun v1 => iremc (w32 ((w32 (v1 * 2753)) + 10559)) 65536 (fun v2 => putf M x0 5 v2 (fun M3 => getf M3 x0 5 (fun v4 => idivc v4 8 (fun v5 => iremc v5 16 (fun v6 => jn (fun (M7 : Mem) => some M7) (fun j56 => if x2 ≤ v6 then (j56 M3)
      else (getf M3 x1 2 (fun v8 => getf M3 v8 0 (fun v9 => idivc v9 2 (fun v10 => putf M3 v8 0 v10 (fun M11 => getf M11 x0 3 (fun v12 => putf M11 x0 3 (w32 (v12 + 1)) (fun M13 => j56 M13))))))))))))))

/-- java/lang/Math.min(JJ)J -/
def f_J9_min_f86c9 (x0 x2 : Int) (M : Mem) : Option (Int) :=
    jn (fun (q1 : Int) => some q1) (fun j11 => if x2 < x0 then (j11 x2)
      else (j11 x0))

/-- java/lang/Math.max(II)I -/
def f_J9_max_7cf53 (x0 x1 : Int) (M : Mem) : Option (Int) :=
    jn (fun (q1 : Int) => some q1) (fun j10 => if x0 < x1 then (j10 x1)
      else (j10 x0))

/-- WaterTurns$Sweep.flow(LWaterTurns$Valley;II)V -/
def f_X5_flow_L3 (x0 x1 x2 x3 : Int) (k : Mem → Option (Mem)) : Nat → Int → Mem → Option (Mem)
  | 0, _, _ => none
  | n + 1, p1, M2 =>
    getf M2 x1 3 (fun v3 => if v3 ≤ p1 then (k M2)
      else (getf M2 x1 8 (fun v4 => geti M2 v4 p1 (fun v5 => getf M2 x0 1 (fun v6 => geti M2 v5 0 (fun v7 => jn (fun (q8 : Int) => seti M2 v6 p1 q8 (fun M9 => getf M9 x0 2 (fun v10 => geti M9 v5 3 (fun v11 => jn (fun (q12 : Int) => seti M9 v10 p1 q12 (fun M13 => getf M13 x0 2 (fun v14 => geti M13 v14 p1 (fun v15 => geti M13 v5 2 (fun v16 => callp (f_J9_max_7cf53 1 v16 M13) (fun v17 => ldivc v15 v17 (fun v18 => geti M13 v5 1 (fun v19 => letv (w64 (v18 * v19)) (fun v20 => getf M13 x0 3 (fun v21 => jn (fun (q22 : Int) => seti M13 v21 p1 q22 (fun M23 => f_X5_flow_L3 x0 x1 x2 x3 k n (w32 (p1 + 1)) M23)) (fun j157 => if p1 ≠ x3 then (getf M13 x0 2 (fun v24 => geti M13 v24 p1 (fun v25 => j157 (w64 (v25 - v20)))))
      else (getf M13 x0 2 (fun v26 => geti M13 v26 p1 (fun v27 => j157 v27)))))))))))))) (fun j99 => if v11 ≠ (-1) then (getf M9 x0 1 (fun v28 => geti M9 v28 p1 (fun v29 => geti M9 v5 3 (fun v30 => getf M9 x1 7 (fun v31 => callp (f_J9_min_f86c9 v29 (w64 (v30 * v31)) M9) (fun v32 => j99 v32))))))
      else (getf M9 x0 1 (fun v33 => geti M9 v33 p1 (fun v34 => j99 v34)))))))) (fun j54 => if v7 ≠ (-1) then (getf M2 x0 3 (fun v35 => geti M2 v5 0 (fun v36 => geti M2 v35 v36 (fun v37 => j54 v37))))
      else (getf M2 x1 7 (fun v38 => j54 (w64 (x2 * v38)))))))))))

def f_X5_flow (x0 x1 x2 x3 : Int) (M : Mem) : Option (Mem) :=
    f_X5_flow_L3 x0 x1 x2 x3 (fun (M40 : Mem) => some M40) KF 0 M

/-- java/util/Arrays.fill([II)V -/
def f_J7_fill_53178_L5 (v1 x0 x1 : Int) (k : Mem → Option (Mem)) : Nat → Int → Mem → Option (Mem)
  | 0, _, _ => none
  | n + 1, p2, M3 =>
    if v1 ≤ p2 then (k M3)
      else (seti M3 x0 p2 x1 (fun M4 => f_J7_fill_53178_L5 v1 x0 x1 k n (w32 (p2 + 1)) M4))

def f_J7_fill_53178 (x0 x1 : Int) (M : Mem) : Option (Mem) :=
    alen M x0 (fun v1 => f_J7_fill_53178_L5 v1 x0 x1 (fun (M6 : Mem) => some M6) KF 0 M)

/-- java/lang/Math.floorMod(II)I -/
def f_J9_floorMod_7cf53 (x0 x1 : Int) (M : Mem) : Option (Int) :=
    iremc x0 x1 (fun v1 => jn (some v1) (fun j18 => if 0 ≤ ixorv x0 x1 then (j18)
      else (if v1 = 0 then (j18)
      else (some (w32 (v1 + x1))))))

/-- WaterTurns$Valley.nextChange(II)I -/
def f_X8_nextChange_L5 (M : Mem) (x0 x1 : Int) (k : Int → Option (Int)) : Nat → Int → Int → Option (Int)
  | 0, _, _ => none
  | n + 1, p1, p2 =>
    getf M x0 3 (fun v3 => if v3 ≤ p2 then (k p1)
      else (getf M x0 8 (fun v4 => geti M v4 p2 (fun v5 => geti M v5 4 (fun v6 => jn (fun (q7 : Int) => f_X8_nextChange_L5 M x0 x1 k n q7 (w32 (p2 + 1))) (fun j105 => if v6 = (-1) then (j105 p1)
      else (getf M x0 8 (fun v8 => geti M v8 p2 (fun v9 => geti M v9 4 (fun v10 => getf M x0 2 (fun v11 => callp (f_J9_floorMod_7cf53 (w32 (v10 - v11)) 1440 M) (fun v12 => getf M x0 8 (fun v13 => geti M v13 p2 (fun v14 => geti M v14 5 (fun v15 => getf M x0 2 (fun v16 => callp (f_J9_floorMod_7cf53 (w32 (v15 - v16)) 1440 M) (fun v17 => jn (fun (q18 : Int) => jn (fun (q19 : Int) => j105 q19) (fun j104 => if v17 ≤ x1 then (j104 q18)
      else (callp (f_J9_min_7cf53 q18 v17 M) (fun v20 => j104 v20)))) (fun j87 => if v12 ≤ x1 then (j87 p1)
      else (callp (f_J9_min_7cf53 p1 v12 M) (fun v21 => j87 v21))))))))))))))))))))

def f_X8_nextChange (x0 x1 x2 : Int) (M : Mem) : Option (Int) :=
    f_X8_nextChange_L5 M x0 x1 (fun (q23 : Int) => some q23) KF x2 0

/-- WaterTurns$Standing.isClosed(I)Z -/
def f_X4_isClosed (x0 x1 : Int) (M : Mem) : Option (Int) :=
    getf M x0 2 (fun v1 => jn (fun (q2 : Int) => retz q2) (fun j17 => if iandv (ishrv v1 x1) 1 ≠ 1 then (j17 0)
      else (j17 1)))

/-- WaterTurns$Valley.isShut(II)Z -/
def f_X8_isShut (x0 x1 x2 : Int) (M : Mem) : Option (Int) :=
    getf M x0 2 (fun v1 => iremc (w32 (v1 + x2)) 1440 (fun v2 => getf M x0 8 (fun v3 => geti M v3 x1 (fun v4 => geti M v4 4 (fun v5 => jn (fun (q6 : Int) => retz q6) (fun j52 => jn (j52 0) (fun j51 => if v5 = (-1) then (j51)
      else (getf M x0 8 (fun v7 => geti M v7 x1 (fun v8 => geti M v8 4 (fun v9 => if v2 < v9 then (j51)
      else (getf M x0 8 (fun v10 => geti M v10 x1 (fun v11 => geti M v11 5 (fun v12 => if v12 ≤ v2 then (j51)
      else (j52 1))))))))))))))))

/-- WaterTurns$Sweep.openAt(LWaterTurns$World;I)I -/
def f_X5_openAt_L11 (M : Mem) (v1 x1 x2 : Int) (k : Int → Option (Int)) : Nat → Int → Int → Option (Int)
  | 0, _, _ => none
  | n + 1, p2, p3 =>
    getf M v1 3 (fun v4 => if v4 ≤ p3 then (k p2)
      else (getf M v1 8 (fun v5 => geti M v5 p3 (fun v6 => geti M v6 0 (fun v7 => jn (fun (q8 : Int) => jn (fun (q9 : Int) => f_X5_openAt_L11 M v1 x1 x2 k n q9 (w32 (p3 + 1))) (fun j91 => if q8 = 0 then (j91 p2)
      else (getf M x1 2 (fun v10 => nn v10 (callp (f_X4_isClosed v10 p3 M) (fun v12 => if v12 ≠ 0 then (j91 p2)
      else (nn v1 (callp (f_X8_isShut v1 p3 x2 M) (fun v14 => if v14 ≠ 0 then (j91 p2)
      else (letv (iorv p2 (ishlv 1 p3)) (fun v15 => j91 v15))))))))))) (fun j53 => jn (j53 1) (fun j48 => if v7 = (-1) then (j48)
      else (if iandv (ishrv p2 v7) 1 ≠ 1 then (j53 0)
      else (j48)))))))))

def f_X5_openAt (x0 x1 x2 : Int) (M : Mem) : Option (Int) :=
    getf M x1 0 (fun v1 => f_X5_openAt_L11 M v1 x1 x2 (fun (q17 : Int) => some q17) KF 0 0)

/-- WaterTurns$Sweep.count(LWaterTurns$Valley;III)V -/
def f_X5_count_L49 (x0 x1 x3 x4 : Int) (k : Mem → Option (Mem)) : Nat → Int → Int → Mem → Option (Mem)
  | 0, _, _, _ => none
  | n + 1, p11, p12, M13 =>
    if 10 ≤ p12 then (k M13)
      else (if p11 = (-1) then (k M13)
      else (getf M13 x1 8 (fun v14 => geti M13 v14 p11 (fun v15 => geti M13 v15 0 (fun v16 => jn (fun (M17 : Mem) => f_X5_count_L49 x0 x1 x3 x4 k n v16 (w32 (p12 + 1)) M17) (fun j126 => if iandv (ishrv x3 p11) 1 ≠ 1 then (jn (getf M13 x0 5 (fun v18 => geti M13 v18 p11 (fun v19 => seti M13 v18 p11 (w32 (v19 + x4)) (fun M20 => j126 M20)))) (fun j114 => if v16 = (-1) then (j114)
      else (if iandv (ishrv x3 v16) 1 ≠ 1 then (j126 M13)
      else (j114))))
      else (getf M13 x0 4 (fun v21 => geti M13 v21 p11 (fun v22 => seti M13 v21 p11 (w32 (v22 + x4)) (fun M23 => j126 M23))))))))))

def f_X5_count (x0 x1 x2 x3 x4 : Int) (M : Mem) : Option (Mem) :=
    getf M x1 9 (fun v1 => geti M v1 x2 (fun v2 => geti M v2 0 (fun v3 => getf M x0 6 (fun v4 => geti M v4 x2 (fun v5 => seti M v4 x2 (w32 (v5 + x4)) (fun M6 => getf M6 x0 7 (fun v7 => geti M6 v7 x2 (fun v8 => jn (fun (q9 : Int) => seti M6 v7 x2 (w32 (v8 + q9)) (fun M10 => f_X5_count_L49 x0 x1 x3 x4 (fun (M25 : Mem) => some M25) KF v3 0 M10)) (fun j44 => if iandv (ishrv x3 v3) 1 ≠ 1 then (j44 0)
      else (j44 x4))))))))))

/-- WaterTurns$Sweep.cutSlot(LWaterTurns$World;I)V -/
def f_X5_cutSlot_L31 (v7 x0 x1 x2 : Int) (k : Mem → Option (Mem)) : Nat → Int → Mem → Option (Mem)
  | 0, _, _ => none
  | n + 1, p11, M12 =>
    if v7 ≤ p11 then (k M12)
      else (getf M12 x0 8 (fun v13 => if 42 ≤ v13 then (k M12)
      else (getf M12 x1 0 (fun v14 => nn v14 (callp (f_X8_nextChange v14 p11 v7 M12) (fun v16 => callp (f_X5_openAt x0 x1 p11 M12) (fun v17 => getf M12 x0 0 (fun v18 => getf M12 v18 4 (fun v19 => geti M12 v19 x2 (fun v20 => getf M12 x0 9 (fun v21 => getf M12 x0 8 (fun v22 => seti M12 v21 v22 p11 (fun M23 => getf M23 x0 10 (fun v24 => getf M23 x0 8 (fun v25 => seti M23 v24 v25 v16 (fun M26 => getf M26 x0 11 (fun v27 => getf M26 x0 8 (fun v28 => seti M26 v27 v28 v20 (fun M29 => getf M29 x0 12 (fun v30 => getf M29 x0 8 (fun v31 => getf M29 x1 0 (fun v32 => getf M29 v32 9 (fun v33 => geti M29 v33 v20 (fun v34 => geti M29 v34 0 (fun v35 => jn (fun (q36 : Int) => setz M29 v30 v31 q36 (fun M37 => getf M37 x0 8 (fun v38 => putf M37 x0 8 (w32 (v38 + 1)) (fun M39 => getf M39 x1 0 (fun v40 => callv (f_X5_count x0 v40 v20 v17 (w32 (v16 - p11)) M39) (fun M41 => f_X5_cutSlot_L31 v7 x0 x1 x2 k n v16 M41)))))) (fun j145 => if iandv (ishrv v17 v35) 1 ≠ 1 then (j145 0)
      else (j145 1)))))))))))))))))))))))))))

def f_X5_cutSlot (x0 x1 x2 : Int) (M : Mem) : Option (Mem) :=
    getf M x0 0 (fun v1 => getf M v1 5 (fun v2 => geti M v2 x2 (fun v3 => getf M x0 0 (fun v4 => getf M v4 6 (fun v5 => geti M v5 x2 (fun v6 => letv (w32 (v3 + v6)) (fun v7 => getf M x0 0 (fun v8 => getf M v8 5 (fun v9 => geti M v9 x2 (fun v10 => f_X5_cutSlot_L31 v7 x0 x1 x2 (fun (M43 : Mem) => some M43) KF v10 M))))))))))

/-- WaterTurns$Sweep.over(LWaterTurns$World;)V -/
def f_X5_over_L63 (x0 x1 : Int) (k : Mem → Option (Mem)) : Nat → Int → Mem → Option (Mem)
  | 0, _, _ => none
  | n + 1, p17, M18 =>
    getf M18 x0 0 (fun v19 => getf M18 v19 3 (fun v20 => if v20 ≤ p17 then (k M18)
      else (callv (f_X5_cutSlot x0 x1 p17 M18) (fun M21 => f_X5_over_L63 x0 x1 k n (w32 (p17 + 1)) M21))))

def f_X5_over (x0 x1 : Int) (M : Mem) : Option (Mem) :=
    getf M x0 0 (fun v1 => nn v1 (callv (f_X3_lay v1 x1 M) (fun M3 => getf M3 x1 0 (fun v4 => getf M3 x1 2 (fun v5 => getf M3 v5 0 (fun v6 => callv (f_X5_flow x0 v4 v6 (-1) M3) (fun M7 => getf M7 x0 4 (fun v8 => callv (f_J7_fill_53178 v8 0 M7) (fun M9 => getf M9 x0 5 (fun v10 => callv (f_J7_fill_53178 v10 0 M9) (fun M11 => getf M11 x0 6 (fun v12 => callv (f_J7_fill_53178 v12 0 M11) (fun M13 => getf M13 x0 7 (fun v14 => callv (f_J7_fill_53178 v14 0 M13) (fun M15 => putf M15 x0 8 0 (fun M16 => f_X5_over_L63 x0 x1 (fun (M23 : Mem) => some M23) KF 0 M16))))))))))))))))

/-- WaterTurns$Sweep.rateOf(LWaterTurns$Valley;I)J -/
def f_X5_rateOf (x0 x1 x2 : Int) (M : Mem) : Option (Int) :=
    getf M x0 3 (fun v1 => getf M x1 9 (fun v2 => geti M v2 x2 (fun v3 => geti M v3 0 (fun v4 => geti M v1 v4 (fun v5 => some v5)))))

/-- WaterTurns$Sweep.gets(LWaterTurns$Valley;I)J -/
def f_X5_gets (x0 x1 x2 : Int) (M : Mem) : Option (Int) :=
    callp (f_X5_rateOf x0 x1 x2 M) (fun v1 => getf M x0 7 (fun v2 => geti M v2 x2 (fun v3 => some (w64 (v1 * v3)))))

/-- java/lang/Math.max(JJ)J -/
def f_J9_max_f86c9 (x0 x2 : Int) (M : Mem) : Option (Int) :=
    jn (fun (q1 : Int) => some q1) (fun j11 => if x0 < x2 then (j11 x2)
      else (j11 x0))

/-- WaterTurns$World.endSpan(LWaterTurns$Sweep;)I -/
def f_X10_endSpan_L21 (x0 x1 : Int) (k : Mem → Option (Int × Mem)) : Nat → Int → Mem → Option (Int × Mem)
  | 0, _, _ => none
  | n + 1, p5, M6 =>
    getf M6 x0 0 (fun v7 => getf M6 v7 5 (fun v8 => if v8 ≤ p5 then (k M6)
      else (getf M6 x0 2 (fun v9 => getf M6 v9 9 (fun v10 => geti M6 v10 p5 (fun v11 => getf M6 x0 0 (fun v12 => nn x1 (callp (f_X5_gets x1 v12 p5 M6) (fun v14 => getf M6 x0 0 (fun v15 => getf M6 v15 7 (fun v16 => callp (f_J9_max_f86c9 1 v16 M6) (fun v17 => ldivc v14 v17 (fun v18 => seti M6 v10 p5 (w64 (v11 + v18)) (fun M19 => f_X10_endSpan_L21 x0 x1 k n (w32 (p5 + 1)) M19))))))))))))))

def f_X10_endSpan (x0 x1 : Int) (M : Mem) : Option (Int × Mem) :=
    getf M x0 2 (fun v1 => getf M v1 1 (fun v2 => if v2 < 99 then (nn x1 (callv (f_X5_over x1 x0 M) (fun M4 => f_X10_endSpan_L21 x0 x1 (fun (M21 : Mem) => getf M21 x0 2 (fun v22 => putf M21 v22 3 0 (fun M23 => getf M23 x0 2 (fun v24 => getf M23 v24 1 (fun v25 => putf M23 v24 1 (w32 (v25 + 1)) (fun M26 => some (0, M26))))))) KF 0 M4)))
      else (some (4, M))))

/-- WaterTurns$Life.act(LWaterTurns$World;LWaterTurns$Sweep;I)I -/
def f_X2_act (x0 x1 x2 x3 : Int) (M : Mem) : Option (Int × Mem) :=
    getf M x1 1 (fun v1 => getf M v1 5 (fun v2 => geti M v2 x3 (fun v3 => getf M v1 6 (fun v4 => geti M v4 x3 (fun v5 => getf M v1 3 (fun v6 => geti M v6 x3 (fun v7 => if v7 = 8 then (getf M x1 2 (fun v8 => getf M v1 3 (fun v9 => geti M v9 x3 (fun v10 => jn (fun (q11 : Int) => nn v8 (callv (f_X4_setClosed v8 v3 q11 M) (fun M13 => some (0, M13)))) (fun j127 => if v10 ≠ 8 then (j127 0)
      else (j127 1))))))
      else if v7 = 16 then (getf M x1 2 (fun v14 => getf M v1 3 (fun v15 => geti M v15 x3 (fun v16 => jn (fun (q17 : Int) => nn v14 (callv (f_X4_setClosed v14 v3 q17 M) (fun M19 => some (0, M19)))) (fun j127 => if v16 ≠ 8 then (j127 0)
      else (j127 1))))))
      else if v7 = 17 then (jn (fun (q20 : Int) (M21 : Mem) => some (q20, M21)) (fun j151 => if v3 ≠ v5 then (nn x1 (call (f_X10_changePlaces x1 v3 v5 M) (fun v23 M24 => j151 v23 M24)))
      else (j151 1 M)))
      else if v7 = 18 then (jn (fun (q25 : Int) (M26 : Mem) => some (q25, M26)) (fun j182 => if v3 ≠ v5 then (getf M v1 8 (fun v27 => geti M v27 x3 (fun v28 => getf M x2 0 (fun v29 => nn x1 (call (f_X10_makeLoan x1 v3 v5 v28 v29 M) (fun v31 M32 => j182 v31 M32))))))
      else (j182 1 M)))
      else if v7 = 19 then (getf M x2 0 (fun v33 => call (f_X2_pay x1 v33 v3 v5 M) (fun v34 M35 => some (v34, M35))))
      else if v7 = 20 then (getf M x1 2 (fun v36 => getf M v1 8 (fun v37 => geti M v37 x3 (fun v38 => putf M v36 0 v38 (fun M39 => some (0, M39))))))
      else if v7 = 21 then (getf M v1 8 (fun v40 => geti M v40 x3 (fun v41 => callv (f_X2_draw x0 x1 v41 M) (fun M42 => some (0, M42)))))
      else if v7 = 22 then (nn x1 (call (f_X10_endSpan x1 x2 M) (fun v44 M45 => some (v44, M45))))
      else (some (0, M)))))))))

/-- WaterTurns$Standing.allDebtBy(I)I -/
def f_X4_allDebtBy_L4 (M : Mem) (x0 x1 : Int) (k : Int → Option (Int)) : Nat → Int → Int → Option (Int)
  | 0, _, _ => none
  | n + 1, p1, p2 =>
    if 10 ≤ p2 then (k p1)
      else (callp (f_X4_debt x0 x1 p2 M) (fun v3 => letv (w32 (p1 + v3)) (fun v4 => f_X4_allDebtBy_L4 M x0 x1 k n v4 (w32 (p2 + 1)))))

def f_X4_allDebtBy (x0 x1 : Int) (M : Mem) : Option (Int) :=
    f_X4_allDebtBy_L4 M x0 x1 (fun (q6 : Int) => some q6) KF 0 0

/-- WaterTurns$Life.isSo(LWaterTurns$World;I)Z -/
def f_X2_isSo (x0 x1 : Int) (M : Mem) : Option (Int) :=
    getf M x0 1 (fun v1 => getf M v1 5 (fun v2 => geti M v2 x1 (fun v3 => getf M v1 4 (fun v4 => geti M v4 x1 (fun v5 => if v5 ≠ 8 then (getf M v1 4 (fun v6 => geti M v6 x1 (fun v7 => jn (fun (q8 : Int) => jn (fun (q9 : Int) => getf M v1 8 (fun v10 => geti M v10 x1 (fun v11 => getf M v1 7 (fun v12 => geti M v12 x1 (fun v13 => jn (fun (q14 : Int) => retz q14) (fun j154 => if v13 ≠ 60 then (getf M v1 7 (fun v15 => geti M v15 x1 (fun v16 => if v16 ≠ 62 then (if q9 ≠ v11 then (j154 0)
      else (j154 1))
      else (if q9 ≤ v11 then (j154 0)
      else (j154 1)))))
      else (if v11 ≤ q9 then (j154 0)
      else (j154 1)))))))) (fun j76 => if q8 = 0 then (getf M x0 2 (fun v17 => getf M v17 9 (fun v18 => geti M v18 v3 (fun v19 => j76 v19))))
      else (getf M x0 2 (fun v20 => nn v20 (callp (f_X4_allDebtBy v20 v3 M) (fun v22 => j76 v22)))))) (fun j48 => if v7 ≠ 25 then (j48 0)
      else (j48 1)))))
      else (getf M x0 2 (fun v23 => nn v23 (callp (f_X4_isClosed v23 v3 M) (fun v25 => retz v25)))))))))

/-- WaterTurns$Life.behindStep(LWaterTurns$World;I)I -/
def f_X2_behindStep (x0 x1 x2 : Int) (M : Mem) : Option (Int × Mem) :=
    getf M x1 1 (fun v1 => getf M v1 3 (fun v2 => geti M v2 x2 (fun v3 => if v3 = 23 then (callp (f_X2_isSo x1 x2 M) (fun v4 => jn (fun (q5 : Int) => some (q5, M)) (fun j71 => if v4 = 0 then (getf M v1 9 (fun v6 => geti M v6 x2 (fun v7 => j71 (w32 (v7 + 1)))))
      else (j71 (w32 (x2 + 1))))))
      else if v3 = 27 then (getf M x0 6 (fun v8 => getf M v1 8 (fun v9 => geti M v9 x2 (fun v10 => seti M v8 x2 v10 (fun M11 => some (w32 (x2 + 1), M11))))))
      else if v3 = 29 then (getf M v1 2 (fun v12 => some (v12, M)))
      else (some (w32 (x2 + 1), M)))))

/-- WaterTurns$Life.run(LWaterTurns$World;LWaterTurns$Sweep;I)V -/
def f_X2_run_L46 (v6 v8 x0 x1 x2 : Int) (k : Mem → Option (Mem)) : Nat → Int → Int → Mem → Option (Mem)
  | 0, _, _, _ => none
  | n + 1, p9, p10, M11 =>
    if 100000 ≤ p10 then (k M11)
      else (getf M11 v6 2 (fun v12 => if v12 ≤ p9 then (k M11)
      else (getf M11 x0 4 (fun v13 => if v13 ≠ 0 then (k M11)
      else (getf M11 v6 3 (fun v14 => geti M11 v14 p9 (fun v15 => jn (fun (q16 : Int) (M17 : Mem) => f_X2_run_L46 v6 v8 x0 x1 x2 k n q16 (w32 (p10 + 1)) M17) (fun j158 => if v15 ≠ 28 then (getf M11 x0 0 (fun v18 => if v18 < 300 then (getf M11 x0 0 (fun v19 => putf M11 x0 0 (w32 (v19 + 1)) (fun M20 => getf M20 x0 2 (fun v21 => call (f_X2_act x0 x1 x2 p9 M20) (fun v22 M23 => jn (fun (q24 : Int) => putf M23 x0 2 (w32 (v21 + q24)) (fun M25 => call (f_X2_behindStep x0 x1 p9 M25) (fun v26 M27 => j158 v26 M27))) (fun j145 => if v22 ≠ 0 then (j145 1)
      else (j145 0)))))))
      else (putz M11 x0 4 1 (fun M28 => j158 p9 M28))))
      else (call (f_X2_behindEnd x0 v6 p9 M11) (fun v29 M30 => j158 v29 M30))))))))))

def f_X2_run (x0 x1 x2 x3 : Int) (M : Mem) : Option (Mem) :=
    putf M x0 0 0 (fun M1 => putf M1 x0 2 0 (fun M2 => putf M2 x0 3 0 (fun M3 => putz M3 x0 4 0 (fun M4 => putf M4 x0 5 x3 (fun M5 => getf M5 x1 1 (fun v6 => getf M5 x1 2 (fun v7 => getf M5 v7 1 (fun v8 => f_X2_run_L46 v6 v8 x0 x1 x2 (fun (M32 : Mem) => getf M32 x1 2 (fun v33 => getf M32 v33 1 (fun v34 => putf M32 x0 1 (w32 (v34 - v8)) (fun M35 => some M35)))) KF 0 0 M5))))))))

/-- WaterTurns$Slots.<init>()V -/
def f_X3_init (x0 : Int) (M : Mem) : Option (Mem) :=
    newo M 10 10 (fun v1 M2 => putf M2 x0 0 v1 (fun M3 => newo M3 10 10 (fun v4 M5 => putf M5 x0 1 v4 (fun M6 => newo M6 10 10 (fun v7 M8 => putf M8 x0 2 v7 (fun M9 => putf M9 x0 3 0 (fun M10 => newo M10 10 22 (fun v11 M12 => putf M12 x0 4 v11 (fun M13 => newo M13 10 22 (fun v14 M15 => putf M15 x0 5 v14 (fun M16 => newo M16 10 22 (fun v17 M18 => putf M18 x0 6 v17 (fun M19 => some M19)))))))))))))

/-- WaterTurns$Standing.<init>()V -/
def f_X4_init (x0 : Int) (M : Mem) : Option (Mem) :=
    putf M x0 0 100 (fun M1 => putf M1 x0 1 0 (fun M2 => putf M2 x0 2 0 (fun M3 => putf M3 x0 3 0 (fun M4 => newo M4 10 10 (fun v5 M6 => putf M6 x0 4 v5 (fun M7 => newo M7 10 12 (fun v8 M9 => putf M9 x0 5 v8 (fun M10 => newo M10 10 12 (fun v11 M12 => putf M12 x0 6 v11 (fun M13 => newo M13 10 12 (fun v14 M15 => putf M15 x0 7 v14 (fun M16 => newo M16 10 100 (fun v17 M18 => putf M18 x0 8 v17 (fun M19 => newo M19 11 10 (fun v20 M21 => putf M21 x0 9 v20 (fun M22 => some M22))))))))))))))))

/-- WaterTurns$Standing.take(LWaterTurns$Standing;)V -/
def f_X4_take (x0 x1 : Int) (M : Mem) : Option (Mem) :=
    getf M x1 0 (fun v1 => putf M x0 0 v1 (fun M2 => getf M2 x1 1 (fun v3 => putf M2 x0 1 v3 (fun M4 => getf M4 x1 2 (fun v5 => putf M4 x0 2 v5 (fun M6 => getf M6 x1 3 (fun v7 => putf M6 x0 3 v7 (fun M8 => getf M8 x1 4 (fun v9 => getf M8 x0 4 (fun v10 => acopy M8 v9 0 v10 0 10 (fun M11 => getf M11 x1 5 (fun v12 => getf M11 x0 5 (fun v13 => acopy M11 v12 0 v13 0 12 (fun M14 => getf M14 x1 6 (fun v15 => getf M14 x0 6 (fun v16 => acopy M14 v15 0 v16 0 12 (fun M17 => getf M17 x1 7 (fun v18 => getf M17 x0 7 (fun v19 => acopy M17 v18 0 v19 0 12 (fun M20 => getf M20 x1 8 (fun v21 => getf M20 x0 8 (fun v22 => getf M20 x0 8 (fun v23 => alen M20 v23 (fun v24 => acopy M20 v21 0 v22 0 v24 (fun M25 => getf M25 x1 9 (fun v26 => getf M25 x0 9 (fun v27 => acopy M25 v26 0 v27 0 10 (fun M28 => some M28))))))))))))))))))))))))))))

/-- java/util/Arrays.fill([JJ)V -/
def f_J7_fill_d0a16_L6 (v1 x0 x1 : Int) (k : Mem → Option (Mem)) : Nat → Int → Mem → Option (Mem)
  | 0, _, _ => none
  | n + 1, p2, M3 =>
    if v1 ≤ p2 then (k M3)
      else (seti M3 x0 p2 x1 (fun M4 => f_J7_fill_d0a16_L6 v1 x0 x1 k n (w32 (p2 + 1)) M4))

def f_J7_fill_d0a16 (x0 x1 : Int) (M : Mem) : Option (Mem) :=
    alen M x0 (fun v1 => f_J7_fill_d0a16_L6 v1 x0 x1 (fun (M6 : Mem) => some M6) KF 0 M)

/-- WaterTurns$Standing.clear()V -/
def f_X4_clear (x0 : Int) (M : Mem) : Option (Mem) :=
    putf M x0 1 0 (fun M1 => putf M1 x0 2 0 (fun M2 => putf M2 x0 3 0 (fun M3 => getf M3 x0 8 (fun v4 => callv (f_J7_fill_53178 v4 0 M3) (fun M5 => getf M5 x0 9 (fun v6 => callv (f_J7_fill_d0a16 v6 0 M5) (fun M7 => some M7)))))))

/-- WaterTurns$Standing.allDebtTo(I)I -/
def f_X4_allDebtTo_L4 (M : Mem) (x0 x1 : Int) (k : Int → Option (Int)) : Nat → Int → Int → Option (Int)
  | 0, _, _ => none
  | n + 1, p1, p2 =>
    if 10 ≤ p2 then (k p1)
      else (callp (f_X4_debt x0 p2 x1 M) (fun v3 => letv (w32 (p1 + v3)) (fun v4 => f_X4_allDebtTo_L4 M x0 x1 k n v4 (w32 (p2 + 1)))))

def f_X4_allDebtTo (x0 x1 : Int) (M : Mem) : Option (Int) :=
    f_X4_allDebtTo_L4 M x0 x1 (fun (q6 : Int) => some q6) KF 0 0

/-- WaterTurns$Sweep.<init>()V -/
def f_X5_init (x0 : Int) (M : Mem) : Option (Mem) :=
    newo M 22 0 (fun v1 M2 => nn v1 (callv (f_X3_init v1 M2) (fun M4 => putf M4 x0 0 v1 (fun M5 => newo M5 11 10 (fun v6 M7 => putf M7 x0 1 v6 (fun M8 => newo M8 11 10 (fun v9 M10 => putf M10 x0 2 v9 (fun M11 => newo M11 11 10 (fun v12 M13 => putf M13 x0 3 v12 (fun M14 => newo M14 10 10 (fun v15 M16 => putf M16 x0 4 v15 (fun M17 => newo M17 10 10 (fun v18 M19 => putf M19 x0 5 v18 (fun M20 => newo M20 10 10 (fun v21 M22 => putf M22 x0 6 v21 (fun M23 => newo M23 10 10 (fun v24 M25 => putf M25 x0 7 v24 (fun M26 => putf M26 x0 8 0 (fun M27 => newo M27 10 42 (fun v28 M29 => putf M29 x0 9 v28 (fun M30 => newo M30 10 42 (fun v31 M32 => putf M32 x0 10 v31 (fun M33 => newo M33 10 42 (fun v34 M35 => putf M35 x0 11 v34 (fun M36 => newo M36 13 42 (fun v37 M38 => putf M38 x0 12 v37 (fun M39 => some M39)))))))))))))))))))))))))))

/-- WaterTurns$Sweep.waterIn(LWaterTurns$Valley;I)J -/
def f_X5_waterIn_L5 (M : Mem) (x0 x1 x2 : Int) (k : Int → Option (Int)) : Nat → Int → Int → Option (Int)
  | 0, _, _ => none
  | n + 1, p1, p2 =>
    getf M x1 5 (fun v3 => if v3 ≤ p2 then (k p1)
      else (jn (fun (q4 : Int) => letv (w64 (p1 + q4)) (fun v5 => f_X5_waterIn_L5 M x0 x1 x2 k n v5 (w32 (p2 + 1)))) (fun j36 => if iandv (ishrv x2 p2) 1 ≠ 1 then (j36 0)
      else (callp (f_X5_gets x0 x1 p2 M) (fun v6 => j36 v6)))))

def f_X5_waterIn (x0 x1 x2 : Int) (M : Mem) : Option (Int) :=
    f_X5_waterIn_L5 M x0 x1 x2 (fun (q8 : Int) => some q8) KF 0 0

/-- WaterTurns$Sweep.allWater(LWaterTurns$Valley;)J -/
def f_X5_allWater (x0 x1 : Int) (M : Mem) : Option (Int) :=
    callp (f_X5_waterIn x0 x1 (-1) M) (fun v1 => some v1)

/-- WaterTurns$Sweep.losesAt(I)J -/
def f_X5_losesAt (x0 x1 : Int) (M : Mem) : Option (Int) :=
    getf M x0 2 (fun v1 => geti M v1 x1 (fun v2 => getf M x0 3 (fun v3 => geti M v3 x1 (fun v4 => getf M x0 4 (fun v5 => geti M v5 x1 (fun v6 => some (w64 ((w64 (v2 - v4)) * v6))))))))

/-- WaterTurns$Sweep.spillsAt(I)J -/
def f_X5_spillsAt (x0 x1 : Int) (M : Mem) : Option (Int) :=
    getf M x0 1 (fun v1 => geti M v1 x1 (fun v2 => getf M x0 2 (fun v3 => geti M v3 x1 (fun v4 => getf M x0 4 (fun v5 => geti M v5 x1 (fun v6 => getf M x0 1 (fun v7 => geti M v7 x1 (fun v8 => getf M x0 5 (fun v9 => geti M v9 x1 (fun v10 => some (w64 ((w64 ((w64 (v2 - v4)) * v6)) + (w64 (v8 * v10))))))))))))))

/-- WaterTurns$Sweep.isWet(LWaterTurns$Valley;I)Z -/
def f_X5_isWet (x0 x1 x2 : Int) (M : Mem) : Option (Int) :=
    getf M x0 12 (fun v1 => geti M v1 x2 (fun v2 => jn (fun (q3 : Int) => retz q3) (fun j30 => jn (j30 0) (fun j29 => if v2 = 0 then (j29)
      else (getf M x0 11 (fun v4 => geti M v4 x2 (fun v5 => callp (f_X5_rateOf x0 x1 v5 M) (fun v6 => if v6 ≤ 0 then (j29)
      else (j30 1)))))))))

/-- WaterTurns$Sweep.shortOf(LWaterTurns$Valley;I)I -/
def f_X5_shortOf (x0 x1 x2 : Int) (M : Mem) : Option (Int) :=
    getf M x1 9 (fun v1 => geti M v1 x2 (fun v2 => geti M v2 2 (fun v3 => getf M x1 7 (fun v4 => callp (f_X5_gets x0 x1 x2 M) (fun v5 => letv (w64 ((w64 (v3 * v4)) - v5)) (fun v6 => callp (f_X5_rateOf x0 x1 x2 M) (fun v7 => if 0 < v6 then (jn (fun (q8 : Int) => some q8) (fun j65 => if 1 ≤ v7 then (ldivc (w64 ((w64 (v6 + v7)) - 1)) v7 (fun v9 => callp (f_J9_min_f86c9 999999 v9 M) (fun v10 => j65 (w32 v10))))
      else (j65 (-1))))
      else (some 0))))))))

/-- WaterTurns$Sweep.spareOf(LWaterTurns$Valley;I)I -/
def f_X5_spareOf (x0 x1 x2 : Int) (M : Mem) : Option (Int) :=
    callp (f_X5_shortOf x0 x1 x2 M) (fun v1 => if v1 = 0 then (callp (f_X5_rateOf x0 x1 x2 M) (fun v2 => callp (f_J9_max_f86c9 1 v2 M) (fun v3 => getf M x1 9 (fun v4 => geti M v4 x2 (fun v5 => geti M v5 2 (fun v6 => getf M x1 7 (fun v7 => ldivc (w64 ((w64 ((w64 (v6 * v7)) + v3)) - 1)) v3 (fun v8 => getf M x0 6 (fun v9 => geti M v9 x2 (fun v10 => some (w32 (w64 (v10 - v8)))))))))))))
      else (some 0))

/-- java/lang/Long.compare(JJ)I -/
def f_J13_compare_74951 (x0 x2 : Int) (M : Mem) : Option (Int) :=
    jn (fun (q1 : Int) => some q1) (fun j21 => if x2 ≤ x0 then (if x0 ≠ x2 then (j21 1)
      else (j21 0))
      else (j21 (-1)))

/-- WaterTurns$Sweep.compareWorth(LWaterTurns$Valley;II)I -/
def f_X5_compareWorth (x0 x1 x2 x3 : Int) (M : Mem) : Option (Int) :=
    callp (f_X5_gets x0 x1 x2 M) (fun v1 => getf M x1 9 (fun v2 => geti M v2 x3 (fun v3 => geti M v3 1 (fun v4 => callp (f_X5_gets x0 x1 x3 M) (fun v5 => getf M x1 9 (fun v6 => geti M v6 x2 (fun v7 => geti M v7 1 (fun v8 => callp (f_J13_compare_74951 (w64 (v1 * v4)) (w64 (v5 * v8)) M) (fun v9 => some v9)))))))))

/-- WaterTurns$Tape.<init>()V -/
def f_X6_init_L83 (x0 : Int) (k : Mem → Option (Mem)) : Nat → Int → Int → Int → Mem → Option (Mem)
  | 0, _, _, _, _ => none
  | n + 1, p18, p19, p20, M21 =>
    callp (s_len (-1)) (fun v22 => if v22 ≤ p20 then (k M21)
      else (callp (s_chr (-1) p20) (fun v23 => jn (fun (q24 : Int) (q25 : Int) (M26 : Mem) => f_X6_init_L83 x0 k n q24 q25 (w32 (p20 + 1)) M26) (fun j145 => if v23 = 32 then (if 30 ≤ p18 then (j145 p18 p19 M21)
      else (getf M21 x0 1 (fun v27 => seti M21 v27 p18 p19 (fun M28 => j145 (w32 (p18 + 1)) 0 M28))))
      else (letv (w64 ((w64 (p19 * 32)) + (w32 ((w32 (v23 - 97)) + 1)))) (fun v29 => j145 p18 v29 M21))))))

def f_X6_init (x0 : Int) (M : Mem) : Option (Mem) :=
    newo M 12 900 (fun v1 M2 => putf M2 x0 0 v1 (fun M3 => newo M3 11 30 (fun v4 M5 => putf M5 x0 1 v4 (fun M6 => putf M6 x0 2 0 (fun M7 => putf M7 x0 3 0 (fun M8 => putf M8 x0 4 0 (fun M9 => putf M9 x0 5 0 (fun M10 => putf M10 x0 6 0 (fun M11 => putf M11 x0 7 0 (fun M12 => putf M12 x0 8 0 (fun M13 => putf M13 x0 9 (-1) (fun M14 => putf M14 x0 10 0 (fun M15 => putf M15 x0 11 (-1) (fun M16 => putf M16 x0 12 (-1) (fun M17 => f_X6_init_L83 x0 (fun (M31 : Mem) => some M31) KF 0 0 0 M17)))))))))))))))

/-- WaterTurns$Tape.hasRoom(I)Z -/
def f_X6_hasRoom (x0 x1 : Int) (M : Mem) : Option (Int) :=
    getf M x0 6 (fun v1 => jn (fun (q2 : Int) => retz q2) (fun j17 => if 900 < w32 (v1 + x1) then (j17 0)
      else (j17 1)))

/-- WaterTurns$Tape.addInt(I)V -/
def f_X6_addInt_L3 (x0 x1 : Int) (k : Mem → Option (Mem)) : Nat → Int → Mem → Option (Mem)
  | 0, _, _ => none
  | n + 1, p1, M2 =>
    if p1 < 0 then (k M2)
      else (getf M2 x0 6 (fun v3 => if 900 ≤ v3 then (k M2)
      else (getf M2 x0 0 (fun v4 => getf M2 x0 6 (fun v5 => seti M2 v4 v5 (w8 (w8 (ishrv x1 p1))) (fun M6 => getf M6 x0 6 (fun v7 => putf M6 x0 6 (w32 (v7 + 1)) (fun M8 => f_X6_addInt_L3 x0 x1 k n (w32 (p1 + (-8))) M8))))))))

def f_X6_addInt (x0 x1 : Int) (M : Mem) : Option (Mem) :=
    f_X6_addInt_L3 x0 x1 (fun (M10 : Mem) => some M10) KF 24 M

/-- WaterTurns$Tape.add(IIIII)I -/
def f_X6_add (x0 x1 x2 x3 x4 x5 : Int) (M : Mem) : Option (Int × Mem) :=
    callv (f_X6_addInt x0 x1 M) (fun M1 => callv (f_X6_addInt x0 x2 M1) (fun M2 => callv (f_X6_addInt x0 x3 M2) (fun M3 => callv (f_X6_addInt x0 x4 M3) (fun M4 => callv (f_X6_addInt x0 x5 M4) (fun M5 => getf M5 x0 6 (fun v6 => some (v6, M5)))))))

/-- WaterTurns$Tape.skip(I)Z -/
def f_X6_skip (x0 x1 : Int) (M : Mem) : Option (Int × Mem) :=
    callp (f_X6_isAt x0 x1 M) (fun v1 => if v1 ≠ 0 then (callv (f_X6_step x0 M) (fun M2 => retzm 1 M2))
      else (call (f_X6_blame x0 2 M) (fun v3 M4 => retzm v3 M4)))

/-- WaterTurns$Trays.<init>()V -/
def f_X7_init (x0 : Int) (M : Mem) : Option (Mem) :=
    newg M 15 11 4 60 (fun v1 M2 => putf M2 x0 0 v1 (fun M3 => newo M3 10 4 (fun v4 M5 => putf M5 x0 1 v4 (fun M6 => newo M6 10 4 (fun v7 M8 => seti M8 v7 0 (-1) (fun M9 => seti M9 v7 1 (-1) (fun M10 => seti M10 v7 2 (-1) (fun M11 => seti M11 v7 3 (-1) (fun M12 => putf M12 x0 2 v7 (fun M13 => some M13))))))))))

/-- WaterTurns$Trays.isTray(I)Z -/
def f_X7_isTray (x0 : Int) (M : Mem) : Option (Int) :=
    jn (fun (q1 : Int) => retz q1) (fun j14 => jn (j14 0) (fun j13 => if x0 < 0 then (j13)
      else (if 4 ≤ x0 then (j13)
      else (j14 1))))

/-- WaterTurns$Trays.isMissing(I)Z -/
def f_X7_isMissing (x0 x1 : Int) (M : Mem) : Option (Int) :=
    getf M x0 2 (fun v1 => geti M v1 x1 (fun v2 => jn (fun (q3 : Int) => retz q3) (fun j15 => if v2 ≠ (-1) then (j15 0)
      else (j15 1))))

/-- WaterTurns$Trays.holds(III)Z -/
def f_X7_holds (x0 x1 x2 x3 : Int) (M : Mem) : Option (Int) :=
    getf M x0 2 (fun v1 => geti M v1 x1 (fun v2 => jn (fun (q3 : Int) => retz q3) (fun j27 => jn (j27 0) (fun j26 => if v2 < x3 then (j26)
      else (getf M x0 2 (fun v4 => geti M v4 x1 (fun v5 => if w32 (v5 - x3) < x2 then (j26)
      else (j27 1))))))))

/-- WaterTurns$Trays.lay(III)V -/
def f_X7_lay (x0 x1 x2 x3 : Int) (M : Mem) : Option (Mem) :=
    getf M x0 1 (fun v1 => seti M v1 x1 x2 (fun M2 => getf M2 x0 2 (fun v3 => seti M2 v3 x1 x3 (fun M4 => getf M4 x0 0 (fun v5 => geti M4 v5 x1 (fun v6 => callv (f_J7_fill_d0a16 v6 0 M4) (fun M7 => some M7)))))))

/-- WaterTurns$Trays.put(IIJ)V -/
def f_X7_put (x0 x1 x2 x3 : Int) (M : Mem) : Option (Mem) :=
    getf M x0 1 (fun v1 => geti M v1 x1 (fun v2 => jn (fun (q3 : Int) => getf M x0 0 (fun v4 => geti M v4 x1 (fun v5 => seti M v5 x2 q3 (fun M6 => some M6)))) (fun j55 => if v2 ≠ 0 then (getf M x0 1 (fun v7 => geti M v7 x1 (fun v8 => if v8 ≠ 1 then (getf M x0 1 (fun v9 => geti M v9 x1 (fun v10 => if v10 ≠ 2 then (j55 x3)
      else (letv (w32 x3) (fun v11 => j55 v11)))))
      else (letv (w16 (w32 x3)) (fun v12 => j55 v12)))))
      else (letv (w8 (w32 x3)) (fun v13 => j55 v13)))))

/-- WaterTurns$Trays.whyNoPlace(II)I -/
def f_X7_whyNoPlace (x0 x1 x2 : Int) (M : Mem) : Option (Int) :=
    callp (f_X7_isTray x1 M) (fun v1 => if v1 ≠ 0 then (callp (f_X7_isMissing x0 x1 M) (fun v2 => if v2 = 0 then (jn (fun (q3 : Int) => some q3) (fun j38 => jn (j38 3) (fun j37 => if x2 < 0 then (j37)
      else (getf M x0 2 (fun v4 => geti M v4 x1 (fun v5 => if v5 ≤ x2 then (j37)
      else (j38 0)))))))
      else (some 2)))
      else (some 1))

/-- WaterTurns$Trays.whyNoGauge(III)I -/
def f_X7_whyNoGauge_L34 (M : Mem) (x0 x1 x2 x3 : Int) (k1 : Option (Int)) (k2 : Option (Int)) : Nat → Int → Option (Int)
  | 0, _ => none
  | n + 1, p5 =>
    if x2 ≤ p5 then (k1)
      else (getf M x0 0 (fun v6 => geti M v6 x1 (fun v7 => geti M v7 p5 (fun v8 => if v8 < (-1) then (k2)
      else (getf M x0 0 (fun v9 => geti M v9 x1 (fun v10 => geti M v10 p5 (fun v11 => if v11 ≤ x3 then (f_X7_whyNoGauge_L34 M x0 x1 x2 x3 k1 k2 n (w32 (p5 + 1)))
      else (k2)))))))))

def f_X7_whyNoGauge (x0 x1 x2 x3 : Int) (M : Mem) : Option (Int) :=
    callp (f_X7_isTray x1 M) (fun v1 => if v1 ≠ 0 then (callp (f_X7_isMissing x0 x1 M) (fun v2 => if v2 = 0 then (getf M x0 2 (fun v3 => geti M v3 x1 (fun v4 => if x2 ≤ v4 then (f_X7_whyNoGauge_L34 M x0 x1 x2 x3 (some 0) (some 5) KF 0)
      else (some 3))))
      else (some 2)))
      else (some 1))

/-- WaterTurns$Valley.<init>()V -/
def f_X8_init (x0 : Int) (M : Mem) : Option (Mem) :=
    putf M x0 0 100 (fun M1 => putf M1 x0 1 1440 (fun M2 => putf M2 x0 2 0 (fun M3 => putf M3 x0 3 0 (fun M4 => putf M4 x0 4 0 (fun M5 => putf M5 x0 5 0 (fun M6 => putf M6 x0 6 0 (fun M7 => putf M7 x0 7 1 (fun M8 => newg M8 14 10 10 6 (fun v9 M10 => putf M10 x0 8 v9 (fun M11 => newg M11 14 10 10 4 (fun v12 M13 => putf M13 x0 9 v12 (fun M14 => newo M14 11 10 (fun v15 M16 => putf M16 x0 10 v15 (fun M17 => newo M17 11 6 (fun v18 M19 => putf M19 x0 11 v18 (fun M20 => newo M20 11 10 (fun v21 M22 => putf M22 x0 12 v21 (fun M23 => some M23))))))))))))))))))

/-- WaterTurns$Valley.isTaken(J)Z -/
def f_X8_isTaken (x0 x1 : Int) (M : Mem) : Option (Int) :=
    getf M x0 10 (fun v1 => getf M x0 3 (fun v2 => callp (f_X8_find v1 v2 x1 M) (fun v3 => jn (fun (q4 : Int) => retz q4) (fun j53 => jn (j53 1) (fun j48 => if v3 ≠ (-1) then (j48)
      else (getf M x0 11 (fun v5 => getf M x0 4 (fun v6 => callp (f_X8_find v5 v6 x1 M) (fun v7 => if v7 ≠ (-1) then (j48)
      else (getf M x0 12 (fun v8 => getf M x0 5 (fun v9 => callp (f_X8_find v8 v9 x1 M) (fun v10 => if v10 = (-1) then (j53 0)
      else (j48))))))))))))))

/-- WaterTurns$Valley.clear()V -/
def f_X8_clear (x0 : Int) (M : Mem) : Option (Mem) :=
    putf M x0 0 (-1) (fun M1 => putf M1 x0 1 (-1) (fun M2 => putf M2 x0 2 0 (fun M3 => putf M3 x0 3 0 (fun M4 => putf M4 x0 4 0 (fun M5 => putf M5 x0 5 0 (fun M6 => some M6))))))

/-- WaterTurns$Valley.complete()V -/
def f_X8_complete_L50 (x0 : Int) (k : Mem → Option (Mem)) : Nat → Int → Mem → Option (Mem)
  | 0, _, _ => none
  | n + 1, p8, M9 =>
    getf M9 x0 3 (fun v10 => if v10 ≤ p8 then (k M9)
      else (getf M9 x0 7 (fun v11 => getf M9 x0 8 (fun v12 => geti M9 v12 p8 (fun v13 => geti M9 v13 2 (fun v14 => putf M9 x0 7 (w64 (v11 * v14)) (fun M15 => f_X8_complete_L50 x0 k n (w32 (p8 + 1)) M15)))))))

def f_X8_complete_L89 (x0 : Int) (k : Mem → Option (Mem)) : Nat → Int → Mem → Option (Mem)
  | 0, _, _ => none
  | n + 1, p19, M20 =>
    getf M20 x0 5 (fun v21 => if v21 ≤ p19 then (k M20)
      else (getf M20 x0 6 (fun v22 => getf M20 x0 9 (fun v23 => geti M20 v23 p19 (fun v24 => geti M20 v24 1 (fun v25 => putf M20 x0 6 (w32 (v22 + v25)) (fun M26 => f_X8_complete_L89 x0 k n (w32 (p19 + 1)) M26)))))))

def f_X8_complete (x0 : Int) (M : Mem) : Option (Mem) :=
    getf M x0 0 (fun v1 => jn (fun (q2 : Int) => putf M x0 0 q2 (fun M3 => getf M3 x0 1 (fun v4 => jn (fun (q5 : Int) => putf M3 x0 1 q5 (fun M6 => putf M6 x0 7 1 (fun M7 => f_X8_complete_L50 x0 (fun (M17 : Mem) => putf M17 x0 6 0 (fun M18 => f_X8_complete_L89 x0 (fun (M28 : Mem) => some M28) KF 0 M18)) KF 0 M7))) (fun j40 => if v4 ≠ (-1) then (getf M3 x0 1 (fun v29 => j40 v29))
      else (j40 1440))))) (fun j18 => if v1 ≠ (-1) then (getf M x0 0 (fun v30 => j18 v30))
      else (j18 100)))

/-- WaterTurns$Valley.take(LWaterTurns$Valley;)V -/
def f_X8_take_L66 (x0 x1 : Int) (k : Mem → Option (Mem)) : Nat → Int → Mem → Option (Mem)
  | 0, _, _ => none
  | n + 1, p17, M18 =>
    if 10 ≤ p17 then (k M18)
      else (getf M18 x1 8 (fun v19 => geti M18 v19 p17 (fun v20 => getf M18 x0 8 (fun v21 => geti M18 v21 p17 (fun v22 => acopy M18 v20 0 v22 0 6 (fun M23 => f_X8_take_L66 x0 x1 k n (w32 (p17 + 1)) M23))))))

def f_X8_take_L99 (x0 x1 : Int) (k : Mem → Option (Mem)) : Nat → Int → Mem → Option (Mem)
  | 0, _, _ => none
  | n + 1, p26, M27 =>
    if 10 ≤ p26 then (k M27)
      else (getf M27 x1 9 (fun v28 => geti M27 v28 p26 (fun v29 => getf M27 x0 9 (fun v30 => geti M27 v30 p26 (fun v31 => acopy M27 v29 0 v31 0 4 (fun M32 => f_X8_take_L99 x0 x1 k n (w32 (p26 + 1)) M32))))))

def f_X8_take (x0 x1 : Int) (M : Mem) : Option (Mem) :=
    getf M x1 0 (fun v1 => putf M x0 0 v1 (fun M2 => getf M2 x1 1 (fun v3 => putf M2 x0 1 v3 (fun M4 => getf M4 x1 2 (fun v5 => putf M4 x0 2 v5 (fun M6 => getf M6 x1 3 (fun v7 => putf M6 x0 3 v7 (fun M8 => getf M8 x1 4 (fun v9 => putf M8 x0 4 v9 (fun M10 => getf M10 x1 5 (fun v11 => putf M10 x0 5 v11 (fun M12 => getf M12 x1 6 (fun v13 => putf M12 x0 6 v13 (fun M14 => getf M14 x1 7 (fun v15 => putf M14 x0 7 v15 (fun M16 => f_X8_take_L66 x0 x1 (fun (M25 : Mem) => f_X8_take_L99 x0 x1 (fun (M34 : Mem) => getf M34 x1 10 (fun v35 => getf M34 x0 10 (fun v36 => acopy M34 v35 0 v36 0 10 (fun M37 => getf M37 x1 11 (fun v38 => getf M37 x0 11 (fun v39 => acopy M37 v38 0 v39 0 6 (fun M40 => getf M40 x1 12 (fun v41 => getf M40 x0 12 (fun v42 => acopy M40 v41 0 v42 0 10 (fun M43 => some M43)))))))))) KF 0 M25) KF 0 M16))))))))))))))))

/-- WaterTurns$Valley.fieldsBelow(I)I -/
def f_X8_fieldsBelow_L8 (M : Mem) (x0 : Int) (k : Int → Option (Int)) : Nat → Int → Int → Option (Int)
  | 0, _, _ => none
  | n + 1, p3, p4 =>
    getf M x0 3 (fun v5 => if v5 ≤ p4 then (k p3)
      else (getf M x0 8 (fun v6 => geti M v6 p4 (fun v7 => geti M v7 0 (fun v8 => jn (fun (q9 : Int) => f_X8_fieldsBelow_L8 M x0 k n q9 (w32 (p4 + 1))) (fun j50 => if v8 = (-1) then (j50 p3)
      else (getf M x0 8 (fun v10 => geti M v10 p4 (fun v11 => geti M v11 0 (fun v12 => if iandv (ishrv p3 v12) 1 ≠ 1 then (j50 p3)
      else (letv (iorv p3 (ishlv 1 p4)) (fun v13 => j50 v13))))))))))))

def f_X8_fieldsBelow_L61 (M : Mem) (q15 x0 : Int) (k : Int → Option (Int)) : Nat → Int → Int → Option (Int)
  | 0, _, _ => none
  | n + 1, p16, p17 =>
    getf M x0 5 (fun v18 => if v18 ≤ p17 then (k p16)
      else (getf M x0 9 (fun v19 => geti M v19 p17 (fun v20 => geti M v20 0 (fun v21 => letv (iorv p16 (ishlv (iandv (ishrv q15 v21) 1) p17)) (fun v22 => f_X8_fieldsBelow_L61 M q15 x0 k n v22 (w32 (p17 + 1))))))))

def f_X8_fieldsBelow (x0 x1 : Int) (M : Mem) : Option (Int) :=
    letv (ishlv 1 x1) (fun v1 => letv (w32 (x1 + 1)) (fun v2 => f_X8_fieldsBelow_L8 M x0 (fun (q15 : Int) => f_X8_fieldsBelow_L61 M q15 x0 (fun (q24 : Int) => some q24) KF 0 0) KF v1 v2))

/-- WaterTurns$ValleyReader.readHead(LWaterTurns$Tape;LWaterTurns$Valley;)Z -/
def f_X9_readHead (x0 x1 : Int) (M : Mem) : Option (Int × Mem) :=
    getf M x1 0 (fun v1 => if v1 = (-1) then (nn x0 (callv (f_X6_step x0 M) (fun M3 => call (f_X6_takeNumber x0 0 999 M3) (fun v4 M5 => putf M5 x1 0 v4 (fun M6 => getf M6 x1 0 (fun v7 => jn (fun (q8 : Int) (M9 : Mem) => retzm q8 M9) (fun j50 => jn (fun (M10 : Mem) => j50 0 M10) (fun j49 => if v7 = (-1) then (j49 M6)
      else (call (f_X6_skipSemicolon x0 M6) (fun v11 M12 => if v11 = 0 then (j49 M12)
      else (j50 1 M12)))))))))))
      else (nn x0 (call (f_X6_blame x0 5 M) (fun v14 M15 => retzm v14 M15))))

/-- WaterTurns$ValleyReader.readSpan(LWaterTurns$Tape;LWaterTurns$Valley;)Z -/
def f_X9_readSpan (x0 x1 : Int) (M : Mem) : Option (Int × Mem) :=
    getf M x1 1 (fun v1 => if v1 = (-1) then (nn x0 (callv (f_X6_step x0 M) (fun M3 => call (f_X6_takeNumber x0 1 1440 M3) (fun v4 M5 => putf M5 x1 1 v4 (fun M6 => getf M6 x1 1 (fun v7 => jn (fun (M8 : Mem) => retzm 0 M8) (fun j46 => if v7 = (-1) then (j46 M6)
      else (call (f_X6_skip x0 2 M6) (fun v9 M10 => if v9 ≠ 0 then (call (f_X6_takeNumber x0 0 1439 M10) (fun v11 M12 => putf M12 x1 2 v11 (fun M13 => getf M13 x1 2 (fun v14 => jn (fun (q15 : Int) (M16 : Mem) => retzm q15 M16) (fun j80 => jn (fun (M17 : Mem) => j80 0 M17) (fun j79 => if v14 = (-1) then (j79 M13)
      else (call (f_X6_skipSemicolon x0 M13) (fun v18 M19 => if v18 = 0 then (j79 M19)
      else (j80 1 M19)))))))))
      else (j46 M10))))))))))
      else (nn x0 (call (f_X6_blame x0 5 M) (fun v21 M22 => retzm v21 M22))))

/-- WaterTurns$ValleyReader.takeNew(LWaterTurns$Tape;LWaterTurns$Valley;)J -/
def f_X9_takeNew (x0 x1 : Int) (M : Mem) : Option (Int × Mem) :=
    getf M x0 10 (fun v1 => nn x0 (callp (f_X6_isAtName x0 M) (fun v3 => if v3 ≠ 0 then (nn x1 (callp (f_X8_isTaken x1 v1 M) (fun v5 => if v5 = 0 then (callv (f_X6_step x0 M) (fun M6 => some (v1, M6)))
      else (call (f_X6_blame x0 3 M) (fun v7 M8 => some (0, M8))))))
      else (call (f_X6_blame x0 2 M) (fun v9 M10 => some (0, M10))))))

/-- WaterTurns$ValleyReader.readAbove(LWaterTurns$Tape;LWaterTurns$Valley;[I)Z -/
def f_X9_readAbove (x0 x1 x2 : Int) (M : Mem) : Option (Int × Mem) :=
    nn x0 (callp (f_X6_isAt x0 4 M) (fun v2 => if v2 ≠ 0 then (callv (f_X6_step x0 M) (fun M3 => getf M3 x1 10 (fun v4 => getf M3 x1 3 (fun v5 => call (f_X6_takeKnown x0 v4 v5 M3) (fun v6 M7 => seti M7 x2 0 v6 (fun M8 => geti M8 x2 0 (fun v9 => jn (fun (q10 : Int) => retzm q10 M8) (fun j41 => if v9 = (-1) then (j41 0)
      else (j41 1)))))))))
      else (retzm 1 M)))

/-- WaterTurns$ValleyReader.readLoss(LWaterTurns$Tape;[I)Z -/
def f_X9_readLoss (x0 x1 : Int) (M : Mem) : Option (Int × Mem) :=
    nn x0 (call (f_X6_skip x0 5 M) (fun v2 M3 => if v2 ≠ 0 then (call (f_X6_takeNumber x0 0 11 M3) (fun v4 M5 => seti M5 x1 1 v4 (fun M6 => geti M6 x1 1 (fun v7 => jn (fun (M8 : Mem) => retzm 0 M8) (fun j36 => if v7 = (-1) then (j36 M6)
      else (call (f_X6_skip x0 6 M6) (fun v9 M10 => if v9 ≠ 0 then (geti M10 x1 1 (fun v11 => call (f_X6_takeNumber x0 (w32 (v11 + 1)) 12 M10) (fun v12 M13 => seti M13 x1 2 v12 (fun M14 => geti M14 x1 2 (fun v15 => jn (fun (q16 : Int) => retzm q16 M14) (fun j64 => if v15 = (-1) then (j64 0)
      else (j64 1)))))))
      else (j36 M10))))))))
      else (retzm 0 M3)))

/-- WaterTurns$ValleyReader.readCarries(LWaterTurns$Tape;[I)Z -/
def f_X9_readCarries (x0 x1 : Int) (M : Mem) : Option (Int × Mem) :=
    nn x0 (callp (f_X6_isAt x0 7 M) (fun v2 => if v2 ≠ 0 then (callv (f_X6_step x0 M) (fun M3 => call (f_X6_takeNumber x0 1 999 M3) (fun v4 M5 => seti M5 x1 3 v4 (fun M6 => geti M6 x1 3 (fun v7 => jn (fun (q8 : Int) => retzm q8 M6) (fun j38 => if v7 = (-1) then (j38 0)
      else (j38 1)))))))
      else (retzm 1 M)))

/-- WaterTurns$ValleyReader.readShut(LWaterTurns$Tape;[I)Z -/
def f_X9_readShut (x0 x1 : Int) (M : Mem) : Option (Int × Mem) :=
    nn x0 (callp (f_X6_isAt x0 8 M) (fun v2 => if v2 ≠ 0 then (callv (f_X6_step x0 M) (fun M3 => call (f_X6_takeNumber x0 0 1439 M3) (fun v4 M5 => seti M5 x1 4 v4 (fun M6 => geti M6 x1 4 (fun v7 => jn (fun (M8 : Mem) => retzm 0 M8) (fun j42 => if v7 = (-1) then (j42 M6)
      else (call (f_X6_skip x0 9 M6) (fun v9 M10 => if v9 ≠ 0 then (geti M10 x1 4 (fun v11 => call (f_X6_takeNumber x0 (w32 (v11 + 1)) 1440 M10) (fun v12 M13 => seti M13 x1 5 v12 (fun M14 => geti M14 x1 5 (fun v15 => jn (fun (q16 : Int) => retzm q16 M14) (fun j71 => if v15 = (-1) then (j71 0)
      else (j71 1)))))))
      else (j42 M10)))))))))
      else (retzm 1 M)))

/-- WaterTurns$ValleyReader.readReach(LWaterTurns$Tape;LWaterTurns$Valley;)Z -/
def f_X9_readReach (x0 x1 : Int) (M : Mem) : Option (Int × Mem) :=
    getf M x1 3 (fun v1 => if v1 < 10 then (nn x0 (callv (f_X6_step x0 M) (fun M3 => call (f_X9_takeNew x0 x1 M3) (fun v4 M5 => getf M5 x1 8 (fun v6 => getf M5 x1 3 (fun v7 => geti M5 v6 v7 (fun v8 => callv (f_J7_fill_53178 v8 (-1) M5) (fun M9 => jn (fun (M10 : Mem) => retzm 0 M10) (fun j93 => if v4 = 0 then (j93 M9)
      else (call (f_X9_readAbove x0 x1 v8 M9) (fun v11 M12 => if v11 = 0 then (j93 M12)
      else (call (f_X9_readLoss x0 v8 M12) (fun v13 M14 => if v13 = 0 then (j93 M14)
      else (call (f_X9_readCarries x0 v8 M14) (fun v15 M16 => if v15 = 0 then (j93 M16)
      else (call (f_X9_readShut x0 v8 M16) (fun v17 M18 => if v17 = 0 then (j93 M18)
      else (call (f_X6_skipSemicolon x0 M18) (fun v19 M20 => if v19 ≠ 0 then (getf M20 x1 10 (fun v21 => getf M20 x1 3 (fun v22 => seti M20 v21 v22 v4 (fun M23 => getf M23 x1 3 (fun v24 => putf M23 x1 3 (w32 (v24 + 1)) (fun M25 => retzm 1 M25))))))
      else (j93 M20))))))))))))))))))))
      else (nn x0 (call (f_X6_blame x0 6 M) (fun v27 M28 => retzm v27 M28))))

/-- WaterTurns$ValleyReader.readOwner(LWaterTurns$Tape;LWaterTurns$Valley;)Z -/
def f_X9_readOwner (x0 x1 : Int) (M : Mem) : Option (Int × Mem) :=
    getf M x1 4 (fun v1 => if v1 < 6 then (nn x0 (callv (f_X6_step x0 M) (fun M3 => call (f_X9_takeNew x0 x1 M3) (fun v4 M5 => jn (fun (M6 : Mem) => retzm 0 M6) (fun j39 => if v4 = 0 then (j39 M5)
      else (call (f_X6_skipSemicolon x0 M5) (fun v7 M8 => if v7 ≠ 0 then (getf M8 x1 11 (fun v9 => getf M8 x1 4 (fun v10 => seti M8 v9 v10 v4 (fun M11 => getf M11 x1 4 (fun v12 => putf M11 x1 4 (w32 (v12 + 1)) (fun M13 => retzm 1 M13))))))
      else (j39 M8))))))))
      else (nn x0 (call (f_X6_blame x0 6 M) (fun v15 M16 => retzm v15 M16))))

/-- WaterTurns$ValleyReader.readOn(LWaterTurns$Tape;LWaterTurns$Valley;[I)Z -/
def f_X9_readOn (x0 x1 x2 : Int) (M : Mem) : Option (Int × Mem) :=
    nn x0 (call (f_X6_skip x0 12 M) (fun v2 M3 => if v2 ≠ 0 then (getf M3 x1 10 (fun v4 => getf M3 x1 3 (fun v5 => call (f_X6_takeKnown x0 v4 v5 M3) (fun v6 M7 => seti M7 x2 0 v6 (fun M8 => geti M8 x2 0 (fun v9 => jn (fun (q10 : Int) => retzm q10 M8) (fun j38 => if v9 = (-1) then (j38 0)
      else (j38 1))))))))
      else (retzm 0 M3)))

/-- WaterTurns$ValleyReader.readClaims(LWaterTurns$Tape;[I)Z -/
def f_X9_readClaims (x0 x1 : Int) (M : Mem) : Option (Int × Mem) :=
    nn x0 (call (f_X6_skip x0 13 M) (fun v2 M3 => if v2 ≠ 0 then (call (f_X6_takeNumber x0 1 99 M3) (fun v4 M5 => seti M5 x1 1 v4 (fun M6 => geti M6 x1 1 (fun v7 => jn (fun (M8 : Mem) => retzm 0 M8) (fun j37 => if v7 = (-1) then (j37 M6)
      else (call (f_X6_skip x0 14 M6) (fun v9 M10 => if v9 ≠ 0 then (call (f_X6_takeNumber x0 0 9999 M10) (fun v11 M12 => seti M12 x1 2 v11 (fun M13 => geti M13 x1 2 (fun v14 => jn (fun (q15 : Int) => retzm q15 M13) (fun j62 => if v14 = (-1) then (j62 0)
      else (j62 1))))))
      else (j37 M10))))))))
      else (retzm 0 M3)))

/-- WaterTurns$ValleyReader.readBy(LWaterTurns$Tape;LWaterTurns$Valley;[I)Z -/
def f_X9_readBy (x0 x1 x2 : Int) (M : Mem) : Option (Int × Mem) :=
    nn x0 (callp (f_X6_isAt x0 15 M) (fun v2 => if v2 ≠ 0 then (callv (f_X6_step x0 M) (fun M3 => getf M3 x1 11 (fun v4 => getf M3 x1 4 (fun v5 => call (f_X6_takeKnown x0 v4 v5 M3) (fun v6 M7 => seti M7 x2 3 v6 (fun M8 => geti M8 x2 3 (fun v9 => jn (fun (q10 : Int) => retzm q10 M8) (fun j42 => if v9 = (-1) then (j42 0)
      else (j42 1)))))))))
      else (retzm 1 M)))

/-- WaterTurns$ValleyReader.readField(LWaterTurns$Tape;LWaterTurns$Valley;)Z -/
def f_X9_readField (x0 x1 : Int) (M : Mem) : Option (Int × Mem) :=
    getf M x1 5 (fun v1 => if v1 < 10 then (nn x0 (callv (f_X6_step x0 M) (fun M3 => call (f_X9_takeNew x0 x1 M3) (fun v4 M5 => getf M5 x1 9 (fun v6 => getf M5 x1 5 (fun v7 => geti M5 v6 v7 (fun v8 => callv (f_J7_fill_53178 v8 (-1) M5) (fun M9 => jn (fun (M10 : Mem) => retzm 0 M10) (fun j85 => if v4 = 0 then (j85 M9)
      else (call (f_X9_readOn x0 x1 v8 M9) (fun v11 M12 => if v11 = 0 then (j85 M12)
      else (call (f_X9_readClaims x0 v8 M12) (fun v13 M14 => if v13 = 0 then (j85 M14)
      else (call (f_X9_readBy x0 x1 v8 M14) (fun v15 M16 => if v15 = 0 then (j85 M16)
      else (call (f_X6_skipSemicolon x0 M16) (fun v17 M18 => if v17 ≠ 0 then (getf M18 x1 12 (fun v19 => getf M18 x1 5 (fun v20 => seti M18 v19 v20 v4 (fun M21 => getf M21 x1 5 (fun v22 => putf M21 x1 5 (w32 (v22 + 1)) (fun M23 => retzm 1 M23))))))
      else (j85 M18))))))))))))))))))
      else (nn x0 (call (f_X6_blame x0 6 M) (fun v25 M26 => retzm v25 M26))))

/-- WaterTurns$ValleyReader.readPart(LWaterTurns$Tape;LWaterTurns$Valley;)Z -/
def f_X9_readPart (x0 x1 : Int) (M : Mem) : Option (Int × Mem) :=
    nn x0 (callp (f_X6_isAt x0 0 M) (fun v2 => if v2 = 0 then (callp (f_X6_isAt x0 1 M) (fun v3 => if v3 = 0 then (callp (f_X6_isAt x0 3 M) (fun v4 => if v4 = 0 then (callp (f_X6_isAt x0 10 M) (fun v5 => if v5 = 0 then (callp (f_X6_isAt x0 11 M) (fun v6 => jn (fun (q7 : Int) (M8 : Mem) => retzm q7 M8) (fun j79 => if v6 = 0 then (call (f_X6_blame x0 2 M) (fun v9 M10 => j79 v9 M10))
      else (call (f_X9_readField x0 x1 M) (fun v11 M12 => j79 v11 M12)))))
      else (call (f_X9_readOwner x0 x1 M) (fun v13 M14 => retzm v13 M14))))
      else (call (f_X9_readReach x0 x1 M) (fun v15 M16 => retzm v15 M16))))
      else (call (f_X9_readSpan x0 x1 M) (fun v17 M18 => retzm v17 M18))))
      else (call (f_X9_readHead x0 x1 M) (fun v19 M20 => retzm v19 M20))))

/-- WaterTurns$ValleyReader.takes(LWaterTurns$Tape;ILWaterTurns$Valley;)Z -/
def f_X9_takes_L11 (x0 x2 : Int) (k : Mem → Option (Int × Mem)) : Nat → Int → Mem → Option (Int × Mem)
  | 0, _, _ => none
  | n + 1, p5, M6 =>
    if 900 ≤ p5 then (k M6)
      else (nn x0 (callp (f_X6_isAtEnd x0 M6) (fun v8 => if v8 ≠ 0 then (k M6)
      else (call (f_X9_readPart x0 x2 M6) (fun v9 M10 => if v9 ≠ 0 then (f_X9_takes_L11 x0 x2 k n (w32 (p5 + 1)) M10)
      else (retzm 0 M10))))))

def f_X9_takes (x0 x1 x2 : Int) (M : Mem) : Option (Int × Mem) :=
    nn x2 (callv (f_X8_clear x2 M) (fun M2 => nn x0 (callv (f_X6_begin x0 x1 M2) (fun M4 => f_X9_takes_L11 x0 x2 (fun (M12 : Mem) => callv (f_X8_complete x2 M12) (fun M13 => retzm 1 M13)) KF 0 M4))))

/-- WaterTurns$World.<init>()V -/
def f_X10_init (x0 : Int) (M : Mem) : Option (Mem) :=
    newo M 27 0 (fun v1 M2 => nn v1 (callv (f_X8_init v1 M2) (fun M4 => putf M4 x0 0 v1 (fun M5 => newo M5 20 0 (fun v6 M7 => nn v6 (callv (f_X0_init v6 M7) (fun M9 => putf M9 x0 1 v6 (fun M10 => newo M10 23 0 (fun v11 M12 => nn v11 (callv (f_X4_init v11 M12) (fun M14 => putf M14 x0 2 v11 (fun M15 => some M15))))))))))))

/-- WaterTurns$World.take(LWaterTurns$World;)V -/
def f_X10_take (x0 x1 : Int) (M : Mem) : Option (Mem) :=
    getf M x0 0 (fun v1 => getf M x1 0 (fun v2 => nn v1 (callv (f_X8_take v1 v2 M) (fun M4 => getf M4 x0 1 (fun v5 => getf M4 x1 1 (fun v6 => nn v5 (callv (f_X0_take v5 v6 M4) (fun M8 => getf M8 x0 2 (fun v9 => getf M8 x1 2 (fun v10 => nn v9 (callv (f_X4_take v9 v10 M8) (fun M12 => some M12))))))))))))

def f_X10_placeBelow_L12 (rc : Int → Int → Int → Int → Mem → Option (Int × Mem)) (v1 x0 x1 x3 : Int) (k : Int → Mem → Option (Int × Mem)) : Nat → Int → Int → Mem → Option (Int × Mem)
  | 0, _, _, _ => none
  | n + 1, p2, p3, M4 =>
    getf M4 v1 5 (fun v5 => if v5 ≤ p3 then (k p2 M4)
      else (getf M4 v1 9 (fun v6 => geti M4 v6 p3 (fun v7 => geti M4 v7 0 (fun v8 => jn (fun (q9 : Int) (M10 : Mem) => f_X10_placeBelow_L12 rc v1 x0 x1 x3 k n q9 (w32 (p3 + 1)) M10) (fun j58 => if v8 ≠ x1 then (j58 p2 M4)
      else (if 10 ≤ p2 then (j58 p2 M4)
      else (getf M4 x0 2 (fun v11 => getf M4 v11 4 (fun v12 => seti M4 v12 p2 p3 (fun M13 => j58 (w32 (p2 + 1)) M13)))))))))))

def f_X10_placeBelow_L67 (rc : Int → Int → Int → Int → Mem → Option (Int × Mem)) (v1 x0 x1 x3 : Int) (k : Int → Mem → Option (Int × Mem)) : Nat → Int → Int → Mem → Option (Int × Mem)
  | 0, _, _, _ => none
  | n + 1, p18, p19, M20 =>
    getf M20 v1 3 (fun v21 => if v21 ≤ p19 then (k p18 M20)
      else (if 10 < x3 then (k p18 M20)
      else (getf M20 v1 8 (fun v22 => geti M20 v22 p19 (fun v23 => geti M20 v23 0 (fun v24 => jn (fun (q25 : Int) (M26 : Mem) => f_X10_placeBelow_L67 rc v1 x0 x1 x3 k n q25 (w32 (p19 + 1)) M26) (fun j110 => if v24 ≠ x1 then (j110 p18 M20)
      else (call (rc x0 p19 p18 (w32 (x3 + 1)) M20) (fun v27 M28 => j110 v27 M28)))))))))

def pbd : Nat → Int → Int → Int → Int → Mem → Option (Int × Mem)
  | 0, _, _, _, _, _ => none
  | n + 1, x0, x1, x2, x3, M =>
    getf M x0 0 (fun v1 => f_X10_placeBelow_L12 (pbd n) v1 x0 x1 x3 (fun (q16 : Int) (M17 : Mem) => f_X10_placeBelow_L67 (pbd n) v1 x0 x1 x3 (fun (q31 : Int) (M32 : Mem) => some (q31, M32)) KF q16 0 M17) KF x2 0 M)
def f_X10_placeBelow (x0 x1 x2 x3 : Int) (M : Mem) : Option (Int × Mem) := pbd 12 x0 x1 x2 x3 M

/-- WaterTurns$World.begin()V -/
def f_X10_begin (x0 : Int) (M : Mem) : Option (Mem) :=
    getf M x0 1 (fun v1 => nn v1 (callv (f_X0_clear v1 M) (fun M3 => getf M3 x0 2 (fun v4 => nn v4 (callv (f_X4_clear v4 M3) (fun M6 => getf M6 x0 2 (fun v7 => getf M6 x0 0 (fun v8 => getf M6 v8 0 (fun v9 => putf M6 v7 0 v9 (fun M10 => call (f_X10_placeBelow x0 (-1) 0 0 M10) (fun v11 M12 => some M12)))))))))))

/-- WaterTurns.<init>()V -/
def f_X11_init (x0 : Int) (M : Mem) : Option (Mem) :=
    newo M 26 0 (fun v1 M2 => nn v1 (callv (f_X7_init v1 M2) (fun M4 => putf M4 x0 0 v1 (fun M5 => newo M5 25 0 (fun v6 M7 => nn v6 (callv (f_X6_init v6 M7) (fun M9 => putf M9 x0 1 v6 (fun M10 => newo M10 28 0 (fun v11 M12 => nn v11 (callv (f_X10_init v11 M12) (fun M14 => putf M14 x0 2 v11 (fun M15 => newo M15 24 0 (fun v16 M17 => nn v16 (callv (f_X5_init v16 M17) (fun M19 => putf M19 x0 3 v16 (fun M20 => newo M20 21 0 (fun v21 M22 => nn v21 (callv (f_X2_init v21 M22) (fun M24 => putf M24 x0 4 v21 (fun M25 => newo M25 23 0 (fun v26 M27 => nn v26 (callv (f_X4_init v26 M27) (fun M29 => putf M29 x0 5 v26 (fun M30 => newo M30 16 3 (fun v31 M32 => putf M32 x0 6 v31 (fun M33 => newo M33 10 4 (fun v34 M35 => putf M35 x0 7 v34 (fun M36 => newo M36 27 0 (fun v37 M38 => nn v37 (callv (f_X8_init v37 M38) (fun M40 => putf M40 x0 8 v37 (fun M41 => newo M41 20 0 (fun v42 M43 => nn v42 (callv (f_X0_init v42 M43) (fun M45 => putf M45 x0 9 v42 (fun M46 => putz M46 x0 10 0 (fun M47 => putf M47 x0 11 0 (fun M48 => putf M48 x0 12 0 (fun M49 => putf M49 x0 13 0 (fun M50 => putf M50 x0 14 1 (fun M51 => some M51)))))))))))))))))))))))))))))))))))))))))

/-- WaterTurns.answer(I)I -/
def f_X11_answer (x0 x1 : Int) (M : Mem) : Option (Int × Mem) :=
    putf M x0 12 0 (fun M1 => some (x1, M1))

/-- WaterTurns.refuse(I)I -/
def f_X11_refuse (x0 x1 : Int) (M : Mem) : Option (Int × Mem) :=
    putf M x0 12 x1 (fun M1 => some ((-1), M1))

/-- WaterTurns.settle(I)Z -/
def f_X11_settle (x0 x1 : Int) (M : Mem) : Option (Int × Mem) :=
    putf M x0 12 x1 (fun M1 => jn (fun (q2 : Int) => retzm q2 M1) (fun j14 => if x1 ≠ 0 then (j14 0)
      else (j14 1)))

/-- WaterTurns.answerOrNone(I)I -/
def f_X11_answerOrNone (x0 x1 : Int) (M : Mem) : Option (Int × Mem) :=
    jn (fun (q1 : Int) (M2 : Mem) => some (q1, M2)) (fun j19 => if x1 ≠ (-1) then (call (f_X11_answer x0 x1 M) (fun v3 M4 => j19 v3 M4))
      else (call (f_X11_refuse x0 6 M) (fun v5 M6 => j19 v5 M6)))

/-- WaterTurns.commonDivisor(JJ)J -/
def f_X11_commonDivisor_L9 (M : Mem) (k : Int → Option (Int)) : Nat → Int → Int → Int → Option (Int)
  | 0, _, _, _ => none
  | n + 1, p1, p2, p3 =>
    if 200 ≤ p3 then (k p1)
      else (if p2 = 0 then (k p1)
      else (lremc p1 p2 (fun v4 => f_X11_commonDivisor_L9 M k n p2 v4 (w32 (p3 + 1)))))

def f_X11_commonDivisor (x0 x2 : Int) (M : Mem) : Option (Int) :=
    f_X11_commonDivisor_L9 M (fun (q6 : Int) => callp (f_J9_max_f86c9 1 q6 M) (fun v7 => some v7)) KF x0 x2 0

/-- WaterTurns.tellFraction(JJ)Z -/
def f_X11_tellFraction (x0 x1 x3 : Int) (M : Mem) : Option (Int × Mem) :=
    callp (f_X11_commonDivisor x1 x3 M) (fun v1 => ldivc x1 v1 (fun v2 => putf M x0 13 v2 (fun M3 => ldivc x3 v1 (fun v4 => putf M3 x0 14 v4 (fun M5 => call (f_X11_settle x0 0 M5) (fun v6 M7 => retzm v6 M7))))))

/-- WaterTurns.isReach(I)Z -/
def f_X11_isReach (x0 x1 : Int) (M : Mem) : Option (Int) :=
    jn (fun (q1 : Int) => retz q1) (fun j23 => jn (j23 0) (fun j22 => if x1 < 0 then (j22)
      else (getf M x0 2 (fun v2 => getf M v2 0 (fun v3 => getf M v3 3 (fun v4 => if v4 ≤ x1 then (j22)
      else (j23 1)))))))

/-- WaterTurns.isOwner(I)Z -/
def f_X11_isOwner (x0 x1 : Int) (M : Mem) : Option (Int) :=
    jn (fun (q1 : Int) => retz q1) (fun j23 => jn (j23 0) (fun j22 => if x1 < 0 then (j22)
      else (getf M x0 2 (fun v2 => getf M v2 0 (fun v3 => getf M v3 4 (fun v4 => if v4 ≤ x1 then (j22)
      else (j23 1)))))))

/-- WaterTurns.isField(I)Z -/
def f_X11_isField (x0 x1 : Int) (M : Mem) : Option (Int) :=
    jn (fun (q1 : Int) => retz q1) (fun j23 => jn (j23 0) (fun j22 => if x1 < 0 then (j22)
      else (getf M x0 2 (fun v2 => getf M v2 0 (fun v3 => getf M v3 5 (fun v4 => if v4 ≤ x1 then (j22)
      else (j23 1)))))))

/-- WaterTurns.isCouple(II)Z -/
def f_X11_isCouple (x0 x1 x2 : Int) (M : Mem) : Option (Int) :=
    callp (f_X11_isField x0 x1 M) (fun v1 => jn (fun (q2 : Int) => retz q2) (fun j26 => jn (j26 0) (fun j25 => if v1 = 0 then (j25)
      else (callp (f_X11_isField x0 x2 M) (fun v3 => if v3 = 0 then (j25)
      else (if x1 = x2 then (j25)
      else (j26 1)))))))

/-- WaterTurns.isMinute(I)Z -/
def f_X11_isMinute (x0 x1 : Int) (M : Mem) : Option (Int) :=
    jn (fun (q1 : Int) => retz q1) (fun j23 => jn (j23 0) (fun j22 => if x1 < 0 then (j22)
      else (getf M x0 2 (fun v2 => getf M v2 0 (fun v3 => getf M v3 1 (fun v4 => if v4 ≤ x1 then (j22)
      else (j23 1)))))))

/-- WaterTurns.isWithin(III)Z -/
def f_X11_isWithin (x0 x1 x2 : Int) (M : Mem) : Option (Int) :=
    jn (fun (q1 : Int) => retz q1) (fun j15 => jn (j15 0) (fun j14 => if x0 < x1 then (j14)
      else (if x2 < x0 then (j14)
      else (j15 1))))

/-- WaterTurns.status()I -/
def f_X11_status (x0 : Int) (M : Mem) : Option (Int) :=
    getf M x0 12 (fun v1 => some v1)

/-- WaterTurns.top()J -/
def f_X11_top (x0 : Int) (M : Mem) : Option (Int) :=
    getf M x0 13 (fun v1 => some v1)

/-- WaterTurns.bottom()J -/
def f_X11_bottom (x0 : Int) (M : Mem) : Option (Int) :=
    getf M x0 14 (fun v1 => some v1)

/-- WaterTurns.tray(III)Z -/
def f_X11_tray (x0 x1 x2 x3 : Int) (M : Mem) : Option (Int × Mem) :=
    callp (f_X7_isTray x1 M) (fun v1 => jn (call (f_X11_settle x0 1 M) (fun v2 M3 => retzm v2 M3)) (fun j26 => if v1 = 0 then (j26)
      else (callp (f_X11_isWithin x2 0 3 M) (fun v4 => if v4 = 0 then (j26)
      else (callp (f_X11_isWithin x3 0 60 M) (fun v5 => if v5 ≠ 0 then (getf M x0 0 (fun v6 => nn v6 (callv (f_X7_lay v6 x1 x2 x3 M) (fun M8 => call (f_X11_settle x0 0 M8) (fun v9 M10 => retzm v9 M10)))))
      else (j26)))))))

/-- WaterTurns.write(IIJ)Z -/
def f_X11_write (x0 x1 x2 x3 : Int) (M : Mem) : Option (Int × Mem) :=
    getf M x0 0 (fun v1 => nn v1 (callp (f_X7_whyNoPlace v1 x1 x2 M) (fun v3 => jn (fun (M4 : Mem) => call (f_X11_settle x0 v3 M4) (fun v5 M6 => retzm v5 M6)) (fun j26 => if v3 ≠ 0 then (j26 M)
      else (getf M x0 0 (fun v7 => nn v7 (callv (f_X7_put v7 x1 x2 x3 M) (fun M9 => j26 M9))))))))

/-- WaterTurns.read(II)J -/
def f_X11_read (x0 x1 x2 : Int) (M : Mem) : Option (Int × Mem) :=
    getf M x0 0 (fun v1 => nn v1 (callp (f_X7_whyNoPlace v1 x1 x2 M) (fun v3 => if v3 = 0 then (call (f_X11_settle x0 0 M) (fun v4 M5 => getf M5 x0 0 (fun v6 => getf M5 v6 0 (fun v7 => geti M5 v7 x1 (fun v8 => geti M5 v8 x2 (fun v9 => some (v9, M5)))))))
      else (call (f_X11_refuse x0 v3 M) (fun v10 M11 => some (v10, M11))))))

/-- WaterTurns.pour(IIIII)Z -/
def f_X11_pour (x0 x1 x2 x3 x4 x5 : Int) (M : Mem) : Option (Int × Mem) :=
    callp (f_X7_isTray x1 M) (fun v1 => jn (call (f_X11_settle x0 1 M) (fun v2 M3 => retzm v2 M3)) (fun j28 => if v1 = 0 then (j28)
      else (callp (f_X7_isTray x3 M) (fun v4 => if v4 = 0 then (j28)
      else (if x2 < 0 then (j28)
      else (if x4 < 0 then (j28)
      else (if 0 ≤ x5 then (getf M x0 0 (fun v5 => nn v5 (callp (f_X7_isMissing v5 x1 M) (fun v7 => jn (call (f_X11_settle x0 2 M) (fun v8 M9 => retzm v8 M9)) (fun j56 => if v7 ≠ 0 then (j56)
      else (getf M x0 0 (fun v10 => nn v10 (callp (f_X7_isMissing v10 x3 M) (fun v12 => if v12 = 0 then (getf M x0 0 (fun v13 => getf M v13 1 (fun v14 => geti M v14 x1 (fun v15 => getf M x0 0 (fun v16 => getf M v16 1 (fun v17 => geti M v17 x3 (fun v18 => if v15 = v18 then (getf M x0 0 (fun v19 => nn v19 (callp (f_X7_holds v19 x1 x2 x5 M) (fun v21 => jn (call (f_X11_settle x0 3 M) (fun v22 M23 => retzm v22 M23)) (fun j119 => if v21 = 0 then (j119)
      else (getf M x0 0 (fun v24 => nn v24 (callp (f_X7_holds v24 x3 x4 x5 M) (fun v26 => if v26 ≠ 0 then (getf M x0 0 (fun v27 => getf M v27 0 (fun v28 => geti M v28 x1 (fun v29 => getf M x0 0 (fun v30 => getf M v30 0 (fun v31 => geti M v31 x3 (fun v32 => acopy M v29 x2 v32 x4 x5 (fun M33 => call (f_X11_settle x0 0 M33) (fun v34 M35 => retzm v34 M35)))))))))
      else (j119))))))))))
      else (call (f_X11_settle x0 8 M) (fun v36 M37 => retzm v36 M37)))))))))
      else (j56))))))))))
      else (j28))))))))

/-- WaterTurns.feed(IIIII)I -/
def f_X11_feed (x0 x1 x2 x3 x4 x5 : Int) (M : Mem) : Option (Int × Mem) :=
    getf M x0 1 (fun v1 => nn v1 (callp (f_X6_hasRoom v1 20 M) (fun v3 => jn (fun (q4 : Int) (M5 : Mem) => some (q4, M5)) (fun j30 => if v3 = 0 then (j30 (-1) M)
      else (getf M x0 1 (fun v6 => nn v6 (call (f_X6_add v6 x1 x2 x3 x4 x5 M) (fun v8 M9 => j30 v8 M9))))))))

/-- WaterTurns.valley(I)I -/
def f_X11_valley (x0 x1 : Int) (M : Mem) : Option (Int × Mem) :=
    getf M x0 1 (fun v1 => getf M v1 6 (fun v2 => callp (f_X11_isWithin x1 0 v2 M) (fun v3 => if v3 ≠ 0 then (getf M x0 1 (fun v4 => getf M x0 8 (fun v5 => call (f_X9_takes v4 x1 v5 M) (fun v6 M7 => getf M7 x0 1 (fun v8 => putf M7 v8 6 0 (fun M9 => if v6 ≠ 0 then (getf M9 x0 2 (fun v10 => getf M9 v10 0 (fun v11 => getf M9 x0 2 (fun v12 => getf M9 x0 8 (fun v13 => putf M9 v12 0 v13 (fun M14 => putf M14 x0 8 v11 (fun M15 => getf M15 x0 2 (fun v16 => nn v16 (callv (f_X10_begin v16 M15) (fun M18 => getf M18 x0 2 (fun v19 => getf M18 v19 0 (fun v20 => getf M18 v20 5 (fun v21 => call (f_X11_answer x0 v21 M18) (fun v22 M23 => some (v22, M23)))))))))))))))
      else (call (f_X11_refuse x0 9 M9) (fun v24 M25 => some (v24, M25)))))))))
      else (call (f_X11_refuse x0 1 M) (fun v26 M27 => some (v26, M27))))))

/-- WaterTurns.days(I)I -/
def f_X11_days (x0 x1 : Int) (M : Mem) : Option (Int × Mem) :=
    getf M x0 1 (fun v1 => getf M v1 6 (fun v2 => callp (f_J9_min_7cf53 v2 300 M) (fun v3 => callp (f_X11_isWithin x1 0 v3 M) (fun v4 => if v4 ≠ 0 then (getf M x0 1 (fun v5 => getf M x0 2 (fun v6 => getf M v6 0 (fun v7 => getf M x0 9 (fun v8 => call (f_X1_takes v5 x1 v7 v8 M) (fun v9 M10 => getf M10 x0 1 (fun v11 => putf M10 v11 6 0 (fun M12 => if v9 ≠ 0 then (getf M12 x0 2 (fun v13 => getf M12 v13 1 (fun v14 => getf M12 x0 2 (fun v15 => getf M12 x0 9 (fun v16 => putf M12 v15 1 v16 (fun M17 => putf M17 x0 9 v14 (fun M18 => getf M18 x0 2 (fun v19 => getf M18 v19 1 (fun v20 => getf M18 v20 1 (fun v21 => call (f_X11_answer x0 v21 M18) (fun v22 M23 => some (v22, M23))))))))))))
      else (call (f_X11_refuse x0 9 M12) (fun v24 M25 => some (v24, M25)))))))))))
      else (call (f_X11_refuse x0 1 M) (fun v26 M27 => some (v26, M27)))))))

/-- WaterTurns.fault(I)I -/
def f_X11_fault (x0 x1 : Int) (M : Mem) : Option (Int) :=
    jn (fun (q1 : Int) => some q1) (fun j30 => if x1 ≠ 0 then (if x1 ≠ 1 then (j30 (-1))
      else (getf M x0 1 (fun v2 => getf M v2 12 (fun v3 => j30 v3))))
      else (getf M x0 1 (fun v4 => getf M v4 11 (fun v5 => j30 v5))))

/-- WaterTurns.told(I)I -/
def f_X11_told (x0 x1 : Int) (M : Mem) : Option (Int × Mem) :=
    getf M x0 2 (fun v1 => getf M v1 0 (fun v2 => getf M x0 2 (fun v3 => getf M v3 2 (fun v4 => if x1 = 0 then (getf M v4 0 (fun v5 => call (f_X11_answer x0 v5 M) (fun v6 M7 => some (v6, M7))))
      else if x1 = 1 then (getf M v2 1 (fun v8 => call (f_X11_answer x0 v8 M) (fun v9 M10 => some (v9, M10))))
      else if x1 = 2 then (getf M v2 2 (fun v11 => call (f_X11_answer x0 v11 M) (fun v12 M13 => some (v12, M13))))
      else if x1 = 3 then (getf M v2 3 (fun v14 => call (f_X11_answer x0 v14 M) (fun v15 M16 => some (v15, M16))))
      else if x1 = 4 then (getf M v2 4 (fun v17 => call (f_X11_answer x0 v17 M) (fun v18 M19 => some (v18, M19))))
      else if x1 = 5 then (getf M v2 5 (fun v20 => call (f_X11_answer x0 v20 M) (fun v21 M22 => some (v21, M22))))
      else if x1 = 6 then (getf M v4 1 (fun v23 => call (f_X11_answer x0 v23 M) (fun v24 M25 => some (v24, M25))))
      else if x1 = 7 then (getf M v4 2 (fun v26 => call (f_X11_answer x0 v26 M) (fun v27 M28 => some (v27, M28))))
      else if x1 = 8 then (getf M v4 3 (fun v29 => call (f_X11_answer x0 v29 M) (fun v30 M31 => some (v30, M31))))
      else (call (f_X11_refuse x0 1 M) (fun v32 M33 => some (v32, M33)))))))

/-- WaterTurns.reach(II)I -/
def f_X11_reach (x0 x1 x2 : Int) (M : Mem) : Option (Int × Mem) :=
    callp (f_X11_isReach x0 x1 M) (fun v1 => jn (call (f_X11_refuse x0 1 M) (fun v2 M3 => some (v2, M3))) (fun j17 => if v1 = 0 then (j17)
      else (callp (f_X11_isWithin x2 0 5 M) (fun v4 => if v4 ≠ 0 then (getf M x0 2 (fun v5 => getf M v5 0 (fun v6 => getf M v6 8 (fun v7 => geti M v7 x1 (fun v8 => geti M v8 x2 (fun v9 => call (f_X11_answerOrNone x0 v9 M) (fun v10 M11 => some (v10, M11))))))))
      else (j17)))))

/-- WaterTurns.field(II)I -/
def f_X11_field (x0 x1 x2 : Int) (M : Mem) : Option (Int × Mem) :=
    callp (f_X11_isField x0 x1 M) (fun v1 => jn (call (f_X11_refuse x0 1 M) (fun v2 M3 => some (v2, M3))) (fun j17 => if v1 = 0 then (j17)
      else (callp (f_X11_isWithin x2 0 3 M) (fun v4 => if v4 ≠ 0 then (getf M x0 2 (fun v5 => getf M v5 0 (fun v6 => getf M v6 9 (fun v7 => geti M v7 x1 (fun v8 => geti M v8 x2 (fun v9 => call (f_X11_answerOrNone x0 v9 M) (fun v10 M11 => some (v10, M11))))))))
      else (j17)))))

/-- WaterTurns.below(I)I -/
def f_X11_below (x0 x1 : Int) (M : Mem) : Option (Int × Mem) :=
    callp (f_X11_isReach x0 x1 M) (fun v1 => jn (fun (q2 : Int) (M3 : Mem) => some (q2, M3)) (fun j31 => if v1 = 0 then (call (f_X11_refuse x0 1 M) (fun v4 M5 => j31 v4 M5))
      else (getf M x0 2 (fun v6 => getf M v6 0 (fun v7 => nn v7 (callp (f_X8_fieldsBelow v7 x1 M) (fun v9 => call (f_X11_answer x0 v9 M) (fun v10 M11 => j31 v10 M11))))))))

/-- WaterTurns.order(I)I -/
def f_X11_order (x0 x1 : Int) (M : Mem) : Option (Int × Mem) :=
    if 0 ≤ x1 then (getf M x0 2 (fun v1 => getf M v1 0 (fun v2 => getf M v2 5 (fun v3 => jn (fun (q4 : Int) (M5 : Mem) => some (q4, M5)) (fun j49 => if v3 ≤ x1 then (call (f_X11_refuse x0 6 M) (fun v6 M7 => j49 v6 M7))
      else (getf M x0 2 (fun v8 => getf M v8 2 (fun v9 => getf M v9 4 (fun v10 => geti M v10 x1 (fun v11 => call (f_X11_answer x0 v11 M) (fun v12 M13 => j49 v12 M13)))))))))))
      else (call (f_X11_refuse x0 1 M) (fun v14 M15 => some (v14, M15)))

/-- WaterTurns.laidSlots()LWaterTurns$Slots; -/
def f_X11_laidSlots (x0 : Int) (M : Mem) : Option (Int × Mem) :=
    getf M x0 3 (fun v1 => getf M v1 0 (fun v2 => getf M x0 2 (fun v3 => nn v2 (callv (f_X3_lay v2 v3 M) (fun M5 => getf M5 x0 3 (fun v6 => getf M5 v6 0 (fun v7 => some (v7, M5))))))))

/-- WaterTurns.turn(II)I -/
def f_X11_turn (x0 x1 x2 : Int) (M : Mem) : Option (Int × Mem) :=
    callp (f_X11_isField x0 x1 M) (fun v1 => jn (call (f_X11_refuse x0 1 M) (fun v2 M3 => some (v2, M3))) (fun j17 => if v1 = 0 then (j17)
      else (callp (f_X11_isWithin x2 0 1 M) (fun v4 => if v4 ≠ 0 then (call (f_X11_laidSlots x0 M) (fun v5 M6 => jn (fun (q7 : Int) => call (f_X11_answer x0 q7 M6) (fun v8 M9 => some (v8, M9))) (fun j48 => if x2 ≠ 0 then (getf M6 v5 1 (fun v10 => geti M6 v10 x1 (fun v11 => j48 v11)))
      else (getf M6 v5 0 (fun v12 => geti M6 v12 x1 (fun v13 => j48 v13))))))
      else (j17)))))

/-- WaterTurns.swap(II)Z -/
def f_X11_swap (x0 x1 x2 : Int) (M : Mem) : Option (Int × Mem) :=
    callp (f_X11_isCouple x0 x1 x2 M) (fun v1 => jn (fun (q2 : Int) (M3 : Mem) => call (f_X11_settle x0 q2 M3) (fun v4 M5 => retzm v4 M5)) (fun j23 => if v1 = 0 then (j23 1 M)
      else (getf M x0 2 (fun v6 => nn v6 (call (f_X10_changePlaces v6 x1 x2 M) (fun v8 M9 => j23 v8 M9))))))

/-- WaterTurns.lend(III)I -/
def f_X11_lend (x0 x1 x2 x3 : Int) (M : Mem) : Option (Int × Mem) :=
    callp (f_X11_isCouple x0 x1 x2 M) (fun v1 => jn (call (f_X11_refuse x0 1 M) (fun v2 M3 => some (v2, M3))) (fun j20 => if v1 = 0 then (j20)
      else (callp (f_X11_isWithin x3 1 999 M) (fun v4 => if v4 ≠ 0 then (getf M x0 2 (fun v5 => getf M x0 3 (fun v6 => getf M v6 0 (fun v7 => nn v5 (call (f_X10_makeLoan v5 x1 x2 x3 v7 M) (fun v9 M10 => jn (fun (q11 : Int) (M12 : Mem) => some (q11, M12)) (fun j75 => if v9 ≠ 0 then (call (f_X11_refuse x0 v9 M10) (fun v13 M14 => j75 v13 M14))
      else (getf M10 x0 2 (fun v15 => getf M10 v15 2 (fun v16 => nn v16 (callp (f_X4_debt v16 x2 x1 M10) (fun v18 => call (f_X11_answer x0 v18 M10) (fun v19 M20 => j75 v19 M20)))))))))))))
      else (j20)))))

/-- WaterTurns.owed(II)I -/
def f_X11_owed (x0 x1 x2 : Int) (M : Mem) : Option (Int × Mem) :=
    callp (f_X11_isCouple x0 x1 x2 M) (fun v1 => jn (fun (q2 : Int) (M3 : Mem) => some (q2, M3)) (fun j33 => if v1 = 0 then (call (f_X11_refuse x0 1 M) (fun v4 M5 => j33 v4 M5))
      else (getf M x0 2 (fun v6 => getf M v6 2 (fun v7 => nn v7 (callp (f_X4_debt v7 x1 x2 M) (fun v9 => call (f_X11_answer x0 v9 M) (fun v10 M11 => j33 v10 M11))))))))

/-- WaterTurns.slots()I -/
def f_X11_slots (x0 : Int) (M : Mem) : Option (Int × Mem) :=
    call (f_X11_laidSlots x0 M) (fun v1 M2 => getf M2 v1 3 (fun v3 => call (f_X11_answer x0 v3 M2) (fun v4 M5 => some (v4, M5))))

/-- WaterTurns.slot(II)I -/
def f_X11_slot (x0 x1 x2 : Int) (M : Mem) : Option (Int × Mem) :=
    callp (f_X11_isWithin x2 0 2 M) (fun v1 => if v1 ≠ 0 then (call (f_X11_laidSlots x0 M) (fun v2 M3 => getf M3 v2 3 (fun v4 => callp (f_X11_isWithin x1 0 (w32 (v4 - 1)) M3) (fun v5 => if v5 ≠ 0 then (jn (fun (q6 : Int) => call (f_X11_answer x0 q6 M3) (fun v7 M8 => some (v7, M8))) (fun j75 => if x2 ≠ 0 then (if x2 ≠ 1 then (getf M3 v2 6 (fun v9 => geti M3 v9 x1 (fun v10 => j75 v10)))
      else (getf M3 v2 5 (fun v11 => geti M3 v11 x1 (fun v12 => j75 v12))))
      else (getf M3 v2 4 (fun v13 => geti M3 v13 x1 (fun v14 => j75 v14)))))
      else (call (f_X11_refuse x0 6 M3) (fun v15 M16 => some (v15, M16)))))))
      else (call (f_X11_refuse x0 1 M) (fun v17 M18 => some (v17, M18))))

/-- WaterTurns.whose(I)I -/
def f_X11_whose_L21 (M3 : Mem) (v2 x0 x1 : Int) (k : Option (Int × Mem)) : Nat → Int → Option (Int × Mem)
  | 0, _ => none
  | n + 1, p4 =>
    getf M3 v2 3 (fun v5 => if v5 ≤ p4 then (k)
      else (getf M3 v2 5 (fun v6 => geti M3 v6 p4 (fun v7 => getf M3 v2 6 (fun v8 => geti M3 v8 p4 (fun v9 => if w32 (v7 + v9) ≤ x1 then (f_X11_whose_L21 M3 v2 x0 x1 k n (w32 (p4 + 1)))
      else (getf M3 v2 4 (fun v10 => geti M3 v10 p4 (fun v11 => call (f_X11_answer x0 v11 M3) (fun v12 M13 => some (v12, M13)))))))))))

def f_X11_whose (x0 x1 : Int) (M : Mem) : Option (Int × Mem) :=
    callp (f_X11_isMinute x0 x1 M) (fun v1 => if v1 ≠ 0 then (call (f_X11_laidSlots x0 M) (fun v2 M3 => f_X11_whose_L21 M3 v2 x0 x1 (call (f_X11_refuse x0 6 M3) (fun v14 M15 => some (v14, M15))) KF 0))
      else (call (f_X11_refuse x0 1 M) (fun v16 M17 => some (v16, M17))))

/-- WaterTurns.sweptWorld()LWaterTurns$Sweep; -/
def f_X11_sweptWorld (x0 : Int) (M : Mem) : Option (Int × Mem) :=
    getf M x0 3 (fun v1 => getf M x0 2 (fun v2 => nn v1 (callv (f_X5_over v1 v2 M) (fun M4 => getf M4 x0 3 (fun v5 => some (v5, M4))))))

/-- WaterTurns.minutes(II)I -/
def f_X11_minutes (x0 x1 x2 : Int) (M : Mem) : Option (Int × Mem) :=
    callp (f_X11_isField x0 x1 M) (fun v1 => jn (call (f_X11_refuse x0 1 M) (fun v2 M3 => some (v2, M3))) (fun j17 => if v1 = 0 then (j17)
      else (callp (f_X11_isWithin x2 0 1 M) (fun v4 => if v4 ≠ 0 then (call (f_X11_sweptWorld x0 M) (fun v5 M6 => jn (fun (q7 : Int) => call (f_X11_answer x0 q7 M6) (fun v8 M9 => some (v8, M9))) (fun j48 => if x2 ≠ 0 then (getf M6 v5 7 (fun v10 => geti M6 v10 x1 (fun v11 => j48 v11)))
      else (getf M6 v5 6 (fun v12 => geti M6 v12 x1 (fun v13 => j48 v13))))))
      else (j17)))))

/-- WaterTurns.close(IZ)Z -/
def f_X11_close (x0 x1 x2 : Int) (M : Mem) : Option (Int × Mem) :=
    callp (f_X11_isReach x0 x1 M) (fun v1 => if v1 ≠ 0 then (getf M x0 2 (fun v2 => getf M v2 2 (fun v3 => nn v3 (callv (f_X4_setClosed v3 x1 x2 M) (fun M5 => call (f_X11_settle x0 0 M5) (fun v6 M7 => retzm v6 M7))))))
      else (call (f_X11_settle x0 1 M) (fun v8 M9 => retzm v8 M9)))

/-- WaterTurns.head(I)Z -/
def f_X11_head (x0 x1 : Int) (M : Mem) : Option (Int × Mem) :=
    callp (f_X11_isWithin x1 0 999 M) (fun v1 => if v1 ≠ 0 then (getf M x0 2 (fun v2 => getf M v2 2 (fun v3 => putf M v3 0 x1 (fun M4 => call (f_X11_settle x0 0 M4) (fun v5 M6 => retzm v5 M6)))))
      else (call (f_X11_settle x0 1 M) (fun v7 M8 => retzm v7 M8)))

/-- WaterTurns.lets(II)I -/
def f_X11_lets (x0 x1 x2 : Int) (M : Mem) : Option (Int × Mem) :=
    callp (f_X11_isReach x0 x1 M) (fun v1 => jn (call (f_X11_refuse x0 1 M) (fun v2 M3 => some (v2, M3))) (fun j16 => if v1 = 0 then (j16)
      else (callp (f_X11_isMinute x0 x2 M) (fun v4 => if v4 ≠ 0 then (getf M x0 2 (fun v5 => getf M v5 2 (fun v6 => nn v6 (callp (f_X4_isClosed v6 x1 M) (fun v8 => jn (fun (q9 : Int) => jn (fun (q10 : Int) => call (f_X11_answer x0 q10 M) (fun v11 M12 => some (v11, M12))) (fun j67 => if q9 = 0 then (j67 0)
      else (j67 1))) (fun j56 => jn (j56 0) (fun j55 => if v8 ≠ 0 then (j55)
      else (getf M x0 2 (fun v13 => getf M v13 0 (fun v14 => nn v14 (callp (f_X8_isShut v14 x1 x2 M) (fun v16 => if v16 ≠ 0 then (j55)
      else (j56 1)))))))))))))
      else (j16)))))

/-- WaterTurns.rate(I)Z -/
def f_X11_rate (x0 x1 : Int) (M : Mem) : Option (Int × Mem) :=
    callp (f_X11_isField x0 x1 M) (fun v1 => if v1 ≠ 0 then (call (f_X11_sweptWorld x0 M) (fun v2 M3 => getf M3 x0 2 (fun v4 => getf M3 v4 0 (fun v5 => nn v2 (callp (f_X5_rateOf v2 v5 x1 M3) (fun v7 => getf M3 x0 2 (fun v8 => getf M3 v8 0 (fun v9 => getf M3 v9 7 (fun v10 => call (f_X11_tellFraction x0 v7 v10 M3) (fun v11 M12 => retzm v11 M12))))))))))
      else (call (f_X11_settle x0 1 M) (fun v13 M14 => retzm v13 M14)))

/-- WaterTurns.water(I)Z -/
def f_X11_water (x0 x1 : Int) (M : Mem) : Option (Int × Mem) :=
    callp (f_X11_isField x0 x1 M) (fun v1 => if v1 ≠ 0 then (call (f_X11_sweptWorld x0 M) (fun v2 M3 => getf M3 x0 2 (fun v4 => getf M3 v4 0 (fun v5 => nn v2 (callp (f_X5_gets v2 v5 x1 M3) (fun v7 => getf M3 x0 2 (fun v8 => getf M3 v8 0 (fun v9 => getf M3 v9 7 (fun v10 => call (f_X11_tellFraction x0 v7 v10 M3) (fun v11 M12 => retzm v11 M12))))))))))
      else (call (f_X11_settle x0 1 M) (fun v13 M14 => retzm v13 M14)))

/-- WaterTurns.lost(I)Z -/
def f_X11_lost (x0 x1 : Int) (M : Mem) : Option (Int × Mem) :=
    callp (f_X11_isReach x0 x1 M) (fun v1 => if v1 ≠ 0 then (call (f_X11_sweptWorld x0 M) (fun v2 M3 => nn v2 (callp (f_X5_losesAt v2 x1 M3) (fun v5 => getf M3 x0 2 (fun v6 => getf M3 v6 0 (fun v7 => getf M3 v7 7 (fun v8 => call (f_X11_tellFraction x0 v5 v8 M3) (fun v9 M10 => retzm v9 M10))))))))
      else (call (f_X11_settle x0 1 M) (fun v11 M12 => retzm v11 M12)))

/-- WaterTurns.runsOut(I)Z -/
def f_X11_runsOut (x0 x1 : Int) (M : Mem) : Option (Int × Mem) :=
    jn (if x1 ≠ (-1) then (call (f_X11_sweptWorld x0 M) (fun v1 M2 => nn v1 (callp (f_X5_spillsAt v1 x1 M2) (fun v4 => getf M2 x0 2 (fun v5 => getf M2 v5 0 (fun v6 => getf M2 v6 7 (fun v7 => call (f_X11_tellFraction x0 v4 v7 M2) (fun v8 M9 => retzm v8 M9))))))))
      else (getf M x0 2 (fun v10 => getf M v10 0 (fun v11 => getf M v11 5 (fun v12 => jn (fun (q13 : Int) => jn (fun (q14 : Int) => call (f_X11_tellFraction x0 q14 1 M) (fun v15 M16 => retzm v15 M16)) (fun j74 => if q13 = 0 then (getf M x0 2 (fun v17 => getf M v17 2 (fun v18 => getf M v18 0 (fun v19 => getf M x0 2 (fun v20 => getf M v20 0 (fun v21 => getf M v21 1 (fun v22 => j74 (w32 (v19 * v22)))))))))
      else (j74 0))) (fun j42 => if v12 ≤ 0 then (j42 0)
      else (j42 1))))))) (fun j19 => if x1 = (-1) then (j19)
      else (callp (f_X11_isReach x0 x1 M) (fun v23 => if v23 ≠ 0 then (j19)
      else (call (f_X11_settle x0 1 M) (fun v24 M25 => retzm v24 M25)))))

/-- WaterTurns.waterOf(I)Z -/
def f_X11_waterOf_L29 (M2 : Mem) (v1 x0 x1 : Int) (k : Int → Option (Int × Mem)) : Nat → Int → Int → Option (Int × Mem)
  | 0, _, _ => none
  | n + 1, p3, p4 =>
    getf M2 x0 2 (fun v5 => getf M2 v5 0 (fun v6 => getf M2 v6 5 (fun v7 => if v7 ≤ p4 then (k p3)
      else (getf M2 x0 2 (fun v8 => getf M2 v8 0 (fun v9 => getf M2 v9 9 (fun v10 => geti M2 v10 p4 (fun v11 => geti M2 v11 3 (fun v12 => jn (fun (q13 : Int) => f_X11_waterOf_L29 M2 v1 x0 x1 k n q13 (w32 (p4 + 1))) (fun j79 => if v12 ≠ x1 then (j79 p3)
      else (getf M2 x0 2 (fun v14 => getf M2 v14 0 (fun v15 => nn v1 (callp (f_X5_gets v1 v15 p4 M2) (fun v17 => letv (w64 (p3 + v17)) (fun v18 => j79 v18))))))))))))))))

def f_X11_waterOf (x0 x1 : Int) (M : Mem) : Option (Int × Mem) :=
    jn (call (f_X11_sweptWorld x0 M) (fun v1 M2 => f_X11_waterOf_L29 M2 v1 x0 x1 (fun (q20 : Int) => getf M2 x0 2 (fun v21 => getf M2 v21 0 (fun v22 => getf M2 v22 7 (fun v23 => call (f_X11_tellFraction x0 q20 v23 M2) (fun v24 M25 => retzm v24 M25))))) KF 0 0)) (fun j19 => if x1 = (-1) then (j19)
      else (callp (f_X11_isOwner x0 x1 M) (fun v26 => if v26 ≠ 0 then (j19)
      else (call (f_X11_settle x0 1 M) (fun v27 M28 => retzm v27 M28)))))

/-- WaterTurns.lacking(I)I -/
def f_X11_lacking (x0 x1 : Int) (M : Mem) : Option (Int × Mem) :=
    callp (f_X11_isField x0 x1 M) (fun v1 => if v1 ≠ 0 then (call (f_X11_sweptWorld x0 M) (fun v2 M3 => getf M3 x0 2 (fun v4 => getf M3 v4 0 (fun v5 => nn v2 (callp (f_X5_shortOf v2 v5 x1 M3) (fun v7 => jn (fun (q8 : Int) (M9 : Mem) => some (q8, M9)) (fun j49 => if v7 ≠ (-1) then (call (f_X11_answer x0 v7 M3) (fun v10 M11 => j49 v10 M11))
      else (call (f_X11_refuse x0 7 M3) (fun v12 M13 => j49 v12 M13)))))))))
      else (call (f_X11_refuse x0 1 M) (fun v14 M15 => some (v14, M15))))

/-- WaterTurns.spare(I)I -/
def f_X11_spare (x0 x1 : Int) (M : Mem) : Option (Int × Mem) :=
    callp (f_X11_isField x0 x1 M) (fun v1 => jn (fun (q2 : Int) (M3 : Mem) => some (q2, M3)) (fun j35 => if v1 = 0 then (call (f_X11_refuse x0 1 M) (fun v4 M5 => j35 v4 M5))
      else (call (f_X11_sweptWorld x0 M) (fun v6 M7 => getf M7 x0 2 (fun v8 => getf M7 v8 0 (fun v9 => nn v6 (callp (f_X5_spareOf v6 v9 x1 M7) (fun v11 => call (f_X11_answer x0 v11 M7) (fun v12 M13 => j35 v12 M13)))))))))

/-- WaterTurns.fewest()I -/
def f_X11_fewest_L12 (M2 : Mem) (v1 x0 : Int) (k : Int → Int → Option (Int × Mem)) : Nat → Int → Int → Int → Option (Int × Mem)
  | 0, _, _, _ => none
  | n + 1, p3, p4, p5 =>
    getf M2 x0 2 (fun v6 => getf M2 v6 0 (fun v7 => getf M2 v7 5 (fun v8 => if v8 ≤ p5 then (k p3 p4)
      else (getf M2 x0 2 (fun v9 => getf M2 v9 0 (fun v10 => nn v1 (callp (f_X5_shortOf v1 v10 p5 M2) (fun v12 => if v12 ≠ (-1) then (letv (w32 (p3 + v12)) (fun v13 => getf M2 x0 2 (fun v14 => getf M2 v14 0 (fun v15 => callp (f_X5_spareOf v1 v15 p5 M2) (fun v16 => letv (w32 (p4 + v16)) (fun v17 => f_X11_fewest_L12 M2 v1 x0 k n v13 v17 (w32 (p5 + 1))))))))
      else (call (f_X11_refuse x0 7 M2) (fun v18 M19 => some (v18, M19)))))))))))

def f_X11_fewest (x0 : Int) (M : Mem) : Option (Int × Mem) :=
    call (f_X11_sweptWorld x0 M) (fun v1 M2 => f_X11_fewest_L12 M2 v1 x0 (fun (q22 : Int) (q23 : Int) => jn (fun (q24 : Int) (M25 : Mem) => some (q24, M25)) (fun j101 => if q23 < q22 then (call (f_X11_refuse x0 6 M2) (fun v26 M27 => j101 v26 M27))
      else (call (f_X11_answer x0 q22 M2) (fun v28 M29 => j101 v28 M29)))) KF 0 0 0)

/-- WaterTurns.neediest()I -/
def f_X11_neediest_L12 (M2 : Mem) (v1 x0 : Int) (k : Int → Option (Int × Mem)) : Nat → Int → Int → Int → Option (Int × Mem)
  | 0, _, _, _ => none
  | n + 1, p3, p4, p5 =>
    getf M2 x0 2 (fun v6 => getf M2 v6 0 (fun v7 => getf M2 v7 5 (fun v8 => if v8 ≤ p5 then (k p4)
      else (getf M2 x0 2 (fun v9 => getf M2 v9 0 (fun v10 => nn v1 (callp (f_X5_shortOf v1 v10 p5 M2) (fun v12 => if v12 ≠ (-1) then (jn (fun (q13 : Int) (q14 : Int) => f_X11_neediest_L12 M2 v1 x0 k n q13 q14 (w32 (p5 + 1))) (fun j67 => if v12 ≤ p3 then (j67 p3 p4)
      else (j67 v12 p5)))
      else (call (f_X11_refuse x0 7 M2) (fun v15 M16 => some (v15, M16)))))))))))

def f_X11_neediest (x0 : Int) (M : Mem) : Option (Int × Mem) :=
    call (f_X11_sweptWorld x0 M) (fun v1 M2 => f_X11_neediest_L12 M2 v1 x0 (fun (q18 : Int) => call (f_X11_answerOrNone x0 q18 M2) (fun v19 M20 => some (v19, M20))) KF 0 (-1) 0)

/-- WaterTurns.richest(Z)I -/
def f_X11_richest_L10 (M2 : Mem) (v1 x0 x1 : Int) (k : Int → Option (Int × Mem)) : Nat → Int → Int → Option (Int × Mem)
  | 0, _, _ => none
  | n + 1, p3, p4 =>
    getf M2 x0 2 (fun v5 => getf M2 v5 0 (fun v6 => getf M2 v6 5 (fun v7 => if v7 ≤ p4 then (k p3)
      else (jn (fun (q8 : Int) => jn (fun (q9 : Int) => f_X11_richest_L10 M2 v1 x0 x1 k n q9 (w32 (p4 + 1))) (fun j75 => jn (j75 p4) (fun j72 => if p3 = (-1) then (j72)
      else (if x1 = 0 then (if 0 ≤ q8 then (j75 p3)
      else (j72))
      else (if q8 ≤ 0 then (j75 p3)
      else (j72)))))) (fun j48 => if p3 ≠ (-1) then (getf M2 x0 2 (fun v10 => getf M2 v10 0 (fun v11 => nn v1 (callp (f_X5_compareWorth v1 v11 p4 p3 M2) (fun v13 => j48 v13)))))
      else (j48 0))))))

def f_X11_richest (x0 x1 : Int) (M : Mem) : Option (Int × Mem) :=
    call (f_X11_sweptWorld x0 M) (fun v1 M2 => f_X11_richest_L10 M2 v1 x0 x1 (fun (q15 : Int) => call (f_X11_answerOrNone x0 q15 M2) (fun v16 M17 => some (v16, M17))) KF (-1) 0)

/-- WaterTurns.tellBest(IJ)I -/
def f_X11_tellBest (x0 x1 x2 : Int) (M : Mem) : Option (Int × Mem) :=
    if x1 ≠ (-1) then (getf M x0 2 (fun v1 => getf M v1 0 (fun v2 => getf M v2 7 (fun v3 => call (f_X11_tellFraction x0 x2 v3 M) (fun v4 M5 => call (f_X11_answer x0 x1 M5) (fun v6 M7 => some (v6, M7)))))))
      else (call (f_X11_refuse x0 6 M) (fun v8 M9 => some (v8, M9)))

/-- WaterTurns.mending()I -/
def f_X11_mending_L26 (v1 v6 x0 : Int) (k : Int → Int → Mem → Option (Int × Mem)) : Nat → Int → Int → Int → Mem → Option (Int × Mem)
  | 0, _, _, _, _ => none
  | n + 1, p7, p8, p9, M10 =>
    getf M10 x0 2 (fun v11 => getf M10 v11 0 (fun v12 => getf M10 v12 3 (fun v13 => if v13 ≤ p9 then (k p7 p8 M10)
      else (getf M10 x0 2 (fun v14 => getf M10 v14 0 (fun v15 => getf M10 x0 2 (fun v16 => getf M10 v16 2 (fun v17 => getf M10 v17 0 (fun v18 => nn v1 (callv (f_X5_flow v1 v15 v18 p9 M10) (fun M20 => getf M20 x0 2 (fun v21 => getf M20 v21 0 (fun v22 => callp (f_X5_allWater v1 v22 M20) (fun v23 => letv (w64 (v23 - v6)) (fun v24 => jn (fun (q25 : Int) (q26 : Int) => f_X11_mending_L26 v1 v6 x0 k n q25 q26 (w32 (p9 + 1)) M20) (fun j95 => if v24 ≤ p7 then (j95 p7 p8)
      else (j95 v24 p9)))))))))))))))))

def f_X11_mending (x0 : Int) (M : Mem) : Option (Int × Mem) :=
    call (f_X11_sweptWorld x0 M) (fun v1 M2 => getf M2 x0 2 (fun v3 => getf M2 v3 0 (fun v4 => nn v1 (callp (f_X5_allWater v1 v4 M2) (fun v6 => f_X11_mending_L26 v1 v6 x0 (fun (q30 : Int) (q31 : Int) (M32 : Mem) => call (f_X11_tellBest x0 q31 q30 M32) (fun v33 M34 => some (v33, M34))) KF 0 (-1) 0 M2)))))

/-- java/lang/Math.abs(I)I -/
def f_J9_abs_0f7a4 (x0 : Int) (M : Mem) : Option (Int) :=
    jn (fun (q1 : Int) => some q1) (fun j10 => if 0 ≤ x0 then (j10 x0)
      else (j10 (w32 (-x0))))

/-- WaterTurns.off()Z -/
def f_X11_off_L32 (M5 : Mem) (v2 v4 x0 : Int) (k : Int → Option (Int × Mem)) : Nat → Int → Int → Option (Int × Mem)
  | 0, _, _ => none
  | n + 1, p6, p7 =>
    getf M5 v2 5 (fun v8 => if v8 ≤ p7 then (k p6)
      else (getf M5 v4 1 (fun v9 => geti M5 v9 p7 (fun v10 => getf M5 v2 6 (fun v11 => letv (w32 (v10 * v11)) (fun v12 => getf M5 v2 1 (fun v13 => getf M5 v2 9 (fun v14 => geti M5 v14 p7 (fun v15 => geti M5 v15 1 (fun v16 => callp (f_J9_abs_0f7a4 (w32 (v12 - (w32 (v13 * v16)))) M5) (fun v17 => callp (f_J9_max_7cf53 p6 v17 M5) (fun v18 => f_X11_off_L32 M5 v2 v4 x0 k n v18 (w32 (p7 + 1))))))))))))))

def f_X11_off (x0 : Int) (M : Mem) : Option (Int × Mem) :=
    getf M x0 2 (fun v1 => getf M v1 0 (fun v2 => getf M v2 5 (fun v3 => if v3 ≠ 0 then (call (f_X11_laidSlots x0 M) (fun v4 M5 => f_X11_off_L32 M5 v2 v4 x0 (fun (q20 : Int) => getf M5 v2 6 (fun v21 => call (f_X11_tellFraction x0 q20 v21 M5) (fun v22 M23 => retzm v22 M23))) KF 0 0))
      else (call (f_X11_settle x0 6 M) (fun v24 M25 => retzm v24 M25)))))

/-- WaterTurns.driest()I -/
def f_X11_driest_L40 (M5 : Mem) (v4 x0 : Int) (k : Int → Option (Int × Mem)) : Nat → Int → Int → Int → Option (Int × Mem)
  | 0, _, _, _ => none
  | n + 1, p6, p7, p8 =>
    getf M5 v4 8 (fun v9 => if v9 ≤ p8 then (k p6)
      else (getf M5 x0 2 (fun v10 => getf M5 v10 0 (fun v11 => nn v4 (callp (f_X5_isWet v4 v11 p8 M5) (fun v13 => jn (fun (q14 : Int) => callp (f_J9_max_7cf53 p6 q14 M5) (fun v15 => f_X11_driest_L40 M5 v4 x0 k n v15 q14 (w32 (p8 + 1)))) (fun j86 => if v13 = 0 then (getf M5 v4 10 (fun v16 => geti M5 v16 p8 (fun v17 => getf M5 v4 9 (fun v18 => geti M5 v18 p8 (fun v19 => j86 (w32 ((w32 (p7 + v17)) - v19)))))))
      else (j86 0))))))))

def f_X11_driest (x0 : Int) (M : Mem) : Option (Int × Mem) :=
    getf M x0 2 (fun v1 => getf M v1 0 (fun v2 => getf M v2 5 (fun v3 => if v3 ≠ 0 then (call (f_X11_sweptWorld x0 M) (fun v4 M5 => f_X11_driest_L40 M5 v4 x0 (fun (q21 : Int) => call (f_X11_answer x0 q21 M5) (fun v22 M23 => some (v22, M23))) KF 0 0 0))
      else (getf M x0 2 (fun v24 => getf M v24 0 (fun v25 => getf M v25 1 (fun v26 => call (f_X11_answer x0 v26 M) (fun v27 M28 => some (v27, M28)))))))))

/-- WaterTurns.waits(II)I -/
def f_X11_waits_L30 (M6 : Mem) (v5 x0 x1 x2 : Int) (k : Option (Int × Mem)) : Nat → Int → Option (Int × Mem)
  | 0, _ => none
  | n + 1, p7 =>
    getf M6 v5 8 (fun v8 => if v8 ≤ p7 then (k)
      else (getf M6 v5 11 (fun v9 => geti M6 v9 p7 (fun v10 => jn (f_X11_waits_L30 M6 v5 x0 x1 x2 k n (w32 (p7 + 1))) (fun j95 => if v10 ≠ x1 then (j95)
      else (getf M6 v5 10 (fun v11 => geti M6 v11 p7 (fun v12 => if v12 ≤ x2 then (j95)
      else (getf M6 x0 2 (fun v13 => getf M6 v13 0 (fun v14 => nn v5 (callp (f_X5_isWet v5 v14 p7 M6) (fun v16 => if v16 = 0 then (j95)
      else (getf M6 v5 9 (fun v17 => geti M6 v17 p7 (fun v18 => callp (f_J9_max_7cf53 0 (w32 (v18 - x2)) M6) (fun v19 => call (f_X11_answer x0 v19 M6) (fun v20 M21 => some (v20, M21)))))))))))))))))))

def f_X11_waits (x0 x1 x2 : Int) (M : Mem) : Option (Int × Mem) :=
    callp (f_X11_isField x0 x1 M) (fun v1 => jn (call (f_X11_refuse x0 1 M) (fun v2 M3 => some (v2, M3))) (fun j16 => if v1 = 0 then (j16)
      else (callp (f_X11_isMinute x0 x2 M) (fun v4 => if v4 ≠ 0 then (call (f_X11_sweptWorld x0 M) (fun v5 M6 => f_X11_waits_L30 M6 v5 x0 x1 x2 (call (f_X11_refuse x0 6 M6) (fun v22 M23 => some (v22, M23))) KF 0))
      else (j16)))))

/-- WaterTurns.headFor(I)I -/
def f_X11_headFor_L29 (v2 x0 x1 : Int) (k : Int → Mem → Option (Int × Mem)) : Nat → Int → Int → Int → Mem → Option (Int × Mem)
  | 0, _, _, _, _ => none
  | n + 1, p4, p5, p6, M7 =>
    if 20 ≤ p6 then (k p4 M7)
      else (if p5 ≤ p4 then (k p4 M7)
      else (idivc (w32 (p4 + p5)) 2 (fun v8 => getf M7 x0 2 (fun v9 => getf M7 v9 0 (fun v10 => nn v2 (callv (f_X5_flow v2 v10 v8 (-1) M7) (fun M12 => getf M12 x0 2 (fun v13 => getf M12 v13 0 (fun v14 => callp (f_X5_shortOf v2 v14 x1 M12) (fun v15 => jn (fun (q16 : Int) (q17 : Int) => f_X11_headFor_L29 v2 x0 x1 k n q16 q17 (w32 (p6 + 1)) M12) (fun j91 => if v15 ≠ 0 then (letv (w32 (v8 + 1)) (fun v18 => j91 v18 p5))
      else (j91 p4 v8))))))))))))

def f_X11_headFor (x0 x1 : Int) (M : Mem) : Option (Int × Mem) :=
    callp (f_X11_isField x0 x1 M) (fun v1 => if v1 ≠ 0 then (call (f_X11_sweptWorld x0 M) (fun v2 M3 => f_X11_headFor_L29 v2 x0 x1 (fun (q21 : Int) (M22 : Mem) => jn (fun (q23 : Int) (M24 : Mem) => some (q23, M24)) (fun j118 => if 999 < q21 then (call (f_X11_refuse x0 6 M22) (fun v25 M26 => j118 v25 M26))
      else (call (f_X11_answer x0 q21 M22) (fun v27 M28 => j118 v27 M28)))) KF 0 1000 0 M3))
      else (call (f_X11_refuse x0 1 M) (fun v29 M30 => some (v29, M30))))

/-- WaterTurns.shadow()I -/
def f_X11_shadow_L13 (M2 : Mem) (v1 x0 : Int) (k : Int → Int → Option (Int × Mem)) : Nat → Int → Int → Int → Option (Int × Mem)
  | 0, _, _, _ => none
  | n + 1, p3, p4, p5 =>
    getf M2 x0 2 (fun v6 => getf M2 v6 0 (fun v7 => getf M2 v7 3 (fun v8 => if v8 ≤ p5 then (k p3 p4)
      else (getf M2 x0 2 (fun v9 => getf M2 v9 0 (fun v10 => getf M2 x0 2 (fun v11 => getf M2 v11 0 (fun v12 => nn v12 (callp (f_X8_fieldsBelow v12 p5 M2) (fun v14 => nn v1 (callp (f_X5_waterIn v1 v10 v14 M2) (fun v16 => jn (fun (q17 : Int) (q18 : Int) => f_X11_shadow_L13 M2 v1 x0 k n q17 q18 (w32 (p5 + 1))) (fun j67 => if v16 ≤ p3 then (j67 p3 p4)
      else (j67 v16 p5))))))))))))))

def f_X11_shadow (x0 : Int) (M : Mem) : Option (Int × Mem) :=
    call (f_X11_sweptWorld x0 M) (fun v1 M2 => f_X11_shadow_L13 M2 v1 x0 (fun (q21 : Int) (q22 : Int) => call (f_X11_tellBest x0 q22 q21 M2) (fun v23 M24 => some (v23, M24))) KF 0 (-1) 0)

/-- WaterTurns.waterIfSwapped(II)J -/
def f_X11_waterIfSwapped (x0 x1 x2 : Int) (M : Mem) : Option (Int × Mem) :=
    getf M x0 2 (fun v1 => nn v1 (call (f_X10_changePlaces v1 x1 x2 M) (fun v3 M4 => call (f_X11_sweptWorld x0 M4) (fun v5 M6 => getf M6 x0 2 (fun v7 => getf M6 v7 0 (fun v8 => nn v5 (callp (f_X5_allWater v5 v8 M6) (fun v10 => getf M6 x0 2 (fun v11 => nn v11 (call (f_X10_changePlaces v11 x1 x2 M6) (fun v13 M14 => some (v10, M14))))))))))))

/-- WaterTurns.bestSwap(I)I -/
def f_X11_bestSwap_L91 (p16 v13 v7 x0 x1 : Int) (k : Int → Int → Mem → Option (Int × Mem)) : Nat → Int → Int → Int → Mem → Option (Int × Mem)
  | 0, _, _, _, _ => none
  | n + 1, p22, p23, p24, M25 =>
    getf M25 x0 2 (fun v26 => getf M25 v26 0 (fun v27 => getf M25 v27 5 (fun v28 => if v28 ≤ p24 then (k p22 p23 M25)
      else (geti M25 v7 p16 (fun v29 => geti M25 v7 p24 (fun v30 => call (f_X11_waterIfSwapped x0 v29 v30 M25) (fun v31 M32 => letv (w64 (v31 - v13)) (fun v33 => jn (fun (q34 : Int) (q35 : Int) => f_X11_bestSwap_L91 p16 v13 v7 x0 x1 k n q34 q35 (w32 (p24 + 1)) M32) (fun j151 => if v33 ≤ p22 then (j151 p22 p23)
      else (jn (fun (q36 : Int) => j151 v33 q36) (fun j149 => if x1 ≠ 0 then (geti M32 v7 p24 (fun v37 => j149 v37))
      else (geti M32 v7 p16 (fun v38 => j149 v38)))))))))))))

def f_X11_bestSwap_L70 (v13 v7 x0 x1 : Int) (k : Int → Int → Mem → Option (Int × Mem)) : Nat → Int → Int → Int → Mem → Option (Int × Mem)
  | 0, _, _, _, _ => none
  | n + 1, p14, p15, p16, M17 =>
    getf M17 x0 2 (fun v18 => getf M17 v18 0 (fun v19 => getf M17 v19 5 (fun v20 => if v20 ≤ p16 then (k p14 p15 M17)
      else (letv (w32 (p16 + 1)) (fun v21 => f_X11_bestSwap_L91 p16 v13 v7 x0 x1 (fun (q42 : Int) (q43 : Int) (M44 : Mem) => f_X11_bestSwap_L70 v13 v7 x0 x1 k n q42 q43 (w32 (p16 + 1)) M44) KF p14 p15 v21 M17)))))

def f_X11_bestSwap (x0 x1 : Int) (M : Mem) : Option (Int × Mem) :=
    callp (f_X11_isWithin x1 0 1 M) (fun v1 => if v1 ≠ 0 then (getf M x0 2 (fun v2 => getf M v2 2 (fun v3 => getf M v3 3 (fun v4 => if v4 ≤ 0 then (getf M x0 2 (fun v5 => getf M v5 2 (fun v6 => getf M v6 4 (fun v7 => call (f_X11_sweptWorld x0 M) (fun v8 M9 => getf M9 x0 2 (fun v10 => getf M9 v10 0 (fun v11 => nn v8 (callp (f_X5_allWater v8 v11 M9) (fun v13 => f_X11_bestSwap_L70 v13 v7 x0 x1 (fun (q48 : Int) (q49 : Int) (M50 : Mem) => call (f_X11_tellBest x0 q49 q48 M50) (fun v51 M52 => some (v51, M52))) KF 0 (-1) 0 M9)))))))))
      else (call (f_X11_refuse x0 7 M) (fun v53 M54 => some (v53, M54)))))))
      else (call (f_X11_refuse x0 1 M) (fun v55 M56 => some (v55, M56))))

/-- WaterTurns.debts()I -/
def f_X11_debts_L20 (M : Mem) (p2 x0 : Int) (k : Int → Option (Int × Mem)) : Nat → Int → Int → Option (Int × Mem)
  | 0, _, _ => none
  | n + 1, p6, p7 =>
    if p2 ≤ p7 then (k p6)
      else (getf M x0 2 (fun v8 => getf M v8 2 (fun v9 => nn v9 (callp (f_X4_debt v9 p2 p7 M) (fun v11 => jn (fun (q12 : Int) => jn (fun (q13 : Int) => letv (w32 (p6 + q13)) (fun v14 => f_X11_debts_L20 M p2 x0 k n v14 (w32 (p7 + 1)))) (fun j73 => if q12 = 0 then (j73 0)
      else (j73 1))) (fun j60 => jn (j60 1) (fun j55 => if 0 < v11 then (j55)
      else (getf M x0 2 (fun v15 => getf M v15 2 (fun v16 => nn v16 (callp (f_X4_debt v16 p7 p2 M) (fun v18 => if v18 ≤ 0 then (j60 0)
      else (j55)))))))))))))

def f_X11_debts_L4 (M : Mem) (x0 : Int) (k : Int → Option (Int × Mem)) : Nat → Int → Int → Option (Int × Mem)
  | 0, _, _ => none
  | n + 1, p1, p2 =>
    getf M x0 2 (fun v3 => getf M v3 0 (fun v4 => getf M v4 5 (fun v5 => if v5 ≤ p2 then (k p1)
      else (f_X11_debts_L20 M p2 x0 (fun (q20 : Int) => f_X11_debts_L4 M x0 k n q20 (w32 (p2 + 1))) KF p1 0))))

def f_X11_debts (x0 : Int) (M : Mem) : Option (Int × Mem) :=
    f_X11_debts_L4 M x0 (fun (q22 : Int) => call (f_X11_answer x0 q22 M) (fun v23 M24 => some (v23, M24))) KF 0 0

/-- WaterTurns.balance(I)I -/
def f_X11_balance_L18 (M : Mem) (x0 x1 : Int) (k : Int → Option (Int × Mem)) : Nat → Int → Int → Option (Int × Mem)
  | 0, _, _ => none
  | n + 1, p2, p3 =>
    getf M x0 2 (fun v4 => getf M v4 0 (fun v5 => getf M v5 5 (fun v6 => if v6 ≤ p3 then (k p2)
      else (getf M x0 2 (fun v7 => getf M v7 0 (fun v8 => getf M v8 9 (fun v9 => geti M v9 p3 (fun v10 => geti M v10 3 (fun v11 => jn (fun (q12 : Int) => f_X11_balance_L18 M x0 x1 k n q12 (w32 (p3 + 1))) (fun j76 => if v11 ≠ x1 then (j76 p2)
      else (getf M x0 2 (fun v13 => getf M v13 2 (fun v14 => nn v14 (callp (f_X4_allDebtTo v14 p3 M) (fun v16 => getf M x0 2 (fun v17 => getf M v17 2 (fun v18 => nn v18 (callp (f_X4_allDebtBy v18 p3 M) (fun v20 => letv (w32 (p2 + (w32 (v16 - v20)))) (fun v21 => j76 v21))))))))))))))))))))

def f_X11_balance (x0 x1 : Int) (M : Mem) : Option (Int × Mem) :=
    callp (f_X11_isOwner x0 x1 M) (fun v1 => if v1 ≠ 0 then (f_X11_balance_L18 M x0 x1 (fun (q23 : Int) => call (f_X11_answer x0 q23 M) (fun v24 M25 => some (v24, M25))) KF 0 0)
      else (call (f_X11_refuse x0 1 M) (fun v26 M27 => some (v26, M27))))

/-- WaterTurns.mean(II)Z -/
def f_X11_mean_L46 (M : Mem) (x0 x1 x2 : Int) (k : Int → Int → Option (Int × Mem)) : Nat → Int → Int → Int → Option (Int × Mem)
  | 0, _, _, _ => none
  | n + 1, p3, p4, p5 =>
    if x2 ≤ p5 then (k p3 p4)
      else (getf M x0 0 (fun v6 => getf M v6 0 (fun v7 => geti M v7 x1 (fun v8 => geti M v8 p5 (fun v9 => jn (fun (q10 : Int) (q11 : Int) => f_X11_mean_L46 M x0 x1 x2 k n q10 q11 (w32 (p5 + 1))) (fun j91 => if v9 = (-1) then (j91 p3 p4)
      else (getf M x0 0 (fun v12 => getf M v12 0 (fun v13 => geti M v13 x1 (fun v14 => geti M v14 p5 (fun v15 => letv (w64 (p3 + v15)) (fun v16 => j91 v16 (w32 (p4 + 1))))))))))))))

def f_X11_mean (x0 x1 x2 : Int) (M : Mem) : Option (Int × Mem) :=
    callp (f_X11_isWithin x2 1 60 M) (fun v1 => jn (fun (q2 : Int) => if q2 = 0 then (f_X11_mean_L46 M x0 x1 x2 (fun (q19 : Int) (q20 : Int) => jn (fun (q21 : Int) (M22 : Mem) => retzm q21 M22) (fun j120 => if q20 ≠ 0 then (call (f_X11_tellFraction x0 q19 q20 M) (fun v23 M24 => j120 v23 M24))
      else (call (f_X11_settle x0 6 M) (fun v25 M26 => j120 v25 M26)))) KF 0 0 0)
      else (call (f_X11_settle x0 q2 M) (fun v27 M28 => retzm v27 M28))) (fun j26 => if v1 = 0 then (j26 1)
      else (getf M x0 0 (fun v29 => nn v29 (callp (f_X7_whyNoGauge v29 x1 x2 999999 M) (fun v31 => j26 v31))))))

/-- WaterTurns.gaps(II)I -/
def f_X11_gaps_L46 (M : Mem) (x0 x1 x2 : Int) (k : Int → Option (Int × Mem)) : Nat → Int → Int → Int → Option (Int × Mem)
  | 0, _, _, _ => none
  | n + 1, p3, p4, p5 =>
    if x2 ≤ p5 then (k p3)
      else (getf M x0 0 (fun v6 => getf M v6 0 (fun v7 => geti M v7 x1 (fun v8 => geti M v8 p5 (fun v9 => jn (fun (q10 : Int) => callp (f_J9_max_7cf53 p3 q10 M) (fun v11 => f_X11_gaps_L46 M x0 x1 x2 k n v11 q10 (w32 (p5 + 1)))) (fun j79 => if v9 ≠ (-1) then (j79 0)
      else (j79 (w32 (p4 + 1)))))))))

def f_X11_gaps (x0 x1 x2 : Int) (M : Mem) : Option (Int × Mem) :=
    callp (f_X11_isWithin x2 1 60 M) (fun v1 => jn (fun (q2 : Int) => if q2 = 0 then (f_X11_gaps_L46 M x0 x1 x2 (fun (q13 : Int) => call (f_X11_answer x0 q13 M) (fun v14 M15 => some (v14, M15))) KF 0 0 0)
      else (call (f_X11_refuse x0 q2 M) (fun v16 M17 => some (v16, M17)))) (fun j26 => if v1 = 0 then (j26 1)
      else (getf M x0 0 (fun v18 => nn v18 (callp (f_X7_whyNoGauge v18 x1 x2 999999 M) (fun v20 => j26 v20))))))

/-- WaterTurns.suspects(I)I -/
def f_X11_suspects_L49 (M8 : Mem) (v2 v7 x0 x1 : Int) (k : Int → Int → Option (Int × Mem)) : Nat → Int → Int → Int → Option (Int × Mem)
  | 0, _, _, _ => none
  | n + 1, p9, p10, p11 =>
    getf M8 v2 5 (fun v12 => if v12 ≤ p11 then (k p9 p10)
      else (getf M8 x0 0 (fun v13 => getf M8 v13 0 (fun v14 => geti M8 v14 x1 (fun v15 => geti M8 v15 p11 (fun v16 => jn (fun (q17 : Int) (q18 : Int) => f_X11_suspects_L49 M8 v2 v7 x0 x1 k n q17 q18 (w32 (p11 + 1))) (fun j126 => if v16 = (-1) then (j126 p9 p10)
      else (letv (iorv p9 (ishlv 1 p11)) (fun v19 => nn v7 (callp (f_X5_rateOf v7 v2 p11 M8) (fun v21 => getf M8 v2 7 (fun v22 => callp (f_J9_max_f86c9 1 v22 M8) (fun v23 => ldivc v21 v23 (fun v24 => jn (fun (q25 : Int) => letv (iorv p10 q25) (fun v26 => j126 v19 v26)) (fun j123 => if v24 ≤ v16 then (j123 0)
      else (j123 (ishlv 1 p11)))))))))))))))))

def f_X11_suspects_L138 (M8 : Mem) (q29 q30 v2 x0 : Int) (k : Int → Option (Int × Mem)) : Nat → Int → Int → Option (Int × Mem)
  | 0, _, _ => none
  | n + 1, p31, p32 =>
    getf M8 v2 3 (fun v33 => if v33 ≤ p32 then (k p31)
      else (jn (fun (q34 : Int) => f_X11_suspects_L138 M8 q29 q30 v2 x0 k n q34 (w32 (p32 + 1))) (fun j175 => if q30 = 0 then (j175 p31)
      else (nn v2 (callp (f_X8_fieldsBelow v2 p32 M8) (fun v36 => if q30 ≠ iandv v36 q29 then (j175 p31)
      else (letv (iorv p31 (ishlv 1 p32)) (fun v37 => j175 v37))))))))

def f_X11_suspects (x0 x1 : Int) (M : Mem) : Option (Int × Mem) :=
    getf M x0 2 (fun v1 => getf M v1 0 (fun v2 => getf M x0 0 (fun v3 => getf M v2 5 (fun v4 => nn v3 (callp (f_X7_whyNoGauge v3 x1 v4 999 M) (fun v6 => if v6 = 0 then (call (f_X11_sweptWorld x0 M) (fun v7 M8 => f_X11_suspects_L49 M8 v2 v7 x0 x1 (fun (q29 : Int) (q30 : Int) => f_X11_suspects_L138 M8 q29 q30 v2 x0 (fun (q39 : Int) => call (f_X11_answer x0 q39 M8) (fun v40 M41 => some (v40, M41))) KF 0 0) KF 0 0 0))
      else (call (f_X11_refuse x0 v6 M) (fun v42 M43 => some (v42, M43)))))))))

/-- WaterTurns.pass()I -/
def f_X11_pass (x0 : Int) (M : Mem) : Option (Int × Mem) :=
    getf M x0 2 (fun v1 => getf M x0 3 (fun v2 => nn v1 (call (f_X10_endSpan v1 v2 M) (fun v4 M5 => jn (fun (q6 : Int) (M7 : Mem) => some (q6, M7)) (fun j38 => if v4 ≠ 0 then (call (f_X11_refuse x0 v4 M5) (fun v8 M9 => j38 v8 M9))
      else (getf M5 x0 2 (fun v10 => getf M5 v10 2 (fun v11 => getf M5 v11 1 (fun v12 => call (f_X11_answer x0 v12 M5) (fun v13 M14 => j38 v13 M14))))))))))

/-- WaterTurns.account(I)J -/
def f_X11_account (x0 x1 : Int) (M : Mem) : Option (Int × Mem) :=
    callp (f_X11_isField x0 x1 M) (fun v1 => if v1 ≠ 0 then (call (f_X11_settle x0 0 M) (fun v2 M3 => getf M3 x0 2 (fun v4 => getf M3 v4 2 (fun v5 => getf M3 v5 9 (fun v6 => geti M3 v6 x1 (fun v7 => some (v7, M3)))))))
      else (call (f_X11_refuse x0 1 M) (fun v8 M9 => some (v8, M9))))

/-- WaterTurns.live(I)I -/
def f_X11_live (x0 x1 : Int) (M : Mem) : Option (Int × Mem) :=
    callp (f_X11_isWithin x1 0 9999 M) (fun v1 => if v1 ≠ 0 then (getf M x0 2 (fun v2 => getf M v2 1 (fun v3 => getf M v3 0 (fun v4 => if v4 ≠ 0 then (getf M x0 4 (fun v5 => getf M x0 2 (fun v6 => getf M x0 3 (fun v7 => nn v5 (callv (f_X2_run v5 v6 v7 x1 M) (fun M9 => getf M9 x0 7 (fun v10 => getf M9 x0 4 (fun v11 => getf M9 v11 1 (fun v12 => seti M9 v10 0 v12 (fun M13 => getf M13 x0 7 (fun v14 => getf M13 x0 4 (fun v15 => getf M13 v15 2 (fun v16 => seti M13 v14 1 v16 (fun M17 => getf M17 x0 7 (fun v18 => getf M17 x0 4 (fun v19 => getf M17 v19 3 (fun v20 => seti M17 v18 2 v20 (fun M21 => getf M21 x0 7 (fun v22 => getf M21 x0 4 (fun v23 => getf M21 v23 4 (fun v24 => jn (fun (q25 : Int) => seti M21 v22 3 q25 (fun M26 => putz M26 x0 10 1 (fun M27 => getf M27 x0 4 (fun v28 => getf M27 v28 0 (fun v29 => call (f_X11_answer x0 v29 M27) (fun v30 M31 => some (v30, M31))))))) (fun j112 => if v24 = 0 then (j112 0)
      else (j112 1)))))))))))))))))))))))
      else (call (f_X11_refuse x0 6 M) (fun v32 M33 => some (v32, M33)))))))
      else (call (f_X11_refuse x0 1 M) (fun v34 M35 => some (v34, M35))))

/-- WaterTurns.lived(I)I -/
def f_X11_lived (x0 x1 : Int) (M : Mem) : Option (Int × Mem) :=
    callp (f_X11_isWithin x1 0 3 M) (fun v1 => if v1 ≠ 0 then (getf M x0 10 (fun v2 => jn (fun (q3 : Int) (M4 : Mem) => some (q3, M4)) (fun j41 => if v2 = 0 then (call (f_X11_refuse x0 6 M) (fun v5 M6 => j41 v5 M6))
      else (getf M x0 7 (fun v7 => geti M v7 x1 (fun v8 => call (f_X11_answer x0 v8 M) (fun v9 M10 => j41 v9 M10)))))))
      else (call (f_X11_refuse x0 1 M) (fun v11 M12 => some (v11, M12))))

/-- WaterTurns.odds(IIII)Z -/
def f_X11_odds_L92 (x0 x1 x2 x3 x4 : Int) (k : Int → Mem → Option (Int × Mem)) : Nat → Int → Int → Mem → Option (Int × Mem)
  | 0, _, _, _ => none
  | n + 1, p15, p16, M17 =>
    if x4 ≤ p16 then (k p15 M17)
      else (getf M17 x0 4 (fun v18 => getf M17 x0 2 (fun v19 => getf M17 x0 3 (fun v20 => nn v18 (callv (f_X2_run v18 v19 v20 (w32 (x3 + p16)) M17) (fun M22 => getf M22 x0 2 (fun v23 => getf M22 v23 2 (fun v24 => getf M22 v24 9 (fun v25 => geti M22 v25 x1 (fun v26 => jn (fun (q27 : Int) => letv (w32 (p15 + q27)) (fun v28 => getf M22 x0 2 (fun v29 => getf M22 v29 2 (fun v30 => getf M22 x0 5 (fun v31 => nn v30 (callv (f_X4_take v30 v31 M22) (fun M33 => f_X11_odds_L92 x0 x1 x2 x3 x4 k n v28 (w32 (p16 + 1)) M33))))))) (fun j143 => if v26 < x2 then (j143 0)
      else (j143 1))))))))))))

def f_X11_odds (x0 x1 x2 x3 x4 : Int) (M : Mem) : Option (Int × Mem) :=
    callp (f_X11_isField x0 x1 M) (fun v1 => jn (call (f_X11_settle x0 1 M) (fun v2 M3 => retzm v2 M3)) (fun j46 => if v1 = 0 then (j46)
      else (callp (f_X11_isWithin x2 0 9999 M) (fun v4 => if v4 = 0 then (j46)
      else (callp (f_X11_isWithin x4 1 10 M) (fun v5 => if v5 = 0 then (j46)
      else (callp (f_X11_isWithin x3 0 (w32 ((w32 (9999 - x4)) + 1)) M) (fun v6 => if v6 ≠ 0 then (getf M x0 2 (fun v7 => getf M v7 1 (fun v8 => getf M v8 0 (fun v9 => if v9 ≠ 0 then (getf M x0 5 (fun v10 => getf M x0 2 (fun v11 => getf M v11 2 (fun v12 => nn v10 (callv (f_X4_take v10 v12 M) (fun M14 => f_X11_odds_L92 x0 x1 x2 x3 x4 (fun (q36 : Int) (M37 : Mem) => call (f_X11_tellFraction x0 q36 x4 M37) (fun v38 M39 => retzm v38 M39)) KF 0 0 M14))))))
      else (call (f_X11_settle x0 6 M) (fun v40 M41 => retzm v40 M41))))))
      else (j46)))))))))

/-- WaterTurns.mark()I -/
def f_X11_mark (x0 : Int) (M : Mem) : Option (Int × Mem) :=
    getf M x0 11 (fun v1 => if v1 < 3 then (getf M x0 6 (fun v2 => getf M x0 11 (fun v3 => geti M v2 v3 (fun v4 => jn (fun (M5 : Mem) => getf M5 x0 6 (fun v6 => getf M5 x0 11 (fun v7 => geti M5 v6 v7 (fun v8 => getf M5 x0 2 (fun v9 => nn v8 (callv (f_X10_take v8 v9 M5) (fun M11 => getf M11 x0 11 (fun v12 => putf M11 x0 11 (w32 (v12 + 1)) (fun M13 => getf M13 x0 11 (fun v14 => call (f_X11_answer x0 v14 M13) (fun v15 M16 => some (v15, M16)))))))))))) (fun j42 => if v4 ≠ 0 then (j42 M)
      else (getf M x0 6 (fun v17 => getf M x0 11 (fun v18 => newo M 28 0 (fun v19 M20 => nn v19 (callv (f_X10_init v19 M20) (fun M22 => seta M22 v17 v18 v19 (fun M23 => j42 M23))))))))))))
      else (call (f_X11_refuse x0 4 M) (fun v24 M25 => some (v24, M25))))

/-- WaterTurns.back()I -/
def f_X11_back (x0 : Int) (M : Mem) : Option (Int × Mem) :=
    getf M x0 11 (fun v1 => jn (call (f_X11_refuse x0 6 M) (fun v2 M3 => some (v2, M3))) (fun j22 => if v1 < 1 then (j22)
      else (getf M x0 6 (fun v4 => getf M x0 11 (fun v5 => geti M v4 (w32 (v5 - 1)) (fun v6 => if v6 ≠ 0 then (getf M x0 11 (fun v7 => putf M x0 11 (w32 (v7 - 1)) (fun M8 => getf M8 x0 2 (fun v9 => getf M8 x0 6 (fun v10 => getf M8 x0 11 (fun v11 => geti M8 v10 v11 (fun v12 => nn v9 (callv (f_X10_take v9 v12 M8) (fun M14 => getf M14 x0 11 (fun v15 => call (f_X11_answer x0 v15 M14) (fun v16 M17 => some (v16, M17))))))))))))
      else (j22)))))))
