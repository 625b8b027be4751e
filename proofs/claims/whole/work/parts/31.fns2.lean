/-! the reference: likewise -/
/-- WaterTurnsModel.plain(I)V -/
def f_X12_plain_L2 (x0 x1 : Int) (k : Mem → Option (Mem)) : Nat → Int → Mem → Option (Mem)
  | 0, _, _ => none
  | n + 1, p1, M2 =>
    if 640 ≤ p1 then (k M2)
      else (getf M2 x0 0 (fun v3 => seti M2 v3 (w32 (x1 + p1)) 0 (fun M4 => f_X12_plain_L2 x0 x1 k n (w32 (p1 + 1)) M4)))

def f_X12_plain (x0 x1 : Int) (M : Mem) : Option (Mem) :=
    f_X12_plain_L2 x0 x1 (fun (M6 : Mem) => getf M6 x0 0 (fun v7 => seti M6 v7 (w32 (x1 + 0)) 100 (fun M8 => getf M8 x0 0 (fun v9 => seti M8 v9 (w32 (x1 + 1)) 1440 (fun M10 => getf M10 x0 0 (fun v11 => seti M10 v11 (w32 (x1 + 9)) (-1) (fun M12 => some M12))))))) KF 0 M

/-- WaterTurnsModel.<init>()V -/
def f_X12_init (x0 : Int) (M : Mem) : Option (Mem) :=
    newo M 10 3840 (fun v1 M2 => putf M2 x0 0 v1 (fun M3 => newo M3 11 140 (fun v4 M5 => putf M5 x0 1 v4 (fun M6 => putf M6 x0 4 1 (fun M7 => newo M7 10 4 (fun v8 M9 => putf M9 x0 5 v8 (fun M10 => newo M10 10 4 (fun v11 M12 => seti M12 v11 0 (-1) (fun M13 => seti M13 v11 1 (-1) (fun M14 => seti M14 v11 2 (-1) (fun M15 => seti M15 v11 3 (-1) (fun M16 => putf M16 x0 6 v11 (fun M17 => newo M17 11 240 (fun v18 M19 => putf M19 x0 7 v18 (fun M20 => newo M20 12 900 (fun v21 M22 => putf M22 x0 8 v21 (fun M23 => newo M23 12 900 (fun v24 M25 => putf M25 x0 9 v24 (fun M26 => putf M26 x0 16 (-1) (fun M27 => putf M27 x0 17 (-1) (fun M28 => newo M28 10 12 (fun v29 M30 => putf M30 x0 21 v29 (fun M31 => newo M31 10 3 (fun v32 M33 => putf M33 x0 22 v32 (fun M34 => newo M34 10 10 (fun v35 M36 => putf M36 x0 25 v35 (fun M37 => newo M37 10 24 (fun v38 M39 => putf M39 x0 27 v38 (fun M40 => newo M40 10 24 (fun v41 M42 => putf M42 x0 28 v41 (fun M43 => newo M43 10 24 (fun v44 M45 => putf M45 x0 29 v44 (fun M46 => putf M46 x0 34 (-1) (fun M47 => newo M47 10 1440 (fun v48 M49 => putf M49 x0 35 v48 (fun M50 => newo M50 10 80 (fun v51 M52 => putf M52 x0 38 v51 (fun M53 => newo M53 10 4 (fun v54 M55 => putf M55 x0 39 v54 (fun M56 => newo M56 10 4 (fun v57 M58 => putf M58 x0 40 v57 (fun M59 => callv (f_X12_plain x0 0 M59) (fun M60 => some M60)))))))))))))))))))))))))))))))))))))))))))

/-- WaterTurnsModel.status()I -/
def f_X12_status (x0 : Int) (M : Mem) : Option (Int) :=
    getf M x0 2 (fun v1 => some v1)

/-- WaterTurnsModel.top()J -/
def f_X12_top (x0 : Int) (M : Mem) : Option (Int) :=
    getf M x0 3 (fun v1 => some v1)

/-- WaterTurnsModel.bottom()J -/
def f_X12_bottom (x0 : Int) (M : Mem) : Option (Int) :=
    getf M x0 4 (fun v1 => some v1)

/-- WaterTurnsModel.is(I)Z -/
def f_X12_is (x0 x1 : Int) (M : Mem) : Option (Int × Mem) :=
    putf M x0 2 x1 (fun M1 => jn (fun (q2 : Int) => retzm q2 M1) (fun j14 => if x1 ≠ 0 then (j14 0)
      else (j14 1)))

/-- WaterTurnsModel.refuse(I)I -/
def f_X12_refuse (x0 x1 : Int) (M : Mem) : Option (Int × Mem) :=
    putf M x0 2 x1 (fun M1 => some ((-1), M1))

/-- WaterTurnsModel.gives(I)I -/
def f_X12_gives (x0 x1 : Int) (M : Mem) : Option (Int × Mem) :=
    putf M x0 2 0 (fun M1 => some (x1, M1))

/-- WaterTurnsModel.orNone(I)I -/
def f_X12_orNone (x0 x1 : Int) (M : Mem) : Option (Int × Mem) :=
    jn (fun (q1 : Int) (M2 : Mem) => some (q1, M2)) (fun j19 => if x1 ≠ (-1) then (call (f_X12_gives x0 x1 M) (fun v3 M4 => j19 v3 M4))
      else (call (f_X12_refuse x0 6 M) (fun v5 M6 => j19 v5 M6)))

/-- WaterTurnsModel.tellsBy(JJ)Z -/
def f_X12_tellsBy_L6 (M : Mem) (x0 x1 x3 : Int) (k : Int → Option (Int × Mem)) : Nat → Int → Int → Option (Int × Mem)
  | 0, _, _ => none
  | n + 1, p1, p2 =>
    if p2 = 0 then (k p1)
      else (lremc p1 p2 (fun v3 => f_X12_tellsBy_L6 M x0 x1 x3 k n p2 v3))

def f_X12_tellsBy (x0 x1 x3 : Int) (M : Mem) : Option (Int × Mem) :=
    f_X12_tellsBy_L6 M x0 x1 x3 (fun (q5 : Int) => ldivc x1 q5 (fun v6 => putf M x0 3 v6 (fun M7 => ldivc x3 q5 (fun v8 => putf M7 x0 4 v8 (fun M9 => call (f_X12_is x0 0 M9) (fun v10 M11 => retzm v10 M11)))))) KF x1 x3

/-- WaterTurnsModel.isTray(I)Z -/
def f_X12_isTray (x0 : Int) (M : Mem) : Option (Int) :=
    jn (fun (q1 : Int) => retz q1) (fun j14 => jn (j14 0) (fun j13 => if x0 < 0 then (j13)
      else (if 4 ≤ x0 then (j13)
      else (j14 1))))

/-- WaterTurnsModel.cut(JI)J -/
def f_X12_cut (x0 x2 : Int) (M : Mem) : Option (Int) :=
    jn (fun (q1 : Int) => some q1) (fun j35 => if x2 ≠ 0 then (if x2 ≠ 1 then (if x2 ≠ 2 then (j35 x0)
      else (j35 (w32 x0)))
      else (j35 (w16 (w32 x0))))
      else (j35 (w8 (w32 x0))))

/-- WaterTurnsModel.tray(III)Z -/
def f_X12_tray_L49 (x0 x1 x3 : Int) (k : Mem → Option (Int × Mem)) : Nat → Int → Mem → Option (Int × Mem)
  | 0, _, _ => none
  | n + 1, p8, M9 =>
    if x3 ≤ p8 then (k M9)
      else (getf M9 x0 7 (fun v10 => seti M9 v10 (w32 ((w32 (60 * x1)) + p8)) 0 (fun M11 => f_X12_tray_L49 x0 x1 x3 k n (w32 (p8 + 1)) M11)))

def f_X12_tray (x0 x1 x2 x3 : Int) (M : Mem) : Option (Int × Mem) :=
    callp (f_X12_isTray x1 M) (fun v1 => jn (call (f_X12_is x0 1 M) (fun v2 M3 => retzm v2 M3)) (fun j26 => if v1 = 0 then (j26)
      else (if x2 < 0 then (j26)
      else (if 3 < x2 then (j26)
      else (if x3 < 0 then (j26)
      else (if x3 ≤ 60 then (getf M x0 5 (fun v4 => seti M v4 x1 x2 (fun M5 => getf M5 x0 6 (fun v6 => seti M5 v6 x1 x3 (fun M7 => f_X12_tray_L49 x0 x1 x3 (fun (M13 : Mem) => call (f_X12_is x0 0 M13) (fun v14 M15 => retzm v14 M15)) KF 0 M7)))))
      else (j26)))))))

/-- WaterTurnsModel.wrongPlace(II)I -/
def f_X12_wrongPlace (x0 x1 x2 : Int) (M : Mem) : Option (Int) :=
    callp (f_X12_isTray x1 M) (fun v1 => jn (fun (q2 : Int) => some q2) (fun j44 => if v1 ≠ 0 then (getf M x0 6 (fun v3 => geti M v3 x1 (fun v4 => if v4 ≠ (-1) then (jn (j44 3) (fun j39 => if x2 < 0 then (j39)
      else (getf M x0 6 (fun v5 => geti M v5 x1 (fun v6 => if x2 < v6 then (j44 0)
      else (j39))))))
      else (j44 2))))
      else (j44 1)))

/-- WaterTurnsModel.write(IIJ)Z -/
def f_X12_write (x0 x1 x2 x3 : Int) (M : Mem) : Option (Int × Mem) :=
    callp (f_X12_wrongPlace x0 x1 x2 M) (fun v1 => jn (fun (M2 : Mem) => call (f_X12_is x0 v1 M2) (fun v3 M4 => retzm v3 M4)) (fun j34 => if v1 ≠ 0 then (j34 M)
      else (getf M x0 7 (fun v5 => getf M x0 5 (fun v6 => geti M v6 x1 (fun v7 => callp (f_X12_cut x3 v7 M) (fun v8 => seti M v5 (w32 ((w32 (60 * x1)) + x2)) v8 (fun M9 => j34 M9))))))))

/-- WaterTurnsModel.read(II)J -/
def f_X12_read (x0 x1 x2 : Int) (M : Mem) : Option (Int × Mem) :=
    callp (f_X12_wrongPlace x0 x1 x2 M) (fun v1 => putf M x0 2 v1 (fun M2 => getf M2 x0 2 (fun v3 => jn (fun (q4 : Int) => some (q4, M2)) (fun j34 => if v3 ≤ 0 then (getf M2 x0 7 (fun v5 => geti M2 v5 (w32 ((w32 (60 * x1)) + x2)) (fun v6 => j34 v6)))
      else (j34 (-1))))))

/-- WaterTurnsModel.pour(IIIII)Z -/
def f_X12_pour_L118 (x0 x1 x2 x3 x4 x5 : Int) (k : Mem → Option (Int × Mem)) : Nat → Int → Mem → Option (Int × Mem)
  | 0, _, _ => none
  | n + 1, p21, M22 =>
    if x5 ≤ p21 then (k M22)
      else (jn (fun (q23 : Int) => getf M22 x0 7 (fun v24 => getf M22 x0 7 (fun v25 => geti M22 v25 (w32 ((w32 ((w32 (60 * x1)) + x2)) + q23)) (fun v26 => seti M22 v24 (w32 ((w32 ((w32 (60 * x3)) + x4)) + q23)) v26 (fun M27 => f_X12_pour_L118 x0 x1 x2 x3 x4 x5 k n (w32 (p21 + 1)) M27))))) (fun j143 => if x4 ≤ x2 then (j143 p21)
      else (j143 (w32 ((w32 (x5 - 1)) - p21)))))

def f_X12_pour (x0 x1 x2 x3 x4 x5 : Int) (M : Mem) : Option (Int × Mem) :=
    callp (f_X12_isTray x1 M) (fun v1 => jn (call (f_X12_is x0 1 M) (fun v2 M3 => retzm v2 M3)) (fun j28 => if v1 = 0 then (j28)
      else (callp (f_X12_isTray x3 M) (fun v4 => if v4 = 0 then (j28)
      else (if x2 < 0 then (j28)
      else (if x4 < 0 then (j28)
      else (if 0 ≤ x5 then (getf M x0 6 (fun v5 => geti M v5 x1 (fun v6 => jn (call (f_X12_is x0 2 M) (fun v7 M8 => retzm v7 M8)) (fun j54 => if v6 = (-1) then (j54)
      else (getf M x0 6 (fun v9 => geti M v9 x3 (fun v10 => if v10 ≠ (-1) then (getf M x0 5 (fun v11 => geti M v11 x1 (fun v12 => getf M x0 5 (fun v13 => geti M v13 x3 (fun v14 => if v12 = v14 then (getf M x0 6 (fun v15 => geti M v15 x1 (fun v16 => jn (call (f_X12_is x0 3 M) (fun v17 M18 => retzm v17 M18)) (fun j109 => if w32 (v16 - x2) < x5 then (j109)
      else (getf M x0 6 (fun v19 => geti M v19 x3 (fun v20 => if x5 ≤ w32 (v20 - x4) then (f_X12_pour_L118 x0 x1 x2 x3 x4 x5 (fun (M29 : Mem) => call (f_X12_is x0 0 M29) (fun v30 M31 => retzm v30 M31)) KF 0 M)
      else (j109))))))))
      else (call (f_X12_is x0 8 M) (fun v32 M33 => retzm v32 M33)))))))
      else (j54))))))))
      else (j28))))))))

/-- WaterTurnsModel.isFrom(JJJ)Z -/
def f_X12_isFrom (x0 x2 x4 : Int) (M : Mem) : Option (Int) :=
    jn (fun (q1 : Int) => retz q1) (fun j18 => jn (j18 0) (fun j17 => if x0 < x2 then (j17)
      else (if x4 < x0 then (j17)
      else (j18 1))))

/-- WaterTurnsModel.four(I)V -/
def f_X12_four_L3 (x0 x1 : Int) (k : Mem → Option (Mem)) : Nat → Int → Mem → Option (Mem)
  | 0, _, _ => none
  | n + 1, p1, M2 =>
    if p1 < 0 then (k M2)
      else (getf M2 x0 8 (fun v3 => getf M2 x0 10 (fun v4 => seti M2 v3 v4 (w8 (w8 (ishrv x1 p1))) (fun M5 => getf M5 x0 10 (fun v6 => putf M5 x0 10 (w32 (v6 + 1)) (fun M7 => f_X12_four_L3 x0 x1 k n (w32 (p1 + (-8))) M7))))))

def f_X12_four (x0 x1 : Int) (M : Mem) : Option (Mem) :=
    f_X12_four_L3 x0 x1 (fun (M9 : Mem) => some M9) KF 24 M

/-- WaterTurnsModel.feed(IIIII)I -/
def f_X12_feed (x0 x1 x2 x3 x4 x5 : Int) (M : Mem) : Option (Int × Mem) :=
    getf M x0 10 (fun v1 => if w32 (v1 + 20) ≤ 900 then (callv (f_X12_four x0 x1 M) (fun M2 => callv (f_X12_four x0 x2 M2) (fun M3 => callv (f_X12_four x0 x3 M3) (fun M4 => callv (f_X12_four x0 x4 M4) (fun M5 => callv (f_X12_four x0 x5 M5) (fun M6 => getf M6 x0 10 (fun v7 => some (v7, M6))))))))
      else (some ((-1), M)))

/-- WaterTurnsModel.byteAt(I)I -/
def f_X12_byteAt (x0 x1 : Int) (M : Mem) : Option (Int) :=
    getf M x0 11 (fun v1 => jn (fun (q2 : Int) => some q2) (fun j22 => if v1 ≤ x1 then (j22 (-1))
      else (getf M x0 9 (fun v3 => geti M v3 x1 (fun v4 => j22 (iandv v4 255))))))

/-- WaterTurnsModel.isSmall(I)Z -/
def f_X12_isSmall (x0 : Int) (M : Mem) : Option (Int) :=
    jn (fun (q1 : Int) => retz q1) (fun j17 => jn (j17 0) (fun j16 => if x0 < 97 then (j16)
      else (if 122 < x0 then (j16)
      else (j17 1))))

/-- WaterTurnsModel.isDigit(I)Z -/
def f_X12_isDigit (x0 : Int) (M : Mem) : Option (Int) :=
    jn (fun (q1 : Int) => retz q1) (fun j17 => jn (j17 0) (fun j16 => if x0 < 48 then (j16)
      else (if 57 < x0 then (j16)
      else (j17 1))))

/-- WaterTurnsModel.ahead()V -/
def f_X12_ahead_L0 (k : Int → Mem → Option (Mem)) : Nat → Int → Mem → Option (Mem)
  | 0, _, _ => none
  | n + 1, p1, M2 =>
    getf M2 p1 14 (fun v3 => nn p1 (callp (f_X12_byteAt p1 v3 M2) (fun v5 => jn (getf M2 p1 14 (fun v6 => putf M2 p1 14 (w32 (v6 + 1)) (fun M7 => f_X12_ahead_L0 k n p1 M7))) (fun j26 => if v5 = 32 then (j26)
      else (getf M2 p1 14 (fun v8 => callp (f_X12_byteAt p1 v8 M2) (fun v9 => if v9 ≠ 10 then (k p1 M2)
      else (j26))))))))

def f_X12_ahead_L128 (q12 : Int) (k : Mem → Option (Mem)) : Nat → Mem → Option (Mem)
  | 0, _ => none
  | n + 1, M28 =>
    getf M28 q12 14 (fun v29 => nn q12 (callp (f_X12_byteAt q12 v29 M28) (fun v31 => callp (f_X12_isDigit v31 M28) (fun v32 => if v32 = 0 then (k M28)
      else (getf M28 q12 15 (fun v33 => getf M28 q12 14 (fun v34 => callp (f_X12_byteAt q12 v34 M28) (fun v35 => callp (f_J9_min_7cf53 100000 (w32 ((w32 ((w32 (10 * v33)) + v35)) - 48)) M28) (fun v36 => putf M28 q12 15 v36 (fun M37 => getf M37 q12 14 (fun v38 => putf M37 q12 14 (w32 (v38 + 1)) (fun M39 => f_X12_ahead_L128 q12 k n M39))))))))))))

def f_X12_ahead_L81 (q12 : Int) (k : Mem → Option (Mem)) : Nat → Mem → Option (Mem)
  | 0, _ => none
  | n + 1, M46 =>
    getf M46 q12 14 (fun v47 => nn q12 (callp (f_X12_byteAt q12 v47 M46) (fun v49 => callp (f_X12_isSmall v49 M46) (fun v50 => if v50 = 0 then (k M46)
      else (getf M46 q12 14 (fun v51 => putf M46 q12 14 (w32 (v51 + 1)) (fun M52 => f_X12_ahead_L81 q12 k n M52)))))))

def f_X12_ahead (x0 : Int) (M : Mem) : Option (Mem) :=
    f_X12_ahead_L0 (fun (q12 : Int) (M13 : Mem) => getf M13 q12 14 (fun v14 => putf M13 q12 13 v14 (fun M15 => getf M15 q12 14 (fun v16 => nn q12 (callp (f_X12_byteAt q12 v16 M15) (fun v18 => putf M15 q12 15 v18 (fun M19 => jn (fun (M20 : Mem) => some M20) (fun j251 => if v18 ≠ (-1) then (callp (f_X12_isSmall v18 M19) (fun v21 => if v21 = 0 then (callp (f_X12_isDigit v18 M19) (fun v22 => if v22 = 0 then (getf M19 q12 14 (fun v23 => putf M19 q12 14 (w32 (v23 + 1)) (fun M24 => jn (fun (q25 : Int) => putf M24 q12 12 q25 (fun M26 => j251 M26)) (fun j248 => jn (j248 4) (fun j243 => if v18 = 59 then (j243)
      else (if v18 = 60 then (j243)
      else (if v18 = 62 then (j243)
      else (if v18 ≠ 61 then (j248 1)
      else (j243)))))))))
      else (putf M19 q12 15 0 (fun M27 => f_X12_ahead_L128 q12 (fun (M41 : Mem) => getf M41 q12 14 (fun v42 => getf M41 q12 13 (fun v43 => jn (fun (q44 : Int) => putf M41 q12 12 q44 (fun M45 => j251 M45)) (fun j202 => if w32 (v42 - v43) ≤ 4 then (j202 3)
      else (j202 1))))) KF M27))))
      else (f_X12_ahead_L81 q12 (fun (M54 : Mem) => putf M54 q12 12 2 (fun M55 => j251 M55)) KF M19)))
      else (putf M19 q12 12 0 (fun M56 => j251 M56)))))))))) KF x0 M

/-- WaterTurnsModel.isSign(I)Z -/
def f_X12_isSign (x0 x1 : Int) (M : Mem) : Option (Int) :=
    getf M x0 12 (fun v1 => jn (fun (q2 : Int) => retz q2) (fun j21 => jn (j21 0) (fun j20 => if v1 ≠ 4 then (j20)
      else (getf M x0 15 (fun v3 => if v3 ≠ x1 then (j20)
      else (j21 1))))))

/-- WaterTurnsModel.inWords(Ljava/lang/String;)I -/
def f_X12_inWords_L25 (M : Mem) (p2 p3 x0 x1 : Int) (k : Int → Option (Int)) : Nat → Int → Option (Int)
  | 0, _ => none
  | n + 1, p5 =>
    callp (s_chr x1 p5) (fun v6 => if v6 = 32 then (k p5)
      else (f_X12_inWords_L25 M p2 p3 x0 x1 k n (w32 (p5 + 1))))

def f_X12_inWords_L68 (M : Mem) (p2 p3 q8 x0 x1 : Int) (k : Int → Option (Int)) : Nat → Int → Int → Option (Int)
  | 0, _, _ => none
  | n + 1, p12, p13 =>
    if q8 ≤ p13 then (k p12)
      else (if p12 = 0 then (k p12)
      else (callp (s_chr x1 p13) (fun v14 => getf M x0 13 (fun v15 => callp (f_X12_byteAt x0 (w32 ((w32 (v15 + p13)) - p3)) M) (fun v16 => jn (fun (q17 : Int) => f_X12_inWords_L68 M p2 p3 q8 x0 x1 k n q17 (w32 (p13 + 1))) (fun j107 => if v14 ≠ v16 then (j107 0)
      else (j107 1)))))))

def f_X12_inWords_L14 (M : Mem) (x0 x1 : Int) (k : Option (Int)) : Nat → Int → Int → Option (Int)
  | 0, _, _ => none
  | n + 1, p2, p3 =>
    callp (s_len x1) (fun v4 => if v4 ≤ p3 then (k)
      else (f_X12_inWords_L25 M p2 p3 x0 x1 (fun (q8 : Int) => getf M x0 14 (fun v9 => getf M x0 13 (fun v10 => jn (fun (q11 : Int) => f_X12_inWords_L68 M p2 p3 q8 x0 x1 (fun (q19 : Int) => if q19 = 0 then (letv (w32 (q8 + 1)) (fun v20 => f_X12_inWords_L14 M x0 x1 k n (w32 (p2 + 1)) v20))
      else (some p2)) KF q11 p3) (fun j63 => if w32 (q8 - p3) ≠ w32 (v9 - v10) then (j63 0)
      else (j63 1))))) KF p3))

def f_X12_inWords (x0 x1 : Int) (M : Mem) : Option (Int) :=
    getf M x0 12 (fun v1 => if v1 = 2 then (f_X12_inWords_L14 M x0 x1 (some (-1)) KF 0 1)
      else (some (-1)))

/-- WaterTurnsModel.fails(I)Z -/
def f_X12_fails (x0 x1 : Int) (M : Mem) : Option (Int × Mem) :=
    getf M x0 18 (fun v1 => jn (fun (M2 : Mem) => retzm 0 M2) (fun j32 => if v1 ≠ 0 then (j32 M)
      else (getf M x0 12 (fun v3 => jn (fun (q4 : Int) => putf M x0 18 q4 (fun M5 => getf M5 x0 13 (fun v6 => putf M5 x0 17 v6 (fun M7 => j32 M7)))) (fun j21 => if v3 ≠ 1 then (j21 x1)
      else (j21 1))))))

/-- WaterTurnsModel.begins(II)Z -/
def f_X12_begins_L26 (x0 x1 : Int) (k : Mem → Option (Int × Mem)) : Nat → Int → Mem → Option (Int × Mem)
  | 0, _, _ => none
  | n + 1, p3, M4 =>
    if x1 ≤ p3 then (k M4)
      else (getf M4 x0 9 (fun v5 => getf M4 x0 8 (fun v6 => geti M4 v6 p3 (fun v7 => seti M4 v5 p3 (w8 v7) (fun M8 => f_X12_begins_L26 x0 x1 k n (w32 (p3 + 1)) M8)))))

def f_X12_begins (x0 x1 x2 : Int) (M : Mem) : Option (Int × Mem) :=
    jn (retzm 0 M) (fun j17 => if x1 < 0 then (j17)
      else (getf M x0 10 (fun v1 => if v1 < x1 then (j17)
      else (if x1 ≤ x2 then (putf M x0 11 x1 (fun M2 => f_X12_begins_L26 x0 x1 (fun (M10 : Mem) => putf M10 x0 10 0 (fun M11 => putf M11 x0 18 0 (fun M12 => putf M12 x0 17 (-1) (fun M13 => putf M13 x0 14 0 (fun M14 => putf M14 x0 19 0 (fun M15 => callv (f_X12_ahead x0 M15) (fun M16 => retzm 1 M16))))))) KF 0 M2))
      else (j17)))))

/-- WaterTurnsModel.wantSign(I)Z -/
def f_X12_wantSign (x0 x1 : Int) (M : Mem) : Option (Int × Mem) :=
    callp (f_X12_isSign x0 x1 M) (fun v1 => if v1 ≠ 0 then (callv (f_X12_ahead x0 M) (fun M2 => retzm 1 M2))
      else (call (f_X12_fails x0 2 M) (fun v3 M4 => retzm v3 M4)))

/-- WaterTurnsModel.wantWord(Ljava/lang/String;I)Z -/
def f_X12_wantWord (x0 x1 x2 : Int) (M : Mem) : Option (Int × Mem) :=
    callp (f_X12_inWords x0 x1 M) (fun v1 => if v1 = x2 then (callv (f_X12_ahead x0 M) (fun M2 => retzm 1 M2))
      else (call (f_X12_fails x0 2 M) (fun v3 M4 => retzm v3 M4)))

/-- WaterTurnsModel.number(III)Z -/
def f_X12_number (x0 x1 x2 x3 : Int) (M : Mem) : Option (Int × Mem) :=
    getf M x0 12 (fun v1 => if v1 = 3 then (getf M x0 15 (fun v2 => jn (call (f_X12_fails x0 4 M) (fun v3 M4 => retzm v3 M4)) (fun j30 => if v2 < x2 then (j30)
      else (getf M x0 15 (fun v5 => if v5 ≤ x3 then (getf M x0 0 (fun v6 => getf M x0 15 (fun v7 => seti M v6 x1 v7 (fun M8 => callv (f_X12_ahead x0 M8) (fun M9 => retzm 1 M9)))))
      else (j30))))))
      else (call (f_X12_fails x0 2 M) (fun v10 M11 => retzm v10 M11)))

/-- WaterTurnsModel.isName(Ljava/lang/String;)Z -/
def f_X12_isName (x0 x1 : Int) (M : Mem) : Option (Int) :=
    getf M x0 12 (fun v1 => jn (fun (q2 : Int) => retz q2) (fun j36 => jn (j36 0) (fun j35 => if v1 ≠ 2 then (j35)
      else (getf M x0 14 (fun v3 => getf M x0 13 (fun v4 => if 8 < w32 (v3 - v4) then (j35)
      else (callp (f_X12_inWords x0 x1 M) (fun v5 => if v5 ≠ (-1) then (j35)
      else (j36 1)))))))))

/-- WaterTurnsModel.nameHere()J -/
def f_X12_nameHere_L7 (M : Mem) (x0 : Int) (k : Int → Option (Int)) : Nat → Int → Int → Option (Int)
  | 0, _, _ => none
  | n + 1, p2, p3 =>
    getf M x0 14 (fun v4 => if v4 ≤ p3 then (k p2)
      else (callp (f_X12_byteAt x0 p3 M) (fun v5 => letv (lorv (lshlv p2 8) v5) (fun v6 => f_X12_nameHere_L7 M x0 k n v6 (w32 (p3 + 1))))))

def f_X12_nameHere (x0 : Int) (M : Mem) : Option (Int) :=
    getf M x0 13 (fun v1 => f_X12_nameHere_L7 M x0 (fun (q8 : Int) => some q8) KF 0 v1)

/-- WaterTurnsModel.findHere(II)I -/
def f_X12_findHere_L2 (M : Mem) (x0 x1 x2 : Int) (k : Option (Int)) : Nat → Int → Option (Int)
  | 0, _ => none
  | n + 1, p1 =>
    if x2 ≤ p1 then (k)
      else (getf M x0 1 (fun v2 => geti M v2 (w32 (x1 + p1)) (fun v3 => callp (f_X12_nameHere x0 M) (fun v4 => if v3 ≠ v4 then (f_X12_findHere_L2 M x0 x1 x2 k n (w32 (p1 + 1)))
      else (some p1)))))

def f_X12_findHere (x0 x1 x2 : Int) (M : Mem) : Option (Int) :=
    f_X12_findHere_L2 M x0 x1 x2 (some (-1)) KF 0

/-- WaterTurnsModel.fault(I)I -/
def f_X12_fault (x0 x1 : Int) (M : Mem) : Option (Int) :=
    jn (fun (q1 : Int) => some q1) (fun j24 => if x1 ≠ 0 then (if x1 ≠ 1 then (j24 (-1))
      else (getf M x0 17 (fun v2 => j24 v2)))
      else (getf M x0 16 (fun v3 => j24 v3)))

/-- WaterTurnsModel.taken(I)I -/
def f_X12_taken (x0 x1 : Int) (M : Mem) : Option (Int × Mem) :=
    getf M x0 18 (fun v1 => putf M x0 16 v1 (fun M2 => getf M2 x0 18 (fun v3 => jn (fun (q4 : Int) (M5 : Mem) => some (q4, M5)) (fun j29 => if v3 ≤ 0 then (call (f_X12_gives x0 x1 M2) (fun v6 M7 => j29 v6 M7))
      else (call (f_X12_refuse x0 9 M2) (fun v8 M9 => j29 v8 M9))))))

/-- WaterTurnsModel.once(I)Z -/
def f_X12_once (x0 x1 : Int) (M : Mem) : Option (Int × Mem) :=
    getf M x0 20 (fun v1 => if iandv (ishrv v1 x1) 1 ≠ 1 then (getf M x0 20 (fun v2 => putf M x0 20 (iorv v2 (ishlv 1 x1)) (fun M3 => callv (f_X12_ahead x0 M3) (fun M4 => if x1 ≠ 0 then (call (f_X12_number x0 2561 1 1440 M4) (fun v5 M6 => jn (fun (q7 : Int) (M8 : Mem) => retzm q7 M8) (fun j93 => jn (fun (M9 : Mem) => j93 0 M9) (fun j92 => if v5 = 0 then (j92 M6)
      else (call (f_X12_wantWord x0 (-2) 5 M6) (fun v10 M11 => if v10 = 0 then (j92 M11)
      else (call (f_X12_number x0 2562 0 1439 M11) (fun v12 M13 => if v12 = 0 then (j92 M13)
      else (j93 1 M13)))))))))
      else (call (f_X12_number x0 2560 0 999 M4) (fun v14 M15 => retzm v14 M15))))))
      else (call (f_X12_fails x0 5 M) (fun v16 M17 => retzm v16 M17)))

/-- WaterTurnsModel.newOne(III)Z -/
def f_X12_newOne (x0 x1 x2 x3 : Int) (M : Mem) : Option (Int × Mem) :=
    getf M x0 0 (fun v1 => geti M v1 (w32 (2560 + x1)) (fun v2 => if v2 ≠ x2 then (callv (f_X12_ahead x0 M) (fun M3 => callp (f_X12_isName x0 (-2) M3) (fun v4 => if v4 ≠ 0 then (getf M3 x0 0 (fun v5 => geti M3 v5 2563 (fun v6 => callp (f_X12_findHere x0 104 v6 M3) (fun v7 => jn (call (f_X12_fails x0 3 M3) (fun v8 M9 => retzm v8 M9)) (fun j94 => if v7 ≠ (-1) then (j94)
      else (getf M3 x0 0 (fun v10 => geti M3 v10 2564 (fun v11 => callp (f_X12_findHere x0 114 v11 M3) (fun v12 => if v12 ≠ (-1) then (j94)
      else (getf M3 x0 0 (fun v13 => geti M3 v13 2565 (fun v14 => callp (f_X12_findHere x0 120 v14 M3) (fun v15 => if v15 = (-1) then (getf M3 x0 1 (fun v16 => getf M3 x0 0 (fun v17 => geti M3 v17 (w32 (2560 + x1)) (fun v18 => callp (f_X12_nameHere x0 M3) (fun v19 => seti M3 v16 (w32 ((w32 (104 + x3)) + v18)) v19 (fun M20 => callv (f_X12_ahead x0 M20) (fun M21 => retzm 1 M21)))))))
      else (j94))))))))))))))
      else (call (f_X12_fails x0 2 M3) (fun v22 M23 => retzm v22 M23)))))
      else (call (f_X12_fails x0 6 M) (fun v24 M25 => retzm v24 M25))))

/-- WaterTurnsModel.oldOne(IIII)Z -/
def f_X12_oldOne (x0 x1 x2 x3 x4 : Int) (M : Mem) : Option (Int × Mem) :=
    callp (f_X12_isName x0 (-2) M) (fun v1 => if v1 ≠ 0 then (getf M x0 0 (fun v2 => callp (f_X12_findHere x0 (w32 (x1 + x3)) x2 M) (fun v3 => seti M v2 x4 v3 (fun M4 => getf M4 x0 0 (fun v5 => geti M4 v5 x4 (fun v6 => if v6 ≠ (-1) then (callv (f_X12_ahead x0 M4) (fun M7 => retzm 1 M7))
      else (call (f_X12_fails x0 3 M4) (fun v8 M9 => retzm v8 M9))))))))
      else (call (f_X12_fails x0 2 M) (fun v10 M11 => retzm v10 M11)))

/-- WaterTurnsModel.isThere(I)Z -/
def f_X12_isThere (x0 x1 : Int) (M : Mem) : Option (Int × Mem) :=
    callp (f_X12_inWords x0 (-2) M) (fun v1 => if v1 = x1 then (callv (f_X12_ahead x0 M) (fun M2 => retzm 1 M2))
      else (retzm 0 M))

/-- WaterTurnsModel.aReach()Z -/
def f_X12_aReach (x0 : Int) (M : Mem) : Option (Int × Mem) :=
    getf M x0 0 (fun v1 => geti M v1 2563 (fun v2 => letv (w32 (2572 + (w32 (6 * v2)))) (fun v3 => call (f_X12_newOne x0 3 10 0 M) (fun v4 M5 => if v4 ≠ 0 then (getf M5 x0 0 (fun v6 => seti M5 v6 (w32 (v3 + 0)) (-1) (fun M7 => getf M7 x0 0 (fun v8 => seti M7 v8 (w32 (v3 + 3)) (-1) (fun M9 => getf M9 x0 0 (fun v10 => seti M9 v10 (w32 (v3 + 4)) (-1) (fun M11 => getf M11 x0 0 (fun v12 => seti M11 v12 (w32 (v3 + 5)) (-1) (fun M13 => call (f_X12_isThere x0 6 M13) (fun v14 M15 => jn (fun (M16 : Mem) => call (f_X12_wantWord x0 (-2) 7 M16) (fun v17 M18 => jn (fun (M19 : Mem) => retzm 0 M19) (fun j152 => if v17 = 0 then (j152 M18)
      else (call (f_X12_number x0 (w32 (v3 + 1)) 0 11 M18) (fun v20 M21 => if v20 = 0 then (j152 M21)
      else (call (f_X12_wantWord x0 (-2) 8 M21) (fun v22 M23 => if v22 = 0 then (j152 M23)
      else (getf M23 x0 0 (fun v24 => geti M23 v24 (w32 (v3 + 1)) (fun v25 => call (f_X12_number x0 (w32 (v3 + 2)) (w32 (v25 + 1)) 12 M23) (fun v26 M27 => if v26 ≠ 0 then (call (f_X12_isThere x0 9 M27) (fun v28 M29 => jn (fun (M30 : Mem) => call (f_X12_isThere x0 10 M30) (fun v31 M32 => jn (fun (M33 : Mem) => getf M33 x0 0 (fun v34 => geti M33 v34 2563 (fun v35 => seti M33 v34 2563 (w32 (v35 + 1)) (fun M36 => retzm 1 M36)))) (fun j238 => if v31 = 0 then (j238 M32)
      else (call (f_X12_number x0 (w32 (v3 + 4)) 0 1439 M32) (fun v37 M38 => jn (fun (M39 : Mem) => retzm 0 M39) (fun j236 => if v37 = 0 then (j236 M38)
      else (call (f_X12_wantWord x0 (-2) 11 M38) (fun v40 M41 => if v40 = 0 then (j236 M41)
      else (getf M41 x0 0 (fun v42 => geti M41 v42 (w32 (v3 + 4)) (fun v43 => call (f_X12_number x0 (w32 (v3 + 5)) (w32 (v43 + 1)) 1440 M41) (fun v44 M45 => if v44 ≠ 0 then (j238 M45)
      else (j236 M45))))))))))))) (fun j179 => if v28 = 0 then (j179 M29)
      else (call (f_X12_number x0 (w32 (v3 + 3)) 1 999 M29) (fun v46 M47 => if v46 ≠ 0 then (j179 M47)
      else (retzm 0 M47))))))
      else (j152 M27)))))))))))) (fun j95 => if v14 = 0 then (j95 M15)
      else (getf M15 x0 0 (fun v48 => geti M15 v48 2563 (fun v49 => call (f_X12_oldOne x0 104 v49 0 v3 M15) (fun v50 M51 => if v50 ≠ 0 then (j95 M51)
      else (retzm 0 M51))))))))))))))))
      else (retzm 0 M5)))))

/-- WaterTurnsModel.aField()Z -/
def f_X12_aField (x0 : Int) (M : Mem) : Option (Int × Mem) :=
    getf M x0 0 (fun v1 => geti M v1 2565 (fun v2 => letv (w32 (2632 + (w32 (4 * v2)))) (fun v3 => call (f_X12_newOne x0 5 10 16 M) (fun v4 M5 => if v4 ≠ 0 then (getf M5 x0 0 (fun v6 => seti M5 v6 (w32 (v3 + 3)) (-1) (fun M7 => call (f_X12_wantWord x0 (-2) 12 M7) (fun v8 M9 => jn (fun (M10 : Mem) => retzm 0 M10) (fun j68 => if v8 = 0 then (j68 M9)
      else (getf M9 x0 0 (fun v11 => geti M9 v11 2563 (fun v12 => call (f_X12_oldOne x0 104 v12 0 v3 M9) (fun v13 M14 => if v13 ≠ 0 then (call (f_X12_wantWord x0 (-2) 13 M14) (fun v15 M16 => jn (fun (M17 : Mem) => retzm 0 M17) (fun j119 => if v15 = 0 then (j119 M16)
      else (call (f_X12_number x0 (w32 (v3 + 1)) 1 99 M16) (fun v18 M19 => if v18 = 0 then (j119 M19)
      else (call (f_X12_wantWord x0 (-2) 14 M19) (fun v20 M21 => if v20 = 0 then (j119 M21)
      else (call (f_X12_number x0 (w32 (v3 + 2)) 0 9999 M21) (fun v22 M23 => if v22 ≠ 0 then (call (f_X12_isThere x0 15 M23) (fun v24 M25 => jn (fun (M26 : Mem) => getf M26 x0 0 (fun v27 => geti M26 v27 2565 (fun v28 => seti M26 v27 2565 (w32 (v28 + 1)) (fun M29 => retzm 1 M29)))) (fun j154 => if v24 = 0 then (j154 M25)
      else (getf M25 x0 0 (fun v30 => geti M25 v30 2564 (fun v31 => call (f_X12_oldOne x0 104 v31 10 (w32 (v3 + 3)) M25) (fun v32 M33 => if v32 ≠ 0 then (j154 M33)
      else (retzm 0 M33))))))))
      else (j119 M23))))))))))
      else (j68 M14))))))))))
      else (retzm 0 M5)))))

/-- WaterTurnsModel.valleyPart()Z -/
def f_X12_valleyPart (x0 : Int) (M : Mem) : Option (Int × Mem) :=
    callp (f_X12_inWords x0 (-2) M) (fun v1 => jn (fun (q2 : Int) (M3 : Mem) => jn (fun (q4 : Int) (M5 : Mem) => retzm q4 M5) (fun j126 => jn (fun (M6 : Mem) => j126 0 M6) (fun j125 => if q2 = 0 then (j125 M3)
      else (call (f_X12_wantSign x0 59 M3) (fun v7 M8 => if v7 = 0 then (j125 M8)
      else (j126 1 M8)))))) (fun j108 => if v1 = 0 then (call (f_X12_once x0 v1 M) (fun v9 M10 => j108 v9 M10))
      else if v1 = 1 then (call (f_X12_once x0 v1 M) (fun v11 M12 => j108 v11 M12))
      else if v1 = 2 then (call (f_X12_aReach x0 M) (fun v13 M14 => j108 v13 M14))
      else if v1 = 3 then (call (f_X12_newOne x0 4 6 10 M) (fun v15 M16 => getf M16 x0 0 (fun v17 => geti M16 v17 2564 (fun v18 => jn (fun (q19 : Int) => seti M16 v17 2564 (w32 (v18 + q19)) (fun M20 => j108 v15 M20)) (fun j89 => if v15 = 0 then (j89 0)
      else (j89 1))))))
      else if v1 = 4 then (call (f_X12_aField x0 M) (fun v21 M22 => j108 v21 M22))
      else (call (f_X12_fails x0 2 M) (fun v23 M24 => retzm v23 M24))))

/-- WaterTurnsModel.orders()V -/
def f_X12_orders_L15 (x0 : Int) (k : Int → Int → Mem → Option (Mem)) : Nat → Int → Int → Mem → Option (Mem)
  | 0, _, _, _ => none
  | n + 1, p4, p5, M6 =>
    if p5 < 0 then (k p4 0 M6)
      else (getf M6 x0 0 (fun v7 => geti M6 v7 (w32 (2572 + (w32 (6 * p5)))) (fun v8 => jn (fun (q9 : Int) (M10 : Mem) => f_X12_orders_L15 x0 k n q9 (w32 (p5 + (-1))) M10) (fun j49 => if v8 = (-1) then (getf M6 x0 21 (fun v11 => seti M6 v11 p4 p5 (fun M12 => j49 (w32 (p4 + 1)) M12)))
      else (j49 p4 M6)))))

def f_X12_orders_L72 (p19 v23 x0 : Int) (k : Int → Mem → Option (Mem)) : Nat → Int → Int → Mem → Option (Mem)
  | 0, _, _, _ => none
  | n + 1, p24, p25, M26 =>
    getf M26 x0 0 (fun v27 => geti M26 v27 2565 (fun v28 => if v28 ≤ p25 then (k p24 M26)
      else (getf M26 x0 0 (fun v29 => geti M26 v29 (w32 (2632 + (w32 (4 * p25)))) (fun v30 => jn (fun (q31 : Int) (M32 : Mem) => f_X12_orders_L72 p19 v23 x0 k n q31 (w32 (p25 + 1)) M32) (fun j120 => if v30 = v23 then (getf M26 x0 0 (fun v33 => seti M26 v33 (w32 (2672 + p24)) p25 (fun M34 => j120 (w32 (p24 + 1)) M34)))
      else (j120 p24 M26)))))))

def f_X12_orders_L138 (q37 v23 x0 : Int) (k : Int → Mem → Option (Mem)) : Nat → Int → Int → Mem → Option (Mem)
  | 0, _, _, _ => none
  | n + 1, p42, p43, M44 =>
    if p43 < 0 then (k p42 M44)
      else (getf M44 x0 0 (fun v45 => geti M44 v45 (w32 (2572 + (w32 (6 * p43)))) (fun v46 => jn (fun (q47 : Int) (M48 : Mem) => f_X12_orders_L138 q37 v23 x0 k n q47 (w32 (p43 + (-1))) M48) (fun j175 => if v46 = v23 then (getf M44 x0 21 (fun v49 => seti M44 v49 p42 p43 (fun M50 => j175 (w32 (p42 + 1)) M50)))
      else (j175 p42 M44)))))

def f_X12_orders_L55 (x0 : Int) (k : Mem → Option (Mem)) : Nat → Int → Int → Mem → Option (Mem)
  | 0, _, _, _ => none
  | n + 1, p19, p20, M21 =>
    if p19 ≤ 0 then (k M21)
      else (getf M21 x0 21 (fun v22 => geti M21 v22 (w32 (p19 + (-1))) (fun v23 => f_X12_orders_L72 p19 v23 x0 (fun (q37 : Int) (M38 : Mem) => getf M38 x0 0 (fun v39 => geti M38 v39 2563 (fun v40 => letv (w32 (v40 - 1)) (fun v41 => f_X12_orders_L138 q37 v23 x0 (fun (q53 : Int) (M54 : Mem) => f_X12_orders_L55 x0 k n q53 q37 M54) KF (w32 (p19 + (-1))) v41 M38)))) KF p20 0 M21)))

def f_X12_orders (x0 : Int) (M : Mem) : Option (Mem) :=
    getf M x0 0 (fun v1 => geti M v1 2563 (fun v2 => letv (w32 (v2 - 1)) (fun v3 => f_X12_orders_L15 x0 (fun (q16 : Int) (q17 : Int) (M18 : Mem) => f_X12_orders_L55 x0 (fun (M56 : Mem) => some M56) KF q16 q17 M18) KF 0 v3 M)))

/-- WaterTurnsModel.valley(I)I -/
def f_X12_valley_L31 (x0 : Int) (k : Mem → Option (Int × Mem)) : Nat → Int → Mem → Option (Int × Mem)
  | 0, _, _ => none
  | n + 1, p5, M6 =>
    if p5 = 0 then (k M6)
      else (getf M6 x0 12 (fun v7 => if v7 = 0 then (k M6)
      else (call (f_X12_valleyPart x0 M6) (fun v8 M9 => f_X12_valley_L31 x0 k n v8 M9))))

def f_X12_valley_L63 (x0 : Int) (k : Mem → Option (Int × Mem)) : Nat → Int → Mem → Option (Int × Mem)
  | 0, _, _ => none
  | n + 1, p19, M20 =>
    if 640 ≤ p19 then (k M20)
      else (getf M20 x0 0 (fun v21 => getf M20 x0 0 (fun v22 => geti M20 v22 (w32 (2560 + p19)) (fun v23 => seti M20 v21 p19 v23 (fun M24 => f_X12_valley_L63 x0 k n (w32 (p19 + 1)) M24)))))

def f_X12_valley_L94 (x0 : Int) (k : Mem → Option (Int × Mem)) : Nat → Int → Mem → Option (Int × Mem)
  | 0, _, _ => none
  | n + 1, p27, M28 =>
    if 26 ≤ p27 then (k M28)
      else (getf M28 x0 1 (fun v29 => getf M28 x0 1 (fun v30 => geti M28 v30 (w32 (104 + p27)) (fun v31 => seti M28 v29 p27 v31 (fun M32 => f_X12_valley_L94 x0 k n (w32 (p27 + 1)) M32)))))

def f_X12_valley (x0 x1 : Int) (M : Mem) : Option (Int × Mem) :=
    call (f_X12_begins x0 x1 900 M) (fun v1 M2 => if v1 ≠ 0 then (callv (f_X12_plain x0 2560 M2) (fun M3 => putf M3 x0 20 0 (fun M4 => f_X12_valley_L31 x0 (fun (M11 : Mem) => getf M11 x0 18 (fun v12 => jn (fun (M13 : Mem) => getf M13 x0 0 (fun v14 => geti M13 v14 5 (fun v15 => call (f_X12_taken x0 v15 M13) (fun v16 M17 => some (v16, M17))))) (fun j121 => if v12 ≠ 0 then (j121 M11)
      else (callv (f_X12_orders x0 M11) (fun M18 => f_X12_valley_L63 x0 (fun (M26 : Mem) => f_X12_valley_L94 x0 (fun (M34 : Mem) => j121 M34) KF 0 M26) KF 0 M18))))) KF 1 M4)))
      else (call (f_X12_refuse x0 1 M2) (fun v35 M36 => some (v35, M36))))

/-- WaterTurnsModel.reachTo(I)Z -/
def f_X12_reachTo (x0 x1 : Int) (M : Mem) : Option (Int × Mem) :=
    getf M x0 0 (fun v1 => geti M v1 3 (fun v2 => call (f_X12_oldOne x0 0 v2 0 x1 M) (fun v3 M4 => retzm v3 M4)))

/-- WaterTurnsModel.fieldTo(I)Z -/
def f_X12_fieldTo (x0 x1 : Int) (M : Mem) : Option (Int × Mem) :=
    getf M x0 0 (fun v1 => geti M v1 5 (fun v2 => call (f_X12_oldOne x0 0 v2 16 x1 M) (fun v3 M4 => retzm v3 M4)))

/-- WaterTurnsModel.test(I)Z -/
def f_X12_test (x0 x1 : Int) (M : Mem) : Option (Int × Mem) :=
    callp (f_X12_inWords x0 (-2) M) (fun v1 => jn (getf M x0 0 (fun v2 => seti M v2 x1 (w32 (2300 + v1)) (fun M3 => callv (f_X12_ahead x0 M3) (fun M4 => if v1 ≠ 10 then (call (f_X12_fieldTo x0 (w32 (x1 + 1)) M4) (fun v5 M6 => if v5 ≠ 0 then (callp (f_X12_isSign x0 60 M6) (fun v7 => jn (getf M6 x0 0 (fun v8 => getf M6 x0 15 (fun v9 => seti M6 v8 (w32 (x1 + 5)) v9 (fun M10 => callv (f_X12_ahead x0 M10) (fun M11 => jn (fun (q12 : Int) => call (f_X12_number x0 (w32 (x1 + 2)) 0 q12 M11) (fun v13 M14 => retzm v13 M14)) (fun j141 => if v1 ≠ 28 then (j141 9999)
      else (j141 999))))))) (fun j105 => if v7 ≠ 0 then (j105)
      else (callp (f_X12_isSign x0 62 M6) (fun v15 => if v15 ≠ 0 then (j105)
      else (callp (f_X12_isSign x0 61 M6) (fun v16 => if v16 ≠ 0 then (j105)
      else (call (f_X12_fails x0 2 M6) (fun v17 M18 => retzm v17 M18)))))))))
      else (retzm 0 M6)))
      else (call (f_X12_reachTo x0 (w32 (x1 + 1)) M4) (fun v19 M20 => retzm v19 M20)))))) (fun j31 => if v1 = 10 then (j31)
      else (if v1 = 28 then (j31)
      else (if v1 = 29 then (j31)
      else (call (f_X12_fails x0 2 M) (fun v21 M22 => retzm v21 M22))))))

/-- WaterTurnsModel.dayOrder(II)Z -/
def f_X12_dayOrder (x0 x1 x2 : Int) (M : Mem) : Option (Int × Mem) :=
    if x1 = 10 then (call (f_X12_reachTo x0 (w32 (x2 + 1)) M) (fun v1 M2 => retzm v1 M2))
      else if x1 = 16 then (call (f_X12_reachTo x0 (w32 (x2 + 1)) M) (fun v3 M4 => retzm v3 M4))
      else if x1 = 17 then (call (f_X12_fieldTo x0 (w32 (x2 + 1)) M) (fun v5 M6 => jn (fun (q7 : Int) (M8 : Mem) => retzm q7 M8) (fun j109 => jn (fun (M9 : Mem) => j109 0 M9) (fun j108 => if v5 = 0 then (j108 M6)
      else (call (f_X12_fieldTo x0 (w32 (x2 + 2)) M6) (fun v10 M11 => if v10 = 0 then (j108 M11)
      else (j109 1 M11)))))))
      else if x1 = 18 then (call (f_X12_fieldTo x0 (w32 (x2 + 1)) M) (fun v12 M13 => jn (fun (q14 : Int) (M15 : Mem) => retzm q14 M15) (fun j149 => jn (fun (M16 : Mem) => j149 0 M16) (fun j148 => if v12 = 0 then (j148 M13)
      else (call (f_X12_fieldTo x0 (w32 (x2 + 2)) M13) (fun v17 M18 => if v17 = 0 then (j148 M18)
      else (call (f_X12_number x0 (w32 (x2 + 3)) 1 999 M18) (fun v19 M20 => if v19 = 0 then (j148 M20)
      else (j149 1 M20)))))))))
      else if x1 = 19 then (call (f_X12_fieldTo x0 (w32 (x2 + 1)) M) (fun v21 M22 => jn (fun (q23 : Int) (M24 : Mem) => retzm q23 M24) (fun j109 => jn (fun (M25 : Mem) => j109 0 M25) (fun j108 => if v21 = 0 then (j108 M22)
      else (call (f_X12_fieldTo x0 (w32 (x2 + 2)) M22) (fun v26 M27 => if v26 = 0 then (j108 M27)
      else (j109 1 M27)))))))
      else if x1 = 20 then (call (f_X12_number x0 (w32 (x2 + 1)) 0 999 M) (fun v28 M29 => retzm v28 M29))
      else if x1 = 21 then (call (f_X12_number x0 (w32 (x2 + 1)) 0 16 M) (fun v30 M31 => retzm v30 M31))
      else if x1 = 23 then (call (f_X12_test x0 x2 M) (fun v32 M33 => retzm v32 M33))
      else if x1 = 24 then (call (f_X12_number x0 (w32 (x2 + 1)) 1 99 M) (fun v34 M35 => retzm v34 M35))
      else (retzm 1 M)

/-- WaterTurnsModel.step()Z -/
def f_X12_step_L153 (q5 v1 v3 v4 x0 : Int) (k : Mem → Option (Int × Mem)) : Nat → Int → Mem → Option (Int × Mem)
  | 0, _, _ => none
  | n + 1, p13, M14 =>
    if 6 ≤ p13 then (k M14)
      else (getf M14 x0 0 (fun v15 => seti M14 v15 (w32 (v4 + p13)) 0 (fun M16 => f_X12_step_L153 q5 v1 v3 v4 x0 k n (w32 (p13 + 1)) M16)))

def f_X12_step (x0 : Int) (M : Mem) : Option (Int × Mem) :=
    callp (f_X12_inWords x0 (-2) M) (fun v1 => getf M x0 0 (fun v2 => geti M v2 2569 (fun v3 => letv (w32 (2830 + (w32 (6 * v3)))) (fun v4 => jn (fun (q5 : Int) => jn (call (f_X12_fails x0 2 M) (fun v6 M7 => retzm v6 M7)) (fun j75 => jn (jn (jn (jn (getf M x0 24 (fun v8 => jn (fun (q9 : Int) => putf M x0 24 (w32 (v8 + q9)) (fun M10 => getf M10 x0 0 (fun v11 => seti M10 v11 v4 v1 (fun M12 => f_X12_step_L153 q5 v1 v3 v4 x0 (fun (M18 : Mem) => getf M18 x0 0 (fun v19 => geti M18 v19 2569 (fun v20 => seti M18 v19 2569 (w32 (v20 + 1)) (fun M21 => callv (f_X12_ahead x0 M21) (fun M22 => call (f_X12_dayOrder x0 v1 v4 M22) (fun v23 M24 => if v23 ≠ 0 then (jn (fun (M25 : Mem) => jn (fun (M26 : Mem) => call (f_X12_wantSign x0 59 M26) (fun v27 M28 => retzm v27 M28)) (fun j285 => if v1 ≠ 25 then (j285 M25)
      else (getf M25 x0 23 (fun v29 => putf M25 x0 23 (w32 (v29 - 1)) (fun M30 => getf M30 x0 0 (fun v31 => getf M30 x0 22 (fun v32 => getf M30 x0 23 (fun v33 => geti M30 v32 v33 (fun v34 => seti M30 v31 (w32 (v4 + 4)) v34 (fun M35 => getf M35 x0 0 (fun v36 => getf M35 x0 22 (fun v37 => getf M35 x0 23 (fun v38 => geti M35 v37 v38 (fun v39 => seti M35 v36 (w32 ((w32 (2830 + (w32 (6 * v39)))) + 4)) v3 (fun M40 => j285 M40))))))))))))))) (fun j228 => if q5 = 0 then (j228 M24)
      else (getf M24 x0 22 (fun v41 => getf M24 x0 23 (fun v42 => seti M24 v41 v42 v3 (fun M43 => getf M43 x0 23 (fun v44 => putf M43 x0 23 (w32 (v44 + 1)) (fun M45 => j228 M45))))))))
      else (retzm 0 M24))))))) KF 1 M12)))) (fun j139 => if v1 ≠ 25 then (j139 1)
      else (j139 0)))) (fun j123 => if q5 = 0 then (j123)
      else (getf M x0 23 (fun v46 => if v46 ≠ 3 then (j123)
      else (call (f_X12_fails x0 7 M) (fun v47 M48 => retzm v47 M48)))))) (fun j103 => if v1 = 25 then (j103)
      else (getf M x0 24 (fun v49 => if v49 ≠ 30 then (j103)
      else (call (f_X12_fails x0 6 M) (fun v50 M51 => retzm v50 M51)))))) (fun j81 => if v1 ≠ 25 then (j81)
      else (getf M x0 23 (fun v52 => if v52 ≠ 0 then (j81)
      else (j75))))) (fun j62 => if v1 = 10 then (j62)
      else (if v1 < 16 then (j75)
      else (if 26 < v1 then (j75)
      else (j62)))))) (fun j42 => jn (j42 1) (fun j37 => if v1 = 23 then (j37)
      else (if v1 ≠ 24 then (j42 0)
      else (j37))))))))

/-- WaterTurnsModel.days(I)I -/
def f_X12_days_L38 (x0 : Int) (k : Mem → Option (Int × Mem)) : Nat → Int → Mem → Option (Int × Mem)
  | 0, _, _ => none
  | n + 1, p7, M8 =>
    if p7 = 0 then (k M8)
      else (getf M8 x0 12 (fun v9 => if v9 = 0 then (k M8)
      else (call (f_X12_step x0 M8) (fun v10 M11 => f_X12_days_L38 x0 k n v10 M11))))

def f_X12_days_L103 (x0 : Int) (k : Mem → Option (Int × Mem)) : Nat → Int → Mem → Option (Int × Mem)
  | 0, _, _ => none
  | n + 1, p25, M26 =>
    if 640 ≤ p25 then (k M26)
      else (getf M26 x0 0 (fun v27 => getf M26 x0 0 (fun v28 => geti M26 v28 (w32 (2560 + p25)) (fun v29 => seti M26 v27 p25 v29 (fun M30 => f_X12_days_L103 x0 k n (w32 (p25 + 1)) M30)))))

def f_X12_days (x0 x1 : Int) (M : Mem) : Option (Int × Mem) :=
    call (f_X12_begins x0 x1 300 M) (fun v1 M2 => if v1 ≠ 0 then (getf M2 x0 0 (fun v3 => seti M2 v3 2569 0 (fun M4 => putf M4 x0 23 0 (fun M5 => putf M5 x0 24 0 (fun M6 => f_X12_days_L38 x0 (fun (M13 : Mem) => getf M13 x0 18 (fun v14 => jn (fun (M15 : Mem) => getf M15 x0 18 (fun v16 => jn (fun (M17 : Mem) => getf M17 x0 24 (fun v18 => call (f_X12_taken x0 v18 M17) (fun v19 M20 => some (v19, M20)))) (fun j132 => if v16 ≠ 0 then (j132 M15)
      else (getf M15 x0 0 (fun v21 => getf M15 x0 0 (fun v22 => geti M15 v22 2569 (fun v23 => seti M15 v21 9 v23 (fun M24 => f_X12_days_L103 x0 (fun (M32 : Mem) => j132 M32) KF 270 M24)))))))) (fun j77 => if v14 ≠ 0 then (j77 M13)
      else (getf M13 x0 23 (fun v33 => if v33 ≤ 0 then (j77 M13)
      else (call (f_X12_fails x0 2 M13) (fun v34 M35 => j77 M35))))))) KF 1 M6)))))
      else (call (f_X12_refuse x0 1 M2) (fun v36 M37 => some (v36, M37))))

/-- WaterTurnsModel.isReach(I)Z -/
def f_X12_isReach (x0 x1 : Int) (M : Mem) : Option (Int) :=
    jn (fun (q1 : Int) => retz q1) (fun j19 => jn (j19 0) (fun j18 => if x1 < 0 then (j18)
      else (getf M x0 0 (fun v2 => geti M v2 3 (fun v3 => if v3 ≤ x1 then (j18)
      else (j19 1))))))

/-- WaterTurnsModel.isField(I)Z -/
def f_X12_isField (x0 x1 : Int) (M : Mem) : Option (Int) :=
    jn (fun (q1 : Int) => retz q1) (fun j19 => jn (j19 0) (fun j18 => if x1 < 0 then (j18)
      else (getf M x0 0 (fun v2 => geti M v2 5 (fun v3 => if v3 ≤ x1 then (j18)
      else (j19 1))))))

/-- WaterTurnsModel.ofReach(II)I -/
def f_X12_ofReach (x0 x1 x2 : Int) (M : Mem) : Option (Int) :=
    getf M x0 0 (fun v1 => geti M v1 (w32 ((w32 (12 + (w32 (6 * x1)))) + x2)) (fun v2 => some v2))

/-- WaterTurnsModel.ofField(II)I -/
def f_X12_ofField (x0 x1 x2 : Int) (M : Mem) : Option (Int) :=
    getf M x0 0 (fun v1 => geti M v1 (w32 ((w32 (72 + (w32 (4 * x1)))) + x2)) (fun v2 => some v2))

/-- WaterTurnsModel.told(I)I -/
def f_X12_told (x0 x1 : Int) (M : Mem) : Option (Int × Mem) :=
    jn (fun (q1 : Int) (M2 : Mem) => some (q1, M2)) (fun j28 => jn (call (f_X12_refuse x0 1 M) (fun v3 M4 => j28 v3 M4)) (fun j10 => if x1 < 0 then (j10)
      else (if x1 ≤ 8 then (getf M x0 0 (fun v5 => geti M v5 x1 (fun v6 => call (f_X12_gives x0 v6 M) (fun v7 M8 => j28 v7 M8))))
      else (j10))))

/-- WaterTurnsModel.reach(II)I -/
def f_X12_reach (x0 x1 x2 : Int) (M : Mem) : Option (Int × Mem) :=
    callp (f_X12_isReach x0 x1 M) (fun v1 => jn (fun (q2 : Int) (M3 : Mem) => some (q2, M3)) (fun j35 => jn (call (f_X12_refuse x0 1 M) (fun v4 M5 => j35 v4 M5)) (fun j30 => if v1 = 0 then (j30)
      else (if x2 < 0 then (j30)
      else (if 5 < x2 then (j30)
      else (callp (f_X12_ofReach x0 x1 x2 M) (fun v6 => call (f_X12_orNone x0 v6 M) (fun v7 M8 => j35 v7 M8))))))))

/-- WaterTurnsModel.field(II)I -/
def f_X12_field (x0 x1 x2 : Int) (M : Mem) : Option (Int × Mem) :=
    callp (f_X12_isField x0 x1 M) (fun v1 => jn (fun (q2 : Int) (M3 : Mem) => some (q2, M3)) (fun j35 => jn (call (f_X12_refuse x0 1 M) (fun v4 M5 => j35 v4 M5)) (fun j30 => if v1 = 0 then (j30)
      else (if x2 < 0 then (j30)
      else (if 3 < x2 then (j30)
      else (callp (f_X12_ofField x0 x1 x2 M) (fun v6 => call (f_X12_orNone x0 v6 M) (fun v7 M8 => j35 v7 M8))))))))

/-- WaterTurnsModel.laysWay(I)V -/
def f_X12_laysWay_L7 (x0 x1 : Int) (k : Mem → Option (Mem)) : Nat → Int → Mem → Option (Mem)
  | 0, _, _ => none
  | n + 1, p2, M3 =>
    if p2 = (-1) then (k M3)
      else (getf M3 x0 26 (fun v4 => putf M3 x0 26 (w32 (v4 + 1)) (fun M5 => callp (f_X12_ofReach x0 p2 0 M5) (fun v6 => f_X12_laysWay_L7 x0 x1 k n v6 M5))))

def f_X12_laysWay_L41 (x0 : Int) (k : Mem → Option (Mem)) : Nat → Int → Int → Mem → Option (Mem)
  | 0, _, _, _ => none
  | n + 1, p11, p12, M13 =>
    if p12 = (-1) then (k M13)
      else (getf M13 x0 25 (fun v14 => seti M13 v14 p11 p12 (fun M15 => callp (f_X12_ofReach x0 p12 0 M15) (fun v16 => f_X12_laysWay_L41 x0 k n (w32 (p11 + (-1))) v16 M15))))

def f_X12_laysWay (x0 x1 : Int) (M : Mem) : Option (Mem) :=
    putf M x0 26 0 (fun M1 => f_X12_laysWay_L7 x0 x1 (fun (M8 : Mem) => getf M8 x0 26 (fun v9 => letv (w32 (v9 - 1)) (fun v10 => f_X12_laysWay_L41 x0 (fun (M18 : Mem) => some M18) KF v10 x1 M8))) KF x1 M1)

/-- WaterTurnsModel.isBelow(II)Z -/
def f_X12_isBelow_L7 (M : Mem) (x0 x2 : Int) (k : Option (Int)) : Nat → Int → Option (Int)
  | 0, _ => none
  | n + 1, p2 =>
    if p2 = (-1) then (k)
      else (if p2 ≠ x2 then (callp (f_X12_ofReach x0 p2 0 M) (fun v3 => f_X12_isBelow_L7 M x0 x2 k n v3))
      else (retz 1))

def f_X12_isBelow (x0 x1 x2 : Int) (M : Mem) : Option (Int) :=
    callp (f_X12_ofField x0 x1 0 M) (fun v1 => f_X12_isBelow_L7 M x0 x2 (retz 0) KF v1)

/-- WaterTurnsModel.belowOf(I)I -/
def f_X12_belowOf_L4 (M : Mem) (x0 x1 : Int) (k : Int → Option (Int)) : Nat → Int → Int → Option (Int)
  | 0, _, _ => none
  | n + 1, p1, p2 =>
    getf M x0 0 (fun v3 => geti M v3 5 (fun v4 => if v4 ≤ p2 then (k p1)
      else (callp (f_X12_isBelow x0 p2 x1 M) (fun v5 => jn (fun (q6 : Int) => letv (iorv p1 q6) (fun v7 => f_X12_belowOf_L4 M x0 x1 k n v7 (w32 (p2 + 1)))) (fun j31 => if v5 = 0 then (j31 0)
      else (j31 (ishlv 1 p2)))))))

def f_X12_belowOf (x0 x1 : Int) (M : Mem) : Option (Int) :=
    f_X12_belowOf_L4 M x0 x1 (fun (q9 : Int) => some q9) KF 0 0

/-- WaterTurnsModel.below(I)I -/
def f_X12_below (x0 x1 : Int) (M : Mem) : Option (Int × Mem) :=
    callp (f_X12_isReach x0 x1 M) (fun v1 => jn (fun (q2 : Int) (M3 : Mem) => some (q2, M3)) (fun j25 => if v1 = 0 then (call (f_X12_refuse x0 1 M) (fun v4 M5 => j25 v4 M5))
      else (callp (f_X12_belowOf x0 x1 M) (fun v6 => call (f_X12_gives x0 v6 M) (fun v7 M8 => j25 v7 M8)))))

/-- WaterTurnsModel.allShares()I -/
def f_X12_allShares_L4 (M : Mem) (x0 : Int) (k : Int → Option (Int)) : Nat → Int → Int → Option (Int)
  | 0, _, _ => none
  | n + 1, p1, p2 =>
    getf M x0 0 (fun v3 => geti M v3 5 (fun v4 => if v4 ≤ p2 then (k p1)
      else (callp (f_X12_ofField x0 p2 1 M) (fun v5 => letv (w32 (p1 + v5)) (fun v6 => f_X12_allShares_L4 M x0 k n v6 (w32 (p2 + 1)))))))

def f_X12_allShares (x0 : Int) (M : Mem) : Option (Int) :=
    f_X12_allShares_L4 M x0 (fun (q8 : Int) => some q8) KF 0 0

/-- WaterTurnsModel.placeOf(I)I -/
def f_X12_placeOf_L2 (M : Mem) (x0 x1 : Int) (k : Int → Option (Int)) : Nat → Int → Option (Int)
  | 0, _ => none
  | n + 1, p1 =>
    getf M x0 0 (fun v2 => geti M v2 (w32 (112 + p1)) (fun v3 => if v3 = x1 then (k p1)
      else (f_X12_placeOf_L2 M x0 x1 k n (w32 (p1 + 1)))))

def f_X12_placeOf (x0 x1 : Int) (M : Mem) : Option (Int) :=
    f_X12_placeOf_L2 M x0 x1 (fun (q5 : Int) => some q5) KF 0

/-- WaterTurnsModel.beginOf(I)I -/
def f_X12_beginOf_L4 (M : Mem) (x0 x1 : Int) (k : Int → Option (Int)) : Nat → Int → Int → Option (Int)
  | 0, _, _ => none
  | n + 1, p1, p2 =>
    if x1 ≤ p2 then (k p1)
      else (getf M x0 0 (fun v3 => geti M v3 (w32 (112 + p2)) (fun v4 => callp (f_X12_ofField x0 v4 1 M) (fun v5 => letv (w32 (p1 + v5)) (fun v6 => f_X12_beginOf_L4 M x0 x1 k n v6 (w32 (p2 + 1)))))))

def f_X12_beginOf (x0 x1 : Int) (M : Mem) : Option (Int) :=
    f_X12_beginOf_L4 M x0 x1 (fun (q8 : Int) => getf M x0 0 (fun v9 => geti M v9 1 (fun v10 => callp (f_X12_allShares x0 M) (fun v11 => idivc (w32 (v10 * q8)) v11 (fun v12 => some v12))))) KF 0 0

/-- WaterTurnsModel.order(I)I -/
def f_X12_order (x0 x1 : Int) (M : Mem) : Option (Int × Mem) :=
    jn (fun (q1 : Int) (M2 : Mem) => some (q1, M2)) (fun j44 => if 0 ≤ x1 then (getf M x0 0 (fun v3 => geti M v3 5 (fun v4 => if x1 < v4 then (getf M x0 0 (fun v5 => geti M v5 (w32 (112 + x1)) (fun v6 => call (f_X12_gives x0 v6 M) (fun v7 M8 => j44 v7 M8))))
      else (call (f_X12_refuse x0 6 M) (fun v9 M10 => j44 v9 M10)))))
      else (call (f_X12_refuse x0 1 M) (fun v11 M12 => j44 v11 M12)))

/-- WaterTurnsModel.turnMany(I)I -/
def f_X12_turnMany (x0 x1 : Int) (M : Mem) : Option (Int) :=
    callp (f_X12_placeOf x0 x1 M) (fun v1 => callp (f_X12_beginOf x0 (w32 (v1 + 1)) M) (fun v2 => callp (f_X12_placeOf x0 x1 M) (fun v3 => callp (f_X12_beginOf x0 v3 M) (fun v4 => some (w32 (v2 - v4))))))

/-- WaterTurnsModel.turn(II)I -/
def f_X12_turn (x0 x1 x2 : Int) (M : Mem) : Option (Int × Mem) :=
    callp (f_X12_isField x0 x1 M) (fun v1 => jn (call (f_X12_refuse x0 1 M) (fun v2 M3 => some (v2, M3))) (fun j17 => if v1 = 0 then (j17)
      else (if x2 < 0 then (j17)
      else (if x2 ≤ 1 then (jn (fun (q4 : Int) => call (f_X12_gives x0 q4 M) (fun v5 M6 => some (v5, M6))) (fun j45 => if x2 ≠ 0 then (callp (f_X12_turnMany x0 x1 M) (fun v7 => j45 v7))
      else (callp (f_X12_placeOf x0 x1 M) (fun v8 => callp (f_X12_beginOf x0 v8 M) (fun v9 => j45 v9)))))
      else (j17)))))

/-- WaterTurnsModel.swaps(II)V -/
def f_X12_swaps (x0 x1 x2 : Int) (M : Mem) : Option (Mem) :=
    callp (f_X12_placeOf x0 x1 M) (fun v1 => callp (f_X12_placeOf x0 x2 M) (fun v2 => getf M x0 0 (fun v3 => seti M v3 (w32 (112 + v1)) x2 (fun M4 => getf M4 x0 0 (fun v5 => seti M4 v5 (w32 (112 + v2)) x1 (fun M6 => some M6))))))

/-- WaterTurnsModel.swap(II)Z -/
def f_X12_swap (x0 x1 x2 : Int) (M : Mem) : Option (Int × Mem) :=
    callp (f_X12_isField x0 x1 M) (fun v1 => jn (call (f_X12_is x0 1 M) (fun v2 M3 => retzm v2 M3)) (fun j21 => if v1 = 0 then (j21)
      else (callp (f_X12_isField x0 x2 M) (fun v4 => if v4 = 0 then (j21)
      else (if x1 ≠ x2 then (getf M x0 0 (fun v5 => geti M v5 8 (fun v6 => if v6 ≤ 0 then (callv (f_X12_swaps x0 x1 x2 M) (fun M7 => call (f_X12_is x0 0 M7) (fun v8 M9 => retzm v8 M9)))
      else (call (f_X12_is x0 7 M) (fun v10 M11 => retzm v10 M11)))))
      else (j21))))))

/-- WaterTurnsModel.ownLeft(I)I -/
def f_X12_ownLeft_L8 (M : Mem) (x0 x1 : Int) (k : Int → Option (Int)) : Nat → Int → Int → Option (Int)
  | 0, _, _ => none
  | n + 1, p2, p3 =>
    getf M x0 0 (fun v4 => geti M v4 8 (fun v5 => if v5 ≤ p3 then (k p2)
      else (getf M x0 0 (fun v6 => geti M v6 (w32 (122 + (w32 (3 * p3)))) (fun v7 => jn (fun (q8 : Int) => letv (w32 (p2 - q8)) (fun v9 => f_X12_ownLeft_L8 M x0 x1 k n v9 (w32 (p3 + 1)))) (fun j52 => if v7 ≠ x1 then (j52 0)
      else (getf M x0 0 (fun v10 => geti M v10 (w32 ((w32 (122 + (w32 (3 * p3)))) + 2)) (fun v11 => j52 v11)))))))))

def f_X12_ownLeft (x0 x1 : Int) (M : Mem) : Option (Int) :=
    callp (f_X12_turnMany x0 x1 M) (fun v1 => f_X12_ownLeft_L8 M x0 x1 (fun (q13 : Int) => some q13) KF v1 0)

/-- WaterTurnsModel.lends(III)V -/
def f_X12_lends (x0 x1 x2 x3 : Int) (M : Mem) : Option (Mem) :=
    getf M x0 0 (fun v1 => geti M v1 8 (fun v2 => letv (w32 (122 + (w32 (3 * v2)))) (fun v3 => getf M x0 0 (fun v4 => seti M v4 v3 x1 (fun M5 => getf M5 x0 0 (fun v6 => seti M5 v6 (w32 (v3 + 1)) x2 (fun M7 => getf M7 x0 0 (fun v8 => seti M7 v8 (w32 (v3 + 2)) x3 (fun M9 => getf M9 x0 0 (fun v10 => geti M9 v10 8 (fun v11 => seti M9 v10 8 (w32 (v11 + 1)) (fun M12 => letv (w32 ((w32 (158 + (w32 (10 * x1)))) + x2)) (fun v13 => getf M12 x0 0 (fun v14 => geti M12 v14 v13 (fun v15 => callp (f_J9_min_7cf53 v15 x3 M12) (fun v16 => getf M12 x0 0 (fun v17 => geti M12 v17 v13 (fun v18 => seti M12 v17 v13 (w32 (v18 - v16)) (fun M19 => getf M19 x0 0 (fun v20 => geti M19 v20 (w32 ((w32 (158 + (w32 (10 * x2)))) + x1)) (fun v21 => seti M19 v20 (w32 ((w32 (158 + (w32 (10 * x2)))) + x1)) (w32 (v21 + (w32 (x3 - v16)))) (fun M22 => some M22))))))))))))))))))))))

/-- WaterTurnsModel.lend(III)I -/
def f_X12_lend (x0 x1 x2 x3 : Int) (M : Mem) : Option (Int × Mem) :=
    callp (f_X12_isField x0 x1 M) (fun v1 => jn (call (f_X12_refuse x0 1 M) (fun v2 M3 => some (v2, M3))) (fun j33 => if v1 = 0 then (j33)
      else (callp (f_X12_isField x0 x2 M) (fun v4 => if v4 = 0 then (j33)
      else (if x1 = x2 then (j33)
      else (callp (f_X12_isFrom x3 1 999 M) (fun v5 => if v5 ≠ 0 then (getf M x0 0 (fun v6 => geti M v6 8 (fun v7 => if v7 ≠ 12 then (callp (f_X12_ownLeft x0 x1 M) (fun v8 => if x3 ≤ v8 then (callv (f_X12_lends x0 x1 x2 x3 M) (fun M9 => getf M9 x0 0 (fun v10 => geti M9 v10 (w32 ((w32 (158 + (w32 (10 * x2)))) + x1)) (fun v11 => call (f_X12_gives x0 v11 M9) (fun v12 M13 => some (v12, M13))))))
      else (call (f_X12_refuse x0 7 M) (fun v14 M15 => some (v14, M15)))))
      else (call (f_X12_refuse x0 4 M) (fun v16 M17 => some (v16, M17))))))
      else (j33))))))))

/-- WaterTurnsModel.owed(II)I -/
def f_X12_owed (x0 x1 x2 : Int) (M : Mem) : Option (Int × Mem) :=
    callp (f_X12_isField x0 x1 M) (fun v1 => jn (fun (q2 : Int) (M3 : Mem) => some (q2, M3)) (fun j48 => jn (call (f_X12_refuse x0 1 M) (fun v4 M5 => j48 v4 M5)) (fun j43 => if v1 = 0 then (j43)
      else (callp (f_X12_isField x0 x2 M) (fun v6 => if v6 = 0 then (j43)
      else (if x1 = x2 then (j43)
      else (getf M x0 0 (fun v7 => geti M v7 (w32 ((w32 (158 + (w32 (10 * x1)))) + x2)) (fun v8 => call (f_X12_gives x0 v8 M) (fun v9 M10 => j48 v9 M10))))))))))

/-- WaterTurnsModel.aSlot(III)V -/
def f_X12_aSlot (x0 x1 x2 x3 : Int) (M : Mem) : Option (Mem) :=
    getf M x0 27 (fun v1 => getf M x0 30 (fun v2 => seti M v1 v2 x1 (fun M3 => getf M3 x0 28 (fun v4 => getf M3 x0 30 (fun v5 => seti M3 v4 v5 x2 (fun M6 => getf M6 x0 29 (fun v7 => getf M6 x0 30 (fun v8 => seti M6 v7 v8 x3 (fun M9 => getf M9 x0 30 (fun v10 => putf M9 x0 30 (w32 (v10 + 1)) (fun M11 => some M11)))))))))))

/-- WaterTurnsModel.laysSlots()V -/
def f_X12_laysSlots_L69 (p2 v7 x0 : Int) (k : Mem → Option (Mem)) : Nat → Int → Int → Mem → Option (Mem)
  | 0, _, _, _ => none
  | n + 1, p15, p16, M17 =>
    if p16 < 0 then (k M17)
      else (getf M17 x0 0 (fun v18 => geti M17 v18 (w32 (122 + (w32 (3 * p16)))) (fun v19 => jn (fun (q20 : Int) (M21 : Mem) => f_X12_laysSlots_L69 p2 v7 x0 k n q20 (w32 (p16 + (-1))) M21) (fun j143 => if v19 = v7 then (getf M17 x0 0 (fun v22 => geti M17 v22 (w32 ((w32 (122 + (w32 (3 * p16)))) + 1)) (fun v23 => getf M17 x0 0 (fun v24 => geti M17 v24 (w32 ((w32 (122 + (w32 (3 * p16)))) + 2)) (fun v25 => callv (f_X12_aSlot x0 v23 p15 v25 M17) (fun M26 => getf M26 x0 0 (fun v27 => geti M26 v27 (w32 ((w32 (122 + (w32 (3 * p16)))) + 2)) (fun v28 => letv (w32 (p15 + v28)) (fun v29 => j143 v29 M26)))))))))
      else (j143 p15 M17)))))

def f_X12_laysSlots_L7 (x0 : Int) (k : Mem → Option (Mem)) : Nat → Int → Mem → Option (Mem)
  | 0, _, _ => none
  | n + 1, p2, M3 =>
    getf M3 x0 0 (fun v4 => geti M3 v4 5 (fun v5 => if v5 ≤ p2 then (k M3)
      else (getf M3 x0 0 (fun v6 => geti M3 v6 (w32 (112 + p2)) (fun v7 => callp (f_X12_beginOf x0 p2 M3) (fun v8 => callp (f_X12_ownLeft x0 v7 M3) (fun v9 => jn (fun (M10 : Mem) => letv (w32 (v8 + v9)) (fun v11 => getf M10 x0 0 (fun v12 => geti M10 v12 8 (fun v13 => letv (w32 (v13 - 1)) (fun v14 => f_X12_laysSlots_L69 p2 v7 x0 (fun (M31 : Mem) => f_X12_laysSlots_L7 x0 k n (w32 (p2 + 1)) M31) KF v11 v14 M10))))) (fun j53 => if v9 ≤ 0 then (j53 M3)
      else (callv (f_X12_aSlot x0 v7 v8 v9 M3) (fun M32 => j53 M32))))))))))

def f_X12_laysSlots (x0 : Int) (M : Mem) : Option (Mem) :=
    putf M x0 30 0 (fun M1 => f_X12_laysSlots_L7 x0 (fun (M34 : Mem) => some M34) KF 0 M1)

/-- WaterTurnsModel.slots()I -/
def f_X12_slots (x0 : Int) (M : Mem) : Option (Int × Mem) :=
    callv (f_X12_laysSlots x0 M) (fun M1 => getf M1 x0 30 (fun v2 => call (f_X12_gives x0 v2 M1) (fun v3 M4 => some (v3, M4))))

/-- WaterTurnsModel.slot(II)I -/
def f_X12_slot (x0 x1 x2 : Int) (M : Mem) : Option (Int × Mem) :=
    jn (call (f_X12_refuse x0 1 M) (fun v1 M2 => some (v1, M2))) (fun j9 => if x2 < 0 then (j9)
      else (if x2 ≤ 2 then (callv (f_X12_laysSlots x0 M) (fun M3 => jn (fun (q4 : Int) (M5 : Mem) => some (q4, M5)) (fun j77 => jn (call (f_X12_refuse x0 6 M3) (fun v6 M7 => j77 v6 M7)) (fun j31 => if x1 < 0 then (j31)
      else (getf M3 x0 30 (fun v8 => if x1 < v8 then (jn (fun (q9 : Int) => call (f_X12_gives x0 q9 M3) (fun v10 M11 => j77 v10 M11)) (fun j74 => if x2 ≠ 0 then (if x2 ≠ 1 then (getf M3 x0 29 (fun v12 => geti M3 v12 x1 (fun v13 => j74 v13)))
      else (getf M3 x0 28 (fun v14 => geti M3 v14 x1 (fun v15 => j74 v15))))
      else (getf M3 x0 27 (fun v16 => geti M3 v16 x1 (fun v17 => j74 v17)))))
      else (j31)))))))
      else (j9)))

/-- WaterTurnsModel.whose(I)I -/
def f_X12_whose_L26 (M5 : Mem) (x0 x1 : Int) (k : Option (Int × Mem)) : Nat → Int → Option (Int × Mem)
  | 0, _ => none
  | n + 1, p6 =>
    getf M5 x0 30 (fun v7 => if v7 ≤ p6 then (k)
      else (getf M5 x0 28 (fun v8 => geti M5 v8 p6 (fun v9 => jn (f_X12_whose_L26 M5 x0 x1 k n (w32 (p6 + 1))) (fun j72 => if x1 < v9 then (j72)
      else (getf M5 x0 28 (fun v10 => geti M5 v10 p6 (fun v11 => getf M5 x0 29 (fun v12 => geti M5 v12 p6 (fun v13 => if w32 (v11 + v13) ≤ x1 then (j72)
      else (getf M5 x0 27 (fun v14 => geti M5 v14 p6 (fun v15 => call (f_X12_gives x0 v15 M5) (fun v16 M17 => some (v16, M17)))))))))))))))

def f_X12_whose (x0 x1 : Int) (M : Mem) : Option (Int × Mem) :=
    jn (call (f_X12_refuse x0 1 M) (fun v1 M2 => some (v1, M2))) (fun j14 => if x1 < 0 then (j14)
      else (getf M x0 0 (fun v3 => geti M v3 1 (fun v4 => if x1 < v4 then (callv (f_X12_laysSlots x0 M) (fun M5 => f_X12_whose_L26 M5 x0 x1 (call (f_X12_refuse x0 6 M5) (fun v18 M19 => some (v18, M19))) KF 0))
      else (j14)))))

/-- WaterTurnsModel.letsBy(II)Z -/
def f_X12_letsBy (x0 x1 x2 : Int) (M : Mem) : Option (Int) :=
    getf M x0 0 (fun v1 => geti M v1 7 (fun v2 => if iandv (ishrv v2 x1) 1 ≠ 1 then (getf M x0 0 (fun v3 => geti M v3 2 (fun v4 => iremc (w32 (v4 + x2)) 1440 (fun v5 => callp (f_X12_ofReach x0 x1 4 M) (fun v6 => jn (fun (q7 : Int) => retz q7) (fun j65 => jn (j65 1) (fun j60 => if v6 = (-1) then (j60)
      else (callp (f_X12_ofReach x0 x1 4 M) (fun v8 => if v5 < v8 then (j60)
      else (callp (f_X12_ofReach x0 x1 5 M) (fun v9 => if v5 < v9 then (j65 0)
      else (j60))))))))))))
      else (retz 0)))

/-- WaterTurnsModel.comesTo(II)Z -/
def f_X12_comesTo_L2 (M : Mem) (x0 x2 : Int) (k : Option (Int)) : Nat → Int → Option (Int)
  | 0, _ => none
  | n + 1, p1 =>
    if p1 = (-1) then (k)
      else (callp (f_X12_letsBy x0 p1 x2 M) (fun v2 => if v2 ≠ 0 then (callp (f_X12_ofReach x0 p1 0 M) (fun v3 => f_X12_comesTo_L2 M x0 x2 k n v3))
      else (retz 0)))

def f_X12_comesTo (x0 x1 x2 : Int) (M : Mem) : Option (Int) :=
    f_X12_comesTo_L2 M x0 x2 (retz 1) KF x1

/-- WaterTurnsModel.minutesOf(II)I -/
def f_X12_minutesOf_L35 (M1 : Mem) (p3 x0 x1 x2 : Int) (k : Int → Option (Int × Mem)) : Nat → Int → Int → Option (Int × Mem)
  | 0, _, _ => none
  | n + 1, p8, p9 =>
    getf M1 x0 29 (fun v10 => geti M1 v10 p3 (fun v11 => if v11 ≤ p9 then (k p8)
      else (jn (fun (q12 : Int) => letv (w32 (p8 + q12)) (fun v13 => f_X12_minutesOf_L35 M1 p3 x0 x1 x2 k n v13 (w32 (p9 + 1)))) (fun j80 => jn (j80 1) (fun j75 => if x2 = 0 then (j75)
      else (callp (f_X12_ofField x0 x1 0 M1) (fun v14 => getf M1 x0 28 (fun v15 => geti M1 v15 p3 (fun v16 => callp (f_X12_comesTo x0 v14 (w32 (v16 + p9)) M1) (fun v17 => if v17 = 0 then (j80 0)
      else (j75)))))))))))

def f_X12_minutesOf_L9 (M1 : Mem) (x0 x1 x2 : Int) (k : Int → Option (Int × Mem)) : Nat → Int → Int → Option (Int × Mem)
  | 0, _, _ => none
  | n + 1, p2, p3 =>
    getf M1 x0 30 (fun v4 => if v4 ≤ p3 then (k p2)
      else (getf M1 x0 27 (fun v5 => geti M1 v5 p3 (fun v6 => jn (fun (q7 : Int) => f_X12_minutesOf_L9 M1 x0 x1 x2 k n q7 (w32 (p3 + 1))) (fun j88 => if v6 = x1 then (f_X12_minutesOf_L35 M1 p3 x0 x1 x2 (fun (q19 : Int) => j88 q19) KF p2 0)
      else (j88 p2))))))

def f_X12_minutesOf (x0 x1 x2 : Int) (M : Mem) : Option (Int × Mem) :=
    callv (f_X12_laysSlots x0 M) (fun M1 => f_X12_minutesOf_L9 M1 x0 x1 x2 (fun (q21 : Int) => some (q21, M1)) KF 0 0)

/-- WaterTurnsModel.minutes(II)I -/
def f_X12_minutes (x0 x1 x2 : Int) (M : Mem) : Option (Int × Mem) :=
    callp (f_X12_isField x0 x1 M) (fun v1 => jn (fun (q2 : Int) (M3 : Mem) => some (q2, M3)) (fun j35 => jn (call (f_X12_refuse x0 1 M) (fun v4 M5 => j35 v4 M5)) (fun j30 => if v1 = 0 then (j30)
      else (jn (call (f_X12_minutesOf x0 x1 x2 M) (fun v6 M7 => call (f_X12_gives x0 v6 M7) (fun v8 M9 => j35 v8 M9))) (fun j17 => if x2 = 0 then (j17)
      else (if x2 ≠ 1 then (j30)
      else (j17)))))))

/-- WaterTurnsModel.litre()J -/
def f_X12_litre_L4 (M : Mem) (x0 : Int) (k : Int → Option (Int)) : Nat → Int → Int → Option (Int)
  | 0, _, _ => none
  | n + 1, p1, p2 =>
    getf M x0 0 (fun v3 => geti M v3 3 (fun v4 => if v4 ≤ p2 then (k p1)
      else (callp (f_X12_ofReach x0 p2 2 M) (fun v5 => letv (w64 (p1 * v5)) (fun v6 => f_X12_litre_L4 M x0 k n v6 (w32 (p2 + 1)))))))

def f_X12_litre (x0 : Int) (M : Mem) : Option (Int) :=
    f_X12_litre_L4 M x0 (fun (q8 : Int) => some q8) KF 1 0

/-- WaterTurnsModel.flowsTo(I)V -/
def f_X12_flowsTo_L26 (v2 x0 : Int) (k : Mem → Option (Mem)) : Nat → Int → Mem → Option (Mem)
  | 0, _, _ => none
  | n + 1, p6, M7 =>
    getf M7 x0 26 (fun v8 => if v8 ≤ p6 then (k M7)
      else (getf M7 x0 25 (fun v9 => geti M7 v9 p6 (fun v10 => jn (fun (M11 : Mem) => callp (f_X12_ofReach x0 v10 3 M11) (fun v12 => jn (fun (q13 : Int) => putf M11 x0 32 q13 (fun M14 => getf M14 x0 34 (fun v15 => jn (fun (q16 : Int) => putf M14 x0 33 q16 (fun M17 => f_X12_flowsTo_L26 v2 x0 k n (w32 (p6 + 1)) M17)) (fun j143 => if v10 ≠ v15 then (getf M14 x0 32 (fun v18 => callp (f_X12_ofReach x0 v10 2 M14) (fun v19 => ldivc v18 v19 (fun v20 => callp (f_X12_ofReach x0 v10 2 M14) (fun v21 => callp (f_X12_ofReach x0 v10 1 M14) (fun v22 => j143 (w64 (v20 * (w32 (v21 - v22))))))))))
      else (getf M14 x0 32 (fun v23 => j143 v23)))))) (fun j93 => if v12 ≠ (-1) then (getf M11 x0 31 (fun v24 => callp (f_X12_ofReach x0 v10 3 M11) (fun v25 => callp (f_J9_min_f86c9 v24 (w64 (v25 * v2)) M11) (fun v26 => j93 v26))))
      else (getf M11 x0 31 (fun v27 => j93 v27))))) (fun j57 => if p6 ≤ 0 then (j57 M7)
      else (getf M7 x0 33 (fun v28 => putf M7 x0 31 v28 (fun M29 => j57 M29))))))))

def f_X12_flowsTo (x0 x1 : Int) (M : Mem) : Option (Mem) :=
    callv (f_X12_laysWay x0 x1 M) (fun M1 => callp (f_X12_litre x0 M1) (fun v2 => getf M1 x0 0 (fun v3 => geti M1 v3 0 (fun v4 => putf M1 x0 31 (w64 (v4 * v2)) (fun M5 => f_X12_flowsTo_L26 v2 x0 (fun (M31 : Mem) => some M31) KF 0 M5)))))

/-- WaterTurnsModel.rateOf(I)J -/
def f_X12_rateOf (x0 x1 : Int) (M : Mem) : Option (Int × Mem) :=
    callp (f_X12_ofField x0 x1 0 M) (fun v1 => callv (f_X12_flowsTo x0 v1 M) (fun M2 => getf M2 x0 33 (fun v3 => some (v3, M2))))

/-- WaterTurnsModel.waterIn(I)J -/
def f_X12_waterIn (x0 x1 : Int) (M : Mem) : Option (Int × Mem) :=
    call (f_X12_rateOf x0 x1 M) (fun v1 M2 => call (f_X12_minutesOf x0 x1 1 M2) (fun v3 M4 => some (w64 (v1 * v3), M4)))

/-- WaterTurnsModel.close(IZ)Z -/
def f_X12_close (x0 x1 x2 : Int) (M : Mem) : Option (Int × Mem) :=
    callp (f_X12_isReach x0 x1 M) (fun v1 => if v1 ≠ 0 then (getf M x0 0 (fun v2 => getf M x0 0 (fun v3 => geti M v3 7 (fun v4 => jn (fun (q5 : Int) => seti M v2 7 (iorv (iandv v4 (ixorv (ishlv 1 x1) (-1))) q5) (fun M6 => call (f_X12_is x0 0 M6) (fun v7 M8 => retzm v7 M8))) (fun j44 => if x2 = 0 then (j44 0)
      else (j44 (ishlv 1 x1)))))))
      else (call (f_X12_is x0 1 M) (fun v9 M10 => retzm v9 M10)))

/-- WaterTurnsModel.head(I)Z -/
def f_X12_head (x0 x1 : Int) (M : Mem) : Option (Int × Mem) :=
    callp (f_X12_isFrom x1 0 999 M) (fun v1 => if v1 ≠ 0 then (getf M x0 0 (fun v2 => seti M v2 0 x1 (fun M3 => call (f_X12_is x0 0 M3) (fun v4 M5 => retzm v4 M5))))
      else (call (f_X12_is x0 1 M) (fun v6 M7 => retzm v6 M7)))

/-- WaterTurnsModel.lets(II)I -/
def f_X12_lets (x0 x1 x2 : Int) (M : Mem) : Option (Int × Mem) :=
    callp (f_X12_isReach x0 x1 M) (fun v1 => jn (fun (q2 : Int) (M3 : Mem) => some (q2, M3)) (fun j48 => jn (call (f_X12_refuse x0 1 M) (fun v4 M5 => j48 v4 M5)) (fun j43 => if v1 = 0 then (j43)
      else (if x2 < 0 then (j43)
      else (getf M x0 0 (fun v6 => geti M v6 1 (fun v7 => if v7 ≤ x2 then (j43)
      else (callp (f_X12_letsBy x0 x1 x2 M) (fun v8 => jn (fun (q9 : Int) => call (f_X12_gives x0 q9 M) (fun v10 M11 => j48 v10 M11)) (fun j37 => if v8 = 0 then (j37 0)
      else (j37 1)))))))))))

/-- WaterTurnsModel.rate(I)Z -/
def f_X12_rate (x0 x1 : Int) (M : Mem) : Option (Int × Mem) :=
    callp (f_X12_isField x0 x1 M) (fun v1 => jn (fun (q2 : Int) (M3 : Mem) => retzm q2 M3) (fun j29 => if v1 = 0 then (call (f_X12_is x0 1 M) (fun v4 M5 => j29 v4 M5))
      else (call (f_X12_rateOf x0 x1 M) (fun v6 M7 => callp (f_X12_litre x0 M7) (fun v8 => call (f_X12_tellsBy x0 v6 v8 M7) (fun v9 M10 => j29 v9 M10))))))

/-- WaterTurnsModel.water(I)Z -/
def f_X12_water (x0 x1 : Int) (M : Mem) : Option (Int × Mem) :=
    callp (f_X12_isField x0 x1 M) (fun v1 => jn (fun (q2 : Int) (M3 : Mem) => retzm q2 M3) (fun j29 => if v1 = 0 then (call (f_X12_is x0 1 M) (fun v4 M5 => j29 v4 M5))
      else (call (f_X12_waterIn x0 x1 M) (fun v6 M7 => callp (f_X12_litre x0 M7) (fun v8 => call (f_X12_tellsBy x0 v6 v8 M7) (fun v9 M10 => j29 v9 M10))))))

/-- WaterTurnsModel.passing(II)I -/
def f_X12_passing_L45 (M1 : Mem) (p3 x0 x1 x2 : Int) (k : Int → Option (Int × Mem)) : Nat → Int → Int → Option (Int × Mem)
  | 0, _, _ => none
  | n + 1, p11, p12 =>
    getf M1 x0 28 (fun v13 => geti M1 v13 p3 (fun v14 => getf M1 x0 29 (fun v15 => geti M1 v15 p3 (fun v16 => if w32 (v14 + v16) ≤ p12 then (k p11)
      else (callp (f_X12_ofReach x0 x1 0 M1) (fun v17 => jn (fun (q18 : Int) => callp (f_X12_letsBy x0 x1 p12 M1) (fun v19 => jn (fun (q20 : Int) => letv (w32 (p11 + q20)) (fun v21 => f_X12_passing_L45 M1 p3 x0 x1 x2 k n v21 (w32 (p12 + 1)))) (fun j136 => jn (j136 0) (fun j135 => if q18 = 0 then (j135)
      else (jn (j136 1) (fun j131 => if x2 = 0 then (j131)
      else (jn (fun (q22 : Int) => if q22 ≠ v19 then (j135)
      else (j131)) (fun j126 => if x2 ≠ 1 then (j126 0)
      else (j126 1))))))))) (fun j95 => jn (j95 1) (fun j90 => if v17 = (-1) then (j90)
      else (callp (f_X12_ofReach x0 x1 0 M1) (fun v23 => callp (f_X12_comesTo x0 v23 p12 M1) (fun v24 => if v24 = 0 then (j95 0)
      else (j90))))))))))))

def f_X12_passing_L9 (M1 : Mem) (x0 x1 x2 : Int) (k : Int → Option (Int × Mem)) : Nat → Int → Int → Option (Int × Mem)
  | 0, _, _ => none
  | n + 1, p2, p3 =>
    getf M1 x0 30 (fun v4 => if v4 ≤ p3 then (k p2)
      else (getf M1 x0 27 (fun v5 => geti M1 v5 p3 (fun v6 => callp (f_X12_isBelow x0 v6 x1 M1) (fun v7 => jn (fun (q8 : Int) => f_X12_passing_L9 M1 x0 x1 x2 k n q8 (w32 (p3 + 1))) (fun j144 => if v7 ≠ 0 then (getf M1 x0 28 (fun v9 => geti M1 v9 p3 (fun v10 => f_X12_passing_L45 M1 p3 x0 x1 x2 (fun (q26 : Int) => j144 q26) KF p2 v10)))
      else (j144 p2)))))))

def f_X12_passing (x0 x1 x2 : Int) (M : Mem) : Option (Int × Mem) :=
    callv (f_X12_laysSlots x0 M) (fun M1 => f_X12_passing_L9 M1 x0 x1 x2 (fun (q28 : Int) => some (q28, M1)) KF 0 0)

/-- WaterTurnsModel.lost(I)Z -/
def f_X12_lost (x0 x1 : Int) (M : Mem) : Option (Int × Mem) :=
    callp (f_X12_isReach x0 x1 M) (fun v1 => if v1 ≠ 0 then (call (f_X12_passing x0 x1 1 M) (fun v2 M3 => callv (f_X12_flowsTo x0 x1 M3) (fun M4 => getf M4 x0 32 (fun v5 => getf M4 x0 33 (fun v6 => callp (f_X12_litre x0 M4) (fun v7 => call (f_X12_tellsBy x0 (w64 ((w64 (v5 - v6)) * v2)) v7 M4) (fun v8 M9 => retzm v8 M9)))))))
      else (call (f_X12_is x0 1 M) (fun v10 M11 => retzm v10 M11)))

/-- WaterTurnsModel.runsOut(I)Z -/
def f_X12_runsOut (x0 x1 : Int) (M : Mem) : Option (Int × Mem) :=
    if x1 ≠ (-1) then (callp (f_X12_isReach x0 x1 M) (fun v1 => if v1 ≠ 0 then (call (f_X12_passing x0 x1 1 M) (fun v2 M3 => call (f_X12_passing x0 x1 2 M3) (fun v4 M5 => callv (f_X12_flowsTo x0 x1 M5) (fun M6 => getf M6 x0 31 (fun v7 => getf M6 x0 31 (fun v8 => getf M6 x0 32 (fun v9 => callp (f_X12_litre x0 M6) (fun v10 => call (f_X12_tellsBy x0 (w64 ((w64 (v7 * v4)) + (w64 ((w64 (v8 - v9)) * v2)))) v10 M6) (fun v11 M12 => retzm v11 M12)))))))))
      else (call (f_X12_is x0 1 M) (fun v13 M14 => retzm v13 M14))))
      else (getf M x0 0 (fun v15 => geti M v15 5 (fun v16 => jn (fun (q17 : Int) => call (f_X12_tellsBy x0 q17 1 M) (fun v18 M19 => retzm v18 M19)) (fun j34 => if v16 ≤ 0 then (getf M x0 0 (fun v20 => geti M v20 0 (fun v21 => getf M x0 0 (fun v22 => geti M v22 1 (fun v23 => j34 (w64 (v21 * v23)))))))
      else (j34 0)))))

/-- WaterTurnsModel.waterOf(I)Z -/
def f_X12_waterOf_L26 (x0 x1 : Int) (k : Int → Mem → Option (Int × Mem)) : Nat → Int → Int → Mem → Option (Int × Mem)
  | 0, _, _, _ => none
  | n + 1, p5, p6, M7 =>
    getf M7 x0 0 (fun v8 => geti M7 v8 5 (fun v9 => if v9 ≤ p6 then (k p5 M7)
      else (callp (f_X12_ofField x0 p6 3 M7) (fun v10 => jn (fun (q11 : Int) (M12 : Mem) => letv (w64 (p5 + q11)) (fun v13 => f_X12_waterOf_L26 x0 x1 k n v13 (w32 (p6 + 1)) M12)) (fun j59 => if v10 ≠ x1 then (j59 0 M7)
      else (call (f_X12_waterIn x0 p6 M7) (fun v14 M15 => j59 v14 M15)))))))

def f_X12_waterOf (x0 x1 : Int) (M : Mem) : Option (Int × Mem) :=
    jn (call (f_X12_is x0 1 M) (fun v1 M2 => retzm v1 M2)) (fun j15 => if x1 < (-1) then (j15)
      else (getf M x0 0 (fun v3 => geti M v3 4 (fun v4 => if x1 < v4 then (f_X12_waterOf_L26 x0 x1 (fun (q18 : Int) (M19 : Mem) => callp (f_X12_litre x0 M19) (fun v20 => call (f_X12_tellsBy x0 q18 v20 M19) (fun v21 M22 => retzm v21 M22))) KF 0 0 M)
      else (j15)))))

/-- WaterTurnsModel.upTo(JJ)J -/
def f_X12_upTo (x0 x2 : Int) (M : Mem) : Option (Int) :=
    ldivc (w64 ((w64 (x0 + x2)) - 1)) x2 (fun v1 => some v1)

/-- WaterTurnsModel.isDry(I)Z -/
def f_X12_isDry (x0 x1 : Int) (M : Mem) : Option (Int × Mem) :=
    call (f_X12_rateOf x0 x1 M) (fun v1 M2 => jn (fun (q3 : Int) => retzm q3 M2) (fun j24 => jn (j24 0) (fun j23 => if v1 ≠ 0 then (j23)
      else (callp (f_X12_ofField x0 x1 2 M2) (fun v4 => if v4 ≤ 0 then (j23)
      else (j24 1))))))

/-- WaterTurnsModel.lackingOf(I)I -/
def f_X12_lackingOf (x0 x1 : Int) (M : Mem) : Option (Int × Mem) :=
    callp (f_X12_ofField x0 x1 2 M) (fun v1 => callp (f_X12_litre x0 M) (fun v2 => call (f_X12_waterIn x0 x1 M) (fun v3 M4 => letv (w64 ((w64 (v1 * v2)) - v3)) (fun v5 => jn (fun (q6 : Int) (M7 : Mem) => some (q6, M7)) (fun j45 => if 0 < v5 then (call (f_X12_rateOf x0 x1 M4) (fun v8 M9 => callp (f_X12_upTo v5 v8 M9) (fun v10 => callp (f_J9_min_f86c9 999999 v10 M9) (fun v11 => j45 (w32 v11) M9))))
      else (j45 0 M4))))))

/-- WaterTurnsModel.lacking(I)I -/
def f_X12_lacking (x0 x1 : Int) (M : Mem) : Option (Int × Mem) :=
    callp (f_X12_isField x0 x1 M) (fun v1 => jn (fun (q2 : Int) (M3 : Mem) => some (q2, M3)) (fun j42 => if v1 ≠ 0 then (call (f_X12_isDry x0 x1 M) (fun v4 M5 => if v4 = 0 then (call (f_X12_lackingOf x0 x1 M5) (fun v6 M7 => call (f_X12_gives x0 v6 M7) (fun v8 M9 => j42 v8 M9)))
      else (call (f_X12_refuse x0 7 M5) (fun v10 M11 => j42 v10 M11))))
      else (call (f_X12_refuse x0 1 M) (fun v12 M13 => j42 v12 M13))))

/-- WaterTurnsModel.spareOf(I)I -/
def f_X12_spareOf (x0 x1 : Int) (M : Mem) : Option (Int × Mem) :=
    call (f_X12_isDry x0 x1 M) (fun v1 M2 => jn (fun (M3 : Mem) => some (0, M3)) (fun j16 => if v1 ≠ 0 then (j16 M2)
      else (call (f_X12_lackingOf x0 x1 M2) (fun v4 M5 => if v4 ≤ 0 then (call (f_X12_rateOf x0 x1 M5) (fun v6 M7 => call (f_X12_minutesOf x0 x1 0 M7) (fun v8 M9 => jn (fun (q10 : Int) => some (w32 (v8 - q10), M9)) (fun j57 => if v6 ≠ 0 then (callp (f_X12_ofField x0 x1 2 M9) (fun v11 => callp (f_X12_litre x0 M9) (fun v12 => callp (f_X12_upTo (w64 (v11 * v12)) v6 M9) (fun v13 => j57 (w32 v13)))))
      else (j57 0)))))
      else (j16 M5)))))

/-- WaterTurnsModel.spare(I)I -/
def f_X12_spare (x0 x1 : Int) (M : Mem) : Option (Int × Mem) :=
    callp (f_X12_isField x0 x1 M) (fun v1 => jn (fun (q2 : Int) (M3 : Mem) => some (q2, M3)) (fun j25 => if v1 = 0 then (call (f_X12_refuse x0 1 M) (fun v4 M5 => j25 v4 M5))
      else (call (f_X12_spareOf x0 x1 M) (fun v6 M7 => call (f_X12_gives x0 v6 M7) (fun v8 M9 => j25 v8 M9)))))

/-- WaterTurnsModel.anyDry()Z -/
def f_X12_anyDry_L2 (x0 : Int) (k : Mem → Option (Int × Mem)) : Nat → Int → Mem → Option (Int × Mem)
  | 0, _, _ => none
  | n + 1, p1, M2 =>
    getf M2 x0 0 (fun v3 => geti M2 v3 5 (fun v4 => if v4 ≤ p1 then (k M2)
      else (call (f_X12_isDry x0 p1 M2) (fun v5 M6 => if v5 = 0 then (f_X12_anyDry_L2 x0 k n (w32 (p1 + 1)) M6)
      else (retzm 1 M6)))))

def f_X12_anyDry (x0 : Int) (M : Mem) : Option (Int × Mem) :=
    f_X12_anyDry_L2 x0 (fun (M8 : Mem) => retzm 0 M8) KF 0 M

/-- WaterTurnsModel.fewest()I -/
def f_X12_fewest_L20 (x0 : Int) (k : Int → Int → Mem → Option (Int × Mem)) : Nat → Int → Int → Int → Mem → Option (Int × Mem)
  | 0, _, _, _, _ => none
  | n + 1, p3, p4, p5, M6 =>
    getf M6 x0 0 (fun v7 => geti M6 v7 5 (fun v8 => if v8 ≤ p5 then (k p3 p4 M6)
      else (call (f_X12_lackingOf x0 p5 M6) (fun v9 M10 => letv (w32 (p3 + v9)) (fun v11 => call (f_X12_spareOf x0 p5 M10) (fun v12 M13 => letv (w32 (p4 + v12)) (fun v14 => f_X12_fewest_L20 x0 k n v11 v14 (w32 (p5 + 1)) M13)))))))

def f_X12_fewest (x0 : Int) (M : Mem) : Option (Int × Mem) :=
    call (f_X12_anyDry x0 M) (fun v1 M2 => if v1 = 0 then (f_X12_fewest_L20 x0 (fun (q18 : Int) (q19 : Int) (M20 : Mem) => jn (fun (q21 : Int) (M22 : Mem) => some (q21, M22)) (fun j71 => if q18 ≤ q19 then (call (f_X12_gives x0 q18 M20) (fun v23 M24 => j71 v23 M24))
      else (call (f_X12_refuse x0 6 M20) (fun v25 M26 => j71 v25 M26)))) KF 0 0 0 M2)
      else (call (f_X12_refuse x0 7 M2) (fun v27 M28 => some (v27, M28))))

/-- WaterTurnsModel.neediest()I -/
def f_X12_neediest_L18 (x0 : Int) (k : Int → Mem → Option (Int × Mem)) : Nat → Int → Int → Mem → Option (Int × Mem)
  | 0, _, _, _ => none
  | n + 1, p3, p4, M5 =>
    getf M5 x0 0 (fun v6 => geti M5 v6 5 (fun v7 => if v7 ≤ p4 then (k p3 M5)
      else (call (f_X12_lackingOf x0 p4 M5) (fun v8 M9 => jn (fun (q10 : Int) (M11 : Mem) => jn (fun (q12 : Int) => f_X12_neediest_L18 x0 k n q12 (w32 (p4 + 1)) M11) (fun j52 => if v8 ≤ q10 then (j52 p3)
      else (j52 p4))) (fun j47 => if p3 ≠ (-1) then (call (f_X12_lackingOf x0 p3 M9) (fun v13 M14 => j47 v13 M14))
      else (j47 0 M9))))))

def f_X12_neediest (x0 : Int) (M : Mem) : Option (Int × Mem) :=
    call (f_X12_anyDry x0 M) (fun v1 M2 => if v1 = 0 then (f_X12_neediest_L18 x0 (fun (q17 : Int) (M18 : Mem) => call (f_X12_orNone x0 q17 M18) (fun v19 M20 => some (v19, M20))) KF (-1) 0 M2)
      else (call (f_X12_refuse x0 7 M2) (fun v21 M22 => some (v21, M22))))

/-- WaterTurnsModel.richest(Z)I -/
def f_X12_richest_L4 (x0 x1 : Int) (k : Int → Mem → Option (Int × Mem)) : Nat → Int → Int → Mem → Option (Int × Mem)
  | 0, _, _, _ => none
  | n + 1, p1, p2, M3 =>
    getf M3 x0 0 (fun v4 => geti M3 v4 5 (fun v5 => if v5 ≤ p2 then (k p1 M3)
      else (jn (fun (q6 : Int) (M7 : Mem) => f_X12_richest_L4 x0 x1 k n q6 (w32 (p2 + 1)) M7) (fun j77 => jn (fun (M8 : Mem) => j77 p2 M8) (fun j75 => if p1 = (-1) then (j75 M3)
      else (call (f_X12_waterIn x0 p2 M3) (fun v9 M10 => callp (f_X12_ofField x0 p1 1 M10) (fun v11 => letv (w64 (v9 * v11)) (fun v12 => call (f_X12_waterIn x0 p1 M10) (fun v13 M14 => callp (f_X12_ofField x0 p2 1 M14) (fun v15 => letv (w64 (v13 * v15)) (fun v16 => if x1 = 0 then (if v12 < v16 then (j75 M14)
      else (j77 p1 M14))
      else (if v16 < v12 then (j75 M14)
      else (j77 p1 M14))))))))))))))

def f_X12_richest (x0 x1 : Int) (M : Mem) : Option (Int × Mem) :=
    f_X12_richest_L4 x0 x1 (fun (q19 : Int) (M20 : Mem) => call (f_X12_orNone x0 q19 M20) (fun v21 M22 => some (v21, M22))) KF (-1) 0 M

/-- WaterTurnsModel.allWater()J -/
def f_X12_allWater_L4 (x0 : Int) (k : Int → Mem → Option (Int × Mem)) : Nat → Int → Int → Mem → Option (Int × Mem)
  | 0, _, _, _ => none
  | n + 1, p1, p2, M3 =>
    getf M3 x0 0 (fun v4 => geti M3 v4 5 (fun v5 => if v5 ≤ p2 then (k p1 M3)
      else (call (f_X12_waterIn x0 p2 M3) (fun v6 M7 => letv (w64 (p1 + v6)) (fun v8 => f_X12_allWater_L4 x0 k n v8 (w32 (p2 + 1)) M7)))))

def f_X12_allWater (x0 : Int) (M : Mem) : Option (Int × Mem) :=
    f_X12_allWater_L4 x0 (fun (q11 : Int) (M12 : Mem) => some (q11, M12)) KF 0 0 M

/-- WaterTurnsModel.mending()I -/
def f_X12_mending_L13 (v1 x0 : Int) (k : Int → Int → Mem → Option (Int × Mem)) : Nat → Int → Int → Int → Mem → Option (Int × Mem)
  | 0, _, _, _, _ => none
  | n + 1, p3, p4, p5, M6 =>
    getf M6 x0 0 (fun v7 => geti M6 v7 3 (fun v8 => if v8 ≤ p5 then (k p3 p4 M6)
      else (putf M6 x0 34 p5 (fun M9 => call (f_X12_allWater x0 M9) (fun v10 M11 => letv (w64 (v10 - v1)) (fun v12 => putf M11 x0 34 (-1) (fun M13 => jn (fun (q14 : Int) (q15 : Int) => f_X12_mending_L13 v1 x0 k n q14 q15 (w32 (p5 + 1)) M13) (fun j60 => if p3 < v12 then (j60 v12 p5)
      else (j60 p3 p4)))))))))

def f_X12_mending (x0 : Int) (M : Mem) : Option (Int × Mem) :=
    call (f_X12_allWater x0 M) (fun v1 M2 => f_X12_mending_L13 v1 x0 (fun (q19 : Int) (q20 : Int) (M21 : Mem) => if q20 ≠ (-1) then (callp (f_X12_litre x0 M21) (fun v22 => call (f_X12_tellsBy x0 q19 v22 M21) (fun v23 M24 => jn (fun (q25 : Int) (M26 : Mem) => some (q25, M26)) (fun j101 => if v23 = 0 then (j101 (-1) M24)
      else (call (f_X12_gives x0 q20 M24) (fun v27 M28 => j101 v27 M28))))))
      else (call (f_X12_refuse x0 6 M21) (fun v29 M30 => some (v29, M30)))) KF 0 (-1) 0 M2)

/-- WaterTurnsModel.off()Z -/
def f_X12_off_L25 (M : Mem) (v3 x0 : Int) (k : Int → Option (Int × Mem)) : Nat → Int → Int → Option (Int × Mem)
  | 0, _, _ => none
  | n + 1, p4, p5 =>
    getf M x0 0 (fun v6 => geti M v6 5 (fun v7 => if v7 ≤ p5 then (k p4)
      else (callp (f_X12_turnMany x0 p5 M) (fun v8 => getf M x0 0 (fun v9 => geti M v9 1 (fun v10 => callp (f_X12_ofField x0 p5 1 M) (fun v11 => callp (f_J9_abs_0f7a4 (w32 ((w32 (v8 * v3)) - (w32 (v10 * v11)))) M) (fun v12 => callp (f_J9_max_7cf53 p4 v12 M) (fun v13 => f_X12_off_L25 M v3 x0 k n v13 (w32 (p5 + 1)))))))))))

def f_X12_off (x0 : Int) (M : Mem) : Option (Int × Mem) :=
    getf M x0 0 (fun v1 => geti M v1 5 (fun v2 => if v2 ≠ 0 then (callp (f_X12_allShares x0 M) (fun v3 => f_X12_off_L25 M v3 x0 (fun (q15 : Int) => call (f_X12_tellsBy x0 q15 v3 M) (fun v16 M17 => retzm v16 M17)) KF 0 0))
      else (call (f_X12_is x0 6 M) (fun v18 M19 => retzm v18 M19))))

/-- WaterTurnsModel.laysWet()V -/
def f_X12_laysWet_L6 (x0 : Int) (k : Mem → Option (Mem)) : Nat → Int → Mem → Option (Mem)
  | 0, _, _ => none
  | n + 1, p2, M3 =>
    if 1440 ≤ p2 then (k M3)
      else (getf M3 x0 35 (fun v4 => seti M3 v4 p2 (-1) (fun M5 => f_X12_laysWet_L6 x0 k n (w32 (p2 + 1)) M5)))

def f_X12_laysWet_L63 (p8 v12 x0 : Int) (k : Mem → Option (Mem)) : Nat → Int → Mem → Option (Mem)
  | 0, _, _ => none
  | n + 1, p18, M19 =>
    getf M19 x0 28 (fun v20 => geti M19 v20 p8 (fun v21 => getf M19 x0 29 (fun v22 => geti M19 v22 p8 (fun v23 => if w32 (v21 + v23) ≤ p18 then (k M19)
      else (callp (f_X12_ofField x0 v12 0 M19) (fun v24 => callp (f_X12_comesTo x0 v24 p18 M19) (fun v25 => jn (fun (M26 : Mem) => f_X12_laysWet_L63 p8 v12 x0 k n (w32 (p18 + 1)) M26) (fun j101 => if v25 = 0 then (j101 M19)
      else (getf M19 x0 35 (fun v27 => seti M19 v27 p18 v12 (fun M28 => j101 M28)))))))))))

def f_X12_laysWet_L28 (x0 : Int) (k : Mem → Option (Mem)) : Nat → Int → Mem → Option (Mem)
  | 0, _, _ => none
  | n + 1, p8, M9 =>
    getf M9 x0 30 (fun v10 => if v10 ≤ p8 then (k M9)
      else (getf M9 x0 27 (fun v11 => geti M9 v11 p8 (fun v12 => call (f_X12_rateOf x0 v12 M9) (fun v13 M14 => jn (fun (M15 : Mem) => f_X12_laysWet_L28 x0 k n (w32 (p8 + 1)) M15) (fun j107 => if v13 ≠ 0 then (getf M14 x0 28 (fun v16 => geti M14 v16 p8 (fun v17 => f_X12_laysWet_L63 p8 v12 x0 (fun (M30 : Mem) => j107 M30) KF v17 M14)))
      else (j107 M14)))))))

def f_X12_laysWet (x0 : Int) (M : Mem) : Option (Mem) :=
    callv (f_X12_laysSlots x0 M) (fun M1 => f_X12_laysWet_L6 x0 (fun (M7 : Mem) => f_X12_laysWet_L28 x0 (fun (M32 : Mem) => some M32) KF 0 M7) KF 0 M1)

/-- WaterTurnsModel.driest()I -/
def f_X12_driest_L10 (M1 : Mem) (x0 : Int) (k : Int → Option (Int × Mem)) : Nat → Int → Int → Int → Option (Int × Mem)
  | 0, _, _, _ => none
  | n + 1, p2, p3, p4 =>
    getf M1 x0 0 (fun v5 => geti M1 v5 1 (fun v6 => if v6 ≤ p4 then (k p2)
      else (getf M1 x0 35 (fun v7 => geti M1 v7 p4 (fun v8 => jn (fun (q9 : Int) => callp (f_J9_max_7cf53 p2 q9 M1) (fun v10 => f_X12_driest_L10 M1 x0 k n v10 q9 (w32 (p4 + 1)))) (fun j37 => if v8 ≠ (-1) then (j37 0)
      else (j37 (w32 (p3 + 1)))))))))

def f_X12_driest (x0 : Int) (M : Mem) : Option (Int × Mem) :=
    callv (f_X12_laysWet x0 M) (fun M1 => f_X12_driest_L10 M1 x0 (fun (q12 : Int) => call (f_X12_gives x0 q12 M1) (fun v13 M14 => some (v13, M14))) KF 0 0 0)

/-- WaterTurnsModel.waits(II)I -/
def f_X12_waits_L34 (M6 : Mem) (x0 x1 x2 : Int) (k : Option (Int × Mem)) : Nat → Int → Option (Int × Mem)
  | 0, _ => none
  | n + 1, p7 =>
    getf M6 x0 0 (fun v8 => geti M6 v8 1 (fun v9 => if v9 ≤ p7 then (k)
      else (getf M6 x0 35 (fun v10 => geti M6 v10 p7 (fun v11 => if v11 ≠ x1 then (f_X12_waits_L34 M6 x0 x1 x2 k n (w32 (p7 + 1)))
      else (call (f_X12_gives x0 (w32 (p7 - x2)) M6) (fun v12 M13 => some (v12, M13))))))))

def f_X12_waits (x0 x1 x2 : Int) (M : Mem) : Option (Int × Mem) :=
    callp (f_X12_isField x0 x1 M) (fun v1 => jn (call (f_X12_refuse x0 1 M) (fun v2 M3 => some (v2, M3))) (fun j22 => if v1 = 0 then (j22)
      else (if x2 < 0 then (j22)
      else (getf M x0 0 (fun v4 => geti M v4 1 (fun v5 => if x2 < v5 then (callv (f_X12_laysWet x0 M) (fun M6 => f_X12_waits_L34 M6 x0 x1 x2 (call (f_X12_refuse x0 6 M6) (fun v14 M15 => some (v14, M15))) KF x2))
      else (j22)))))))

/-- WaterTurnsModel.headFor(I)I -/
def f_X12_headFor_L48 (v3 v4 v8 x0 x1 : Int) (k : Int → Mem → Option (Int × Mem)) : Nat → Int → Int → Mem → Option (Int × Mem)
  | 0, _, _, _ => none
  | n + 1, p9, p10, M11 =>
    if 999 < p10 then (k p9 M11)
      else (if p9 ≠ (-1) then (k p9 M11)
      else (getf M11 x0 0 (fun v12 => seti M11 v12 0 p10 (fun M13 => call (f_X12_rateOf x0 x1 M13) (fun v14 M15 => jn (fun (q16 : Int) => f_X12_headFor_L48 v3 v4 v8 x0 x1 k n q16 (w32 (p10 + 1)) M15) (fun j88 => if w64 (v14 * v4) < v8 then (j88 p9)
      else (j88 p10)))))))

def f_X12_headFor (x0 x1 : Int) (M : Mem) : Option (Int × Mem) :=
    callp (f_X12_isField x0 x1 M) (fun v1 => if v1 ≠ 0 then (getf M x0 0 (fun v2 => geti M v2 0 (fun v3 => call (f_X12_minutesOf x0 x1 1 M) (fun v4 M5 => callp (f_X12_ofField x0 x1 2 M5) (fun v6 => callp (f_X12_litre x0 M5) (fun v7 => letv (w64 (v6 * v7)) (fun v8 => f_X12_headFor_L48 v3 v4 v8 x0 x1 (fun (q19 : Int) (M20 : Mem) => getf M20 x0 0 (fun v21 => seti M20 v21 0 v3 (fun M22 => call (f_X12_orNone x0 q19 M22) (fun v23 M24 => some (v23, M24))))) KF (-1) 0 M5)))))))
      else (call (f_X12_refuse x0 1 M) (fun v25 M26 => some (v25, M26))))

/-- WaterTurnsModel.shadow()I -/
def f_X12_shadow_L22 (v1 v4 x0 : Int) (k : Int → Int → Mem → Option (Int × Mem)) : Nat → Int → Int → Int → Mem → Option (Int × Mem)
  | 0, _, _, _, _ => none
  | n + 1, p5, p6, p7, M8 =>
    getf M8 x0 0 (fun v9 => geti M8 v9 3 (fun v10 => if v10 ≤ p7 then (k p5 p6 M8)
      else (getf M8 x0 0 (fun v11 => seti M8 v11 7 (iorv v4 (ishlv 1 p7)) (fun M12 => call (f_X12_allWater x0 M12) (fun v13 M14 => letv (w64 (v1 - v13)) (fun v15 => getf M14 x0 0 (fun v16 => seti M14 v16 7 v4 (fun M17 => jn (fun (q18 : Int) (q19 : Int) => f_X12_shadow_L22 v1 v4 x0 k n q18 q19 (w32 (p7 + 1)) M17) (fun j81 => if p5 < v15 then (j81 v15 p7)
      else (j81 p5 p6)))))))))))

def f_X12_shadow (x0 : Int) (M : Mem) : Option (Int × Mem) :=
    call (f_X12_allWater x0 M) (fun v1 M2 => getf M2 x0 0 (fun v3 => geti M2 v3 7 (fun v4 => f_X12_shadow_L22 v1 v4 x0 (fun (q23 : Int) (q24 : Int) (M25 : Mem) => if q24 ≠ (-1) then (callp (f_X12_litre x0 M25) (fun v26 => call (f_X12_tellsBy x0 q23 v26 M25) (fun v27 M28 => jn (fun (q29 : Int) (M30 : Mem) => some (q29, M30)) (fun j123 => if v27 = 0 then (j123 (-1) M28)
      else (call (f_X12_gives x0 q24 M28) (fun v31 M32 => j123 v31 M32))))))
      else (call (f_X12_refuse x0 6 M25) (fun v33 M34 => some (v33, M34)))) KF 0 (-1) 0 M2)))

/-- WaterTurnsModel.bestSwap(I)I -/
def f_X12_bestSwap_L66 (p10 v5 x0 x1 : Int) (k : Int → Int → Int → Mem → Option (Int × Mem)) : Nat → Int → Int → Int → Int → Mem → Option (Int × Mem)
  | 0, _, _, _, _, _ => none
  | n + 1, p15, p16, p17, p18, M19 =>
    getf M19 x0 0 (fun v20 => geti M19 v20 5 (fun v21 => if v21 ≤ p18 then (k p15 p16 p17 M19)
      else (getf M19 x0 0 (fun v22 => geti M19 v22 (w32 (112 + p10)) (fun v23 => getf M19 x0 0 (fun v24 => geti M19 v24 (w32 (112 + p18)) (fun v25 => callv (f_X12_swaps x0 v23 v25 M19) (fun M26 => call (f_X12_allWater x0 M26) (fun v27 M28 => letv (w64 (v27 - v5)) (fun v29 => callv (f_X12_swaps x0 v23 v25 M28) (fun M30 => jn (fun (q31 : Int) (q32 : Int) (q33 : Int) => f_X12_bestSwap_L66 p10 v5 x0 x1 k n q31 q32 q33 (w32 (p18 + 1)) M30) (fun j148 => if p15 < v29 then (j148 v29 v23 v25)
      else (j148 p15 p16 p17)))))))))))))

def f_X12_bestSwap_L49 (v5 x0 x1 : Int) (k : Int → Int → Int → Mem → Option (Int × Mem)) : Nat → Int → Int → Int → Int → Mem → Option (Int × Mem)
  | 0, _, _, _, _, _ => none
  | n + 1, p7, p8, p9, p10, M11 =>
    getf M11 x0 0 (fun v12 => geti M11 v12 5 (fun v13 => if v13 ≤ p10 then (k p7 p8 p9 M11)
      else (letv (w32 (p10 + 1)) (fun v14 => f_X12_bestSwap_L66 p10 v5 x0 x1 (fun (q38 : Int) (q39 : Int) (q40 : Int) (M41 : Mem) => f_X12_bestSwap_L49 v5 x0 x1 k n q38 q39 q40 (w32 (p10 + 1)) M41) KF p7 p8 p9 v14 M11))))

def f_X12_bestSwap (x0 x1 : Int) (M : Mem) : Option (Int × Mem) :=
    jn (call (f_X12_refuse x0 1 M) (fun v1 M2 => some (v1, M2))) (fun j9 => if x1 < 0 then (j9)
      else (if x1 ≤ 1 then (getf M x0 0 (fun v3 => geti M v3 8 (fun v4 => if v4 ≤ 0 then (call (f_X12_allWater x0 M) (fun v5 M6 => f_X12_bestSwap_L49 v5 x0 x1 (fun (q46 : Int) (q47 : Int) (q48 : Int) (M49 : Mem) => if q47 ≠ (-1) then (callp (f_X12_litre x0 M49) (fun v50 => call (f_X12_tellsBy x0 q46 v50 M49) (fun v51 M52 => jn (fun (q53 : Int) (M54 : Mem) => some (q53, M54)) (fun j205 => if v51 = 0 then (j205 (-1) M52)
      else (jn (fun (q55 : Int) => call (f_X12_gives x0 q55 M52) (fun v56 M57 => j205 v56 M57)) (fun j198 => if x1 ≠ 0 then (j198 q48)
      else (j198 q47)))))))
      else (call (f_X12_refuse x0 6 M49) (fun v58 M59 => some (v58, M59)))) KF 0 (-1) (-1) 0 M6))
      else (call (f_X12_refuse x0 7 M) (fun v60 M61 => some (v60, M61))))))
      else (j9)))

/-- WaterTurnsModel.debts()I -/
def f_X12_debts_L14 (M : Mem) (p2 x0 : Int) (k : Int → Option (Int × Mem)) : Nat → Int → Int → Option (Int × Mem)
  | 0, _, _ => none
  | n + 1, p4, p5 =>
    if 10 ≤ p5 then (k p4)
      else (getf M x0 0 (fun v6 => geti M v6 (w32 ((w32 (158 + (w32 (10 * p2)))) + p5)) (fun v7 => getf M x0 0 (fun v8 => geti M v8 (w32 ((w32 (158 + (w32 (10 * p5)))) + p2)) (fun v9 => jn (fun (q10 : Int) => letv (w32 (p4 + q10)) (fun v11 => f_X12_debts_L14 M p2 x0 k n v11 (w32 (p5 + 1)))) (fun j60 => if w32 (v7 + v9) ≤ 0 then (j60 0)
      else (j60 1)))))))

def f_X12_debts_L4 (M : Mem) (x0 : Int) (k : Int → Option (Int × Mem)) : Nat → Int → Int → Option (Int × Mem)
  | 0, _, _ => none
  | n + 1, p1, p2 =>
    if 10 ≤ p2 then (k p1)
      else (letv (w32 (p2 + 1)) (fun v3 => f_X12_debts_L14 M p2 x0 (fun (q13 : Int) => f_X12_debts_L4 M x0 k n q13 (w32 (p2 + 1))) KF p1 v3))

def f_X12_debts (x0 : Int) (M : Mem) : Option (Int × Mem) :=
    f_X12_debts_L4 M x0 (fun (q15 : Int) => call (f_X12_gives x0 q15 M) (fun v16 M17 => some (v16, M17))) KF 0 0

/-- WaterTurnsModel.balance(I)I -/
def f_X12_balance_L50 (M : Mem) (p6 x0 x1 : Int) (k : Int → Option (Int × Mem)) : Nat → Int → Int → Option (Int × Mem)
  | 0, _, _ => none
  | n + 1, p11, p12 =>
    if 10 ≤ p12 then (k p11)
      else (getf M x0 0 (fun v13 => geti M v13 (w32 ((w32 (158 + (w32 (10 * p12)))) + p6)) (fun v14 => getf M x0 0 (fun v15 => geti M v15 (w32 ((w32 (158 + (w32 (10 * p6)))) + p12)) (fun v16 => letv (w32 (p11 + (w32 (v14 - v16)))) (fun v17 => f_X12_balance_L50 M p6 x0 x1 k n v17 (w32 (p12 + 1))))))))

def f_X12_balance_L24 (M : Mem) (x0 x1 : Int) (k : Int → Option (Int × Mem)) : Nat → Int → Int → Option (Int × Mem)
  | 0, _, _ => none
  | n + 1, p5, p6 =>
    getf M x0 0 (fun v7 => geti M v7 5 (fun v8 => if v8 ≤ p6 then (k p5)
      else (callp (f_X12_ofField x0 p6 3 M) (fun v9 => jn (fun (q10 : Int) => f_X12_balance_L24 M x0 x1 k n q10 (w32 (p6 + 1))) (fun j99 => if v9 = x1 then (f_X12_balance_L50 M p6 x0 x1 (fun (q19 : Int) => j99 q19) KF p5 0)
      else (j99 p5))))))

def f_X12_balance (x0 x1 : Int) (M : Mem) : Option (Int × Mem) :=
    jn (call (f_X12_refuse x0 1 M) (fun v1 M2 => some (v1, M2))) (fun j14 => if x1 < 0 then (j14)
      else (getf M x0 0 (fun v3 => geti M v3 4 (fun v4 => if x1 < v4 then (f_X12_balance_L24 M x0 x1 (fun (q21 : Int) => call (f_X12_gives x0 q21 M) (fun v22 M23 => some (v22, M23))) KF 0 0)
      else (j14)))))

/-- WaterTurnsModel.wrongGauge(IIJ)I -/
def f_X12_wrongGauge_L46 (M : Mem) (x0 x1 x2 x3 : Int) (k1 : Option (Int)) (k2 : Option (Int)) : Nat → Int → Option (Int)
  | 0, _ => none
  | n + 1, p6 =>
    if x2 ≤ p6 then (k1)
      else (getf M x0 7 (fun v7 => geti M v7 (w32 ((w32 (60 * x1)) + p6)) (fun v8 => if v8 < (-1) then (k2)
      else (getf M x0 7 (fun v9 => geti M v9 (w32 ((w32 (60 * x1)) + p6)) (fun v10 => if v10 ≤ x3 then (f_X12_wrongGauge_L46 M x0 x1 x2 x3 k1 k2 n (w32 (p6 + 1)))
      else (k2)))))))

def f_X12_wrongGauge (x0 x1 x2 x3 : Int) (M : Mem) : Option (Int) :=
    callp (f_X12_isTray x1 M) (fun v1 => jn (some 1) (fun j17 => if v1 = 0 then (j17)
      else (if x2 < 0 then (j17)
      else (if x2 ≤ 60 then (getf M x0 6 (fun v2 => geti M v2 x1 (fun v3 => if v3 ≠ (-1) then (getf M x0 6 (fun v4 => geti M v4 x1 (fun v5 => if x2 ≤ v5 then (f_X12_wrongGauge_L46 M x0 x1 x2 x3 (some 0) (some 5) KF 0)
      else (some 3))))
      else (some 2))))
      else (j17)))))

/-- WaterTurnsModel.mean(II)Z -/
def f_X12_mean_L38 (M : Mem) (x0 x1 x2 : Int) (k : Int → Int → Option (Int × Mem)) : Nat → Int → Int → Int → Option (Int × Mem)
  | 0, _, _, _ => none
  | n + 1, p2, p3, p4 =>
    if x2 ≤ p4 then (k p2 p3)
      else (getf M x0 7 (fun v5 => geti M v5 (w32 ((w32 (60 * x1)) + p4)) (fun v6 => jn (fun (q7 : Int) (q8 : Int) => f_X12_mean_L38 M x0 x1 x2 k n q7 q8 (w32 (p4 + 1))) (fun j80 => if v6 ≠ (-1) then (letv (w64 (p2 + v6)) (fun v9 => j80 v9 (w32 (p3 + 1))))
      else (j80 p2 p3)))))

def f_X12_mean (x0 x1 x2 : Int) (M : Mem) : Option (Int × Mem) :=
    jn (fun (q1 : Int) => if q1 ≤ 0 then (f_X12_mean_L38 M x0 x1 x2 (fun (q12 : Int) (q13 : Int) => jn (fun (q14 : Int) (M15 : Mem) => retzm q14 M15) (fun j109 => if q13 ≠ 0 then (call (f_X12_tellsBy x0 q12 q13 M) (fun v16 M17 => j109 v16 M17))
      else (call (f_X12_is x0 6 M) (fun v18 M19 => j109 v18 M19)))) KF 0 0 0)
      else (call (f_X12_is x0 q1 M) (fun v20 M21 => retzm v20 M21))) (fun j18 => if 1 ≤ x2 then (callp (f_X12_wrongGauge x0 x1 x2 999999 M) (fun v22 => j18 v22))
      else (j18 1))

/-- WaterTurnsModel.gaps(II)I -/
def f_X12_gaps_L38 (M : Mem) (x0 x1 x2 : Int) (k : Int → Option (Int × Mem)) : Nat → Int → Int → Int → Option (Int × Mem)
  | 0, _, _, _ => none
  | n + 1, p2, p3, p4 =>
    if x2 ≤ p4 then (k p2)
      else (getf M x0 7 (fun v5 => geti M v5 (w32 ((w32 (60 * x1)) + p4)) (fun v6 => jn (fun (q7 : Int) => callp (f_J9_max_7cf53 p2 q7 M) (fun v8 => f_X12_gaps_L38 M x0 x1 x2 k n v8 q7 (w32 (p4 + 1)))) (fun j71 => if v6 ≠ (-1) then (j71 0)
      else (j71 (w32 (p3 + 1)))))))

def f_X12_gaps (x0 x1 x2 : Int) (M : Mem) : Option (Int × Mem) :=
    jn (fun (q1 : Int) => if q1 ≤ 0 then (f_X12_gaps_L38 M x0 x1 x2 (fun (q10 : Int) => call (f_X12_gives x0 q10 M) (fun v11 M12 => some (v11, M12))) KF 0 0 0)
      else (call (f_X12_refuse x0 q1 M) (fun v13 M14 => some (v13, M14)))) (fun j18 => if 1 ≤ x2 then (callp (f_X12_wrongGauge x0 x1 x2 999999 M) (fun v15 => j18 v15))
      else (j18 1))

/-- WaterTurnsModel.suspects(I)I -/
def f_X12_suspects_L33 (x0 x1 : Int) (k : Int → Int → Mem → Option (Int × Mem)) : Nat → Int → Int → Int → Mem → Option (Int × Mem)
  | 0, _, _, _, _ => none
  | n + 1, p4, p5, p6, M7 =>
    getf M7 x0 0 (fun v8 => geti M7 v8 5 (fun v9 => if v9 ≤ p6 then (k p4 p5 M7)
      else (getf M7 x0 7 (fun v10 => geti M7 v10 (w32 ((w32 (60 * x1)) + p6)) (fun v11 => jn (fun (q12 : Int) => letv (iorv p4 q12) (fun v13 => jn (fun (q14 : Int) (M15 : Mem) => letv (iorv p5 q14) (fun v16 => f_X12_suspects_L33 x0 x1 k n v13 v16 (w32 (p6 + 1)) M15)) (fun j112 => jn (fun (M17 : Mem) => j112 0 M17) (fun j111 => if v11 < 0 then (j111 M7)
      else (call (f_X12_rateOf x0 p6 M7) (fun v18 M19 => callp (f_X12_litre x0 M19) (fun v20 => ldivc v18 v20 (fun v21 => if v21 ≤ v11 then (j111 M19)
      else (j112 (ishlv 1 p6) M19))))))))) (fun j76 => if v11 ≠ (-1) then (j76 (ishlv 1 p6))
      else (j76 0)))))))

def f_X12_suspects_L127 (M27 : Mem) (q25 q26 x0 : Int) (k : Int → Option (Int × Mem)) : Nat → Int → Int → Option (Int × Mem)
  | 0, _, _ => none
  | n + 1, p28, p29 =>
    getf M27 x0 0 (fun v30 => geti M27 v30 3 (fun v31 => if v31 ≤ p29 then (k p28)
      else (jn (fun (q32 : Int) => letv (iorv p28 q32) (fun v33 => f_X12_suspects_L127 M27 q25 q26 x0 k n v33 (w32 (p29 + 1)))) (fun j166 => jn (j166 0) (fun j165 => if q26 = 0 then (j165)
      else (callp (f_X12_belowOf x0 p29 M27) (fun v34 => if q26 ≠ iandv v34 q25 then (j165)
      else (j166 (ishlv 1 p29)))))))))

def f_X12_suspects (x0 x1 : Int) (M : Mem) : Option (Int × Mem) :=
    getf M x0 0 (fun v1 => geti M v1 5 (fun v2 => callp (f_X12_wrongGauge x0 x1 v2 999 M) (fun v3 => if v3 ≤ 0 then (f_X12_suspects_L33 x0 x1 (fun (q25 : Int) (q26 : Int) (M27 : Mem) => f_X12_suspects_L127 M27 q25 q26 x0 (fun (q36 : Int) => call (f_X12_gives x0 q36 M27) (fun v37 M38 => some (v37, M38))) KF 0 0) KF 0 0 0 M)
      else (call (f_X12_refuse x0 v3 M) (fun v39 M40 => some (v39, M40))))))

/-- WaterTurnsModel.passes()V -/
def f_X12_passes_L2 (x0 : Int) (k : Mem → Option (Mem)) : Nat → Int → Mem → Option (Mem)
  | 0, _, _ => none
  | n + 1, p1, M2 =>
    getf M2 x0 0 (fun v3 => geti M2 v3 5 (fun v4 => if v4 ≤ p1 then (k M2)
      else (getf M2 x0 0 (fun v5 => geti M2 v5 (w32 (258 + p1)) (fun v6 => call (f_X12_waterIn x0 p1 M2) (fun v7 M8 => callp (f_X12_litre x0 M8) (fun v9 => ldivc v7 v9 (fun v10 => seti M8 v5 (w32 (258 + p1)) (w32 (v6 + (w32 v10))) (fun M11 => f_X12_passes_L2 x0 k n (w32 (p1 + 1)) M11)))))))))

def f_X12_passes (x0 : Int) (M : Mem) : Option (Mem) :=
    f_X12_passes_L2 x0 (fun (M13 : Mem) => getf M13 x0 0 (fun v14 => seti M13 v14 8 0 (fun M15 => getf M15 x0 0 (fun v16 => geti M15 v16 6 (fun v17 => seti M15 v16 6 (w32 (v17 + 1)) (fun M18 => some M18)))))) KF 0 M

/-- WaterTurnsModel.pass()I -/
def f_X12_pass (x0 : Int) (M : Mem) : Option (Int × Mem) :=
    getf M x0 0 (fun v1 => geti M v1 6 (fun v2 => if v2 ≠ 99 then (callv (f_X12_passes x0 M) (fun M3 => getf M3 x0 0 (fun v4 => geti M3 v4 6 (fun v5 => call (f_X12_gives x0 v5 M3) (fun v6 M7 => some (v6, M7))))))
      else (call (f_X12_refuse x0 4 M) (fun v8 M9 => some (v8, M9)))))

/-- WaterTurnsModel.account(I)J -/
def f_X12_account (x0 x1 : Int) (M : Mem) : Option (Int × Mem) :=
    callp (f_X12_isField x0 x1 M) (fun v1 => jn (fun (q2 : Int) (M3 : Mem) => some (q2, M3)) (fun j32 => if v1 = 0 then (call (f_X12_refuse x0 1 M) (fun v4 M5 => j32 v4 M5))
      else (getf M x0 0 (fun v6 => geti M v6 (w32 (258 + x1)) (fun v7 => call (f_X12_gives x0 v7 M) (fun v8 M9 => j32 v8 M9))))))

/-- WaterTurnsModel.draw()I -/
def f_X12_draw (x0 : Int) (M : Mem) : Option (Int × Mem) :=
    getf M x0 36 (fun v1 => iremc (w32 ((w32 (v1 * 2753)) + 10559)) 65536 (fun v2 => putf M x0 36 v2 (fun M3 => getf M3 x0 36 (fun v4 => idivc v4 8 (fun v5 => iremc v5 16 (fun v6 => some (v6, M3)))))))

/-- WaterTurnsModel.does(I)Z -/
def f_X12_does (x0 x1 : Int) (M : Mem) : Option (Int × Mem) :=
    getf M x0 0 (fun v1 => geti M v1 (w32 (x1 + 1)) (fun v2 => getf M x0 0 (fun v3 => geti M v3 (w32 (x1 + 2)) (fun v4 => getf M x0 0 (fun v5 => geti M v5 x1 (fun v6 => if v6 = 10 then (getf M x0 0 (fun v7 => geti M v7 7 (fun v8 => seti M v7 7 (iorv v8 (ishlv 1 v2)) (fun M9 => retzm 1 M9))))
      else if v6 = 16 then (getf M x0 0 (fun v10 => geti M v10 7 (fun v11 => seti M v10 7 (iandv v11 (ixorv (ishlv 1 v2) (-1))) (fun M12 => retzm 1 M12))))
      else if v6 = 17 then (jn (retzm 0 M) (fun j139 => if v2 = v4 then (j139)
      else (getf M x0 0 (fun v13 => geti M v13 8 (fun v14 => if v14 ≤ 0 then (callv (f_X12_swaps x0 v2 v4 M) (fun M15 => retzm 1 M15))
      else (j139))))))
      else if v6 = 18 then (jn (retzm 0 M) (fun j166 => if v2 = v4 then (j166)
      else (getf M x0 0 (fun v16 => geti M v16 8 (fun v17 => if v17 ≠ 12 then (getf M x0 0 (fun v18 => geti M v18 x1 (fun v19 => jn (fun (q20 : Int) => jn (retzm 0 M) (fun j230 => if q20 = 0 then (j230)
      else (callp (f_X12_ownLeft x0 v2 M) (fun v21 => if q20 ≤ v21 then (callv (f_X12_lends x0 v2 v4 q20 M) (fun M22 => retzm 1 M22))
      else (j230))))) (fun j213 => if v19 ≠ 18 then (getf M x0 0 (fun v23 => geti M v23 (w32 ((w32 (158 + (w32 (10 * v2)))) + v4)) (fun v24 => callp (f_X12_ownLeft x0 v2 M) (fun v25 => callp (f_J9_min_7cf53 v24 v25 M) (fun v26 => j213 v26)))))
      else (getf M x0 0 (fun v27 => geti M v27 (w32 (x1 + 3)) (fun v28 => j213 v28)))))))
      else (j166))))))
      else if v6 = 19 then (jn (retzm 0 M) (fun j166 => if v2 = v4 then (j166)
      else (getf M x0 0 (fun v29 => geti M v29 8 (fun v30 => if v30 ≠ 12 then (getf M x0 0 (fun v31 => geti M v31 x1 (fun v32 => jn (fun (q33 : Int) => jn (retzm 0 M) (fun j230 => if q33 = 0 then (j230)
      else (callp (f_X12_ownLeft x0 v2 M) (fun v34 => if q33 ≤ v34 then (callv (f_X12_lends x0 v2 v4 q33 M) (fun M35 => retzm 1 M35))
      else (j230))))) (fun j213 => if v32 ≠ 18 then (getf M x0 0 (fun v36 => geti M v36 (w32 ((w32 (158 + (w32 (10 * v2)))) + v4)) (fun v37 => callp (f_X12_ownLeft x0 v2 M) (fun v38 => callp (f_J9_min_7cf53 v37 v38 M) (fun v39 => j213 v39)))))
      else (getf M x0 0 (fun v40 => geti M v40 (w32 (x1 + 3)) (fun v41 => j213 v41)))))))
      else (j166))))))
      else if v6 = 20 then (getf M x0 0 (fun v42 => seti M v42 0 v2 (fun M43 => retzm 1 M43)))
      else if v6 = 21 then (call (f_X12_draw x0 M) (fun v44 M45 => if v44 < v2 then (getf M45 x0 0 (fun v46 => geti M45 v46 0 (fun v47 => idivc v47 2 (fun v48 => seti M45 v46 0 v48 (fun M49 => getf M49 x0 39 (fun v50 => geti M49 v50 2 (fun v51 => seti M49 v50 2 (w32 (v51 + 1)) (fun M52 => retzm 1 M52))))))))
      else (retzm 1 M45)))
      else if v6 = 22 then (getf M x0 0 (fun v53 => geti M v53 6 (fun v54 => if v54 ≠ 99 then (callv (f_X12_passes x0 M) (fun M55 => getf M55 x0 39 (fun v56 => geti M55 v56 0 (fun v57 => seti M55 v56 0 (w32 (v57 + 1)) (fun M58 => retzm 1 M58)))))
      else (retzm 0 M))))
      else (retzm 1 M)))))))

/-- WaterTurnsModel.holds(I)Z -/
def f_X12_holds_L71 (M : Mem) (v5 x0 x1 : Int) (k : Int → Option (Int)) : Nat → Int → Int → Option (Int)
  | 0, _, _ => none
  | n + 1, p20, p21 =>
    if 10 ≤ p21 then (k p20)
      else (getf M x0 0 (fun v22 => geti M v22 (w32 ((w32 (158 + (w32 (10 * v5)))) + p21)) (fun v23 => letv (w32 (p20 + v23)) (fun v24 => f_X12_holds_L71 M v5 x0 x1 k n v24 (w32 (p21 + 1))))))

def f_X12_holds (x0 x1 : Int) (M : Mem) : Option (Int) :=
    getf M x0 0 (fun v1 => geti M v1 x1 (fun v2 => letv (w32 (v2 - 2300)) (fun v3 => getf M x0 0 (fun v4 => geti M v4 (w32 (x1 + 1)) (fun v5 => if v3 ≠ 10 then (getf M x0 0 (fun v6 => geti M v6 (w32 (258 + v5)) (fun v7 => jn (fun (q8 : Int) => getf M x0 0 (fun v9 => geti M v9 (w32 (x1 + 5)) (fun v10 => jn (fun (q11 : Int) => retz q11) (fun j191 => if v10 ≠ 60 then (getf M x0 0 (fun v12 => geti M v12 (w32 (x1 + 5)) (fun v13 => if v13 ≠ 62 then (getf M x0 0 (fun v14 => geti M v14 (w32 (x1 + 2)) (fun v15 => if q8 ≠ v15 then (j191 0)
      else (j191 1))))
      else (getf M x0 0 (fun v16 => geti M v16 (w32 (x1 + 2)) (fun v17 => if q8 ≤ v17 then (j191 0)
      else (j191 1)))))))
      else (getf M x0 0 (fun v18 => geti M v18 (w32 (x1 + 2)) (fun v19 => if v19 ≤ q8 then (j191 0)
      else (j191 1)))))))) (fun j105 => if v3 ≠ 28 then (j105 v7)
      else (f_X12_holds_L71 M v5 x0 x1 (fun (q26 : Int) => j105 q26) KF 0 0)))))
      else (getf M x0 0 (fun v27 => geti M v27 7 (fun v28 => jn (fun (q29 : Int) => retz q29) (fun j46 => if iandv (ishrv v28 v5) 1 ≠ 1 then (j46 0)
      else (j46 1))))))))))

/-- WaterTurnsModel.behindEnds(I)I -/
def f_X12_behindEnds_L2 (x0 : Int) (k : Int → Mem → Option (Int × Mem)) : Nat → Int → Mem → Option (Int × Mem)
  | 0, _, _ => none
  | n + 1, p1, M2 =>
    getf M2 x0 0 (fun v3 => geti M2 v3 9 (fun v4 => if v4 ≤ p1 then (k p1 M2)
      else (getf M2 x0 0 (fun v5 => geti M2 v5 (w32 (270 + (w32 (6 * p1)))) (fun v6 => if v6 ≠ 25 then (k p1 M2)
      else (getf M2 x0 0 (fun v7 => geti M2 v7 (w32 ((w32 (270 + (w32 (6 * p1)))) + 4)) (fun v8 => getf M2 x0 0 (fun v9 => geti M2 v9 (w32 (270 + (w32 (6 * v8)))) (fun v10 => jn (fun (q11 : Int) => getf M2 x0 38 (fun v12 => geti M2 v12 v8 (fun v13 => jn (fun (q14 : Int) => seti M2 v12 v8 (w32 (v13 - q14)) (fun M15 => jn (fun (q16 : Int) => f_X12_behindEnds_L2 x0 k n q16 M15) (fun j114 => if q11 = 0 then (j114 (w32 (p1 + 1)))
      else (j114 (w32 (v8 + 1)))))) (fun j98 => if q11 = 0 then (j98 0)
      else (j98 1))))) (fun j79 => jn (j79 0) (fun j78 => if v10 ≠ 24 then (j78)
      else (getf M2 x0 38 (fun v17 => geti M2 v17 v8 (fun v18 => if v18 ≤ 0 then (j78)
      else (j79 1))))))))))))))))

def f_X12_behindEnds (x0 x1 : Int) (M : Mem) : Option (Int × Mem) :=
    f_X12_behindEnds_L2 x0 (fun (q21 : Int) (M22 : Mem) => some (q21, M22)) KF x1 M

/-- WaterTurnsModel.lives(I)V -/
def f_X12_lives_L12 (x0 : Int) (k : Mem → Option (Mem)) : Nat → Int → Mem → Option (Mem)
  | 0, _, _ => none
  | n + 1, p3, M4 =>
    if 4 ≤ p3 then (k M4)
      else (getf M4 x0 39 (fun v5 => seti M4 v5 p3 0 (fun M6 => f_X12_lives_L12 x0 k n (w32 (p3 + 1)) M6)))

def f_X12_lives_L32 (x0 : Int) (k : Mem → Option (Mem)) : Nat → Int → Mem → Option (Mem)
  | 0, _, _ => none
  | n + 1, p9, M10 =>
    getf M10 x0 0 (fun v11 => geti M10 v11 9 (fun v12 => if v12 ≤ p9 then (k M10)
      else (getf M10 x0 37 (fun v13 => if v13 ≠ 300 then (letv (w32 (270 + (w32 (6 * p9)))) (fun v14 => getf M10 x0 37 (fun v15 => putf M10 x0 37 (w32 (v15 + 1)) (fun M16 => getf M16 x0 0 (fun v17 => geti M16 v17 v14 (fun v18 => if v18 ≠ 26 then (getf M16 x0 39 (fun v19 => geti M16 v19 1 (fun v20 => call (f_X12_does x0 v14 M16) (fun v21 M22 => jn (fun (q23 : Int) => seti M22 v19 1 (w32 (v20 + q23)) (fun M24 => getf M24 x0 0 (fun v25 => geti M24 v25 v14 (fun v26 => jn (fun (M27 : Mem) => getf M27 x0 0 (fun v28 => geti M27 v28 v14 (fun v29 => jn (fun (q30 : Int) => call (f_X12_behindEnds x0 q30 M27) (fun v31 M32 => f_X12_lives_L32 x0 k n v31 M32)) (fun j178 => jn (j178 (w32 (p9 + 1))) (fun j175 => if v29 < 2300 then (j175)
      else (callp (f_X12_holds x0 v14 M27) (fun v33 => if v33 ≠ 0 then (j175)
      else (getf M27 x0 0 (fun v34 => geti M27 v34 (w32 (v14 + 4)) (fun v35 => j178 (w32 (v35 + 1)))))))))))) (fun j141 => if v26 ≠ 24 then (j141 M24)
      else (getf M24 x0 38 (fun v36 => getf M24 x0 0 (fun v37 => geti M24 v37 (w32 (v14 + 1)) (fun v38 => seti M24 v36 p9 (w32 (v38 - 1)) (fun M39 => j141 M39)))))))))) (fun j112 => if v21 = 0 then (j112 1)
      else (j112 0))))))
      else (some M16)))))))
      else (getf M10 x0 39 (fun v40 => seti M10 v40 3 1 (fun M41 => some M41)))))))

def f_X12_lives (x0 x1 : Int) (M : Mem) : Option (Mem) :=
    putf M x0 36 x1 (fun M1 => putf M1 x0 37 0 (fun M2 => f_X12_lives_L12 x0 (fun (M8 : Mem) => f_X12_lives_L32 x0 (fun (M43 : Mem) => some M43) KF 0 M8) KF 0 M2))

/-- WaterTurnsModel.live(I)I -/
def f_X12_live_L43 (x0 : Int) (k : Mem → Option (Int × Mem)) : Nat → Int → Mem → Option (Int × Mem)
  | 0, _, _ => none
  | n + 1, p5, M6 =>
    if 4 ≤ p5 then (k M6)
      else (getf M6 x0 40 (fun v7 => getf M6 x0 39 (fun v8 => geti M6 v8 p5 (fun v9 => seti M6 v7 p5 v9 (fun M10 => f_X12_live_L43 x0 k n (w32 (p5 + 1)) M10)))))

def f_X12_live (x0 x1 : Int) (M : Mem) : Option (Int × Mem) :=
    callp (f_X12_isFrom x1 0 9999 M) (fun v1 => if v1 ≠ 0 then (getf M x0 0 (fun v2 => geti M v2 9 (fun v3 => if v3 ≠ (-1) then (callv (f_X12_lives x0 x1 M) (fun M4 => f_X12_live_L43 x0 (fun (M12 : Mem) => putz M12 x0 41 1 (fun M13 => getf M13 x0 37 (fun v14 => call (f_X12_gives x0 v14 M13) (fun v15 M16 => some (v15, M16))))) KF 0 M4))
      else (call (f_X12_refuse x0 6 M) (fun v17 M18 => some (v17, M18))))))
      else (call (f_X12_refuse x0 1 M) (fun v19 M20 => some (v19, M20))))

/-- WaterTurnsModel.lived(I)I -/
def f_X12_lived (x0 x1 : Int) (M : Mem) : Option (Int × Mem) :=
    jn (fun (q1 : Int) (M2 : Mem) => some (q1, M2)) (fun j43 => jn (call (f_X12_refuse x0 1 M) (fun v3 M4 => j43 v3 M4)) (fun j9 => if x1 < 0 then (j9)
      else (if x1 ≤ 3 then (getf M x0 41 (fun v5 => if v5 = 0 then (call (f_X12_refuse x0 6 M) (fun v6 M7 => j43 v6 M7))
      else (getf M x0 40 (fun v8 => geti M v8 x1 (fun v9 => call (f_X12_gives x0 v9 M) (fun v10 M11 => j43 v10 M11))))))
      else (j9))))

/-- WaterTurnsModel.odds(IIII)Z -/
def f_X12_odds_L84 (x0 x1 x2 x3 x4 : Int) (k : Mem → Option (Int × Mem)) : Nat → Int → Mem → Option (Int × Mem)
  | 0, _, _ => none
  | n + 1, p9, M10 =>
    if 270 ≤ p9 then (k M10)
      else (getf M10 x0 0 (fun v11 => getf M10 x0 0 (fun v12 => geti M10 v12 p9 (fun v13 => seti M10 v11 (w32 (3200 + p9)) v13 (fun M14 => f_X12_odds_L84 x0 x1 x2 x3 x4 k n (w32 (p9 + 1)) M14)))))

def f_X12_odds_L164 (p18 v24 x0 x1 x2 x3 x4 : Int) (k : Mem → Option (Int × Mem)) : Nat → Int → Mem → Option (Int × Mem)
  | 0, _, _ => none
  | n + 1, p25, M26 =>
    if 270 ≤ p25 then (k M26)
      else (getf M26 x0 0 (fun v27 => getf M26 x0 0 (fun v28 => geti M26 v28 (w32 (3200 + p25)) (fun v29 => seti M26 v27 p25 v29 (fun M30 => f_X12_odds_L164 p18 v24 x0 x1 x2 x3 x4 k n (w32 (p25 + 1)) M30)))))

def f_X12_odds_L122 (x0 x1 x2 x3 x4 : Int) (k : Int → Mem → Option (Int × Mem)) : Nat → Int → Int → Mem → Option (Int × Mem)
  | 0, _, _, _ => none
  | n + 1, p17, p18, M19 =>
    if x4 ≤ p18 then (k p17 M19)
      else (callv (f_X12_lives x0 (w32 (x3 + p18)) M19) (fun M20 => getf M20 x0 0 (fun v21 => geti M20 v21 (w32 (258 + x1)) (fun v22 => jn (fun (q23 : Int) => letv (w32 (p17 + q23)) (fun v24 => f_X12_odds_L164 p18 v24 x0 x1 x2 x3 x4 (fun (M32 : Mem) => f_X12_odds_L122 x0 x1 x2 x3 x4 k n v24 (w32 (p18 + 1)) M32) KF 0 M20)) (fun j158 => if v22 < x2 then (j158 0)
      else (j158 1))))))

def f_X12_odds (x0 x1 x2 x3 x4 : Int) (M : Mem) : Option (Int × Mem) :=
    callp (f_X12_isField x0 x1 M) (fun v1 => jn (call (f_X12_is x0 1 M) (fun v2 M3 => retzm v2 M3)) (fun j57 => if v1 = 0 then (j57)
      else (callp (f_X12_isFrom x2 0 9999 M) (fun v4 => if v4 = 0 then (j57)
      else (callp (f_X12_isFrom x3 0 9999 M) (fun v5 => if v5 = 0 then (j57)
      else (callp (f_X12_isFrom x4 1 10 M) (fun v6 => if v6 = 0 then (j57)
      else (if w32 ((w32 (x3 + x4)) - 1) ≤ 9999 then (getf M x0 0 (fun v7 => geti M v7 9 (fun v8 => if v8 ≠ (-1) then (f_X12_odds_L84 x0 x1 x2 x3 x4 (fun (M16 : Mem) => f_X12_odds_L122 x0 x1 x2 x3 x4 (fun (q35 : Int) (M36 : Mem) => call (f_X12_tellsBy x0 q35 x4 M36) (fun v37 M38 => retzm v37 M38)) KF 0 0 M16) KF 0 M)
      else (call (f_X12_is x0 6 M) (fun v39 M40 => retzm v39 M40)))))
      else (j57))))))))))

/-- WaterTurnsModel.copies(II)V -/
def f_X12_copies_L2 (x0 x1 x2 : Int) (k : Mem → Option (Mem)) : Nat → Int → Mem → Option (Mem)
  | 0, _, _ => none
  | n + 1, p1, M2 =>
    if 640 ≤ p1 then (k M2)
      else (getf M2 x0 0 (fun v3 => getf M2 x0 0 (fun v4 => geti M2 v4 (w32 ((w32 (640 * x1)) + p1)) (fun v5 => seti M2 v3 (w32 ((w32 (640 * x2)) + p1)) v5 (fun M6 => f_X12_copies_L2 x0 x1 x2 k n (w32 (p1 + 1)) M6)))))

def f_X12_copies_L41 (x0 x1 x2 : Int) (k : Mem → Option (Mem)) : Nat → Int → Mem → Option (Mem)
  | 0, _, _ => none
  | n + 1, p9, M10 =>
    if 26 ≤ p9 then (k M10)
      else (getf M10 x0 1 (fun v11 => getf M10 x0 1 (fun v12 => geti M10 v12 (w32 ((w32 (26 * x1)) + p9)) (fun v13 => seti M10 v11 (w32 ((w32 (26 * x2)) + p9)) v13 (fun M14 => f_X12_copies_L41 x0 x1 x2 k n (w32 (p9 + 1)) M14)))))

def f_X12_copies (x0 x1 x2 : Int) (M : Mem) : Option (Mem) :=
    f_X12_copies_L2 x0 x1 x2 (fun (M8 : Mem) => f_X12_copies_L41 x0 x1 x2 (fun (M16 : Mem) => some M16) KF 0 M8) KF 0 M

/-- WaterTurnsModel.mark()I -/
def f_X12_mark (x0 : Int) (M : Mem) : Option (Int × Mem) :=
    getf M x0 42 (fun v1 => if v1 ≠ 3 then (getf M x0 42 (fun v2 => putf M x0 42 (w32 (v2 + 1)) (fun M3 => getf M3 x0 42 (fun v4 => callv (f_X12_copies x0 0 v4 M3) (fun M5 => getf M5 x0 42 (fun v6 => call (f_X12_gives x0 v6 M5) (fun v7 M8 => some (v7, M8))))))))
      else (call (f_X12_refuse x0 4 M) (fun v9 M10 => some (v9, M10))))

/-- WaterTurnsModel.back()I -/
def f_X12_back (x0 : Int) (M : Mem) : Option (Int × Mem) :=
    getf M x0 42 (fun v1 => if v1 ≠ 0 then (getf M x0 42 (fun v2 => callv (f_X12_copies x0 v2 0 M) (fun M3 => getf M3 x0 42 (fun v4 => putf M3 x0 42 (w32 (v4 - 1)) (fun M5 => getf M5 x0 42 (fun v6 => call (f_X12_gives x0 v6 M5) (fun v7 M8 => some (v7, M8))))))))
      else (call (f_X12_refuse x0 6 M) (fun v9 M10 => some (v9, M10))))
