def fX0_clear (a0 : Nat) (μ : Mm) : Mm :=
  lt' (si μ a0 1 0) fun μ1 =>
  lt' (si μ1 a0 2 0) fun μ2 =>
  μ2
def fX0_add (a0 : Nat) (v1 : Int32) (μ : Mm) : Option (Mm) :=
  if (μ.1 a0 1) < 12000 then
    gd (ib (μ.1 a0 1) 12000) <|
    lt' (si μ (μ.2 a0 0) (μ.1 a0 1).toNatClampNeg (v1 &&& 255)) fun μ1 =>
    lt' (si μ1 a0 1 ((μ1.1 a0 1) + 1)) fun μ2 =>
    some μ2
  else
    lt' (si μ a0 2 1) fun μ3 =>
    some μ3
def fX0_addTwo (a0 : Nat) (v1 : Int32) (μ : Mm) : Option (Mm) :=
  bd (fX0_add a0 v1 μ) fun μ1 =>
  bd (fX0_add a0 (v1 >>> (8 &&& 31)) μ1) fun μ2 =>
  some μ2
def fX0_addFour (a0 : Nat) (v1 : Int32) (μ : Mm) : Option (Mm) :=
  bd (fX0_add a0 (v1 >>> (24 &&& 31)) μ) fun μ1 =>
  bd (fX0_add a0 (v1 >>> (16 &&& 31)) μ1) fun μ2 =>
  bd (fX0_add a0 (v1 >>> (8 &&& 31)) μ2) fun μ3 =>
  bd (fX0_add a0 v1 μ3) fun μ4 =>
  some μ4
def fX0_at (a0 : Nat) (v1 : Int32) (μ : Mm) : Option (Int32) :=
  if v1 < 0 then
    some (-1)
  else
    if (μ.1 a0 1) ≤ v1 then
      some (-1)
    else
      gd (ib v1 12000) <|
      some (μ.1 (μ.2 a0 0) v1.toNatClampNeg)
def fX0_copyFrom (a0 : Nat) (a1 : Nat) (μ : Mm) : Option (Mm) :=
  gd (cpk 0 0 (μ.1 a1 1) 12000 12000) <|
  lt' (sa μ (μ.2 a0 0) (va_cpy (μ.1 (μ.2 a1 0)) (μ.1 (μ.2 a0 0)) (0 : Int32).toNatClampNeg (0 : Int32).toNatClampNeg (μ.1 a1 1).toNatClampNeg)) fun μ1 =>
  lt' (si μ1 a0 1 (μ1.1 a1 1)) fun μ2 =>
  gd (b01 (μ2.1 a1 2)) <|
  lt' (si μ2 a0 2 (μ2.1 a1 2)) fun μ3 =>
  some μ3
def fX1_forget (a0 : Nat) (μ : Mm) : Mm :=
  lt' (si μ a0 8 ((μ.1 a0 6) + 1)) fun μ1 =>
  lt' (si μ1 a0 9 ((1 <<< ((μ1.1 a0 6) &&& 31)) + 2)) fun μ2 =>
  lt' (si μ2 a0 10 (-1)) fun μ3 =>
  μ3
def fX1_tell (a0 : Nat) (v1 : Int32) (μ : Mm) : Option (Mm) :=
  gd (ib (μ.1 a0 9) 4096) <|
  lt' (si μ (μ.2 a0 2) (μ.1 a0 9).toNatClampNeg (μ.1 a0 10)) fun μ1 =>
  gd (ib (μ1.1 a0 10) 4096) <|
  gd (ib (μ1.1 a0 9) 4096) <|
  lt' (si μ1 (μ1.2 a0 3) (μ1.1 a0 9).toNatClampNeg (μ1.1 (μ1.2 a0 3) (μ1.1 a0 10).toNatClampNeg)) fun μ3 =>
  gd (ib (μ3.1 a0 9) 4096) <|
  lt' (si μ3 (μ3.2 a0 4) (μ3.1 a0 9).toNatClampNeg v1) fun μ4 =>
  gd (ib (μ4.1 a0 10) 4096) <|
  gd (ib (μ4.1 a0 9) 4096) <|
  lt' (si μ4 (μ4.2 a0 5) (μ4.1 a0 9).toNatClampNeg ((μ4.1 (μ4.2 a0 5) (μ4.1 a0 10).toNatClampNeg) + 1)) fun μ6 =>
  lt' (si μ6 a0 9 ((μ6.1 a0 9) + 1)) fun μ7 =>
  if (μ7.1 a0 9) = (1 <<< ((μ7.1 a0 8) &&& 31)) then
    if (12 : Int32) ≤ (μ7.1 a0 8) then
      some μ7
    else
      lt' (si μ7 a0 8 ((μ7.1 a0 8) + 1)) fun μ8 =>
      some μ8
  else
    some μ7
def fX1_isKnown_L75 (a0 : Nat) (v1 : Int32) (o0 : Nat) (o1 : Nat) (t2 : Int32) (μ : Mm) : Option (Int32 × Mm) :=
  gd (ib t2 4096) <|
  bd (fX1_tell o0 (μ.1 o1 t2.toNatClampNeg) μ) fun μ2 =>
  lt' (si μ2 a0 10 v1) fun μ3 =>
  some (1, μ3)
def fX1_isKnown_L50 (a0 : Nat) (v1 : Int32) (v2 : Int32) (μ : Mm) : Option (Int32 × Mm) :=
  if v2 = 0 then
    lt' (si μ a0 10 v1) fun μ1 =>
    some (1, μ1)
  else
    if v1 = (μ.1 a0 9) then
      fX1_isKnown_L75 a0 v1 a0 (μ.2 a0 3) (μ.1 a0 10) μ
    else
      fX1_isKnown_L75 a0 v1 a0 (μ.2 a0 3) v1 μ
def fX1_isKnown_L23 (a0 : Nat) (v1 : Int32) (t0 : Int32) (μ : Mm) : Option (Int32 × Mm) :=
  if v1 < 0 then
    some (0, μ)
  else
    if (μ.1 a0 9) < v1 then
      some (0, μ)
    else
      if v1 = (μ.1 a0 9) then
        if t0 = 0 then
          some (0, μ)
        else
          fX1_isKnown_L50 a0 v1 t0 μ
      else
        fX1_isKnown_L50 a0 v1 t0 μ
def fX1_isKnown_L22 (a0 : Nat) (v1 : Int32) (μ : Mm) : Option (Int32 × Mm) :=
  fX1_isKnown_L23 a0 v1 0 μ
def fX1_isKnown (a0 : Nat) (v1 : Int32) (μ : Mm) : Option (Int32 × Mm) :=
  if (μ.1 a0 10) = (-1) then
    fX1_isKnown_L22 a0 v1 μ
  else
    if (4096 : Int32) ≤ (μ.1 a0 9) then
      fX1_isKnown_L22 a0 v1 μ
    else
      fX1_isKnown_L23 a0 v1 1 μ
def fX1_nextCode (a0 : Nat) (μ : Mm) : Option (Int32 × Mm) :=
  if ((μ.1 a0 7) + (μ.1 a0 8)) ≤ ((μ.1 (μ.2 a0 0) 1) * 8) then
    lt' ((μ.1 a0 7) >>> (3 &&& 31)) fun x1 =>
    bd (fX0_at (μ.2 a0 0) x1 μ) fun x2 =>
    bd (fX0_at (μ.2 a0 0) (x1 + 1) μ) fun x3 =>
    bd (fX0_at (μ.2 a0 0) (x1 + 2) μ) fun x4 =>
    lt' ((x2 ||| ((mmax x3 0) <<< (8 &&& 31))) ||| ((mmax x4 0) <<< (16 &&& 31))) fun x5 =>
    lt' ((x5 >>> (((μ.1 a0 7) &&& 7) &&& 31)) &&& ((1 <<< ((μ.1 a0 8) &&& 31)) - 1)) fun x6 =>
    lt' (si μ a0 7 ((μ.1 a0 7) + (μ.1 a0 8))) fun μ7 =>
    some (x6, μ7)
  else
    some ((-1), μ)
def fX1_putOut_B30 (rec30 : Nat → Int32 → Int32 → Int32 → Int32 → Mm → Option (Int32 × Mm)) (fu : Nat) (a0 : Nat) (v3 : Int32) (v4 : Int32) (v5 : Int32) (v6 : Int32) (μ : Mm) : Option (Int32 × Mm) :=
  if v6 < 0 then
    lt' (si μ a0 11 ((μ.1 a0 11) + v4)) fun μ1 =>
    some (1, μ1)
  else
    gd (ib v5 4096) <|
    if (μ.1 (μ.2 a0 4) v5.toNatClampNeg) < v3 then
      gd (ib v5 4096) <|
      gd (ib ((μ.1 a0 11) + v6) 4096) <|
      lt' (si μ (μ.2 a0 1) ((μ.1 a0 11) + v6).toNatClampNeg (μ.1 (μ.2 a0 4) v5.toNatClampNeg)) fun μ4 =>
      if v6 ≤ 0 then
        lt' (v6 + (-1)) fun x5 =>
        rec30 a0 v3 v4 v5 x5 μ4
      else
        gd (ib v5 4096) <|
        lt' (μ4.1 (μ4.2 a0 2) v5.toNatClampNeg) fun x7 =>
        lt' (v6 + (-1)) fun x8 =>
        rec30 a0 v3 v4 x7 x8 μ4
    else
      some (0, μ)
def fX1_putOut_L30 (fu : Nat) : Nat → Nat → Int32 → Int32 → Int32 → Int32 → Mm → Option (Int32 × Mm)
  | 0 => fun _ _ _ _ _ _ => none
  | n + 1 => fX1_putOut_B30 (fX1_putOut_L30 fu n) fu
def fX1_putOut (fu : Nat) (a0 : Nat) (v1 : Int32) (v2 : Int32) (v3 : Int32) (μ : Mm) : Option (Int32 × Mm) :=
  gd (ib v1 4096) <|
  lt' (μ.1 (μ.2 a0 5) v1.toNatClampNeg) fun x2 =>
  if x2 ≤ (v2 - (μ.1 a0 11)) then
    lt' (x2 - 1) fun x3 =>
    fX1_putOut_L30 fu fu a0 v3 x2 v1 x3 μ
  else
    some (0, μ)
def fX1_start_B17 (rec17 : Nat → Int32 → Mm → Option (Mm)) (fu : Nat) (a0 : Nat) (v2 : Int32) (μ : Mm) : Option (Mm) :=
  if (1 <<< ((μ.1 a0 6) &&& 31)) ≤ v2 then
    lt' (fX1_forget a0 μ) fun μ1 =>
    some μ1
  else
    gd (ib v2 4096) <|
    lt' (si μ (μ.2 a0 3) v2.toNatClampNeg v2) fun μ2 =>
    gd (ib v2 4096) <|
    lt' (si μ2 (μ2.2 a0 4) v2.toNatClampNeg v2) fun μ3 =>
    gd (ib v2 4096) <|
    lt' (si μ3 (μ3.2 a0 5) v2.toNatClampNeg 1) fun μ4 =>
    lt' (v2 + 1) fun x5 =>
    rec17 a0 x5 μ4
def fX1_start_L17 (fu : Nat) : Nat → Nat → Int32 → Mm → Option (Mm)
  | 0 => fun _ _ _ => none
  | n + 1 => fX1_start_B17 (fX1_start_L17 fu n) fu
def fX1_start (fu : Nat) (a0 : Nat) (v1 : Int32) (μ : Mm) : Option (Mm) :=
  lt' (si μ a0 6 v1) fun μ1 =>
  lt' (si μ1 a0 7 0) fun μ2 =>
  lt' (si μ2 a0 11 0) fun μ3 =>
  fX1_start_L17 fu fu a0 0 μ3
def fX1_decode_B24 (rec24 : Nat → Int32 → Int32 → Int32 → Int32 → Mm → Option (Int32 × Mm)) (fu : Nat) (a0 : Nat) (v2 : Int32) (v3 : Int32) (v4 : Int32) (v5 : Int32) (μ : Mm) : Option (Int32 × Mm) :=
  if ((μ.1 (μ.2 a0 0) 1) * 8) ≤ v5 then
    some (0, μ)
  else
    bd (fX1_nextCode a0 μ) fun q1 =>
    lt' q1.1 fun x2 =>
    if x2 = (v4 + 1) then
      if (q1.2.1 a0 11) = v2 then
        if (((q1.2.1 a0 7) - 1) >>> (3 &&& 31)) = ((q1.2.1 (q1.2.2 a0 0) 1) - 1) then
          some (1, q1.2)
        else
          some (0, q1.2)
      else
        some (0, q1.2)
    else
      if x2 = v4 then
        lt' (fX1_forget a0 q1.2) fun μ6 =>
        lt' (v5 + 1) fun x7 =>
        rec24 a0 v2 v3 v4 x7 μ6
      else
        bd (fX1_isKnown a0 x2 q1.2) fun q3 =>
        if q3.1 = 0 then
          some (0, q3.2)
        else
          bd (fX1_putOut fu a0 x2 v2 v3 q3.2) fun q4 =>
          if q4.1 = 0 then
            some (0, q4.2)
          else
            lt' (v5 + 1) fun x5 =>
            rec24 a0 v2 v3 v4 x5 q4.2
def fX1_decode_L24 (fu : Nat) : Nat → Nat → Int32 → Int32 → Int32 → Int32 → Mm → Option (Int32 × Mm)
  | 0 => fun _ _ _ _ _ _ => none
  | n + 1 => fX1_decode_B24 (fX1_decode_L24 fu n) fu
def fX1_decode (fu : Nat) (a0 : Nat) (v1 : Int32) (v2 : Int32) (v3 : Int32) (μ : Mm) : Option (Int32 × Mm) :=
  lt' (1 <<< (v1 &&& 31)) fun x1 =>
  bd (fX1_start fu a0 v1 μ) fun μ2 =>
  bd (fX1_nextCode a0 μ2) fun q3 =>
  if q3.1 = x1 then
    fX1_decode_L24 fu fu a0 v2 v3 x1 0 q3.2
  else
    some (0, q3.2)
def fX2_putCode_B25 (rec25 : Nat → Mm → Option (Mm)) (fu : Nat) (a0 : Nat) (μ : Mm) : Option (Mm) :=
  if (μ.1 a0 11) < 8 then
    some μ
  else
    bd (fX0_add (μ.2 a0 0) (μ.1 a0 10) μ) fun μ1 =>
    lt' (si μ1 a0 10 ((μ1.1 a0 10) >>> (8 &&& 31))) fun μ2 =>
    lt' (si μ2 a0 11 ((μ2.1 a0 11) - 8)) fun μ3 =>
    rec25 a0 μ3
def fX2_putCode_L25 (fu : Nat) : Nat → Nat → Mm → Option (Mm)
  | 0 => fun _ _ => none
  | n + 1 => fX2_putCode_B25 (fX2_putCode_L25 fu n) fu
def fX2_putCode (fu : Nat) (a0 : Nat) (v1 : Int32) (v2 : Int32) (μ : Mm) : Option (Mm) :=
  lt' (si μ a0 10 ((μ.1 a0 10) ||| (v1 <<< ((μ.1 a0 11) &&& 31)))) fun μ1 =>
  lt' (si μ1 a0 11 ((μ1.1 a0 11) + v2)) fun μ2 =>
  fX2_putCode_L25 fu fu a0 μ2
def fX2_putClear_B15 (rec15 : Nat → Int32 → Int32 → Mm → Option (Mm)) (fu : Nat) (a0 : Nat) (v2 : Int32) (v3 : Int32) (μ : Mm) : Option (Mm) :=
  if v2 ≤ v3 then
    lt' (si μ a0 6 ((μ.1 a0 5) + 1)) fun μ1 =>
    lt' (si μ1 a0 7 (v2 + 2)) fun μ2 =>
    lt' (si μ2 a0 8 (-1)) fun μ3 =>
    some μ3
  else
    gd (ib v3 4096) <|
    lt' (si μ (μ.2 a0 2) v3.toNatClampNeg (-1)) fun μ4 =>
    lt' (v3 + 1) fun x5 =>
    rec15 a0 v2 x5 μ4
def fX2_putClear_L15 (fu : Nat) : Nat → Nat → Int32 → Int32 → Mm → Option (Mm)
  | 0 => fun _ _ _ _ => none
  | n + 1 => fX2_putClear_B15 (fX2_putClear_L15 fu n) fu
def fX2_putClear (fu : Nat) (a0 : Nat) (v1 : Int32) (μ : Mm) : Option (Mm) :=
  lt' (1 <<< ((μ.1 a0 5) &&& 31)) fun x1 =>
  bd (fX2_putCode fu a0 x1 v1 μ) fun μ2 =>
  fX2_putClear_L15 fu fu a0 x1 0 μ2
def fX2_childOf_B10 (rec10 : Nat → Int32 → Int32 → Int32 → Mm → Option (Int32)) (fu : Nat) (a0 : Nat) (v2 : Int32) (v3 : Int32) (v4 : Int32) (μ : Mm) : Option (Int32) :=
  if (256 : Int32) ≤ v4 then
    some (-1)
  else
    if v3 = (-1) then
      some (-1)
    else
      gd (ib v3 4096) <|
      if (μ.1 (μ.2 a0 4) v3.toNatClampNeg) = v2 then
        some v3
      else
        gd (ib v3 4096) <|
        lt' (μ.1 (μ.2 a0 3) v3.toNatClampNeg) fun x3 =>
        lt' (v4 + 1) fun x4 =>
        rec10 a0 v2 x3 x4 μ
def fX2_childOf_L10 (fu : Nat) : Nat → Nat → Int32 → Int32 → Int32 → Mm → Option (Int32)
  | 0 => fun _ _ _ _ _ => none
  | n + 1 => fX2_childOf_B10 (fX2_childOf_L10 fu n) fu
def fX2_childOf (fu : Nat) (a0 : Nat) (v1 : Int32) (v2 : Int32) (μ : Mm) : Option (Int32) :=
  gd (ib v1 4096) <|
  lt' (μ.1 (μ.2 a0 2) v1.toNatClampNeg) fun x2 =>
  fX2_childOf_L10 fu fu a0 v2 x2 0 μ
def fX2_longest_B20 (rec20 : Nat → Int32 → Int32 → Mm → Option (Int32 × Mm)) (fu : Nat) (a0 : Nat) (v1 : Int32) (v2 : Int32) (μ : Mm) : Option (Int32 × Mm) :=
  if v1 ≤ (μ.1 a0 9) then
    some (v2, μ)
  else
    gd (ib (μ.1 a0 9) 4096) <|
    bd (fX2_childOf fu a0 v2 (μ.1 (μ.2 a0 1) (μ.1 a0 9).toNatClampNeg) μ) fun x2 =>
    if x2 = (-1) then
      some (v2, μ)
    else
      lt' (si μ a0 9 ((μ.1 a0 9) + 1)) fun μ3 =>
      rec20 a0 v1 x2 μ3
def fX2_longest_L20 (fu : Nat) : Nat → Nat → Int32 → Int32 → Mm → Option (Int32 × Mm)
  | 0 => fun _ _ _ _ => none
  | n + 1 => fX2_longest_B20 (fX2_longest_L20 fu n) fu
def fX2_longest (fu : Nat) (a0 : Nat) (v1 : Int32) (μ : Mm) : Option (Int32 × Mm) :=
  gd (ib (μ.1 a0 9) 4096) <|
  lt' (μ.1 (μ.2 a0 1) (μ.1 a0 9).toNatClampNeg) fun x2 =>
  lt' (si μ a0 9 ((μ.1 a0 9) + 1)) fun μ3 =>
  fX2_longest_L20 fu fu a0 v1 x2 μ3
def fX2_tell (a0 : Nat) (v1 : Int32) (μ : Mm) : Option (Mm) :=
  gd (ib (μ.1 a0 7) 4096) <|
  lt' (si μ (μ.2 a0 4) (μ.1 a0 7).toNatClampNeg v1) fun μ1 =>
  gd (ib (μ1.1 a0 7) 4096) <|
  lt' (si μ1 (μ1.2 a0 2) (μ1.1 a0 7).toNatClampNeg (-1)) fun μ2 =>
  gd (ib (μ2.1 a0 8) 4096) <|
  gd (ib (μ2.1 a0 7) 4096) <|
  lt' (si μ2 (μ2.2 a0 3) (μ2.1 a0 7).toNatClampNeg (μ2.1 (μ2.2 a0 2) (μ2.1 a0 8).toNatClampNeg)) fun μ4 =>
  gd (ib (μ4.1 a0 8) 4096) <|
  lt' (si μ4 (μ4.2 a0 2) (μ4.1 a0 8).toNatClampNeg (μ4.1 a0 7)) fun μ5 =>
  some μ5
def fX2_putLongest_L31 (fu : Nat) (a0 : Nat) (v1 : Int32) (v2 : Int32) (μ : Mm) : Option (Mm) :=
  bd (fX2_longest fu a0 v1 μ) fun q1 =>
  lt' (si q1.2 a0 8 q1.1) fun μ2 =>
  bd (fX2_putCode fu a0 (μ2.1 a0 8) (μ2.1 a0 6) μ2) fun μ3 =>
  if v2 = 0 then
    some μ3
  else
    lt' (si μ3 a0 7 ((μ3.1 a0 7) + 1)) fun μ4 =>
    if (μ4.1 a0 7) = (1 <<< ((μ4.1 a0 6) &&& 31)) then
      if (12 : Int32) ≤ (μ4.1 a0 6) then
        some μ4
      else
        lt' (si μ4 a0 6 ((μ4.1 a0 6) + 1)) fun μ5 =>
        some μ5
    else
      some μ4
def fX2_putLongest_L13 (fu : Nat) (a0 : Nat) (v1 : Int32) (t0 : Int32) (μ : Mm) : Option (Mm) :=
  if t0 = 0 then
    fX2_putLongest_L31 fu a0 v1 t0 μ
  else
    gd (ib (μ.1 a0 9) 4096) <|
    bd (fX2_tell a0 (μ.1 (μ.2 a0 1) (μ.1 a0 9).toNatClampNeg) μ) fun μ2 =>
    fX2_putLongest_L31 fu a0 v1 t0 μ2
def fX2_putLongest (fu : Nat) (a0 : Nat) (v1 : Int32) (μ : Mm) : Option (Mm) :=
  if (μ.1 a0 8) = (-1) then
    fX2_putLongest_L13 fu a0 v1 0 μ
  else
    fX2_putLongest_L13 fu a0 v1 1 μ
def fX2_encode_L81 (fu : Nat) (a0 : Nat) (μ : Mm) : Option (Mm) :=
  bd (fX2_putCode fu a0 ((1 <<< ((μ.1 a0 5) &&& 31)) + 1) (μ.1 a0 6) μ) fun μ1 =>
  if (μ1.1 a0 11) ≤ 0 then
    some μ1
  else
    bd (fX0_add (μ1.2 a0 0) (μ1.1 a0 10) μ1) fun μ2 =>
    some μ2
def fX2_encode_L70 (rec39 : Nat → Int32 → Int32 → Mm → Option (Mm)) (fu : Nat) (a0 : Nat) (v1 : Int32) (v3 : Int32) (μ : Mm) : Option (Mm) :=
  bd (fX2_putLongest fu a0 v1 μ) fun μ1 =>
  lt' (v3 + 1) fun x2 =>
  rec39 a0 v1 x2 μ1
def fX2_encode_B39 (rec39 : Nat → Int32 → Int32 → Mm → Option (Mm)) (fu : Nat) (a0 : Nat) (v1 : Int32) (v3 : Int32) (μ : Mm) : Option (Mm) :=
  if v1 ≤ v3 then
    fX2_encode_L81 fu a0 μ
  else
    if v1 ≤ (μ.1 a0 9) then
      fX2_encode_L81 fu a0 μ
    else
      if (μ.1 a0 7) = 4096 then
        bd (fX2_putClear fu a0 (μ.1 a0 6) μ) fun μ1 =>
        fX2_encode_L70 rec39 fu a0 v1 v3 μ1
      else
        fX2_encode_L70 rec39 fu a0 v1 v3 μ
def fX2_encode_L39 (fu : Nat) : Nat → Nat → Int32 → Int32 → Mm → Option (Mm)
  | 0 => fun _ _ _ _ => none
  | n + 1 => fX2_encode_B39 (fX2_encode_L39 fu n) fu
def fX2_encode (fu : Nat) (a0 : Nat) (v1 : Int32) (v2 : Int32) (μ : Mm) : Option (Mm) :=
  lt' (si μ a0 5 v2) fun μ1 =>
  lt' (fX0_clear (μ1.2 a0 0) μ1) fun μ2 =>
  lt' (si μ2 a0 10 0) fun μ3 =>
  lt' (si μ3 a0 11 0) fun μ4 =>
  lt' (si μ4 a0 9 0) fun μ5 =>
  bd (fX2_putClear fu a0 ((μ5.1 a0 5) + 1) μ5) fun μ6 =>
  fX2_encode_L39 fu fu a0 v1 0 μ6
def fX3_fill_B3 (rec3 : Nat → Int32 → Int32 → Int32 → Mm → Option (Mm)) (fu : Nat) (a0 : Nat) (v2 : Int32) (v3 : Int32) (v4 : Int32) (μ : Mm) : Option (Mm) :=
  if v2 ≤ v4 then
    some μ
  else
    gd (ib v4 4096) <|
    lt' (si μ (μ.2 a0 7) v4.toNatClampNeg v3) fun μ1 =>
    lt' (v4 + 1) fun x2 =>
    rec3 a0 v2 v3 x2 μ1
def fX3_fill_L3 (fu : Nat) : Nat → Nat → Int32 → Int32 → Int32 → Mm → Option (Mm)
  | 0 => fun _ _ _ _ _ => none
  | n + 1 => fX3_fill_B3 (fX3_fill_L3 fu n) fu
def fX3_fill (fu : Nat) (a0 : Nat) (v1 : Int32) (v2 : Int32) (v3 : Int32) (μ : Mm) : Option (Mm) :=
  fX3_fill_L3 fu fu a0 v2 v3 v1 μ
def fX3_size (a0 : Nat) (μ : Mm) : Int32 :=
  (μ.1 a0 2) * (μ.1 a0 3)
def fX8_become (a0 : Nat) (v1 : Int32) (v2 : Int32) (v3 : Int32) (v4 : Int32) (μ : Mm) : Option (Mm) :=
  lt' (si μ a0 0 v1) fun μ1 =>
  lt' (si μ1 a0 1 v2) fun μ2 =>
  lt' (si μ2 a0 2 v3) fun μ3 =>
  gd (b01 v4) <|
  lt' (si μ3 a0 3 v4) fun μ4 =>
  some μ4
def fX8_reset (a0 : Nat) (μ : Mm) : Option (Mm) :=
  bd (fX8_become a0 0 (-1) 0 0 μ) fun μ1 =>
  some μ1
def fX3_reset (fu : Nat) (a0 : Nat) (v1 : Int32) (v2 : Int32) (v3 : Int32) (v4 : Int32) (μ : Mm) : Option (Mm) :=
  lt' (si μ a0 0 v1) fun μ1 =>
  lt' (si μ1 a0 1 v2) fun μ2 =>
  lt' (si μ2 a0 2 v3) fun μ3 =>
  lt' (si μ3 a0 3 v4) fun μ4 =>
  bd (fX8_reset (μ4.2 a0 6) μ4) fun μ5 =>
  lt' (fX3_size a0 μ5) fun x6 =>
  bd (fX3_fill fu a0 0 x6 0 μ5) fun μ7 =>
  some μ7
def fX3_covers (a0 : Nat) (v1 : Int32) (v2 : Int32) (μ : Mm) : Int32 :=
  if v1 < (μ.1 a0 0) then
    0
  else
    if ((μ.1 a0 0) + (μ.1 a0 2)) ≤ v1 then
      0
    else
      if v2 < (μ.1 a0 1) then
        0
      else
        if ((μ.1 a0 1) + (μ.1 a0 3)) ≤ v2 then
          0
        else
          1
def fX3_indexAt (a0 : Nat) (v1 : Int32) (v2 : Int32) (μ : Mm) : Option (Int32) :=
  gd (ib ((((v2 - (μ.1 a0 1)) * (μ.1 a0 2)) + v1) - (μ.1 a0 0)) 4096) <|
  some (μ.1 (μ.2 a0 7) ((((v2 - (μ.1 a0 1)) * (μ.1 a0 2)) + v1) - (μ.1 a0 0)).toNatClampNeg)
def fX3_lineOf_B13 (rec13 : Nat → Int32 → Int32 → Int32 → Mm → Option (Int32)) (fu : Nat) (a0 : Nat) (v1 : Int32) (v2 : Int32) (v3 : Int32) (μ : Mm) : Option (Int32) :=
  if (4 : Int32) ≤ v3 then
    some v1
  else
    gd (ib v3 4) <|
    lt' (sT 1 v3.toNatClampNeg) fun x1 =>
    gd (ib v3 4) <|
    lt' (sT 2 v3.toNatClampNeg) fun x2 =>
    lt' (((((μ.1 a0 3) - x1) + (1 <<< (x2 &&& 31))) - 1) >>> (x2 &&& 31)) fun x3 =>
    if x3 ≤ v2 then
      lt' (v2 - x3) fun x4 =>
      lt' (v3 + 1) fun x5 =>
      rec13 a0 v1 x4 x5 μ
    else
      some (x1 + (v2 <<< (x2 &&& 31)))
def fX3_lineOf_L13 (fu : Nat) : Nat → Nat → Int32 → Int32 → Int32 → Mm → Option (Int32)
  | 0 => fun _ _ _ _ _ => none
  | n + 1 => fX3_lineOf_B13 (fX3_lineOf_L13 fu n) fu
def fX3_lineOf (fu : Nat) (a0 : Nat) (v1 : Int32) (μ : Mm) : Option (Int32) :=
  if (μ.1 a0 4) = 0 then
    some v1
  else
    fX3_lineOf_L13 fu fu a0 v1 v1 0 μ
def fX3_fromStreamOrder_B2 (rec2 : Nat → Nat → Int32 → Mm → Option (Mm)) (fu : Nat) (a0 : Nat) (a1 : Nat) (v2 : Int32) (μ : Mm) : Option (Mm) :=
  if (μ.1 a0 3) ≤ v2 then
    some μ
  else
    bd (fX3_lineOf fu a0 v2 μ) fun x1 =>
    gd (cpk (v2 * (μ.1 a0 2)) (x1 * (μ.1 a0 2)) (μ.1 a0 2) 4096 4096) <|
    lt' (sa μ (μ.2 a0 7) (va_cpy (μ.1 a1) (μ.1 (μ.2 a0 7)) (v2 * (μ.1 a0 2)).toNatClampNeg (x1 * (μ.1 a0 2)).toNatClampNeg (μ.1 a0 2).toNatClampNeg)) fun μ2 =>
    lt' (v2 + 1) fun x3 =>
    rec2 a0 a1 x3 μ2
def fX3_fromStreamOrder_L2 (fu : Nat) : Nat → Nat → Nat → Int32 → Mm → Option (Mm)
  | 0 => fun _ _ _ _ => none
  | n + 1 => fX3_fromStreamOrder_B2 (fX3_fromStreamOrder_L2 fu n) fu
def fX3_fromStreamOrder (fu : Nat) (a0 : Nat) (a1 : Nat) (μ : Mm) : Option (Mm) :=
  fX3_fromStreamOrder_L2 fu fu a0 a1 0 μ
def fX3_toStreamOrder_B2 (rec2 : Nat → Nat → Int32 → Mm → Option (Mm)) (fu : Nat) (a0 : Nat) (a1 : Nat) (v2 : Int32) (μ : Mm) : Option (Mm) :=
  if (μ.1 a0 3) ≤ v2 then
    some μ
  else
    bd (fX3_lineOf fu a0 v2 μ) fun x1 =>
    gd (cpk (x1 * (μ.1 a0 2)) (v2 * (μ.1 a0 2)) (μ.1 a0 2) 4096 4096) <|
    lt' (sa μ a1 (va_cpy (μ.1 (μ.2 a0 7)) (μ.1 a1) (x1 * (μ.1 a0 2)).toNatClampNeg (v2 * (μ.1 a0 2)).toNatClampNeg (μ.1 a0 2).toNatClampNeg)) fun μ2 =>
    lt' (v2 + 1) fun x3 =>
    rec2 a0 a1 x3 μ2
def fX3_toStreamOrder_L2 (fu : Nat) : Nat → Nat → Nat → Int32 → Mm → Option (Mm)
  | 0 => fun _ _ _ _ => none
  | n + 1 => fX3_toStreamOrder_B2 (fX3_toStreamOrder_L2 fu n) fu
def fX3_toStreamOrder (fu : Nat) (a0 : Nat) (a1 : Nat) (μ : Mm) : Option (Mm) :=
  fX3_toStreamOrder_L2 fu fu a0 a1 0 μ
def fX7_reset_B7 (rec7 : Nat → Int32 → Int32 → Mm → Option (Mm)) (fu : Nat) (a0 : Nat) (v1 : Int32) (v2 : Int32) (μ : Mm) : Option (Mm) :=
  if v1 ≤ v2 then
    some μ
  else
    gd (ib v2 256) <|
    lt' (si μ (μ.2 a0 0) v2.toNatClampNeg 0) fun μ1 =>
    lt' (v2 + 1) fun x2 =>
    rec7 a0 v1 x2 μ1
def fX7_reset_L7 (fu : Nat) : Nat → Nat → Int32 → Int32 → Mm → Option (Mm)
  | 0 => fun _ _ _ _ => none
  | n + 1 => fX7_reset_B7 (fX7_reset_L7 fu n) fu
def fX7_reset (fu : Nat) (a0 : Nat) (v1 : Int32) (μ : Mm) : Option (Mm) :=
  lt' (si μ a0 1 v1) fun μ1 =>
  fX7_reset_L7 fu fu a0 v1 0 μ1
def fX4_reset (fu : Nat) (a0 : Nat) (v1 : Int32) (v2 : Int32) (v3 : Int32) (v4 : Int32) (v5 : Int32) (μ : Mm) : Option (Mm) :=
  lt' (si μ a0 0 v1) fun μ1 =>
  lt' (si μ1 a0 1 v2) fun μ2 =>
  lt' (si μ2 a0 2 v4) fun μ3 =>
  lt' (si μ3 a0 3 v5) fun μ4 =>
  lt' (si μ4 a0 4 0) fun μ5 =>
  bd (fX7_reset fu (μ5.2 a0 5) v3 μ5) fun μ6 =>
  some μ6
def fX4_hasRoom (a0 : Nat) (μ : Mm) : Int32 :=
  if (24 : Int32) ≤ (μ.1 a0 4) then
    0
  else
    1
def fX4_holds (a0 : Nat) (v1 : Int32) (v2 : Int32) (v3 : Int32) (v4 : Int32) (μ : Mm) : Int32 :=
  if v3 < 1 then
    0
  else
    if (μ.1 a0 0) < v3 then
      0
    else
      if v1 < 0 then
        0
      else
        if ((μ.1 a0 0) - v3) < v1 then
          0
        else
          if v4 < 1 then
            0
          else
            if (μ.1 a0 1) < v4 then
              0
            else
              if v2 < 0 then
                0
              else
                if ((μ.1 a0 1) - v4) < v2 then
                  0
                else
                  1
def fX4_givesTable (a0 : Nat) (v1 : Int32) (μ : Mm) : Int32 :=
  if v1 = 0 then
    if (μ.1 (μ.2 a0 5) 1) = 0 then
      0
    else
      1
  else
    1
def fX4_frameAt (a0 : Nat) (v1 : Int32) (μ : Mm) : Option (Option Nat) :=
  if v1 < 0 then
    some none
  else
    if (μ.1 a0 4) ≤ v1 then
      some none
    else
      gd (ib v1 24) <|
      some (some (μ.2 (μ.2 a0 6) v1.toNatClampNeg))
def fX4_tableOf (a0 : Nat) (a1 : Nat) (μ : Mm) : Nat :=
  if (μ.1 (μ.2 a1 5) 1) = 0 then
    μ.2 a0 5
  else
    μ.2 a1 5
def fX4_addFrame (fu : Nat) (a0 : Nat) (v1 : Int32) (v2 : Int32) (v3 : Int32) (v4 : Int32) (v5 : Int32) (v6 : Int32) (μ : Mm) : Option (Nat × Mm) :=
  gd (ib (μ.1 a0 4) 24) <|
  lt' (μ.2 (μ.2 a0 6) (μ.1 a0 4).toNatClampNeg) fun r2 =>
  bd (fX3_reset fu r2 v1 v2 v3 v4 μ) fun μ3 =>
  bd (fX7_reset fu (μ3.2 r2 5) v5 μ3) fun μ4 =>
  gd (b01 v6) <|
  lt' (si μ4 r2 4 v6) fun μ5 =>
  lt' (si μ5 a0 4 ((μ5.1 a0 4) + 1)) fun μ6 =>
  some (r2, μ6)
def fX4_shown (a0 : Nat) (a1 : Nat) (v2 : Int32) (v3 : Int32) (v4 : Int32) (μ : Mm) : Option (Int32) :=
  lt' (fX3_covers a1 v2 v3 μ) fun x1 =>
  if x1 = 0 then
    some v4
  else
    bd (fX3_indexAt a1 v2 v3 μ) fun x2 =>
    if x2 = (μ.1 (μ.2 a1 6) 1) then
      some v4
    else
      lt' (fX4_tableOf a0 a1 μ) fun r3 =>
      gd (ib x2 256) <|
      some (μ.1 (μ.2 r3 0) x2.toNatClampNeg)
def fX4_leftBehind (a0 : Nat) (a1 : Nat) (v2 : Int32) (v3 : Int32) (v4 : Int32) (v5 : Int32) (μ : Mm) : Option (Int32) :=
  lt' (fX3_covers a1 v2 v3 μ) fun x1 =>
  if x1 = 0 then
    some v4
  else
    if (μ.1 (μ.2 a1 6) 0) = 3 then
      some v4
    else
      if (μ.1 (μ.2 a1 6) 0) = 2 then
        some v5
      else
        bd (fX4_shown a0 a1 v2 v3 v4 μ) fun x2 =>
        some x2
def fX7_has (a0 : Nat) (v1 : Int32) (μ : Mm) : Int32 :=
  if v1 < 0 then
    0
  else
    if (μ.1 a0 1) ≤ v1 then
      0
    else
      1
def fX4_colourAt_B39 (rec39 : Nat → Int32 → Int32 → Int32 → Int32 → Int32 → Int32 → Mm → Option (Int32)) (fu : Nat) (a0 : Nat) (v1 : Int32) (v2 : Int32) (v3 : Int32) (v4 : Int32) (v5 : Int32) (v6 : Int32) (μ : Mm) : Option (Int32) :=
  if v1 ≤ v6 then
    gd (ib v1 24) <|
    bd (fX4_shown a0 (μ.2 (μ.2 a0 6) v1.toNatClampNeg) v2 v3 v5 μ) fun x2 =>
    some x2
  else
    gd (ib v6 24) <|
    bd (fX4_leftBehind a0 (μ.2 (μ.2 a0 6) v6.toNatClampNeg) v2 v3 v5 v4 μ) fun x4 =>
    lt' (v6 + 1) fun x5 =>
    rec39 a0 v1 v2 v3 v4 x4 x5 μ
def fX4_colourAt_L39 (fu : Nat) : Nat → Nat → Int32 → Int32 → Int32 → Int32 → Int32 → Int32 → Mm → Option (Int32)
  | 0 => fun _ _ _ _ _ _ _ _ => none
  | n + 1 => fX4_colourAt_B39 (fX4_colourAt_L39 fu n) fu
def fX4_colourAt_L30 (fu : Nat) (a0 : Nat) (v1 : Int32) (v2 : Int32) (v3 : Int32) (t0 : Int32) (μ : Mm) : Option (Int32) :=
  fX4_colourAt_L39 fu fu a0 v1 v2 v3 t0 t0 0 μ
def fX4_colourAt (fu : Nat) (a0 : Nat) (v1 : Int32) (v2 : Int32) (v3 : Int32) (μ : Mm) : Option (Int32) :=
  lt' (fX7_has (μ.2 a0 5) (μ.1 a0 2) μ) fun x1 =>
  if x1 = 0 then
    fX4_colourAt_L30 fu a0 v1 v2 v3 (-1) μ
  else
    gd (ib (μ.1 a0 2) 256) <|
    fX4_colourAt_L30 fu a0 v1 v2 v3 (μ.1 (μ.2 (μ.2 a0 5) 0) (μ.1 a0 2).toNatClampNeg) μ
def fX5_exchange (a0 : Nat) (a1 : Nat) (μ : Mm) : Nat × Mm :=
  lt' (μ.2 a0 3) fun r1 =>
  lt' (sr μ a0 3 a1) fun μ2 =>
  (r1, μ2)
def fX5_dropControl (a0 : Nat) (μ : Mm) : Option (Mm) :=
  bd (fX8_reset (μ.2 a0 2) μ) fun μ1 =>
  lt' (si μ1 a0 7 0) fun μ2 =>
  some μ2
def fX5_refuse (a0 : Nat) (v1 : Int32) (v2 : Int32) (μ : Mm) : Mm :=
  if (μ.1 a0 9) = 0 then
    lt' (si μ a0 9 v1) fun μ1 =>
    lt' (si μ1 a0 10 v2) fun μ2 =>
    μ2
  else
    μ
def fX5_nextByte_L20 (a0 : Nat) (μ : Mm) : Option (Int32 × Mm) :=
  if (μ.1 a0 9) = 0 then
    lt' (si μ a0 5 ((μ.1 a0 5) + 1)) fun μ1 =>
    bd (fX0_at (μ1.2 a0 0) ((μ1.1 a0 5) - 1) μ1) fun x2 =>
    some (x2, μ1)
  else
    some (0, μ)
def fX5_nextByte (a0 : Nat) (μ : Mm) : Option (Int32 × Mm) :=
  if (μ.1 a0 5) < (μ.1 a0 4) then
    fX5_nextByte_L20 a0 μ
  else
    lt' (fX5_refuse a0 2 (μ.1 a0 4) μ) fun μ1 =>
    fX5_nextByte_L20 a0 μ1
def fX5_parseEnd (a0 : Nat) (μ : Mm) : Mm :=
  lt' (si μ a0 8 1) fun μ1 =>
  if (μ1.1 a0 4) ≤ (μ1.1 a0 5) then
    μ1
  else
    lt' (fX5_refuse a0 10 (μ1.1 a0 5) μ1) fun μ2 =>
    μ2
def fX5_expect (a0 : Nat) (v1 : Int32) (μ : Mm) : Option (Mm) :=
  lt' (μ.1 a0 5) fun x1 =>
  bd (fX5_nextByte a0 μ) fun q2 =>
  if q2.1 = v1 then
    some q2.2
  else
    lt' (fX5_refuse a0 5 x1 q2.2) fun μ3 =>
    some μ3
def fX5_gatherRows_B39 (rec12 : Nat → Int32 → Mm → Option (Mm)) (rec39 : Nat → Int32 → Int32 → Int32 → Mm → Option (Mm)) (fu : Nat) (a0 : Nat) (v1 : Int32) (v2 : Int32) (v3 : Int32) (μ : Mm) : Option (Mm) :=
  if v2 ≤ v3 then
    lt' (v1 + 1) fun x1 =>
    rec12 a0 x1 μ
  else
    bd (fX5_nextByte a0 μ) fun q2 =>
    bd (fX0_add (μ.2 (μ.2 a0 1) 0) q2.1 q2.2) fun μ3 =>
    lt' (v3 + 1) fun x4 =>
    rec39 a0 v1 v2 x4 μ3
def fX5_gatherRows_L39 (rec12 : Nat → Int32 → Mm → Option (Mm)) (fu : Nat) : Nat → Nat → Int32 → Int32 → Int32 → Mm → Option (Mm)
  | 0 => fun _ _ _ _ _ => none
  | n + 1 => fX5_gatherRows_B39 rec12 (fX5_gatherRows_L39 rec12 fu n) fu
def fX5_gatherRows_B12 (rec12 : Nat → Int32 → Mm → Option (Mm)) (fu : Nat) (a0 : Nat) (v1 : Int32) (μ : Mm) : Option (Mm) :=
  if (μ.1 a0 4) < v1 then
    some μ
  else
    if (μ.1 a0 9) = 0 then
      bd (fX5_nextByte a0 μ) fun q1 =>
      lt' q1.1 fun x2 =>
      if x2 = 0 then
        some q1.2
      else
        fX5_gatherRows_L39 rec12 fu fu a0 v1 x2 0 q1.2
    else
      some μ
def fX5_gatherRows_L12 (fu : Nat) : Nat → Nat → Int32 → Mm → Option (Mm)
  | 0 => fun _ _ _ => none
  | n + 1 => fX5_gatherRows_B12 (fX5_gatherRows_L12 fu n) fu
def fX5_gatherRows (fu : Nat) (a0 : Nat) (μ : Mm) : Option (Mm) :=
  lt' (fX0_clear (μ.2 (μ.2 a0 1) 0) μ) fun μ1 =>
  fX5_gatherRows_L12 fu fu a0 0 μ1
def fX5_nextNumber (a0 : Nat) (μ : Mm) : Option (Int32 × Mm) :=
  bd (fX5_nextByte a0 μ) fun q1 =>
  lt' q1.1 fun x2 =>
  bd (fX5_nextByte a0 q1.2) fun q3 =>
  some (x2 + (q3.1 <<< (8 &&& 31)), q3.2)
def fX5_parseControl_L62 (a0 : Nat) (o0 : Nat) (t1 : Int32) (t2 : Int32) (t3 : Int32) (t4 : Int32) (μ : Mm) : Option (Mm) :=
  bd (fX8_become o0 t1 t2 t3 t4 μ) fun μ1 =>
  lt' (si μ1 a0 7 1) fun μ2 =>
  some μ2
def fX5_parseControl_L36 (a0 : Nat) (v1 : Int32) (v2 : Int32) (t0 : Int32) (μ : Mm) : Option (Mm) :=
  if (v1 &&& 2) = 0 then
    fX5_parseControl_L62 a0 (μ.2 a0 2) ((v1 >>> (2 &&& 31)) &&& 7) t0 v2 0 μ
  else
    fX5_parseControl_L62 a0 (μ.2 a0 2) ((v1 >>> (2 &&& 31)) &&& 7) t0 v2 1 μ
def fX5_parseControl (a0 : Nat) (μ : Mm) : Option (Mm) :=
  bd (fX5_expect a0 4 μ) fun μ1 =>
  bd (fX5_nextByte a0 μ1) fun q2 =>
  lt' q2.1 fun x3 =>
  bd (fX5_nextNumber a0 q2.2) fun q4 =>
  lt' q4.1 fun x5 =>
  bd (fX5_nextByte a0 q4.2) fun q6 =>
  lt' q6.1 fun x7 =>
  bd (fX5_expect a0 0 q6.2) fun μ8 =>
  if (x3 &&& 1) = 0 then
    fX5_parseControl_L36 a0 x3 x5 (-1) μ8
  else
    fX5_parseControl_L36 a0 x3 x5 x7 μ8
def fX5_skip_B2 (rec2 : Nat → Int32 → Int32 → Mm → Option (Mm)) (fu : Nat) (a0 : Nat) (v1 : Int32) (v2 : Int32) (μ : Mm) : Option (Mm) :=
  if v1 ≤ v2 then
    some μ
  else
    bd (fX5_nextByte a0 μ) fun q1 =>
    lt' (v2 + 1) fun x2 =>
    rec2 a0 v1 x2 q1.2
def fX5_skip_L2 (fu : Nat) : Nat → Nat → Int32 → Int32 → Mm → Option (Mm)
  | 0 => fun _ _ _ _ => none
  | n + 1 => fX5_skip_B2 (fX5_skip_L2 fu n) fu
def fX5_skip (fu : Nat) (a0 : Nat) (v1 : Int32) (μ : Mm) : Option (Mm) :=
  fX5_skip_L2 fu fu a0 v1 0 μ
def fX5_parseExtension_L113 (fu : Nat) (a0 : Nat) (v1 : Int32) (μ : Mm) : Option (Mm) :=
  lt' (fX5_refuse a0 4 v1 μ) fun μ1 =>
  some μ1
def fX5_parseExtension_L80 (fu : Nat) (a0 : Nat) (v1 : Int32) (v2 : Int32) (μ : Mm) : Option (Mm) :=
  if v2 = 255 then
    if (μ.1 a0 7) = 0 then
      bd (fX5_expect a0 11 μ) fun μ1 =>
      bd (fX5_skip fu a0 11 μ1) fun μ2 =>
      bd (fX5_gatherRows fu a0 μ2) fun μ3 =>
      some μ3
    else
      fX5_parseExtension_L113 fu a0 v1 μ
  else
    fX5_parseExtension_L113 fu a0 v1 μ
def fX5_parseExtension_L59 (fu : Nat) (a0 : Nat) (v1 : Int32) (v2 : Int32) (μ : Mm) : Option (Mm) :=
  if v2 = 254 then
    if (μ.1 a0 7) = 0 then
      bd (fX5_gatherRows fu a0 μ) fun μ1 =>
      some μ1
    else
      fX5_parseExtension_L80 fu a0 v1 v2 μ
  else
    fX5_parseExtension_L80 fu a0 v1 v2 μ
def fX5_parseExtension (fu : Nat) (a0 : Nat) (μ : Mm) : Option (Mm) :=
  lt' (μ.1 a0 5) fun x1 =>
  bd (fX5_nextByte a0 μ) fun q2 =>
  lt' q2.1 fun x3 =>
  if x3 = 1 then
    bd (fX5_expect a0 12 q2.2) fun μ5 =>
    bd (fX5_skip fu a0 12 μ5) fun μ6 =>
    bd (fX5_gatherRows fu a0 μ6) fun μ7 =>
    bd (fX5_dropControl a0 μ7) fun μ8 =>
    some μ8
  else
    if x3 = 249 then
      if (q2.2.1 a0 7) = 0 then
        bd (fX5_parseControl a0 q2.2) fun μ4 =>
        some μ4
      else
        fX5_parseExtension_L59 fu a0 x1 x3 q2.2
    else
      fX5_parseExtension_L59 fu a0 x1 x3 q2.2
def fX5_parseTable_B2 (rec2 : Nat → Nat → Int32 → Mm → Option (Mm)) (fu : Nat) (a0 : Nat) (a1 : Nat) (v2 : Int32) (μ : Mm) : Option (Mm) :=
  if (μ.1 a1 1) ≤ v2 then
    some μ
  else
    bd (fX5_nextByte a0 μ) fun q1 =>
    lt' q1.1 fun x2 =>
    bd (fX5_nextByte a0 q1.2) fun q3 =>
    lt' q3.1 fun x4 =>
    bd (fX5_nextByte a0 q3.2) fun q5 =>
    lt' q5.1 fun x6 =>
    gd (ib v2 256) <|
    lt' (si q5.2 (q5.2.2 a1 0) v2.toNatClampNeg (((x2 <<< (16 &&& 31)) ||| (x4 <<< (8 &&& 31))) ||| x6)) fun μ7 =>
    lt' (v2 + 1) fun x8 =>
    rec2 a0 a1 x8 μ7
def fX5_parseTable_L2 (fu : Nat) : Nat → Nat → Nat → Int32 → Mm → Option (Mm)
  | 0 => fun _ _ _ _ => none
  | n + 1 => fX5_parseTable_B2 (fX5_parseTable_L2 fu n) fu
def fX5_parseTable (fu : Nat) (a0 : Nat) (a1 : Nat) (μ : Mm) : Option (Mm) :=
  fX5_parseTable_L2 fu fu a0 a1 0 μ
def fX7_sizeByMark (v0 : Int32) : Int32 :=
  if (v0 &&& 128) = 0 then
    0
  else
    2 <<< ((v0 &&& 7) &&& 31)
def fX8_copyFrom (a0 : Nat) (a1 : Nat) (μ : Mm) : Option (Mm) :=
  bd (fX8_become a0 (μ.1 a1 0) (μ.1 a1 1) (μ.1 a1 2) (μ.1 a1 3) μ) fun μ1 =>
  some μ1
def fX5_parseFrame_L121 (fu : Nat) (a0 : Nat) (o0 : Nat) (t1 : Int32) (t2 : Int32) (t3 : Int32) (t4 : Int32) (t5 : Int32) (t6 : Int32) (μ : Mm) : Option (Option Nat × Mm) :=
  bd (fX4_addFrame fu o0 t1 t2 t3 t4 t5 t6 μ) fun q1 =>
  lt' q1.1 fun r2 =>
  bd (fX8_copyFrom (q1.2.2 r2 6) (q1.2.2 a0 2) q1.2) fun μ3 =>
  bd (fX5_dropControl a0 μ3) fun μ4 =>
  bd (fX5_parseTable fu a0 (μ4.2 r2 5) μ4) fun μ5 =>
  some ((some r2), μ5)
def fX5_parseFrame_L87 (fu : Nat) (a0 : Nat) (v2 : Int32) (v3 : Int32) (v4 : Int32) (v5 : Int32) (v6 : Int32) (v7 : Int32) (μ : Mm) : Option (Option Nat × Mm) :=
  if (μ.1 a0 9) = 0 then
    if (v6 &&& 64) = 0 then
      fX5_parseFrame_L121 fu a0 (μ.2 a0 3) v2 v3 v4 v5 v7 0 μ
    else
      fX5_parseFrame_L121 fu a0 (μ.2 a0 3) v2 v3 v4 v5 v7 1 μ
  else
    some (none, μ)
def fX5_parseFrame_L55 (fu : Nat) (a0 : Nat) (v1 : Int32) (v2 : Int32) (v3 : Int32) (v4 : Int32) (v5 : Int32) (μ : Mm) : Option (Option Nat × Mm) :=
  bd (fX5_nextByte a0 μ) fun q1 =>
  lt' q1.1 fun x2 =>
  lt' (fX7_sizeByMark x2) fun x3 =>
  lt' (fX4_givesTable (q1.2.2 a0 3) x3 q1.2) fun x4 =>
  if x4 = 0 then
    lt' (fX5_refuse a0 7 v1 q1.2) fun μ5 =>
    fX5_parseFrame_L87 fu a0 v2 v3 v4 v5 x2 x3 μ5
  else
    fX5_parseFrame_L87 fu a0 v2 v3 v4 v5 x2 x3 q1.2
def fX5_parseFrame_L48 (fu : Nat) (a0 : Nat) (v1 : Int32) (v2 : Int32) (v3 : Int32) (v4 : Int32) (v5 : Int32) (μ : Mm) : Option (Option Nat × Mm) :=
  lt' (fX5_refuse a0 6 v1 μ) fun μ1 =>
  fX5_parseFrame_L55 fu a0 v1 v2 v3 v4 v5 μ1
def fX5_parseFrame (fu : Nat) (a0 : Nat) (v1 : Int32) (μ : Mm) : Option (Option Nat × Mm) :=
  bd (fX5_nextNumber a0 μ) fun q1 =>
  lt' q1.1 fun x2 =>
  bd (fX5_nextNumber a0 q1.2) fun q3 =>
  lt' q3.1 fun x4 =>
  bd (fX5_nextNumber a0 q3.2) fun q5 =>
  lt' q5.1 fun x6 =>
  bd (fX5_nextNumber a0 q5.2) fun q7 =>
  lt' q7.1 fun x8 =>
  lt' (fX4_hasRoom (q7.2.2 a0 3) q7.2) fun x9 =>
  if x9 = 0 then
    fX5_parseFrame_L48 fu a0 v1 x2 x4 x6 x8 q7.2
  else
    lt' (fX4_holds (q7.2.2 a0 3) x2 x4 x6 x8 q7.2) fun x10 =>
    if x10 = 0 then
      fX5_parseFrame_L48 fu a0 v1 x2 x4 x6 x8 q7.2
    else
      fX5_parseFrame_L55 fu a0 v1 x2 x4 x6 x8 q7.2
def fX5_parseImage_L37 (fu : Nat) (a0 : Nat) (n2 : Option Nat) (v3 : Int32) (v4 : Int32) (μ : Mm) : Option (Mm) :=
  bd (fX5_gatherRows fu a0 μ) fun μ1 =>
  if (μ1.1 a0 9) = 0 then
    oc n2 (
      some μ1) (fun b2 =>
      lt' (fX3_size b2 μ1) fun x3 =>
      lt' (fX4_tableOf (μ1.2 a0 3) b2 μ1) fun r4 =>
      bd (fX1_decode fu (μ1.2 a0 1) v4 x3 (μ1.1 r4 1) μ1) fun q5 =>
      if q5.1 = 0 then
        lt' (fX5_refuse a0 9 v3 q5.2) fun μ6 =>
        some μ6
      else
        bd (fX3_fromStreamOrder fu b2 (q5.2.2 (q5.2.2 a0 1) 1) q5.2) fun μ7 =>
        some μ7)
  else
    some μ1
def fX5_parseImage_L30 (fu : Nat) (a0 : Nat) (n2 : Option Nat) (v3 : Int32) (v4 : Int32) (μ : Mm) : Option (Mm) :=
  lt' (fX5_refuse a0 8 v3 μ) fun μ1 =>
  fX5_parseImage_L37 fu a0 n2 v3 v4 μ1
def fX5_parseImage (fu : Nat) (a0 : Nat) (v1 : Int32) (μ : Mm) : Option (Mm) :=
  bd (fX5_parseFrame fu a0 v1 μ) fun q1 =>
  lt' q1.1 fun n2 =>
  lt' (q1.2.1 a0 5) fun x3 =>
  bd (fX5_nextByte a0 q1.2) fun q4 =>
  lt' q4.1 fun x5 =>
  if x5 < 2 then
    fX5_parseImage_L30 fu a0 n2 x3 x5 q4.2
  else
    if x5 ≤ 8 then
      fX5_parseImage_L37 fu a0 n2 x3 x5 q4.2
    else
      fX5_parseImage_L30 fu a0 n2 x3 x5 q4.2
def fX5_parseBlock_L64 (fu : Nat) (a0 : Nat) (v1 : Int32) (μ : Mm) : Option (Mm) :=
  lt' (fX5_refuse a0 4 v1 μ) fun μ1 =>
  some μ1
def fX5_parseBlock_L44 (fu : Nat) (a0 : Nat) (v1 : Int32) (v2 : Int32) (μ : Mm) : Option (Mm) :=
  if v2 = 59 then
    if (μ.1 a0 7) = 0 then
      lt' (fX5_parseEnd a0 μ) fun μ1 =>
      some μ1
    else
      fX5_parseBlock_L64 fu a0 v1 μ
  else
    fX5_parseBlock_L64 fu a0 v1 μ
def fX5_parseBlock (fu : Nat) (a0 : Nat) (μ : Mm) : Option (Mm) :=
  lt' (μ.1 a0 5) fun x1 =>
  bd (fX5_nextByte a0 μ) fun q2 =>
  lt' q2.1 fun x3 =>
  if x3 = 44 then
    bd (fX5_parseImage fu a0 x1 q2.2) fun μ5 =>
    some μ5
  else
    if x3 = 33 then
      if (q2.2.1 a0 6) = 0 then
        bd (fX5_parseExtension fu a0 q2.2) fun μ4 =>
        some μ4
      else
        fX5_parseBlock_L44 fu a0 x1 x3 q2.2
    else
      fX5_parseBlock_L44 fu a0 x1 x3 q2.2
def fX9_isSide (v0 : Int32) : Int32 :=
  if v0 < 1 then
    0
  else
    if (64 : Int32) < v0 then
      0
    else
      1
def fX5_parseScreen_L38 (fu : Nat) (a0 : Nat) (v1 : Int32) (v2 : Int32) (μ : Mm) : Option (Mm) :=
  bd (fX5_nextByte a0 μ) fun q1 =>
  lt' q1.1 fun x2 =>
  bd (fX5_nextByte a0 q1.2) fun q3 =>
  lt' q3.1 fun x4 =>
  bd (fX5_nextByte a0 q3.2) fun q5 =>
  lt' q5.1 fun x6 =>
  if (q5.2.1 a0 9) = 0 then
    lt' (fX7_sizeByMark x2) fun x7 =>
    bd (fX4_reset fu (q5.2.2 a0 3) v1 v2 x7 x4 x6 q5.2) fun μ8 =>
    bd (fX5_parseTable fu a0 (μ8.2 (μ8.2 a0 3) 5) μ8) fun μ9 =>
    some μ9
  else
    some q5.2
def fX5_parseScreen_L19 (fu : Nat) (a0 : Nat) (v1 : Int32) (μ : Mm) : Option (Mm) :=
  bd (fX5_nextNumber a0 μ) fun q1 =>
  lt' q1.1 fun x2 =>
  lt' (fX9_isSide x2) fun x3 =>
  if x3 = 0 then
    lt' (fX5_refuse a0 3 8 q1.2) fun μ4 =>
    fX5_parseScreen_L38 fu a0 v1 x2 μ4
  else
    fX5_parseScreen_L38 fu a0 v1 x2 q1.2
def fX5_parseScreen (fu : Nat) (a0 : Nat) (μ : Mm) : Option (Mm) :=
  bd (fX5_nextNumber a0 μ) fun q1 =>
  lt' q1.1 fun x2 =>
  lt' (fX9_isSide x2) fun x3 =>
  if x3 = 0 then
    lt' (fX5_refuse a0 3 6 q1.2) fun μ4 =>
    fX5_parseScreen_L19 fu a0 x2 μ4
  else
    fX5_parseScreen_L19 fu a0 x2 q1.2
def fX5_parseStart_L61 (rec2 : Nat → Int32 → Mm → Option (Mm)) (fu : Nat) (a0 : Nat) (v1 : Int32) (o0 : Nat) (μ : Mm) : Option (Mm) :=
  lt' (si μ o0 6 1) fun μ1 =>
  lt' (v1 + 1) fun x2 =>
  rec2 a0 x2 μ1
def fX5_parseStart_L49 (rec2 : Nat → Int32 → Mm → Option (Mm)) (fu : Nat) (a0 : Nat) (v1 : Int32) (v3 : Int32) (μ : Mm) : Option (Mm) :=
  if (μ.1 a0 6) = 0 then
    if v3 = 0 then
      lt' (si μ a0 6 0) fun μ1 =>
      lt' (v1 + 1) fun x2 =>
      rec2 a0 x2 μ1
    else
      fX5_parseStart_L61 rec2 fu a0 v1 a0 μ
  else
    fX5_parseStart_L61 rec2 fu a0 v1 a0 μ
def fX5_parseStart_L29 (rec2 : Nat → Int32 → Mm → Option (Mm)) (fu : Nat) (a0 : Nat) (v1 : Int32) (v2 : Int32) (t0 : Int32) (μ : Mm) : Option (Mm) :=
  gd (ib v1 6) <|
  if v2 = (sT 0 v1.toNatClampNeg) then
    fX5_parseStart_L49 rec2 fu a0 v1 t0 μ
  else
    if t0 = 0 then
      lt' (fX5_refuse a0 1 0 μ) fun μ1 =>
      fX5_parseStart_L49 rec2 fu a0 v1 t0 μ1
    else
      fX5_parseStart_L49 rec2 fu a0 v1 t0 μ
def fX5_parseStart_L28 (rec2 : Nat → Int32 → Mm → Option (Mm)) (fu : Nat) (a0 : Nat) (v1 : Int32) (v2 : Int32) (μ : Mm) : Option (Mm) :=
  fX5_parseStart_L29 rec2 fu a0 v1 v2 0 μ
def fX5_parseStart_B2 (rec2 : Nat → Int32 → Mm → Option (Mm)) (fu : Nat) (a0 : Nat) (v1 : Int32) (μ : Mm) : Option (Mm) :=
  if (6 : Int32) ≤ v1 then
    some μ
  else
    bd (fX5_nextByte a0 μ) fun q1 =>
    lt' q1.1 fun x2 =>
    if v1 = 4 then
      if x2 = 55 then
        fX5_parseStart_L29 rec2 fu a0 v1 x2 1 q1.2
      else
        fX5_parseStart_L28 rec2 fu a0 v1 x2 q1.2
    else
      fX5_parseStart_L28 rec2 fu a0 v1 x2 q1.2
def fX5_parseStart_L2 (fu : Nat) : Nat → Nat → Int32 → Mm → Option (Mm)
  | 0 => fun _ _ _ => none
  | n + 1 => fX5_parseStart_B2 (fX5_parseStart_L2 fu n) fu
def fX5_parseStart (fu : Nat) (a0 : Nat) (μ : Mm) : Option (Mm) :=
  fX5_parseStart_L2 fu fu a0 0 μ
def fX5_parse_B54 (rec54 : Nat → Int32 → Mm → Option (Mm)) (fu : Nat) (a0 : Nat) (v2 : Int32) (μ : Mm) : Option (Mm) :=
  if (μ.1 a0 4) < v2 then
    some μ
  else
    if (μ.1 a0 9) = 0 then
      if (μ.1 a0 8) = 0 then
        bd (fX5_parseBlock fu a0 μ) fun μ1 =>
        lt' (v2 + 1) fun x2 =>
        rec54 a0 x2 μ1
      else
        some μ
    else
      some μ
def fX5_parse_L54 (fu : Nat) : Nat → Nat → Int32 → Mm → Option (Mm)
  | 0 => fun _ _ _ => none
  | n + 1 => fX5_parse_B54 (fX5_parse_L54 fu n) fu
def fX5_parse (fu : Nat) (a0 : Nat) (v1 : Int32) (μ : Mm) : Option (Mm) :=
  lt' (si μ a0 4 (mmin v1 (μ.1 (μ.2 a0 0) 1))) fun μ1 =>
  lt' (si μ1 a0 5 0) fun μ2 =>
  lt' (si μ2 a0 6 0) fun μ3 =>
  lt' (si μ3 a0 8 0) fun μ4 =>
  lt' (si μ4 a0 9 0) fun μ5 =>
  lt' (si μ5 a0 10 (-1)) fun μ6 =>
  bd (fX5_dropControl a0 μ6) fun μ7 =>
  bd (fX5_parseStart fu a0 μ7) fun μ8 =>
  bd (fX5_parseScreen fu a0 μ8) fun μ9 =>
  fX5_parse_L54 fu fu a0 0 μ9
def fX6_exchange (a0 : Nat) (a1 : Nat) (μ : Mm) : Nat × Mm :=
  lt' (μ.2 a0 1) fun r1 =>
  lt' (sr μ a0 1 a1) fun μ2 =>
  (r1, μ2)
def fX6_putControl_L104 (a0 : Nat) (o0 : Nat) (t1 : Int32) (μ : Mm) : Option (Mm) :=
  bd (fX0_add o0 t1 μ) fun μ1 =>
  bd (fX0_add (μ1.2 a0 1) 0 μ1) fun μ2 =>
  some μ2
def fX6_putControl_L73 (a0 : Nat) (a1 : Nat) (v2 : Int32) (o0 : Nat) (t1 : Int32) (t2 : Int32) (μ : Mm) : Option (Mm) :=
  bd (fX0_add o0 (t1 ||| t2) μ) fun μ1 =>
  bd (fX0_addTwo (μ1.2 a0 1) (μ1.1 a1 2) μ1) fun μ2 =>
  if v2 = 0 then
    fX6_putControl_L104 a0 (μ2.2 a0 1) (μ2.1 a1 1) μ2
  else
    fX6_putControl_L104 a0 (μ2.2 a0 1) 0 μ2
def fX6_putControl_L63 (a0 : Nat) (a1 : Nat) (v2 : Int32) (o0 : Nat) (t1 : Int32) (t2 : Int32) (μ : Mm) : Option (Mm) :=
  if v2 = 0 then
    fX6_putControl_L73 a0 a1 v2 o0 (t1 ||| t2) 1 μ
  else
    fX6_putControl_L73 a0 a1 v2 o0 (t1 ||| t2) 0 μ
def fX6_putControl_L13 (a0 : Nat) (a1 : Nat) (t0 : Int32) (μ : Mm) : Option (Mm) :=
  bd (fX0_add (μ.2 a0 1) 33 μ) fun μ1 =>
  bd (fX0_add (μ1.2 a0 1) 249 μ1) fun μ2 =>
  bd (fX0_add (μ2.2 a0 1) 4 μ2) fun μ3 =>
  if (μ3.1 a1 3) = 0 then
    fX6_putControl_L63 a0 a1 t0 (μ3.2 a0 1) ((μ3.1 a1 0) <<< (2 &&& 31)) 0 μ3
  else
    fX6_putControl_L63 a0 a1 t0 (μ3.2 a0 1) ((μ3.1 a1 0) <<< (2 &&& 31)) 2 μ3
def fX6_putControl (a0 : Nat) (a1 : Nat) (μ : Mm) : Option (Mm) :=
  if (μ.1 a1 1) = (-1) then
    fX6_putControl_L13 a0 a1 1 μ
  else
    fX6_putControl_L13 a0 a1 0 μ
def fX6_putRows_B42 (rec10 : Nat → Nat → Int32 → Mm → Option (Mm)) (rec42 : Nat → Nat → Int32 → Int32 → Int32 → Mm → Option (Mm)) (fu : Nat) (a0 : Nat) (a1 : Nat) (v2 : Int32) (v3 : Int32) (v4 : Int32) (μ : Mm) : Option (Mm) :=
  if v3 ≤ v4 then
    lt' (v2 + 255) fun x1 =>
    rec10 a0 a1 x1 μ
  else
    bd (fX0_at a1 (v2 + v4) μ) fun x2 =>
    bd (fX0_add (μ.2 a0 1) x2 μ) fun μ3 =>
    lt' (v4 + 1) fun x4 =>
    rec42 a0 a1 v2 v3 x4 μ3
def fX6_putRows_L42 (rec10 : Nat → Nat → Int32 → Mm → Option (Mm)) (fu : Nat) : Nat → Nat → Nat → Int32 → Int32 → Int32 → Mm → Option (Mm)
  | 0 => fun _ _ _ _ _ _ => none
  | n + 1 => fX6_putRows_B42 rec10 (fX6_putRows_L42 rec10 fu n) fu
def fX6_putRows_B10 (rec10 : Nat → Nat → Int32 → Mm → Option (Mm)) (fu : Nat) (a0 : Nat) (a1 : Nat) (v2 : Int32) (μ : Mm) : Option (Mm) :=
  if (μ.1 a1 1) ≤ v2 then
    bd (fX0_add (μ.2 a0 1) 0 μ) fun μ1 =>
    some μ1
  else
    lt' (mmin (255 : Int32) ((μ.1 a1 1) - v2)) fun x2 =>
    bd (fX0_add (μ.2 a0 1) x2 μ) fun μ3 =>
    fX6_putRows_L42 rec10 fu fu a0 a1 v2 x2 0 μ3
def fX6_putRows_L10 (fu : Nat) : Nat → Nat → Nat → Int32 → Mm → Option (Mm)
  | 0 => fun _ _ _ _ => none
  | n + 1 => fX6_putRows_B10 (fX6_putRows_L10 fu n) fu
def fX6_putRows (fu : Nat) (a0 : Nat) (μ : Mm) : Option (Mm) :=
  lt' (μ.2 (μ.2 a0 0) 0) fun r1 =>
  fX6_putRows_L10 fu fu a0 r1 0 μ
def fX6_putTable_B2 (rec2 : Nat → Nat → Int32 → Mm → Option (Mm)) (fu : Nat) (a0 : Nat) (a1 : Nat) (v2 : Int32) (μ : Mm) : Option (Mm) :=
  if (μ.1 a1 1) ≤ v2 then
    some μ
  else
    gd (ib v2 256) <|
    lt' (μ.1 (μ.2 a1 0) v2.toNatClampNeg) fun x2 =>
    bd (fX0_add (μ.2 a0 1) (x2 >>> (16 &&& 31)) μ) fun μ3 =>
    bd (fX0_add (μ3.2 a0 1) (x2 >>> (8 &&& 31)) μ3) fun μ4 =>
    bd (fX0_add (μ4.2 a0 1) x2 μ4) fun μ5 =>
    lt' (v2 + 1) fun x6 =>
    rec2 a0 a1 x6 μ5
def fX6_putTable_L2 (fu : Nat) : Nat → Nat → Nat → Int32 → Mm → Option (Mm)
  | 0 => fun _ _ _ _ => none
  | n + 1 => fX6_putTable_B2 (fX6_putTable_L2 fu n) fu
def fX6_putTable (fu : Nat) (a0 : Nat) (a1 : Nat) (μ : Mm) : Option (Mm) :=
  fX6_putTable_L2 fu fu a0 a1 0 μ
def fJ6_numberOfTrailingZeros_0f7a4_L74 (v0 : Int32) (v1 : Int32) : Int32 :=
  v1 + ((v0.toUInt32 >>> ((1 : Int32).toUInt32 &&& Int32.toUInt32 31)).toInt32)
def fJ6_numberOfTrailingZeros_0f7a4_L62 (v0 : Int32) (v1 : Int32) : Int32 :=
  if v0 ≤ 4 then
    fJ6_numberOfTrailingZeros_0f7a4_L74 v0 v1
  else
    lt' (v1 + 2) fun x1 =>
    lt' ((v0.toUInt32 >>> ((2 : Int32).toUInt32 &&& Int32.toUInt32 31)).toInt32) fun x2 =>
    fJ6_numberOfTrailingZeros_0f7a4_L74 x2 x1
def fJ6_numberOfTrailingZeros_0f7a4_L49 (v0 : Int32) (v1 : Int32) : Int32 :=
  if v0 ≤ 16 then
    fJ6_numberOfTrailingZeros_0f7a4_L62 v0 v1
  else
    lt' (v1 + 4) fun x1 =>
    lt' ((v0.toUInt32 >>> ((4 : Int32).toUInt32 &&& Int32.toUInt32 31)).toInt32) fun x2 =>
    fJ6_numberOfTrailingZeros_0f7a4_L62 x2 x1
def fJ6_numberOfTrailingZeros_0f7a4_L34 (v0 : Int32) (v1 : Int32) : Int32 :=
  if v0 ≤ 256 then
    fJ6_numberOfTrailingZeros_0f7a4_L49 v0 v1
  else
    lt' (v1 + 8) fun x1 =>
    lt' ((v0.toUInt32 >>> ((8 : Int32).toUInt32 &&& Int32.toUInt32 31)).toInt32) fun x2 =>
    fJ6_numberOfTrailingZeros_0f7a4_L49 x2 x1
def fJ6_numberOfTrailingZeros_0f7a4 (v0 : Int32) : Int32 :=
  lt' ((v0 ^^^ (-1)) &&& (v0 - 1)) fun x1 =>
  if (0 : Int32) < x1 then
    if x1 ≤ 65536 then
      fJ6_numberOfTrailingZeros_0f7a4_L34 x1 1
    else
      lt' (1 + 16) fun x2 =>
      lt' ((x1.toUInt32 >>> ((16 : Int32).toUInt32 &&& Int32.toUInt32 31)).toInt32) fun x3 =>
      fJ6_numberOfTrailingZeros_0f7a4_L34 x3 x2
  else
    x1 &&& 32
def fX7_power (a0 : Nat) (μ : Mm) : Int32 :=
  lt' (fJ6_numberOfTrailingZeros_0f7a4 (μ.1 a0 1)) fun x1 =>
  x1
def fX7_mark (a0 : Nat) (μ : Mm) : Int32 :=
  if (μ.1 a0 1) = 0 then
    0
  else
    lt' (fX7_power a0 μ) fun x1 =>
    (128 + x1) - 1
def fX6_putImage_L77 (fu : Nat) (a0 : Nat) (a1 : Nat) (v2 : Int32) (o0 : Nat) (t1 : Int32) (t2 : Int32) (μ : Mm) : Option (Mm) :=
  bd (fX0_add o0 (t1 + t2) μ) fun μ1 =>
  bd (fX6_putTable fu a0 (μ1.2 a1 5) μ1) fun μ2 =>
  bd (fX0_add (μ2.2 a0 1) v2 μ2) fun μ3 =>
  bd (fX3_toStreamOrder fu a1 (μ3.2 (μ3.2 a0 0) 1) μ3) fun μ4 =>
  lt' (fX3_size a1 μ4) fun x5 =>
  bd (fX2_encode fu (μ4.2 a0 0) x5 v2 μ4) fun μ6 =>
  bd (fX6_putRows fu a0 μ6) fun μ7 =>
  some μ7
def fX6_putImage (fu : Nat) (a0 : Nat) (a1 : Nat) (v2 : Int32) (μ : Mm) : Option (Mm) :=
  bd (fX0_add (μ.2 a0 1) 44 μ) fun μ1 =>
  bd (fX0_addTwo (μ1.2 a0 1) (μ1.1 a1 0) μ1) fun μ2 =>
  bd (fX0_addTwo (μ2.2 a0 1) (μ2.1 a1 1) μ2) fun μ3 =>
  bd (fX0_addTwo (μ3.2 a0 1) (μ3.1 a1 2) μ3) fun μ4 =>
  bd (fX0_addTwo (μ4.2 a0 1) (μ4.1 a1 3) μ4) fun μ5 =>
  lt' (fX7_mark (μ5.2 a1 5) μ5) fun x6 =>
  if (μ5.1 a1 4) = 0 then
    fX6_putImage_L77 fu a0 a1 v2 (μ5.2 a0 1) x6 0 μ5
  else
    fX6_putImage_L77 fu a0 a1 v2 (μ5.2 a0 1) x6 64 μ5
def fX6_putScreen_B2 (rec2 : Nat → Nat → Int32 → Mm → Option (Mm)) (fu : Nat) (a0 : Nat) (a1 : Nat) (v2 : Int32) (μ : Mm) : Option (Mm) :=
  if (6 : Int32) ≤ v2 then
    bd (fX0_addTwo (μ.2 a0 1) (μ.1 a1 0) μ) fun μ1 =>
    bd (fX0_addTwo (μ1.2 a0 1) (μ1.1 a1 1) μ1) fun μ2 =>
    lt' (fX7_mark (μ2.2 a1 5) μ2) fun x3 =>
    bd (fX0_add (μ2.2 a0 1) (x3 + 112) μ2) fun μ4 =>
    bd (fX0_add (μ4.2 a0 1) (μ4.1 a1 2) μ4) fun μ5 =>
    bd (fX0_add (μ5.2 a0 1) (μ5.1 a1 3) μ5) fun μ6 =>
    bd (fX6_putTable fu a0 (μ6.2 a1 5) μ6) fun μ7 =>
    some μ7
  else
    gd (ib v2 6) <|
    bd (fX0_add (μ.2 a0 1) (sT 0 v2.toNatClampNeg) μ) fun μ8 =>
    lt' (v2 + 1) fun x9 =>
    rec2 a0 a1 x9 μ8
def fX6_putScreen_L2 (fu : Nat) : Nat → Nat → Nat → Int32 → Mm → Option (Mm)
  | 0 => fun _ _ _ _ => none
  | n + 1 => fX6_putScreen_B2 (fX6_putScreen_L2 fu n) fu
def fX6_putScreen (fu : Nat) (a0 : Nat) (a1 : Nat) (μ : Mm) : Option (Mm) :=
  fX6_putScreen_L2 fu fu a0 a1 0 μ
def fX6_compose_L70 (fu : Nat) (a0 : Nat) (μ : Mm) : Option (Int32 × Mm) :=
  bd (fX0_add (μ.2 a0 1) 59 μ) fun μ1 =>
  if (μ1.1 (μ1.2 a0 1) 2) = 0 then
    some (1, μ1)
  else
    some (0, μ1)
def fX6_compose_B14 (rec14 : Nat → Nat → Int32 → Mm → Option (Int32 × Mm)) (fu : Nat) (a0 : Nat) (a1 : Nat) (v2 : Int32) (μ : Mm) : Option (Int32 × Mm) :=
  if (μ.1 a1 4) ≤ v2 then
    fX6_compose_L70 fu a0 μ
  else
    if (μ.1 (μ.2 a0 1) 2) = 0 then
      gd (ib v2 24) <|
      lt' (μ.2 (μ.2 a1 6) v2.toNatClampNeg) fun r2 =>
      bd (fX6_putControl a0 (μ.2 r2 6) μ) fun μ3 =>
      lt' (fX4_tableOf a1 r2 μ3) fun r4 =>
      lt' (fX7_power r4 μ3) fun x5 =>
      bd (fX6_putImage fu a0 r2 (mmax x5 2) μ3) fun μ6 =>
      lt' (v2 + 1) fun x7 =>
      rec14 a0 a1 x7 μ6
    else
      fX6_compose_L70 fu a0 μ
def fX6_compose_L14 (fu : Nat) : Nat → Nat → Nat → Int32 → Mm → Option (Int32 × Mm)
  | 0 => fun _ _ _ _ => none
  | n + 1 => fX6_compose_B14 (fX6_compose_L14 fu n) fu
def fX6_compose (fu : Nat) (a0 : Nat) (a1 : Nat) (μ : Mm) : Option (Int32 × Mm) :=
  lt' (fX0_clear (μ.2 a0 1) μ) fun μ1 =>
  bd (fX6_putScreen fu a0 a1 μ1) fun μ2 =>
  fX6_compose_L14 fu fu a0 a1 0 μ2
def fX9_feed (a0 : Nat) (v1 : Int32) (v2 : Int32) (v3 : Int32) (v4 : Int32) (v5 : Int32) (μ : Mm) : Option (Int32 × Mm) :=
  if (μ.1 (μ.2 a0 0) 1) ≤ 11980 then
    bd (fX0_addFour (μ.2 a0 0) v1 μ) fun μ1 =>
    bd (fX0_addFour (μ1.2 a0 0) v2 μ1) fun μ2 =>
    bd (fX0_addFour (μ2.2 a0 0) v3 μ2) fun μ3 =>
    bd (fX0_addFour (μ3.2 a0 0) v4 μ3) fun μ4 =>
    bd (fX0_addFour (μ4.2 a0 0) v5 μ4) fun μ5 =>
    some (μ5.1 (μ5.2 a0 0) 1, μ5)
  else
    some ((-1), μ)
def fX9_take (a0 : Nat) (μ : Mm) : Option (Int32 × Mm) :=
  bd (fX0_copyFrom (μ.2 a0 0) (μ.2 a0 4) μ) fun μ1 =>
  some (μ1.1 (μ1.2 a0 0) 1, μ1)
def fX9_read (fu : Nat) (a0 : Nat) (v1 : Int32) (μ : Mm) : Option (Int32 × Mm) :=
  if v1 < 0 then
    some ((-2), μ)
  else
    if v1 ≤ (μ.1 (μ.2 a0 0) 1) then
      bd (fX5_parse fu (μ.2 a0 1) v1 μ) fun μ1 =>
      lt' (si μ1 a0 5 1) fun μ2 =>
      lt' (fX0_clear (μ2.2 a0 0) μ2) fun μ3 =>
      if (μ3.1 (μ3.2 a0 1) 9) = 0 then
        lt' (fX5_exchange (μ3.2 a0 1) (μ3.2 a0 3) μ3) fun q4 =>
        lt' (sr q4.2 a0 3 q4.1) fun μ5 =>
        some (μ5.1 (μ5.2 a0 3) 4, μ5)
      else
        some ((-1), μ3)
    else
      some ((-2), μ)
def fX9_fault (a0 : Nat) (v1 : Int32) (μ : Mm) : Int32 :=
  if (μ.1 a0 5) = 0 then
    (-1)
  else
    if v1 = 0 then
      μ.1 (μ.2 a0 1) 9
    else
      if v1 = 1 then
        μ.1 (μ.2 a0 1) 10
      else
        (-1)
def fX9_isByte (v0 : Int32) : Int32 :=
  if v0 < 0 then
    0
  else
    if (255 : Int32) < v0 then
      0
    else
      1
def fJ6_bitCount_0f7a4 (v0 : Int32) : Int32 :=
  lt' (v0 - (((v0.toUInt32 >>> ((1 : Int32).toUInt32 &&& Int32.toUInt32 31)).toInt32) &&& 1431655765)) fun x1 =>
  lt' ((x1 &&& 858993459) + (((x1.toUInt32 >>> ((2 : Int32).toUInt32 &&& Int32.toUInt32 31)).toInt32) &&& 858993459)) fun x2 =>
  lt' ((x2 + ((x2.toUInt32 >>> ((4 : Int32).toUInt32 &&& Int32.toUInt32 31)).toInt32)) &&& 252645135) fun x3 =>
  lt' (x3 + ((x3.toUInt32 >>> ((8 : Int32).toUInt32 &&& Int32.toUInt32 31)).toInt32)) fun x4 =>
  lt' (x4 + ((x4.toUInt32 >>> ((16 : Int32).toUInt32 &&& Int32.toUInt32 31)).toInt32)) fun x5 =>
  x5 &&& 63
def fX9_isTableSize (v0 : Int32) : Int32 :=
  if v0 = 0 then
    1
  else
    if v0 < 2 then
      0
    else
      if (256 : Int32) < v0 then
        0
      else
        lt' (fJ6_bitCount_0f7a4 v0) fun x1 =>
        if x1 = 1 then
          1
        else
          0
def fX9_begin (fu : Nat) (a0 : Nat) (v1 : Int32) (v2 : Int32) (v3 : Int32) (v4 : Int32) (μ : Mm) : Option (Int32 × Mm) :=
  lt' (fX9_isSide v1) fun x1 =>
  if x1 = 0 then
    some (0, μ)
  else
    lt' (fX9_isSide v2) fun x2 =>
    if x2 = 0 then
      some (0, μ)
    else
      lt' (fX9_isTableSize v3) fun x3 =>
      if x3 = 0 then
        some (0, μ)
      else
        lt' (fX9_isByte v4) fun x4 =>
        if x4 = 0 then
          some (0, μ)
        else
          bd (fX4_reset fu (μ.2 a0 3) v1 v2 v3 v4 0 μ) fun μ5 =>
          some (1, μ5)
def fX9_tableAt (a0 : Nat) (v1 : Int32) (μ : Mm) : Option (Option Nat) :=
  if v1 = (-1) then
    some (some (μ.2 (μ.2 a0 3) 5))
  else
    bd (fX4_frameAt (μ.2 a0 3) v1 μ) fun r1 =>
    oc r1 (
      some none) (fun b2 =>
      some (some (μ.2 b2 5)))
def fX9_colour (a0 : Nat) (v1 : Int32) (v2 : Int32) (v3 : Int32) (μ : Mm) : Option (Int32 × Mm) :=
  bd (fX9_tableAt a0 v1 μ) fun r1 =>
  oc r1 (
    some (0, μ)) (fun b2 =>
    lt' (fX7_has b2 v2 μ) fun x3 =>
    if x3 = 0 then
      some (0, μ)
    else
      if v3 < 0 then
        some (0, μ)
      else
        if v3 ≤ 16777215 then
          gd (ib v2 256) <|
          lt' (si μ (μ.2 b2 0) v2.toNatClampNeg v3) fun μ4 =>
          some (1, μ4)
        else
          some (0, μ))
def fX9_frame (fu : Nat) (a0 : Nat) (v1 : Int32) (v2 : Int32) (v3 : Int32) (v4 : Int32) (v5 : Int32) (v6 : Int32) (μ : Mm) : Option (Int32 × Mm) :=
  lt' (fX4_hasRoom (μ.2 a0 3) μ) fun x1 =>
  if x1 = 0 then
    some ((-1), μ)
  else
    lt' (fX4_holds (μ.2 a0 3) v1 v2 v3 v4 μ) fun x2 =>
    if x2 = 0 then
      some ((-1), μ)
    else
      lt' (fX9_isTableSize v5) fun x3 =>
      if x3 = 0 then
        some ((-1), μ)
      else
        lt' (fX4_givesTable (μ.2 a0 3) v5 μ) fun x4 =>
        if x4 = 0 then
          some ((-1), μ)
        else
          bd (fX4_addFrame fu (μ.2 a0 3) v1 v2 v3 v4 v5 v6 μ) fun q5 =>
          some ((q5.2.1 (q5.2.2 a0 3) 4) - 1, q5.2)
def fX9_control_L53 (v2 : Int32) (v3 : Int32) (v4 : Int32) (v5 : Int32) (a6 : Nat) (μ : Mm) : Option (Int32 × Mm) :=
  bd (fX8_become (μ.2 a6 6) v2 v3 v4 v5 μ) fun μ1 =>
  some (1, μ1)
def fX9_control (a0 : Nat) (v1 : Int32) (v2 : Int32) (v3 : Int32) (v4 : Int32) (v5 : Int32) (μ : Mm) : Option (Int32 × Mm) :=
  bd (fX4_frameAt (μ.2 a0 3) v1 μ) fun r1 =>
  oc r1 (
    some (0, μ)) (fun b2 =>
    if v2 < 0 then
      some (0, μ)
    else
      if (7 : Int32) < v2 then
        some (0, μ)
      else
        if v4 < 0 then
          some (0, μ)
        else
          if v4 ≤ 65535 then
            if v3 = (-1) then
              fX9_control_L53 v2 v3 v4 v5 b2 μ
            else
              lt' (fX9_isByte v3) fun x3 =>
              if x3 = 0 then
                some (0, μ)
              else
                fX9_control_L53 v2 v3 v4 v5 b2 μ
          else
            some (0, μ))
def fX9_paint (fu : Nat) (a0 : Nat) (v1 : Int32) (v2 : Int32) (v3 : Int32) (v4 : Int32) (μ : Mm) : Option (Int32 × Mm) :=
  bd (fX4_frameAt (μ.2 a0 3) v1 μ) fun r1 =>
  oc r1 (
    some (0, μ)) (fun b2 =>
    if v2 < 0 then
      some (0, μ)
    else
      if v3 < 0 then
        some (0, μ)
      else
        lt' (fX3_size b2 μ) fun x3 =>
        if x3 < v2 then
          some (0, μ)
        else
          lt' (fX3_size b2 μ) fun x4 =>
          if v3 ≤ (x4 - v2) then
            lt' (fX4_tableOf (μ.2 a0 3) b2 μ) fun r5 =>
            lt' (fX7_has r5 v4 μ) fun x6 =>
            if x6 = 0 then
              some (0, μ)
            else
              bd (fX3_fill fu b2 v2 (v2 + v3) v4 μ) fun μ7 =>
              some (1, μ7)
          else
            some (0, μ))
def fX9_write (fu : Nat) (a0 : Nat) (μ : Mm) : Option (Int32 × Mm) :=
  bd (fX6_compose fu (μ.2 a0 2) (μ.2 a0 3) μ) fun q1 =>
  if q1.1 = 0 then
    some ((-1), q1.2)
  else
    lt' (fX6_exchange (q1.2.2 a0 2) (q1.2.2 a0 4) q1.2) fun q2 =>
    lt' (sr q2.2 a0 4 q2.1) fun μ3 =>
    some (μ3.1 (μ3.2 a0 4) 1, μ3)
def fX9_out (a0 : Nat) (v1 : Int32) (μ : Mm) : Option (Int32) :=
  bd (fX0_at (μ.2 a0 4) v1 μ) fun x1 =>
  some x1
def fX9_about (a0 : Nat) (v1 : Int32) (μ : Mm) : Int32 :=
  if v1 = 0 then
    μ.1 (μ.2 a0 3) 0
  else
    if v1 = 1 then
      μ.1 (μ.2 a0 3) 1
    else
      if v1 = 2 then
        μ.1 (μ.2 (μ.2 a0 3) 5) 1
      else
        if v1 = 3 then
          μ.1 (μ.2 a0 3) 2
        else
          if v1 = 4 then
            μ.1 (μ.2 a0 3) 3
          else
            if v1 = 5 then
              μ.1 (μ.2 a0 3) 4
            else
              if v1 = 6 then
                μ.1 (μ.2 a0 0) 1
              else
                if v1 = 7 then
                  μ.1 (μ.2 a0 4) 1
                else
                  (-1)
def fX9_frameOf (a0 : Nat) (v1 : Int32) (v2 : Int32) (μ : Mm) : Option (Int32) :=
  bd (fX4_frameAt (μ.2 a0 3) v1 μ) fun r1 =>
  oc r1 (
    some (-1)) (fun b2 =>
    if v2 = 0 then
      some (μ.1 b2 0)
    else
      if v2 = 1 then
        some (μ.1 b2 1)
      else
        if v2 = 2 then
          some (μ.1 b2 2)
        else
          if v2 = 3 then
            some (μ.1 b2 3)
          else
            if v2 = 4 then
              some (μ.1 (μ.2 b2 5) 1)
            else
              if v2 = 5 then
                if (μ.1 b2 4) = 0 then
                  some 0
                else
                  some 1
              else
                if v2 = 6 then
                  some (μ.1 (μ.2 b2 6) 0)
                else
                  if v2 = 7 then
                    some (μ.1 (μ.2 b2 6) 1)
                  else
                    if v2 = 8 then
                      some (μ.1 (μ.2 b2 6) 2)
                    else
                      if v2 = 9 then
                        if (μ.1 (μ.2 b2 6) 3) = 0 then
                          some 0
                        else
                          some 1
                      else
                        some (-1))
def fX9_colourOf (a0 : Nat) (v1 : Int32) (v2 : Int32) (μ : Mm) : Option (Int32) :=
  bd (fX9_tableAt a0 v1 μ) fun r1 =>
  oc r1 (
    some (-1)) (fun b2 =>
    lt' (fX7_has b2 v2 μ) fun x3 =>
    if x3 = 0 then
      some (-1)
    else
      gd (ib v2 256) <|
      some (μ.1 (μ.2 b2 0) v2.toNatClampNeg))
def fX9_index (a0 : Nat) (v1 : Int32) (v2 : Int32) (μ : Mm) : Option (Int32) :=
  bd (fX4_frameAt (μ.2 a0 3) v1 μ) fun r1 =>
  oc r1 (
    some (-1)) (fun b2 =>
    if v2 < 0 then
      some (-1)
    else
      lt' (fX3_size b2 μ) fun x3 =>
      if v2 < x3 then
        gd (ib v2 4096) <|
        some (μ.1 (μ.2 b2 7) v2.toNatClampNeg)
      else
        some (-1))
def fX9_canvas (fu : Nat) (a0 : Nat) (v1 : Int32) (v2 : Int32) (v3 : Int32) (μ : Mm) : Option (Int32) :=
  bd (fX4_frameAt (μ.2 a0 3) v1 μ) fun r1 =>
  oc r1 (
    some (-2)) (fun b2 =>
    if v2 < 0 then
      some (-2)
    else
      if (μ.1 (μ.2 a0 3) 0) ≤ v2 then
        some (-2)
      else
        if v3 < 0 then
          some (-2)
        else
          if v3 < (μ.1 (μ.2 a0 3) 1) then
            bd (fX4_colourAt fu (μ.2 a0 3) v1 v2 v3 μ) fun x3 =>
            some x3
          else
            some (-2))
def fX10_field (a0 : Nat) (v1 : Int32) (v2 : Int32) (v3 : Int32) (μ : Mm) : Option (Int32) :=
  gd (ib (((240 * v1) + (10 * v2)) + v3) 480) <|
  some (μ.1 (μ.2 a0 9) (((240 * v1) + (10 * v2)) + v3).toNatClampNeg)
def fX10_setField (a0 : Nat) (v1 : Int32) (v2 : Int32) (v3 : Int32) (v4 : Int32) (μ : Mm) : Option (Mm) :=
  gd (ib (((240 * v1) + (10 * v2)) + v3) 480) <|
  lt' (si μ (μ.2 a0 9) (((240 * v1) + (10 * v2)) + v3).toNatClampNeg v4) fun μ1 =>
  some μ1
def fX10_indexAt (a0 : Nat) (v1 : Int32) (v2 : Int32) (v3 : Int32) (μ : Mm) : Option (Int32) :=
  gd (ib (((98304 * v1) + (4096 * v2)) + v3) 196608) <|
  some (μ.1 (μ.2 a0 11) (((98304 * v1) + (4096 * v2)) + v3).toNatClampNeg)
def fX10_setIndex (a0 : Nat) (v1 : Int32) (v2 : Int32) (v3 : Int32) (v4 : Int32) (μ : Mm) : Option (Mm) :=
  gd (ib (((98304 * v1) + (4096 * v2)) + v3) 196608) <|
  lt' (si μ (μ.2 a0 11) (((98304 * v1) + (4096 * v2)) + v3).toNatClampNeg (vp_nar .short v4.toInt16.toInt32)) fun μ1 =>
  some μ1
def fX10_localAt (v0 : Int32) (v1 : Int32) (v2 : Int32) : Int32 :=
  ((6144 * v0) + (256 * v1)) + v2
def fX10_frames (a0 : Nat) (μ : Mm) : Option (Int32) :=
  gd (ib ((6 * (μ.1 a0 6)) + 5) 12) <|
  some (μ.1 (μ.2 a0 7) ((6 * (μ.1 a0 6)) + 5).toNatClampNeg)
def fX10_isFrame (a0 : Nat) (v1 : Int32) (μ : Mm) : Option (Int32) :=
  if v1 < 0 then
    some 0
  else
    bd (fX10_frames a0 μ) fun x1 =>
    if x1 ≤ v1 then
      some 0
    else
      some 1
def fX10_places (a0 : Nat) (v1 : Int32) (v2 : Int32) (μ : Mm) : Option (Int32) :=
  bd (fX10_field a0 v1 v2 2 μ) fun x1 =>
  bd (fX10_field a0 v1 v2 3 μ) fun x2 =>
  some (x1 * x2)
def fX10_colours (a0 : Nat) (v1 : Int32) (v2 : Int32) (μ : Mm) : Option (Int32) :=
  bd (fX10_field a0 v1 v2 4 μ) fun x1 =>
  if x1 ≤ 0 then
    gd (ib ((6 * v1) + 2) 12) <|
    some (μ.1 (μ.2 a0 7) ((6 * v1) + 2).toNatClampNeg)
  else
    bd (fX10_field a0 v1 v2 4 μ) fun x3 =>
    some x3
def fX10_within_B2 (rec2 : Nat → Int32 → Int32 → Int32 → Mm → Option (Int32 × Mm)) (fu : Nat) (a0 : Nat) (v1 : Int32) (v2 : Int32) (v3 : Int32) (μ : Mm) : Option (Int32 × Mm) :=
  if (4 : Int32) ≤ v3 then
    some (v1 + 4, μ)
  else
    gd (ib (v1 + v3) 12020) <|
    lt' (si μ a0 (v1 + v3).toNatClampNeg (vp_nar .byte ((v2 >>> ((24 - (8 * v3)) &&& 31)).toInt8.toInt32))) fun μ1 =>
    lt' (v3 + 1) fun x2 =>
    rec2 a0 v1 v2 x2 μ1
def fX10_within_L2 (fu : Nat) : Nat → Nat → Int32 → Int32 → Int32 → Mm → Option (Int32 × Mm)
  | 0 => fun _ _ _ _ _ => none
  | n + 1 => fX10_within_B2 (fX10_within_L2 fu n) fu
def fX10_within (fu : Nat) (a0 : Nat) (v1 : Int32) (v2 : Int32) (μ : Mm) : Option (Int32 × Mm) :=
  fX10_within_L2 fu fu a0 v1 v2 0 μ
def fX10_feed (fu : Nat) (a0 : Nat) (v1 : Int32) (v2 : Int32) (v3 : Int32) (v4 : Int32) (v5 : Int32) (μ : Mm) : Option (Int32 × Mm) :=
  if ((μ.1 a0 2) + 20) ≤ 12000 then
    bd (fX10_within fu (μ.2 a0 0) (μ.1 a0 2) v1 μ) fun q1 =>
    lt' q1.1 fun x2 =>
    bd (fX10_within fu (q1.2.2 a0 0) x2 v2 q1.2) fun q3 =>
    lt' q3.1 fun x4 =>
    bd (fX10_within fu (q3.2.2 a0 0) x4 v3 q3.2) fun q5 =>
    lt' q5.1 fun x6 =>
    bd (fX10_within fu (q5.2.2 a0 0) x6 v4 q5.2) fun q7 =>
    lt' q7.1 fun x8 =>
    bd (fX10_within fu (q7.2.2 a0 0) x8 v5 q7.2) fun q9 =>
    lt' (si q9.2 a0 2 q9.1) fun μ10 =>
    some (μ10.1 a0 2, μ10)
  else
    some ((-1), μ)
def fX10_take_B2 (rec2 : Nat → Int32 → Mm → Option (Int32 × Mm)) (fu : Nat) (a0 : Nat) (v1 : Int32) (μ : Mm) : Option (Int32 × Mm) :=
  if (μ.1 a0 3) ≤ v1 then
    lt' (si μ a0 2 (μ.1 a0 3)) fun μ1 =>
    some (μ1.1 a0 2, μ1)
  else
    gd (ib v1 12020) <|
    gd (ib v1 12020) <|
    lt' (si μ (μ.2 a0 0) v1.toNatClampNeg (vp_nar .byte (μ.1 (μ.2 a0 1) v1.toNatClampNeg))) fun μ3 =>
    lt' (v1 + 1) fun x4 =>
    rec2 a0 x4 μ3
def fX10_take_L2 (fu : Nat) : Nat → Nat → Int32 → Mm → Option (Int32 × Mm)
  | 0 => fun _ _ _ => none
  | n + 1 => fX10_take_B2 (fX10_take_L2 fu n) fu
def fX10_take (fu : Nat) (a0 : Nat) (μ : Mm) : Option (Int32 × Mm) :=
  fX10_take_L2 fu fu a0 0 μ
def fX10_wrong (a0 : Nat) (v1 : Int32) (v2 : Int32) (μ : Mm) : Mm :=
  if (μ.1 a0 4) = 0 then
    lt' (si μ a0 4 v1) fun μ1 =>
    lt' (si μ1 a0 5 v2) fun μ2 =>
    μ2
  else
    μ
def fX10_good (a0 : Nat) (μ : Mm) : Int32 :=
  if (μ.1 a0 4) = 0 then
    1
  else
    0
def fX10_one_L27 (a0 : Nat) (μ : Mm) : Option (Int32 × Mm) :=
  lt' (fX10_good a0 μ) fun x1 =>
  if x1 = 0 then
    some (0, μ)
  else
    lt' (si μ a0 12 ((μ.1 a0 12) + 1)) fun μ2 =>
    gd (ib ((μ2.1 a0 12) - 1) 12020) <|
    some ((μ2.1 (μ2.2 a0 0) ((μ2.1 a0 12) - 1).toNatClampNeg) &&& 255, μ2)
def fX10_one (a0 : Nat) (μ : Mm) : Option (Int32 × Mm) :=
  lt' (fX10_good a0 μ) fun x1 =>
  if x1 = 0 then
    fX10_one_L27 a0 μ
  else
    if (μ.1 a0 12) < (μ.1 a0 13) then
      fX10_one_L27 a0 μ
    else
      lt' (fX10_wrong a0 2 (μ.1 a0 13) μ) fun μ2 =>
      fX10_one_L27 a0 μ2
def fX10_two (a0 : Nat) (μ : Mm) : Option (Int32 × Mm) :=
  bd (fX10_one a0 μ) fun q1 =>
  lt' q1.1 fun x2 =>
  bd (fX10_one a0 q1.2) fun q3 =>
  some (x2 + (256 * q3.1), q3.2)
def fX10_forget (a0 : Nat) (μ : Mm) : Mm :=
  lt' (si μ a0 16 0) fun μ1 =>
  lt' (si μ1 a0 17 0) fun μ2 =>
  lt' (si μ2 a0 18 (-1)) fun μ3 =>
  lt' (si μ3 a0 19 0) fun μ4 =>
  lt' (si μ4 a0 20 0) fun μ5 =>
  μ5
def fX10_alone_B2 (rec2 : Nat → Int32 → Int32 → Mm → Option (Mm)) (fu : Nat) (a0 : Nat) (v1 : Int32) (v2 : Int32) (μ : Mm) : Option (Mm) :=
  if (1 <<< (v1 &&& 31)) ≤ v2 then
    some μ
  else
    gd (ib v2 4096) <|
    lt' (si μ (μ.2 a0 24) v2.toNatClampNeg (vp_nar .short (-1))) fun μ1 =>
    gd (ib v2 4096) <|
    lt' (si μ1 (μ1.2 a0 25) v2.toNatClampNeg (vp_nar .short v2.toInt16.toInt32)) fun μ2 =>
    gd (ib v2 4096) <|
    lt' (si μ2 (μ2.2 a0 26) v2.toNatClampNeg (vp_nar .short v2.toInt16.toInt32)) fun μ3 =>
    gd (ib v2 4096) <|
    lt' (si μ3 (μ3.2 a0 27) v2.toNatClampNeg (vp_nar .short 1)) fun μ4 =>
    lt' (v2 + 1) fun x5 =>
    rec2 a0 v1 x5 μ4
def fX10_alone_L2 (fu : Nat) : Nat → Nat → Int32 → Int32 → Mm → Option (Mm)
  | 0 => fun _ _ _ _ => none
  | n + 1 => fX10_alone_B2 (fX10_alone_L2 fu n) fu
def fX10_alone (fu : Nat) (a0 : Nat) (v1 : Int32) (μ : Mm) : Option (Mm) :=
  fX10_alone_L2 fu fu a0 v1 0 μ
def fX10_code_B25 (rec25 : Nat → Int32 → Int32 → Mm → Option (Int32 × Mm)) (fu : Nat) (a0 : Nat) (v1 : Int32) (v2 : Int32) (μ : Mm) : Option (Int32 × Mm) :=
  if (μ.1 a0 28) ≤ v2 then
    lt' (si μ a0 23 ((μ.1 a0 23) + (μ.1 a0 28))) fun μ1 =>
    some (v1, μ1)
  else
    gd (ib (((μ.1 a0 23) + v2) >>> (3 &&& 31)) 12020) <|
    lt' (v1 ||| ((((μ.1 (μ.2 a0 21) (((μ.1 a0 23) + v2) >>> (3 &&& 31)).toNatClampNeg) >>> ((((μ.1 a0 23) + v2) &&& 7) &&& 31)) &&& 1) <<< (v2 &&& 31))) fun x3 =>
    lt' (v2 + 1) fun x4 =>
    rec25 a0 x3 x4 μ
def fX10_code_L25 (fu : Nat) : Nat → Nat → Int32 → Int32 → Mm → Option (Int32 × Mm)
  | 0 => fun _ _ _ _ => none
  | n + 1 => fX10_code_B25 (fX10_code_L25 fu n) fu
def fX10_code (fu : Nat) (a0 : Nat) (μ : Mm) : Option (Int32 × Mm) :=
  if ((μ.1 a0 23) + (μ.1 a0 28)) ≤ (8 * (μ.1 a0 22)) then
    fX10_code_L25 fu fu a0 0 0 μ
  else
    some ((-1), μ)
def fX10_line (v0 : Int32) (v1 : Int32) : Int32 :=
  lt' ((v1 + 7) / 8) fun x1 =>
  lt' ((v1 + 3) / 8) fun x2 =>
  lt' ((v1 + 1) / 4) fun x3 =>
  if x1 ≤ v0 then
    if (x1 + x2) ≤ v0 then
      if ((x1 + x2) + x3) ≤ v0 then
        1 + (2 * (((v0 - x1) - x2) - x3))
      else
        2 + (4 * ((v0 - x1) - x2))
    else
      4 + (8 * (v0 - x1))
  else
    8 * v0
def fX10_placeOf (a0 : Nat) (v1 : Int32) (v2 : Int32) (v3 : Int32) (μ : Mm) : Option (Int32) :=
  bd (fX10_field a0 v1 v2 2 μ) fun x1 =>
  bd (fX10_field a0 v1 v2 5 μ) fun x2 =>
  if x2 = 0 then
    some v3
  else
    gd (nz x1) <|
    bd (fX10_field a0 v1 v2 3 μ) fun x3 =>
    lt' (fX10_line (v3 / x1) x3) fun x4 =>
    gd (nz x1) <|
    some ((x1 * x4) + (v3 - v3 / x1 * x1))
def fX10_put_B58 (rec58 : Nat → Int32 → Int32 → Int32 → Int32 → Mm → Option (Int32 × Mm)) (fu : Nat) (a0 : Nat) (v3 : Int32) (v6 : Int32) (v7 : Int32) (v8 : Int32) (μ : Mm) : Option (Int32 × Mm) :=
  if v8 < 0 then
    some (1, μ)
  else
    gd (ib v8 4096) <|
    if (μ.1 (μ.2 a0 25) v8.toNatClampNeg) < v6 then
      bd (fX10_placeOf a0 (μ.1 a0 14) v3 v7 μ) fun x2 =>
      gd (ib v8 4096) <|
      bd (fX10_setIndex a0 (μ.1 a0 14) v3 x2 (μ.1 (μ.2 a0 25) v8.toNatClampNeg) μ) fun μ4 =>
      lt' (v7 + (-1)) fun x5 =>
      gd (ib v8 4096) <|
      lt' (μ4.1 (μ4.2 a0 24) v8.toNatClampNeg) fun x7 =>
      rec58 a0 v3 v6 x5 x7 μ4
    else
      some (0, μ)
def fX10_put_L58 (fu : Nat) : Nat → Nat → Int32 → Int32 → Int32 → Int32 → Mm → Option (Int32 × Mm)
  | 0 => fun _ _ _ _ _ _ => none
  | n + 1 => fX10_put_B58 (fX10_put_L58 fu n) fu
def fX10_put (fu : Nat) (a0 : Nat) (v1 : Int32) (v2 : Int32) (v3 : Int32) (v4 : Int32) (v5 : Int32) (v6 : Int32) (μ : Mm) : Option (Int32 × Mm) :=
  lt' ((v4 + v5) - 1) fun x1 =>
  if v2 = 0 then
    fX10_put_L58 fu fu a0 v3 v6 x1 v1 μ
  else
    gd (ib v1 4096) <|
    if (μ.1 (μ.2 a0 26) v1.toNatClampNeg) < v6 then
      bd (fX10_placeOf a0 (μ.1 a0 14) v3 x1 μ) fun x3 =>
      gd (ib v1 4096) <|
      bd (fX10_setIndex a0 (μ.1 a0 14) v3 x3 (μ.1 (μ.2 a0 26) v1.toNatClampNeg) μ) fun μ5 =>
      lt' (x1 + (-1)) fun x6 =>
      fX10_put_L58 fu fu a0 v3 v6 x6 v1 μ5
    else
      some (0, μ)
def fX10_restart (a0 : Nat) (v1 : Int32) (μ : Mm) : Mm :=
  lt' (si μ a0 28 (v1 + 1)) fun μ1 =>
  lt' (si μ1 a0 29 ((1 <<< (v1 &&& 31)) + 2)) fun μ2 =>
  lt' (si μ2 a0 30 (-1)) fun μ3 =>
  μ3
def fX10_tell (a0 : Nat) (v1 : Int32) (μ : Mm) : Option (Mm) :=
  gd (ib (μ.1 a0 29) 4096) <|
  lt' (si μ (μ.2 a0 24) (μ.1 a0 29).toNatClampNeg (vp_nar .short ((μ.1 a0 30).toInt16.toInt32))) fun μ1 =>
  gd (ib (μ1.1 a0 29) 4096) <|
  lt' (si μ1 (μ1.2 a0 25) (μ1.1 a0 29).toNatClampNeg (vp_nar .short v1.toInt16.toInt32)) fun μ2 =>
  gd (ib (μ2.1 a0 30) 4096) <|
  gd (ib (μ2.1 a0 29) 4096) <|
  lt' (si μ2 (μ2.2 a0 26) (μ2.1 a0 29).toNatClampNeg (vp_nar .short (μ2.1 (μ2.2 a0 26) (μ2.1 a0 30).toNatClampNeg))) fun μ4 =>
  gd (ib (μ4.1 a0 30) 4096) <|
  gd (ib (μ4.1 a0 29) 4096) <|
  lt' (si μ4 (μ4.2 a0 27) (μ4.1 a0 29).toNatClampNeg (vp_nar .short (((μ4.1 (μ4.2 a0 27) (μ4.1 a0 30).toNatClampNeg) + 1).toInt16.toInt32))) fun μ6 =>
  lt' (si μ6 a0 29 ((μ6.1 a0 29) + 1)) fun μ7 =>
  if (μ7.1 a0 29) = (1 <<< ((μ7.1 a0 28) &&& 31)) then
    if (12 : Int32) ≤ (μ7.1 a0 28) then
      some μ7
    else
      lt' (si μ7 a0 28 ((μ7.1 a0 28) + 1)) fun μ8 =>
      some μ8
  else
    some μ7
def fX10_codes_L268 (rec54 : Nat → Int32 → Int32 → Int32 → Int32 → Int32 → Int32 → Mm → Option (Int32 × Mm)) (fu : Nat) (a0 : Nat) (v1 : Int32) (v2 : Int32) (v3 : Int32) (v4 : Int32) (v5 : Int32) (v6 : Int32) (v7 : Int32) (t0 : Int32) (μ : Mm) : Option (Int32 × Mm) :=
  if (μ.1 a0 30) < 0 then
    lt' (si μ a0 30 v7) fun μ1 =>
    rec54 a0 v1 v2 v3 v4 v5 v6 μ1
  else
    if (4096 : Int32) ≤ (μ.1 a0 29) then
      lt' (si μ a0 30 v7) fun μ2 =>
      rec54 a0 v1 v2 v3 v4 v5 v6 μ2
    else
      bd (fX10_tell a0 t0 μ) fun μ3 =>
      lt' (si μ3 a0 30 v7) fun μ4 =>
      rec54 a0 v1 v2 v3 v4 v5 v6 μ4
def fX10_codes_L220 (rec54 : Nat → Int32 → Int32 → Int32 → Int32 → Int32 → Int32 → Mm → Option (Int32 × Mm)) (fu : Nat) (a0 : Nat) (v1 : Int32) (v2 : Int32) (v3 : Int32) (v4 : Int32) (v5 : Int32) (v6 : Int32) (v7 : Int32) (v8 : Int32) (v9 : Int32) (o0 : Nat) (t1 : Int32) (μ : Mm) : Option (Int32 × Mm) :=
  bd (fX10_put fu o0 t1 v8 v2 v6 v9 v5 μ) fun q1 =>
  if q1.1 = 0 then
    some (0, q1.2)
  else
    lt' (v6 + v9) fun x2 =>
    if v8 = 0 then
      gd (ib v7 4096) <|
      fX10_codes_L268 rec54 fu a0 v1 v2 v3 v4 v5 x2 v7 (q1.2.1 (q1.2.2 a0 26) v7.toNatClampNeg) q1.2
    else
      gd (ib (q1.2.1 a0 30) 4096) <|
      fX10_codes_L268 rec54 fu a0 v1 v2 v3 v4 v5 x2 v7 (q1.2.1 (q1.2.2 a0 26) (q1.2.1 a0 30).toNatClampNeg) q1.2
def fX10_codes_L193 (rec54 : Nat → Int32 → Int32 → Int32 → Int32 → Int32 → Int32 → Mm → Option (Int32 × Mm)) (fu : Nat) (a0 : Nat) (v1 : Int32) (v2 : Int32) (v3 : Int32) (v4 : Int32) (v5 : Int32) (v6 : Int32) (v7 : Int32) (v8 : Int32) (t0 : Int32) (μ : Mm) : Option (Int32 × Mm) :=
  if v4 < (v6 + t0) then
    some (0, μ)
  else
    if v8 = 0 then
      fX10_codes_L220 rec54 fu a0 v1 v2 v3 v4 v5 v6 v7 v8 t0 a0 v7 μ
    else
      fX10_codes_L220 rec54 fu a0 v1 v2 v3 v4 v5 v6 v7 v8 t0 a0 (μ.1 a0 30) μ
def fX10_codes_L167 (rec54 : Nat → Int32 → Int32 → Int32 → Int32 → Int32 → Int32 → Mm → Option (Int32 × Mm)) (fu : Nat) (a0 : Nat) (v1 : Int32) (v2 : Int32) (v3 : Int32) (v4 : Int32) (v5 : Int32) (v6 : Int32) (v7 : Int32) (v8 : Int32) (μ : Mm) : Option (Int32 × Mm) :=
  if v8 = 0 then
    gd (ib v7 4096) <|
    fX10_codes_L193 rec54 fu a0 v1 v2 v3 v4 v5 v6 v7 v8 (μ.1 (μ.2 a0 27) v7.toNatClampNeg) μ
  else
    gd (ib (μ.1 a0 30) 4096) <|
    fX10_codes_L193 rec54 fu a0 v1 v2 v3 v4 v5 v6 v7 v8 ((μ.1 (μ.2 a0 27) (μ.1 a0 30).toNatClampNeg) + 1) μ
def fX10_codes_L149 (rec54 : Nat → Int32 → Int32 → Int32 → Int32 → Int32 → Int32 → Mm → Option (Int32 × Mm)) (fu : Nat) (a0 : Nat) (v1 : Int32) (v2 : Int32) (v3 : Int32) (v4 : Int32) (v5 : Int32) (v6 : Int32) (v7 : Int32) (t0 : Int32) (μ : Mm) : Option (Int32 × Mm) :=
  if v7 < (μ.1 a0 29) then
    fX10_codes_L167 rec54 fu a0 v1 v2 v3 v4 v5 v6 v7 t0 μ
  else
    if t0 = 0 then
      some (0, μ)
    else
      fX10_codes_L167 rec54 fu a0 v1 v2 v3 v4 v5 v6 v7 t0 μ
def fX10_codes_L148 (rec54 : Nat → Int32 → Int32 → Int32 → Int32 → Int32 → Int32 → Mm → Option (Int32 × Mm)) (fu : Nat) (a0 : Nat) (v1 : Int32) (v2 : Int32) (v3 : Int32) (v4 : Int32) (v5 : Int32) (v6 : Int32) (v7 : Int32) (μ : Mm) : Option (Int32 × Mm) :=
  fX10_codes_L149 rec54 fu a0 v1 v2 v3 v4 v5 v6 v7 0 μ
def fX10_codes_B54 (rec54 : Nat → Int32 → Int32 → Int32 → Int32 → Int32 → Int32 → Mm → Option (Int32 × Mm)) (fu : Nat) (a0 : Nat) (v1 : Int32) (v2 : Int32) (v3 : Int32) (v4 : Int32) (v5 : Int32) (v6 : Int32) (μ : Mm) : Option (Int32 × Mm) :=
  bd (fX10_code fu a0 μ) fun q1 =>
  lt' q1.1 fun x2 =>
  if (0 : Int32) ≤ x2 then
    if x2 = (v3 + 1) then
      if v6 = v4 then
        if (((q1.2.1 a0 23) + 7) >>> (3 &&& 31)) = (q1.2.1 a0 22) then
          some (1, q1.2)
        else
          some (0, q1.2)
      else
        some (0, q1.2)
    else
      if x2 = v3 then
        lt' (fX10_restart a0 v1 q1.2) fun μ3 =>
        rec54 a0 v1 v2 v3 v4 v5 v6 μ3
      else
        if x2 = (q1.2.1 a0 29) then
          if (q1.2.1 a0 30) < 0 then
            fX10_codes_L148 rec54 fu a0 v1 v2 v3 v4 v5 v6 x2 q1.2
          else
            if (4096 : Int32) ≤ (q1.2.1 a0 29) then
              fX10_codes_L148 rec54 fu a0 v1 v2 v3 v4 v5 v6 x2 q1.2
            else
              fX10_codes_L149 rec54 fu a0 v1 v2 v3 v4 v5 v6 x2 1 q1.2
        else
          fX10_codes_L148 rec54 fu a0 v1 v2 v3 v4 v5 v6 x2 q1.2
  else
    some (0, q1.2)
def fX10_codes_L54 (fu : Nat) : Nat → Nat → Int32 → Int32 → Int32 → Int32 → Int32 → Int32 → Mm → Option (Int32 × Mm)
  | 0 => fun _ _ _ _ _ _ _ _ => none
  | n + 1 => fX10_codes_B54 (fX10_codes_L54 fu n) fu
def fX10_codes (fu : Nat) (a0 : Nat) (v1 : Int32) (v2 : Int32) (μ : Mm) : Option (Int32 × Mm) :=
  lt' (1 <<< (v1 &&& 31)) fun x1 =>
  bd (fX10_places a0 (μ.1 a0 14) v2 μ) fun x2 =>
  bd (fX10_colours a0 (μ.1 a0 14) v2 μ) fun x3 =>
  bd (fX10_alone fu a0 v1 μ) fun μ4 =>
  lt' (fX10_restart a0 v1 μ4) fun μ5 =>
  lt' (si μ5 a0 23 0) fun μ6 =>
  bd (fX10_code fu a0 μ6) fun q7 =>
  if q7.1 = x1 then
    fX10_codes_L54 fu fu a0 v1 v2 x1 x2 x3 0 q7.2
  else
    some (0, q7.2)
def fX10_gather_L65 (rec10 : Nat → Int32 → Mm → Option (Mm)) (fu : Nat) (a0 : Nat) (μ : Mm) : Option (Mm) :=
  bd (fX10_one a0 μ) fun q1 =>
  lt' q1.1 fun x2 =>
  rec10 a0 x2 q1.2
def fX10_gather_B23 (rec10 : Nat → Int32 → Mm → Option (Mm)) (rec23 : Nat → Int32 → Int32 → Mm → Option (Mm)) (fu : Nat) (a0 : Nat) (v1 : Int32) (v2 : Int32) (μ : Mm) : Option (Mm) :=
  if v1 ≤ v2 then
    fX10_gather_L65 rec10 fu a0 μ
  else
    lt' (fX10_good a0 μ) fun x1 =>
    if x1 = 0 then
      fX10_gather_L65 rec10 fu a0 μ
    else
      bd (fX10_one a0 μ) fun q2 =>
      gd (ib (μ.1 a0 22) 12020) <|
      lt' (si q2.2 (μ.2 a0 21) (μ.1 a0 22).toNatClampNeg (vp_nar .byte q2.1.toInt8.toInt32)) fun μ3 =>
      lt' (si μ3 a0 22 ((μ3.1 a0 22) + 1)) fun μ4 =>
      lt' (v2 + 1) fun x5 =>
      rec23 a0 v1 x5 μ4
def fX10_gather_L23 (rec10 : Nat → Int32 → Mm → Option (Mm)) (fu : Nat) : Nat → Nat → Int32 → Int32 → Mm → Option (Mm)
  | 0 => fun _ _ _ _ => none
  | n + 1 => fX10_gather_B23 rec10 (fX10_gather_L23 rec10 fu n) fu
def fX10_gather_B10 (rec10 : Nat → Int32 → Mm → Option (Mm)) (fu : Nat) (a0 : Nat) (v1 : Int32) (μ : Mm) : Option (Mm) :=
  lt' (fX10_good a0 μ) fun x1 =>
  if x1 = 0 then
    some μ
  else
    if v1 ≤ 0 then
      some μ
    else
      fX10_gather_L23 rec10 fu fu a0 v1 0 μ
def fX10_gather_L10 (fu : Nat) : Nat → Nat → Int32 → Mm → Option (Mm)
  | 0 => fun _ _ _ => none
  | n + 1 => fX10_gather_B10 (fX10_gather_L10 fu n) fu
def fX10_gather (fu : Nat) (a0 : Nat) (μ : Mm) : Option (Mm) :=
  lt' (si μ a0 22 0) fun μ1 =>
  bd (fX10_one a0 μ1) fun q2 =>
  lt' q2.1 fun x3 =>
  fX10_gather_L10 fu fu a0 x3 q2.2
def fX10_readTable_B3 (rec3 : Nat → Nat → Int32 → Int32 → Int32 → Mm → Option (Mm)) (fu : Nat) (ln : Nat) (a0 : Nat) (a1 : Nat) (v2 : Int32) (v3 : Int32) (v4 : Int32) (μ : Mm) : Option (Mm) :=
  if v3 ≤ v4 then
    some μ
  else
    lt' (fX10_good a0 μ) fun x1 =>
    if x1 = 0 then
      some μ
    else
      bd (fX10_one a0 μ) fun q2 =>
      lt' (q2.1 <<< (16 &&& 31)) fun x3 =>
      bd (fX10_one a0 q2.2) fun q4 =>
      lt' (x3 ||| (q4.1 <<< (8 &&& 31))) fun x5 =>
      bd (fX10_one a0 q4.2) fun q6 =>
      gd (ib (v2 + v4) ln) <|
      lt' (si q6.2 a1 (v2 + v4).toNatClampNeg (x5 ||| q6.1)) fun μ7 =>
      lt' (v4 + 1) fun x8 =>
      rec3 a0 a1 v2 v3 x8 μ7
def fX10_readTable_L3 (fu : Nat) (ln : Nat) : Nat → Nat → Nat → Int32 → Int32 → Int32 → Mm → Option (Mm)
  | 0 => fun _ _ _ _ _ _ => none
  | n + 1 => fX10_readTable_B3 (fX10_readTable_L3 fu ln n) fu ln
def fX10_readTable (fu : Nat) (ln : Nat) (a0 : Nat) (a1 : Nat) (v2 : Int32) (v3 : Int32) (μ : Mm) : Option (Mm) :=
  fX10_readTable_L3 fu ln fu a0 a1 v2 v3 0 μ
def fX10_readImage_L406 (fu : Nat) (a0 : Nat) (v2 : Int32) (μ : Mm) : Option (Mm) :=
  lt' (fX10_good a0 μ) fun x1 =>
  if x1 = 0 then
    some μ
  else
    gd (ib ((6 * (μ.1 a0 14)) + 5) 12) <|
    lt' (si μ (μ.2 a0 7) ((6 * (μ.1 a0 14)) + 5).toNatClampNeg (v2 + 1)) fun μ2 =>
    some μ2
def fX10_readImage_L369 (fu : Nat) (a0 : Nat) (v2 : Int32) (v10 : Int32) (v11 : Int32) (μ : Mm) : Option (Mm) :=
  lt' (fX10_good a0 μ) fun x1 =>
  if x1 = 0 then
    some μ
  else
    bd (fX10_gather fu a0 μ) fun μ2 =>
    lt' (fX10_good a0 μ2) fun x3 =>
    if x3 = 0 then
      fX10_readImage_L406 fu a0 v2 μ2
    else
      bd (fX10_codes fu a0 v11 v2 μ2) fun q4 =>
      if q4.1 = 0 then
        lt' (fX10_wrong a0 9 v10 q4.2) fun μ5 =>
        fX10_readImage_L406 fu a0 v2 μ5
      else
        fX10_readImage_L406 fu a0 v2 q4.2
def fX10_readImage_L361 (fu : Nat) (a0 : Nat) (v2 : Int32) (v10 : Int32) (v11 : Int32) (μ : Mm) : Option (Mm) :=
  lt' (fX10_wrong a0 8 v10 μ) fun μ1 =>
  fX10_readImage_L369 fu a0 v2 v10 v11 μ1
def fX10_readImage_L169 (fu : Nat) (a0 : Nat) (v2 : Int32) (v3 : Int32) (v4 : Int32) (v5 : Int32) (v6 : Int32) (v8 : Int32) (v9 : Int32) (μ : Mm) : Option (Mm) :=
  lt' (fX10_good a0 μ) fun x1 =>
  if x1 = 0 then
    some μ
  else
    lt' (fX10_localAt (μ.1 a0 14) v2 0) fun x2 =>
    bd (fX10_readTable fu 12288 a0 (μ.2 a0 10) x2 v9 μ) fun μ3 =>
    bd (fX10_setField a0 (μ3.1 a0 14) v2 0 v3 μ3) fun μ4 =>
    bd (fX10_setField a0 (μ4.1 a0 14) v2 1 v4 μ4) fun μ5 =>
    bd (fX10_setField a0 (μ5.1 a0 14) v2 2 v5 μ5) fun μ6 =>
    bd (fX10_setField a0 (μ6.1 a0 14) v2 3 v6 μ6) fun μ7 =>
    bd (fX10_setField a0 (μ7.1 a0 14) v2 4 v9 μ7) fun μ8 =>
    bd (fX10_setField a0 (μ8.1 a0 14) v2 5 ((v8 >>> (6 &&& 31)) &&& 1) μ8) fun μ9 =>
    bd (fX10_setField a0 (μ9.1 a0 14) v2 6 (μ9.1 a0 17) μ9) fun μ10 =>
    bd (fX10_setField a0 (μ10.1 a0 14) v2 7 (μ10.1 a0 18) μ10) fun μ11 =>
    bd (fX10_setField a0 (μ11.1 a0 14) v2 8 (μ11.1 a0 19) μ11) fun μ12 =>
    bd (fX10_setField a0 (μ12.1 a0 14) v2 9 (μ12.1 a0 20) μ12) fun μ13 =>
    lt' (fX10_forget a0 μ13) fun μ14 =>
    lt' (μ14.1 a0 12) fun x15 =>
    bd (fX10_one a0 μ14) fun q16 =>
    lt' q16.1 fun x17 =>
    if x17 < 2 then
      fX10_readImage_L361 fu a0 v2 x15 x17 q16.2
    else
      if x17 ≤ 8 then
        fX10_readImage_L369 fu a0 v2 x15 x17 q16.2
      else
        fX10_readImage_L361 fu a0 v2 x15 x17 q16.2
def fX10_readImage_L138 (fu : Nat) (a0 : Nat) (v1 : Int32) (v2 : Int32) (v3 : Int32) (v4 : Int32) (v5 : Int32) (v6 : Int32) (v8 : Int32) (t0 : Int32) (μ : Mm) : Option (Mm) :=
  if t0 = 0 then
    gd (ib ((6 * (μ.1 a0 14)) + 2) 12) <|
    if (μ.1 (μ.2 a0 7) ((6 * (μ.1 a0 14)) + 2).toNatClampNeg) = 0 then
      lt' (fX10_wrong a0 7 v1 μ) fun μ2 =>
      fX10_readImage_L169 fu a0 v2 v3 v4 v5 v6 v8 t0 μ2
    else
      fX10_readImage_L169 fu a0 v2 v3 v4 v5 v6 v8 t0 μ
  else
    fX10_readImage_L169 fu a0 v2 v3 v4 v5 v6 v8 t0 μ
def fX10_readImage_L114 (fu : Nat) (a0 : Nat) (v1 : Int32) (v2 : Int32) (v3 : Int32) (v4 : Int32) (v5 : Int32) (v6 : Int32) (μ : Mm) : Option (Mm) :=
  bd (fX10_one a0 μ) fun q1 =>
  lt' q1.1 fun x2 =>
  if x2 ≤ 127 then
    fX10_readImage_L138 fu a0 v1 v2 v3 v4 v5 v6 x2 0 q1.2
  else
    fX10_readImage_L138 fu a0 v1 v2 v3 v4 v5 v6 x2 (2 <<< ((x2 &&& 7) &&& 31)) q1.2
def fX10_readImage_L100 (fu : Nat) (a0 : Nat) (v1 : Int32) (v2 : Int32) (v3 : Int32) (v4 : Int32) (v5 : Int32) (v6 : Int32) (t0 : Int32) (μ : Mm) : Option (Mm) :=
  if t0 = 0 then
    lt' (fX10_wrong a0 6 v1 μ) fun μ1 =>
    fX10_readImage_L114 fu a0 v1 v2 v3 v4 v5 v6 μ1
  else
    fX10_readImage_L114 fu a0 v1 v2 v3 v4 v5 v6 μ
def fX10_readImage_L99 (fu : Nat) (a0 : Nat) (v1 : Int32) (v2 : Int32) (v3 : Int32) (v4 : Int32) (v5 : Int32) (v6 : Int32) (μ : Mm) : Option (Mm) :=
  fX10_readImage_L100 fu a0 v1 v2 v3 v4 v5 v6 0 μ
def fX10_readImage (fu : Nat) (a0 : Nat) (v1 : Int32) (μ : Mm) : Option (Mm) :=
  gd (ib ((6 * (μ.1 a0 14)) + 5) 12) <|
  lt' (μ.1 (μ.2 a0 7) ((6 * (μ.1 a0 14)) + 5).toNatClampNeg) fun x2 =>
  bd (fX10_two a0 μ) fun q3 =>
  lt' q3.1 fun x4 =>
  bd (fX10_two a0 q3.2) fun q5 =>
  lt' q5.1 fun x6 =>
  bd (fX10_two a0 q5.2) fun q7 =>
  lt' q7.1 fun x8 =>
  bd (fX10_two a0 q7.2) fun q9 =>
  lt' q9.1 fun x10 =>
  if (24 : Int32) ≤ x2 then
    fX10_readImage_L99 fu a0 v1 x2 x4 x6 x8 x10 q9.2
  else
    if x8 ≤ 0 then
      fX10_readImage_L99 fu a0 v1 x2 x4 x6 x8 x10 q9.2
    else
      if x10 ≤ 0 then
        fX10_readImage_L99 fu a0 v1 x2 x4 x6 x8 x10 q9.2
      else
        gd (ib (6 * (q9.2.1 a0 14)) 12) <|
        if (q9.2.1 (q9.2.2 a0 7) (6 * (q9.2.1 a0 14)).toNatClampNeg) < (x4 + x8) then
          fX10_readImage_L99 fu a0 v1 x2 x4 x6 x8 x10 q9.2
        else
          gd (ib ((6 * (q9.2.1 a0 14)) + 1) 12) <|
          if (q9.2.1 (q9.2.2 a0 7) ((6 * (q9.2.1 a0 14)) + 1).toNatClampNeg) < (x6 + x10) then
            fX10_readImage_L99 fu a0 v1 x2 x4 x6 x8 x10 q9.2
          else
            fX10_readImage_L100 fu a0 v1 x2 x4 x6 x8 x10 1 q9.2
def fX10_length (a0 : Nat) (v1 : Int32) (μ : Mm) : Option (Mm) :=
  lt' (μ.1 a0 12) fun x1 =>
  bd (fX10_one a0 μ) fun q2 =>
  if q2.1 = v1 then
    some q2.2
  else
    lt' (fX10_wrong a0 5 x1 q2.2) fun μ3 =>
    some μ3
def fX10_skip_B2 (rec2 : Nat → Int32 → Int32 → Mm → Option (Mm)) (fu : Nat) (a0 : Nat) (v1 : Int32) (v2 : Int32) (μ : Mm) : Option (Mm) :=
  if v1 ≤ v2 then
    some μ
  else
    bd (fX10_one a0 μ) fun q1 =>
    lt' (v2 + 1) fun x2 =>
    rec2 a0 v1 x2 q1.2
def fX10_skip_L2 (fu : Nat) : Nat → Nat → Int32 → Int32 → Mm → Option (Mm)
  | 0 => fun _ _ _ _ => none
  | n + 1 => fX10_skip_B2 (fX10_skip_L2 fu n) fu
def fX10_skip (fu : Nat) (a0 : Nat) (v1 : Int32) (μ : Mm) : Option (Mm) :=
  fX10_skip_L2 fu fu a0 v1 0 μ
def fX10_rows_B5 (rec5 : Nat → Int32 → Mm → Option (Mm)) (fu : Nat) (a0 : Nat) (v1 : Int32) (μ : Mm) : Option (Mm) :=
  lt' (fX10_good a0 μ) fun x1 =>
  if x1 = 0 then
    some μ
  else
    if v1 ≤ 0 then
      some μ
    else
      bd (fX10_skip fu a0 v1 μ) fun μ2 =>
      bd (fX10_one a0 μ2) fun q3 =>
      lt' q3.1 fun x4 =>
      rec5 a0 x4 q3.2
def fX10_rows_L5 (fu : Nat) : Nat → Nat → Int32 → Mm → Option (Mm)
  | 0 => fun _ _ _ => none
  | n + 1 => fX10_rows_B5 (fX10_rows_L5 fu n) fu
def fX10_rows (fu : Nat) (a0 : Nat) (μ : Mm) : Option (Mm) :=
  bd (fX10_one a0 μ) fun q1 =>
  lt' q1.1 fun x2 =>
  fX10_rows_L5 fu fu a0 x2 q1.2
def fX10_readMore_L179 (fu : Nat) (a0 : Nat) (v1 : Int32) (μ : Mm) : Option (Mm) :=
  lt' (fX10_wrong a0 4 v1 μ) fun μ1 =>
  some μ1
def fX10_readMore_L172 (fu : Nat) (a0 : Nat) (μ : Mm) : Option (Mm) :=
  bd (fX10_rows fu a0 μ) fun μ1 =>
  some μ1
def fX10_readMore_L159 (fu : Nat) (a0 : Nat) (v2 : Int32) (μ : Mm) : Option (Mm) :=
  if v2 = 255 then
    bd (fX10_skip fu a0 11 μ) fun μ1 =>
    fX10_readMore_L172 fu a0 μ1
  else
    fX10_readMore_L172 fu a0 μ
def fX10_readMore_L139 (fu : Nat) (a0 : Nat) (v1 : Int32) (v2 : Int32) (μ : Mm) : Option (Mm) :=
  if (μ.1 a0 16) = 0 then
    if v2 = 255 then
      bd (fX10_length a0 11 μ) fun μ1 =>
      fX10_readMore_L159 fu a0 v2 μ1
    else
      fX10_readMore_L159 fu a0 v2 μ
  else
    fX10_readMore_L179 fu a0 v1 μ
def fX10_readMore_L97 (fu : Nat) (a0 : Nat) (v1 : Int32) (v2 : Int32) (μ : Mm) : Option (Mm) :=
  if v2 = 1 then
    bd (fX10_length a0 12 μ) fun μ1 =>
    bd (fX10_skip fu a0 12 μ1) fun μ2 =>
    bd (fX10_rows fu a0 μ2) fun μ3 =>
    lt' (fX10_forget a0 μ3) fun μ4 =>
    some μ4
  else
    if v2 = 254 then
      fX10_readMore_L139 fu a0 v1 v2 μ
    else
      if v2 = 255 then
        fX10_readMore_L139 fu a0 v1 v2 μ
      else
        fX10_readMore_L179 fu a0 v1 μ
def fX10_readMore (fu : Nat) (a0 : Nat) (μ : Mm) : Option (Mm) :=
  lt' (μ.1 a0 12) fun x1 =>
  bd (fX10_one a0 μ) fun q2 =>
  lt' q2.1 fun x3 =>
  if x3 = 249 then
    if (q2.2.1 a0 16) = 0 then
      bd (fX10_length a0 4 q2.2) fun μ4 =>
      bd (fX10_one a0 μ4) fun q5 =>
      lt' q5.1 fun x6 =>
      bd (fX10_two a0 q5.2) fun q7 =>
      lt' (si q7.2 a0 19 q7.1) fun μ8 =>
      bd (fX10_one a0 μ8) fun q9 =>
      lt' q9.1 fun x10 =>
      bd (fX10_length a0 0 q9.2) fun μ11 =>
      lt' (si μ11 a0 16 1) fun μ12 =>
      lt' (si μ12 a0 17 ((x6 >>> (2 &&& 31)) &&& 7)) fun μ13 =>
      lt' (si μ13 a0 20 ((x6 >>> (1 &&& 31)) &&& 1)) fun μ14 =>
      if (x6 &&& 1) = 1 then
        lt' (si μ14 a0 18 x10) fun μ16 =>
        some μ16
      else
        lt' (si μ14 a0 18 (-1)) fun μ15 =>
        some μ15
    else
      fX10_readMore_L97 fu a0 x1 x3 q2.2
  else
    fX10_readMore_L97 fu a0 x1 x3 q2.2
def fX10_readBlocks_L89 (rec9 : Nat → Int32 → Mm → Option (Mm)) (fu : Nat) (a0 : Nat) (v1 : Int32) (μ : Mm) : Option (Mm) :=
  if v1 = 0 then
    rec9 a0 0 μ
  else
    lt' (fX10_good a0 μ) fun x1 =>
    if x1 = 0 then
      rec9 a0 0 μ
    else
      rec9 a0 1 μ
def fX10_readBlocks_L83 (rec9 : Nat → Int32 → Mm → Option (Mm)) (fu : Nat) (a0 : Nat) (v1 : Int32) (v2 : Int32) (μ : Mm) : Option (Mm) :=
  lt' (fX10_wrong a0 4 v2 μ) fun μ1 =>
  fX10_readBlocks_L89 rec9 fu a0 v1 μ1
def fX10_readBlocks_L65 (rec9 : Nat → Int32 → Mm → Option (Mm)) (fu : Nat) (a0 : Nat) (v1 : Int32) (v2 : Int32) (v3 : Int32) (μ : Mm) : Option (Mm) :=
  if v3 = 59 then
    if (μ.1 a0 16) = 0 then
      fX10_readBlocks_L89 rec9 fu a0 0 μ
    else
      fX10_readBlocks_L83 rec9 fu a0 v1 v2 μ
  else
    fX10_readBlocks_L83 rec9 fu a0 v1 v2 μ
def fX10_readBlocks_B9 (rec9 : Nat → Int32 → Mm → Option (Mm)) (fu : Nat) (a0 : Nat) (v1 : Int32) (μ : Mm) : Option (Mm) :=
  if v1 = 0 then
    lt' (fX10_good a0 μ) fun x1 =>
    if x1 = 0 then
      some μ
    else
      if (μ.1 a0 13) ≤ (μ.1 a0 12) then
        some μ
      else
        lt' (fX10_wrong a0 10 (μ.1 a0 12) μ) fun μ2 =>
        some μ2
  else
    lt' (μ.1 a0 12) fun x3 =>
    bd (fX10_one a0 μ) fun q4 =>
    lt' q4.1 fun x5 =>
    lt' (fX10_good a0 q4.2) fun x6 =>
    if x6 = 0 then
      some q4.2
    else
      if x5 = 44 then
        bd (fX10_readImage fu a0 x3 q4.2) fun μ8 =>
        fX10_readBlocks_L89 rec9 fu a0 v1 μ8
      else
        if x5 = 33 then
          if (q4.2.1 a0 15) = 0 then
            bd (fX10_readMore fu a0 q4.2) fun μ7 =>
            fX10_readBlocks_L89 rec9 fu a0 v1 μ7
          else
            fX10_readBlocks_L65 rec9 fu a0 v1 x3 x5 q4.2
        else
          fX10_readBlocks_L65 rec9 fu a0 v1 x3 x5 q4.2
def fX10_readBlocks_L9 (fu : Nat) : Nat → Nat → Int32 → Mm → Option (Mm)
  | 0 => fun _ _ _ => none
  | n + 1 => fX10_readBlocks_B9 (fX10_readBlocks_L9 fu n) fu
def fX10_readBlocks (fu : Nat) (a0 : Nat) (μ : Mm) : Option (Mm) :=
  lt' (fX10_forget a0 μ) fun μ1 =>
  lt' (fX10_good a0 μ1) fun x2 =>
  fX10_readBlocks_L9 fu fu a0 x2 μ1
def fX10_must (a0 : Nat) (v1 : Int32) (v2 : Int32) (μ : Mm) : Option (Mm) :=
  bd (fX10_one a0 μ) fun q1 =>
  if q1.1 = v1 then
    some q1.2
  else
    lt' (fX10_wrong a0 1 v2 q1.2) fun μ2 =>
    some μ2
def fX10_readHead_L217 (fu : Nat) (a0 : Nat) (o0 : Nat) (t1 : Int32) (t2 : Int32) (μ : Mm) : Option (Mm) :=
  gd (ib t1 12) <|
  lt' (si μ o0 t1.toNatClampNeg t2) fun μ1 =>
  gd (ib ((6 * (μ1.1 a0 14)) + 2) 12) <|
  bd (fX10_readTable fu 512 a0 (μ1.2 a0 8) (256 * (μ1.1 a0 14)) (μ1.1 (μ1.2 a0 7) ((6 * (μ1.1 a0 14)) + 2).toNatClampNeg) μ1) fun μ3 =>
  some μ3
def fX10_readHead_L110 (rec75 : Nat → Int32 → Mm → Option (Mm)) (fu : Nat) (a0 : Nat) (v2 : Int32) (v4 : Int32) (μ : Mm) : Option (Mm) :=
  gd (ib ((6 * (μ.1 a0 14)) + v2) 12) <|
  lt' (si μ (μ.2 a0 7) ((6 * (μ.1 a0 14)) + v2).toNatClampNeg v4) fun μ1 =>
  lt' (v2 + 1) fun x2 =>
  rec75 a0 x2 μ1
def fX10_readHead_L104 (rec75 : Nat → Int32 → Mm → Option (Mm)) (fu : Nat) (a0 : Nat) (v2 : Int32) (v3 : Int32) (v4 : Int32) (μ : Mm) : Option (Mm) :=
  lt' (fX10_wrong a0 3 v3 μ) fun μ1 =>
  fX10_readHead_L110 rec75 fu a0 v2 v4 μ1
def fX10_readHead_B75 (rec75 : Nat → Int32 → Mm → Option (Mm)) (fu : Nat) (a0 : Nat) (v2 : Int32) (μ : Mm) : Option (Mm) :=
  if (2 : Int32) ≤ v2 then
    bd (fX10_one a0 μ) fun q1 =>
    lt' q1.1 fun x2 =>
    bd (fX10_one a0 q1.2) fun q3 =>
    gd (ib ((6 * (q1.2.1 a0 14)) + 3) 12) <|
    lt' (si q3.2 (q1.2.2 a0 7) ((6 * (q1.2.1 a0 14)) + 3).toNatClampNeg q3.1) fun μ4 =>
    bd (fX10_one a0 μ4) fun q5 =>
    gd (ib ((6 * (μ4.1 a0 14)) + 4) 12) <|
    lt' (si q5.2 (μ4.2 a0 7) ((6 * (μ4.1 a0 14)) + 4).toNatClampNeg q5.1) fun μ6 =>
    gd (ib ((6 * (μ6.1 a0 14)) + 5) 12) <|
    lt' (si μ6 (μ6.2 a0 7) ((6 * (μ6.1 a0 14)) + 5).toNatClampNeg 0) fun μ7 =>
    if x2 ≤ 127 then
      fX10_readHead_L217 fu a0 (μ7.2 a0 7) ((6 * (μ7.1 a0 14)) + 2) 0 μ7
    else
      fX10_readHead_L217 fu a0 (μ7.2 a0 7) ((6 * (μ7.1 a0 14)) + 2) (2 <<< ((x2 &&& 7) &&& 31)) μ7
  else
    lt' (μ.1 a0 12) fun x8 =>
    bd (fX10_two a0 μ) fun q9 =>
    lt' q9.1 fun x10 =>
    if x10 < 1 then
      fX10_readHead_L104 rec75 fu a0 v2 x8 x10 q9.2
    else
      if x10 ≤ 64 then
        fX10_readHead_L110 rec75 fu a0 v2 x10 q9.2
      else
        fX10_readHead_L104 rec75 fu a0 v2 x8 x10 q9.2
def fX10_readHead_L75 (fu : Nat) : Nat → Nat → Int32 → Mm → Option (Mm)
  | 0 => fun _ _ _ => none
  | n + 1 => fX10_readHead_B75 (fX10_readHead_L75 fu n) fu
def fX10_readHead_L63 (fu : Nat) (a0 : Nat) (o0 : Nat) (t1 : Int32) (μ : Mm) : Option (Mm) :=
  gd (b01 t1) <|
  lt' (si μ o0 15 t1) fun μ1 =>
  bd (fX10_must a0 97 0 μ1) fun μ2 =>
  fX10_readHead_L75 fu fu a0 0 μ2
def fX10_readHead_L51 (fu : Nat) (a0 : Nat) (v1 : Int32) (μ : Mm) : Option (Mm) :=
  if v1 = 55 then
    fX10_readHead_L63 fu a0 a0 1 μ
  else
    fX10_readHead_L63 fu a0 a0 0 μ
def fX10_readHead (fu : Nat) (a0 : Nat) (μ : Mm) : Option (Mm) :=
  bd (fX10_must a0 71 0 μ) fun μ1 =>
  bd (fX10_must a0 73 0 μ1) fun μ2 =>
  bd (fX10_must a0 70 0 μ2) fun μ3 =>
  bd (fX10_must a0 56 0 μ3) fun μ4 =>
  bd (fX10_one a0 μ4) fun q5 =>
  lt' q5.1 fun x6 =>
  if x6 = 55 then
    fX10_readHead_L51 fu a0 x6 q5.2
  else
    if x6 = 57 then
      fX10_readHead_L51 fu a0 x6 q5.2
    else
      lt' (fX10_wrong a0 1 0 q5.2) fun μ7 =>
      fX10_readHead_L51 fu a0 x6 μ7
def fX10_read (fu : Nat) (a0 : Nat) (v1 : Int32) (μ : Mm) : Option (Int32 × Mm) :=
  if v1 < 0 then
    some ((-2), μ)
  else
    if v1 ≤ (μ.1 a0 2) then
      lt' (si μ a0 2 0) fun μ1 =>
      lt' (si μ1 a0 4 0) fun μ2 =>
      lt' (si μ2 a0 5 (-1)) fun μ3 =>
      lt' (si μ3 a0 12 0) fun μ4 =>
      lt' (si μ4 a0 13 v1) fun μ5 =>
      lt' (si μ5 a0 14 (1 - (μ5.1 a0 6))) fun μ6 =>
      bd (fX10_readHead fu a0 μ6) fun μ7 =>
      bd (fX10_readBlocks fu a0 μ7) fun μ8 =>
      lt' (fX10_good a0 μ8) fun x9 =>
      if x9 = 0 then
        some ((-1), μ8)
      else
        lt' (si μ8 a0 6 (μ8.1 a0 14)) fun μ10 =>
        bd (fX10_frames a0 μ10) fun x11 =>
        some (x11, μ10)
    else
      some ((-2), μ)
def fX10_fault (a0 : Nat) (v1 : Int32) (μ : Mm) : Int32 :=
  if v1 = 0 then
    μ.1 a0 4
  else
    if v1 = 1 then
      μ.1 a0 5
    else
      (-1)
def fX10_isTable (v0 : Int32) : Int32 :=
  if v0 = 0 then
    1
  else
    if v0 < 2 then
      0
    else
      if (256 : Int32) < v0 then
        0
      else
        if (v0 &&& (v0 - 1)) = 0 then
          1
        else
          0
def fX10_isWithin (v0 : Int32) (v1 : Int32) (v2 : Int32) : Int32 :=
  if v0 < v1 then
    0
  else
    if v2 < v0 then
      0
    else
      1
def fX10_begin_B133 (rec133 : Nat → Int32 → Mm → Option (Int32 × Mm)) (fu : Nat) (a0 : Nat) (v5 : Int32) (μ : Mm) : Option (Int32 × Mm) :=
  if (256 : Int32) ≤ v5 then
    some (1, μ)
  else
    gd (ib ((256 * (μ.1 a0 6)) + v5) 512) <|
    lt' (si μ (μ.2 a0 8) ((256 * (μ.1 a0 6)) + v5).toNatClampNeg 0) fun μ1 =>
    lt' (v5 + 1) fun x2 =>
    rec133 a0 x2 μ1
def fX10_begin_L133 (fu : Nat) : Nat → Nat → Int32 → Mm → Option (Int32 × Mm)
  | 0 => fun _ _ _ => none
  | n + 1 => fX10_begin_B133 (fX10_begin_L133 fu n) fu
def fX10_begin (fu : Nat) (a0 : Nat) (v1 : Int32) (v2 : Int32) (v3 : Int32) (v4 : Int32) (μ : Mm) : Option (Int32 × Mm) :=
  lt' (fX10_isWithin v1 1 64) fun x1 =>
  if x1 = 0 then
    some (0, μ)
  else
    lt' (fX10_isWithin v2 1 64) fun x2 =>
    if x2 = 0 then
      some (0, μ)
    else
      lt' (fX10_isTable v3) fun x3 =>
      if x3 = 0 then
        some (0, μ)
      else
        lt' (fX10_isWithin v4 0 255) fun x4 =>
        if x4 = 0 then
          some (0, μ)
        else
          gd (ib (6 * (μ.1 a0 6)) 12) <|
          lt' (si μ (μ.2 a0 7) (6 * (μ.1 a0 6)).toNatClampNeg v1) fun μ5 =>
          gd (ib ((6 * (μ5.1 a0 6)) + 1) 12) <|
          lt' (si μ5 (μ5.2 a0 7) ((6 * (μ5.1 a0 6)) + 1).toNatClampNeg v2) fun μ6 =>
          gd (ib ((6 * (μ6.1 a0 6)) + 2) 12) <|
          lt' (si μ6 (μ6.2 a0 7) ((6 * (μ6.1 a0 6)) + 2).toNatClampNeg v3) fun μ7 =>
          gd (ib ((6 * (μ7.1 a0 6)) + 3) 12) <|
          lt' (si μ7 (μ7.2 a0 7) ((6 * (μ7.1 a0 6)) + 3).toNatClampNeg v4) fun μ8 =>
          gd (ib ((6 * (μ8.1 a0 6)) + 4) 12) <|
          lt' (si μ8 (μ8.2 a0 7) ((6 * (μ8.1 a0 6)) + 4).toNatClampNeg 0) fun μ9 =>
          gd (ib ((6 * (μ9.1 a0 6)) + 5) 12) <|
          lt' (si μ9 (μ9.2 a0 7) ((6 * (μ9.1 a0 6)) + 5).toNatClampNeg 0) fun μ10 =>
          fX10_begin_L133 fu fu a0 0 μ10
def fX10_isColour_L52 (t0 : Int32) (t1 : Int32) (μ : Mm) : Option (Int32) :=
  if t1 ≤ t0 then
    some 0
  else
    some 1
def fX10_isColour_L15 (a0 : Nat) (v1 : Int32) (v2 : Int32) (μ : Mm) : Option (Int32) :=
  if v2 < 0 then
    some 0
  else
    if v1 = (-1) then
      gd (ib ((6 * (μ.1 a0 6)) + 2) 12) <|
      fX10_isColour_L52 v2 (μ.1 (μ.2 a0 7) ((6 * (μ.1 a0 6)) + 2).toNatClampNeg) μ
    else
      bd (fX10_field a0 (μ.1 a0 6) v1 4 μ) fun x1 =>
      fX10_isColour_L52 v2 x1 μ
def fX10_isColour (a0 : Nat) (v1 : Int32) (v2 : Int32) (μ : Mm) : Option (Int32) :=
  if v1 = (-1) then
    fX10_isColour_L15 a0 v1 v2 μ
  else
    bd (fX10_isFrame a0 v1 μ) fun x1 =>
    if x1 = 0 then
      some 0
    else
      fX10_isColour_L15 a0 v1 v2 μ
def fX10_colour (a0 : Nat) (v1 : Int32) (v2 : Int32) (v3 : Int32) (μ : Mm) : Option (Int32 × Mm) :=
  bd (fX10_isColour a0 v1 v2 μ) fun x1 =>
  if x1 = 0 then
    some (0, μ)
  else
    lt' (fX10_isWithin v3 0 16777215) fun x2 =>
    if x2 = 0 then
      some (0, μ)
    else
      if v1 = (-1) then
        gd (ib ((256 * (μ.1 a0 6)) + v2) 512) <|
        lt' (si μ (μ.2 a0 8) ((256 * (μ.1 a0 6)) + v2).toNatClampNeg v3) fun μ5 =>
        some (1, μ5)
      else
        lt' (fX10_localAt (μ.1 a0 6) v1 v2) fun x3 =>
        gd (ib x3 12288) <|
        lt' (si μ (μ.2 a0 10) x3.toNatClampNeg v3) fun μ4 =>
        some (1, μ4)
def fX10_frame_B293 (rec293 : Nat → Int32 → Int32 → Int32 → Int32 → Mm → Option (Int32 × Mm)) (fu : Nat) (a0 : Nat) (v3 : Int32) (v4 : Int32) (v7 : Int32) (v10 : Int32) (μ : Mm) : Option (Int32 × Mm) :=
  if (v3 * v4) ≤ v10 then
    lt' ((6 * (μ.1 a0 6)) + 5) fun x1 =>
    lt' (μ.2 a0 7) fun r2 =>
    gd (ib x1 12) <|
    gd (ib x1 12) <|
    lt' (si μ r2 x1.toNatClampNeg ((μ.1 r2 x1.toNatClampNeg) + 1)) fun μ4 =>
    some (v7, μ4)
  else
    bd (fX10_setIndex a0 (μ.1 a0 6) v7 v10 0 μ) fun μ5 =>
    lt' (v10 + 1) fun x6 =>
    rec293 a0 v3 v4 v7 x6 μ5
def fX10_frame_L293 (fu : Nat) : Nat → Nat → Int32 → Int32 → Int32 → Int32 → Mm → Option (Int32 × Mm)
  | 0 => fun _ _ _ _ _ _ => none
  | n + 1 => fX10_frame_B293 (fX10_frame_L293 fu n) fu
def fX10_frame_B260 (rec260 : Nat → Int32 → Int32 → Int32 → Int32 → Int32 → Mm → Option (Int32 × Mm)) (fu : Nat) (a0 : Nat) (v3 : Int32) (v4 : Int32) (v5 : Int32) (v7 : Int32) (v10 : Int32) (μ : Mm) : Option (Int32 × Mm) :=
  if v5 ≤ v10 then
    fX10_frame_L293 fu fu a0 v3 v4 v7 0 μ
  else
    lt' (fX10_localAt (μ.1 a0 6) v7 v10) fun x1 =>
    gd (ib x1 12288) <|
    lt' (si μ (μ.2 a0 10) x1.toNatClampNeg 0) fun μ2 =>
    lt' (v10 + 1) fun x3 =>
    rec260 a0 v3 v4 v5 v7 x3 μ2
def fX10_frame_L260 (fu : Nat) : Nat → Nat → Int32 → Int32 → Int32 → Int32 → Int32 → Mm → Option (Int32 × Mm)
  | 0 => fun _ _ _ _ _ _ _ => none
  | n + 1 => fX10_frame_B260 (fX10_frame_L260 fu n) fu
def fX10_frame_L202 (fu : Nat) (a0 : Nat) (v3 : Int32) (v4 : Int32) (v5 : Int32) (v7 : Int32) (o0 : Nat) (t1 : Int32) (t2 : Int32) (t3 : Int32) (t4 : Int32) (μ : Mm) : Option (Int32 × Mm) :=
  bd (fX10_setField o0 t1 t2 t3 t4 μ) fun μ1 =>
  bd (fX10_setField a0 (μ1.1 a0 6) v7 6 0 μ1) fun μ2 =>
  bd (fX10_setField a0 (μ2.1 a0 6) v7 7 (-1) μ2) fun μ3 =>
  bd (fX10_setField a0 (μ3.1 a0 6) v7 8 0 μ3) fun μ4 =>
  bd (fX10_setField a0 (μ4.1 a0 6) v7 9 0 μ4) fun μ5 =>
  fX10_frame_L260 fu fu a0 v3 v4 v5 v7 0 μ5
def fX10_frame_L122 (fu : Nat) (a0 : Nat) (v1 : Int32) (v2 : Int32) (v3 : Int32) (v4 : Int32) (v5 : Int32) (v6 : Int32) (v7 : Int32) (μ : Mm) : Option (Int32 × Mm) :=
  bd (fX10_setField a0 (μ.1 a0 6) v7 0 v1 μ) fun μ1 =>
  bd (fX10_setField a0 (μ1.1 a0 6) v7 1 v2 μ1) fun μ2 =>
  bd (fX10_setField a0 (μ2.1 a0 6) v7 2 v3 μ2) fun μ3 =>
  bd (fX10_setField a0 (μ3.1 a0 6) v7 3 v4 μ3) fun μ4 =>
  bd (fX10_setField a0 (μ4.1 a0 6) v7 4 v5 μ4) fun μ5 =>
  if v6 = 0 then
    fX10_frame_L202 fu a0 v3 v4 v5 v7 a0 (μ5.1 a0 6) v7 5 0 μ5
  else
    fX10_frame_L202 fu a0 v3 v4 v5 v7 a0 (μ5.1 a0 6) v7 5 1 μ5
def fX10_frame (fu : Nat) (a0 : Nat) (v1 : Int32) (v2 : Int32) (v3 : Int32) (v4 : Int32) (v5 : Int32) (v6 : Int32) (μ : Mm) : Option (Int32 × Mm) :=
  bd (fX10_frames a0 μ) fun x1 =>
  gd (ib (6 * (μ.1 a0 6)) 12) <|
  lt' (μ.1 (μ.2 a0 7) (6 * (μ.1 a0 6)).toNatClampNeg) fun x3 =>
  gd (ib ((6 * (μ.1 a0 6)) + 1) 12) <|
  lt' (μ.1 (μ.2 a0 7) ((6 * (μ.1 a0 6)) + 1).toNatClampNeg) fun x5 =>
  if x1 = 24 then
    some ((-1), μ)
  else
    lt' (fX10_isWithin v1 0 x3) fun x6 =>
    if x6 = 0 then
      some ((-1), μ)
    else
      lt' (fX10_isWithin v2 0 x5) fun x7 =>
      if x7 = 0 then
        some ((-1), μ)
      else
        lt' (fX10_isWithin v3 1 (x3 - v1)) fun x8 =>
        if x8 = 0 then
          some ((-1), μ)
        else
          lt' (fX10_isWithin v4 1 (x5 - v2)) fun x9 =>
          if x9 = 0 then
            some ((-1), μ)
          else
            lt' (fX10_isTable v5) fun x10 =>
            if x10 = 0 then
              some ((-1), μ)
            else
              if v5 = 0 then
                gd (ib ((6 * (μ.1 a0 6)) + 2) 12) <|
                if (μ.1 (μ.2 a0 7) ((6 * (μ.1 a0 6)) + 2).toNatClampNeg) = 0 then
                  some ((-1), μ)
                else
                  fX10_frame_L122 fu a0 v1 v2 v3 v4 v5 v6 x1 μ
              else
                fX10_frame_L122 fu a0 v1 v2 v3 v4 v5 v6 x1 μ
def fX10_control_L97 (o0 : Nat) (t1 : Int32) (t2 : Int32) (t3 : Int32) (t4 : Int32) (μ : Mm) : Option (Int32 × Mm) :=
  bd (fX10_setField o0 t1 t2 t3 t4 μ) fun μ1 =>
  some (1, μ1)
def fX10_control (a0 : Nat) (v1 : Int32) (v2 : Int32) (v3 : Int32) (v4 : Int32) (v5 : Int32) (μ : Mm) : Option (Int32 × Mm) :=
  bd (fX10_isFrame a0 v1 μ) fun x1 =>
  if x1 = 0 then
    some (0, μ)
  else
    lt' (fX10_isWithin v2 0 7) fun x2 =>
    if x2 = 0 then
      some (0, μ)
    else
      lt' (fX10_isWithin v3 (-1) 255) fun x3 =>
      if x3 = 0 then
        some (0, μ)
      else
        lt' (fX10_isWithin v4 0 65535) fun x4 =>
        if x4 = 0 then
          some (0, μ)
        else
          bd (fX10_setField a0 (μ.1 a0 6) v1 6 v2 μ) fun μ5 =>
          bd (fX10_setField a0 (μ5.1 a0 6) v1 7 v3 μ5) fun μ6 =>
          bd (fX10_setField a0 (μ6.1 a0 6) v1 8 v4 μ6) fun μ7 =>
          if v5 = 0 then
            fX10_control_L97 a0 (μ7.1 a0 6) v1 9 0 μ7
          else
            fX10_control_L97 a0 (μ7.1 a0 6) v1 9 1 μ7
def fX10_paint_B68 (rec68 : Nat → Int32 → Int32 → Int32 → Int32 → Int32 → Mm → Option (Int32 × Mm)) (fu : Nat) (a0 : Nat) (v1 : Int32) (v2 : Int32) (v3 : Int32) (v4 : Int32) (v6 : Int32) (μ : Mm) : Option (Int32 × Mm) :=
  if v3 ≤ v6 then
    some (1, μ)
  else
    bd (fX10_setIndex a0 (μ.1 a0 6) v1 (v2 + v6) v4 μ) fun μ1 =>
    lt' (v6 + 1) fun x2 =>
    rec68 a0 v1 v2 v3 v4 x2 μ1
def fX10_paint_L68 (fu : Nat) : Nat → Nat → Int32 → Int32 → Int32 → Int32 → Int32 → Mm → Option (Int32 × Mm)
  | 0 => fun _ _ _ _ _ _ _ => none
  | n + 1 => fX10_paint_B68 (fX10_paint_L68 fu n) fu
def fX10_paint (fu : Nat) (a0 : Nat) (v1 : Int32) (v2 : Int32) (v3 : Int32) (v4 : Int32) (μ : Mm) : Option (Int32 × Mm) :=
  bd (fX10_isFrame a0 v1 μ) fun x1 =>
  if x1 = 0 then
    some (0, μ)
  else
    bd (fX10_colours a0 (μ.1 a0 6) v1 μ) fun x2 =>
    lt' (fX10_isWithin v4 0 (x2 - 1)) fun x3 =>
    if x3 = 0 then
      some (0, μ)
    else
      bd (fX10_places a0 (μ.1 a0 6) v1 μ) fun x4 =>
      lt' (fX10_isWithin v2 0 x4) fun x5 =>
      if x5 = 0 then
        some (0, μ)
      else
        lt' (fX10_isWithin v3 0 (x4 - v2)) fun x6 =>
        if x6 = 0 then
          some (0, μ)
        else
          fX10_paint_L68 fu fu a0 v1 v2 v3 v4 0 μ
def fX10_say_L21 (a0 : Nat) (μ : Mm) : Option (Mm) :=
  lt' (si μ a0 31 ((μ.1 a0 31) + 1)) fun μ1 =>
  some μ1
def fX10_say (a0 : Nat) (v1 : Int32) (μ : Mm) : Option (Mm) :=
  if (12000 : Int32) ≤ (μ.1 a0 31) then
    fX10_say_L21 a0 μ
  else
    gd (ib (μ.1 a0 31) 12020) <|
    lt' (si μ (μ.2 a0 21) (μ.1 a0 31).toNatClampNeg (vp_nar .byte v1.toInt8.toInt32)) fun μ1 =>
    fX10_say_L21 a0 μ1
def fX10_sayTwo (a0 : Nat) (v1 : Int32) (μ : Mm) : Option (Mm) :=
  bd (fX10_say a0 v1 μ) fun μ1 =>
  bd (fX10_say a0 (v1 >>> (8 &&& 31)) μ1) fun μ2 =>
  some μ2
def fX10_sayTable_B3 (rec3 : Nat → Nat → Int32 → Int32 → Int32 → Mm → Option (Mm)) (fu : Nat) (ln : Nat) (a0 : Nat) (a1 : Nat) (v2 : Int32) (v3 : Int32) (v4 : Int32) (μ : Mm) : Option (Mm) :=
  if v3 ≤ v4 then
    some μ
  else
    gd (ib (v2 + v4) ln) <|
    bd (fX10_say a0 ((μ.1 a1 (v2 + v4).toNatClampNeg) >>> (16 &&& 31)) μ) fun μ2 =>
    gd (ib (v2 + v4) ln) <|
    bd (fX10_say a0 ((μ2.1 a1 (v2 + v4).toNatClampNeg) >>> (8 &&& 31)) μ2) fun μ4 =>
    gd (ib (v2 + v4) ln) <|
    bd (fX10_say a0 (μ4.1 a1 (v2 + v4).toNatClampNeg) μ4) fun μ6 =>
    lt' (v4 + 1) fun x7 =>
    rec3 a0 a1 v2 v3 x7 μ6
def fX10_sayTable_L3 (fu : Nat) (ln : Nat) : Nat → Nat → Nat → Int32 → Int32 → Int32 → Mm → Option (Mm)
  | 0 => fun _ _ _ _ _ _ => none
  | n + 1 => fX10_sayTable_B3 (fX10_sayTable_L3 fu ln n) fu ln
def fX10_sayTable (fu : Nat) (ln : Nat) (a0 : Nat) (a1 : Nat) (v2 : Int32) (v3 : Int32) (μ : Mm) : Option (Mm) :=
  fX10_sayTable_L3 fu ln fu a0 a1 v2 v3 0 μ
def fX10_bitsOf_B2 (rec2 : Int32 → Int32 → Option (Int32)) (fu : Nat) (v0 : Int32) (v1 : Int32) : Option (Int32) :=
  if v0 ≤ (2 <<< (v1 &&& 31)) then
    some v1
  else
    lt' (v1 + 1) fun x1 =>
    rec2 v0 x1
def fX10_bitsOf_L2 (fu : Nat) : Nat → Int32 → Int32 → Option (Int32)
  | 0 => fun _ _ => none
  | n + 1 => fX10_bitsOf_B2 (fX10_bitsOf_L2 fu n) fu
def fX10_bitsOf (fu : Nat) (v0 : Int32) : Option (Int32) :=
  fX10_bitsOf_L2 fu fu v0 0
def fX10_sayRow_B10 (rec10 : Nat → Int32 → Mm → Option (Mm)) (fu : Nat) (a0 : Nat) (v1 : Int32) (μ : Mm) : Option (Mm) :=
  if (μ.1 a0 34) ≤ v1 then
    lt' (si μ a0 34 0) fun μ1 =>
    some μ1
  else
    gd (ib v1 256) <|
    bd (fX10_say a0 (μ.1 (μ.2 a0 35) v1.toNatClampNeg) μ) fun μ3 =>
    lt' (v1 + 1) fun x4 =>
    rec10 a0 x4 μ3
def fX10_sayRow_L10 (fu : Nat) : Nat → Nat → Int32 → Mm → Option (Mm)
  | 0 => fun _ _ _ => none
  | n + 1 => fX10_sayRow_B10 (fX10_sayRow_L10 fu n) fu
def fX10_sayRow (fu : Nat) (a0 : Nat) (μ : Mm) : Option (Mm) :=
  bd (fX10_say a0 (μ.1 a0 34) μ) fun μ1 =>
  fX10_sayRow_L10 fu fu a0 0 μ1
def fX10_sayBits_L72 (rec25 : Nat → Mm → Option (Mm)) (fu : Nat) (a0 : Nat) (μ : Mm) : Option (Mm) :=
  lt' (si μ a0 32 (((μ.1 a0 32).toUInt32 >>> ((8 : Int32).toUInt32 &&& Int32.toUInt32 31)).toInt32)) fun μ1 =>
  lt' (si μ1 a0 33 ((μ1.1 a0 33) - 8)) fun μ2 =>
  rec25 a0 μ2
def fX10_sayBits_B25 (rec25 : Nat → Mm → Option (Mm)) (fu : Nat) (a0 : Nat) (μ : Mm) : Option (Mm) :=
  if (μ.1 a0 33) < 8 then
    some μ
  else
    gd (ib (μ.1 a0 34) 256) <|
    lt' (si μ (μ.2 a0 35) (μ.1 a0 34).toNatClampNeg (vp_nar .byte ((μ.1 a0 32).toInt8.toInt32))) fun μ1 =>
    lt' (si μ1 a0 34 ((μ1.1 a0 34) + 1)) fun μ2 =>
    if (μ2.1 a0 34) = 255 then
      bd (fX10_sayRow fu a0 μ2) fun μ3 =>
      fX10_sayBits_L72 rec25 fu a0 μ3
    else
      fX10_sayBits_L72 rec25 fu a0 μ2
def fX10_sayBits_L25 (fu : Nat) : Nat → Nat → Mm → Option (Mm)
  | 0 => fun _ _ => none
  | n + 1 => fX10_sayBits_B25 (fX10_sayBits_L25 fu n) fu
def fX10_sayBits (fu : Nat) (a0 : Nat) (v1 : Int32) (v2 : Int32) (μ : Mm) : Option (Mm) :=
  lt' (si μ a0 32 ((μ.1 a0 32) ||| (v1 <<< ((μ.1 a0 33) &&& 31)))) fun μ1 =>
  lt' (si μ1 a0 33 ((μ1.1 a0 33) + v2)) fun μ2 =>
  fX10_sayBits_L25 fu fu a0 μ2
def fX10_indexOf (a0 : Nat) (v1 : Int32) (v2 : Int32) (μ : Mm) : Option (Int32) :=
  bd (fX10_placeOf a0 (μ.1 a0 6) v1 v2 μ) fun x1 =>
  bd (fX10_indexAt a0 (μ.1 a0 6) v1 x1 μ) fun x2 =>
  some x2
def fX10_stands_L67 (fu : Nat) (v6 : Int32) (μ : Mm) : Option (Int32) :=
  if (0 : Int32) ≤ v6 then
    some 0
  else
    some 1
def fX10_stands_B30 (rec30 : Nat → Int32 → Int32 → Int32 → Mm → Option (Int32)) (fu : Nat) (a0 : Nat) (v2 : Int32) (v5 : Int32) (v6 : Int32) (μ : Mm) : Option (Int32) :=
  if v6 < 0 then
    fX10_stands_L67 fu v6 μ
  else
    gd (ib v6 4096) <|
    bd (fX10_indexOf a0 v2 v5 μ) fun x2 =>
    if (μ.1 (μ.2 a0 25) v6.toNatClampNeg) = x2 then
      lt' (v5 + (-1)) fun x3 =>
      gd (ib v6 4096) <|
      lt' (μ.1 (μ.2 a0 24) v6.toNatClampNeg) fun x5 =>
      rec30 a0 v2 x3 x5 μ
    else
      fX10_stands_L67 fu v6 μ
def fX10_stands_L30 (fu : Nat) : Nat → Nat → Int32 → Int32 → Int32 → Mm → Option (Int32)
  | 0 => fun _ _ _ _ _ => none
  | n + 1 => fX10_stands_B30 (fX10_stands_L30 fu n) fu
def fX10_stands (fu : Nat) (a0 : Nat) (v1 : Int32) (v2 : Int32) (v3 : Int32) (v4 : Int32) (μ : Mm) : Option (Int32) :=
  gd (ib v1 4096) <|
  if (v3 + (μ.1 (μ.2 a0 27) v1.toNatClampNeg)) ≤ v4 then
    gd (ib v1 4096) <|
    lt' ((v3 + (μ.1 (μ.2 a0 27) v1.toNatClampNeg)) - 1) fun x3 =>
    fX10_stands_L30 fu fu a0 v2 x3 v1 μ
  else
    some 0
def fX10_sayLongest_L330 (fu : Nat) (a0 : Nat) (v2 : Int32) (v8 : Int32) (v10 : Int32) (μ : Mm) : Option (Int32 × Mm) :=
  lt' (si μ a0 30 v10) fun μ1 =>
  some (v2 + v8, μ1)
def fX10_sayLongest_L253 (fu : Nat) (a0 : Nat) (v2 : Int32) (v8 : Int32) (v9 : Int32) (t0 : Int32) (μ : Mm) : Option (Int32 × Mm) :=
  bd (fX10_sayBits fu a0 t0 (μ.1 a0 28) μ) fun μ1 =>
  if (μ1.1 a0 30) < 0 then
    fX10_sayLongest_L330 fu a0 v2 v8 t0 μ1
  else
    if (4096 : Int32) ≤ (μ1.1 a0 29) then
      fX10_sayLongest_L330 fu a0 v2 v8 t0 μ1
    else
      gd (ib (μ1.1 a0 29) 4096) <|
      lt' (si μ1 (μ1.2 a0 36) (μ1.1 a0 29).toNatClampNeg (vp_nar .short (-1))) fun μ2 =>
      gd (ib (μ2.1 a0 30) 4096) <|
      gd (ib (μ2.1 a0 29) 4096) <|
      lt' (si μ2 (μ2.2 a0 37) (μ2.1 a0 29).toNatClampNeg (vp_nar .short (μ2.1 (μ2.2 a0 36) (μ2.1 a0 30).toNatClampNeg))) fun μ4 =>
      gd (ib (μ4.1 a0 30) 4096) <|
      lt' (si μ4 (μ4.2 a0 36) (μ4.1 a0 30).toNatClampNeg (vp_nar .short ((μ4.1 a0 29).toInt16.toInt32))) fun μ5 =>
      bd (fX10_tell a0 v9 μ5) fun μ6 =>
      fX10_sayLongest_L330 fu a0 v2 v8 t0 μ6
def fX10_sayLongest_L237 (fu : Nat) (a0 : Nat) (v2 : Int32) (v4 : Int32) (v7 : Int32) (v8 : Int32) (t0 : Int32) (μ : Mm) : Option (Int32 × Mm) :=
  if v7 = 0 then
    fX10_sayLongest_L253 fu a0 v2 v8 t0 v4 μ
  else
    fX10_sayLongest_L253 fu a0 v2 v8 t0 (μ.1 a0 29) μ
def fX10_sayLongest_L211 (fu : Nat) (a0 : Nat) (v2 : Int32) (v4 : Int32) (v7 : Int32) (t0 : Int32) (μ : Mm) : Option (Int32 × Mm) :=
  if v7 = 0 then
    gd (ib v4 4096) <|
    fX10_sayLongest_L237 fu a0 v2 v4 v7 t0 (μ.1 (μ.2 a0 26) v4.toNatClampNeg) μ
  else
    gd (ib (μ.1 a0 30) 4096) <|
    fX10_sayLongest_L237 fu a0 v2 v4 v7 t0 (μ.1 (μ.2 a0 26) (μ.1 a0 30).toNatClampNeg) μ
def fX10_sayLongest_L183 (fu : Nat) (a0 : Nat) (v2 : Int32) (v4 : Int32) (t0 : Int32) (μ : Mm) : Option (Int32 × Mm) :=
  if t0 = 0 then
    gd (ib v4 4096) <|
    fX10_sayLongest_L211 fu a0 v2 v4 t0 (μ.1 (μ.2 a0 27) v4.toNatClampNeg) μ
  else
    gd (ib (μ.1 a0 30) 4096) <|
    fX10_sayLongest_L211 fu a0 v2 v4 t0 ((μ.1 (μ.2 a0 27) (μ.1 a0 30).toNatClampNeg) + 1) μ
def fX10_sayLongest_L182 (fu : Nat) (a0 : Nat) (v2 : Int32) (v4 : Int32) (μ : Mm) : Option (Int32 × Mm) :=
  fX10_sayLongest_L183 fu a0 v2 v4 0 μ
def fX10_sayLongest_L86 (fu : Nat) (a0 : Nat) (v1 : Int32) (v2 : Int32) (v3 : Int32) (v4 : Int32) (v5 : Int32) (μ : Mm) : Option (Int32 × Mm) :=
  if (μ.1 a0 30) < 0 then
    fX10_sayLongest_L182 fu a0 v2 v4 μ
  else
    if (4096 : Int32) ≤ (μ.1 a0 29) then
      fX10_sayLongest_L182 fu a0 v2 v4 μ
    else
      gd (ib (μ.1 a0 30) 4096) <|
      if ((μ.1 (μ.2 a0 27) (μ.1 a0 30).toNatClampNeg) + 1) ≤ (v5 - v2) then
        fX10_sayLongest_L182 fu a0 v2 v4 μ
      else
        gd (ib (μ.1 a0 30) 4096) <|
        if v3 ≤ (v2 + (μ.1 (μ.2 a0 27) (μ.1 a0 30).toNatClampNeg)) then
          fX10_sayLongest_L182 fu a0 v2 v4 μ
        else
          bd (fX10_stands fu a0 (μ.1 a0 30) v1 v2 v3 μ) fun x3 =>
          if x3 = 0 then
            fX10_sayLongest_L182 fu a0 v2 v4 μ
          else
            gd (ib (μ.1 a0 30) 4096) <|
            bd (fX10_indexOf a0 v1 (v2 + (μ.1 (μ.2 a0 27) (μ.1 a0 30).toNatClampNeg)) μ) fun x5 =>
            gd (ib (μ.1 a0 30) 4096) <|
            if x5 = (μ.1 (μ.2 a0 26) (μ.1 a0 30).toNatClampNeg) then
              fX10_sayLongest_L183 fu a0 v2 v4 1 μ
            else
              fX10_sayLongest_L182 fu a0 v2 v4 μ
def fX10_sayLongest_L71 (rec17 : Nat → Int32 → Int32 → Int32 → Int32 → Int32 → Int32 → Mm → Option (Int32 × Mm)) (fu : Nat) (a0 : Nat) (v1 : Int32) (v2 : Int32) (v3 : Int32) (v4 : Int32) (v5 : Int32) (v6 : Int32) (μ : Mm) : Option (Int32 × Mm) :=
  if v6 < 0 then
    rec17 a0 v1 v2 v3 v4 v5 v6 μ
  else
    lt' (v5 + 1) fun x1 =>
    rec17 a0 v1 v2 v3 v6 x1 v6 μ
def fX10_sayLongest_B37 (rec17 : Nat → Int32 → Int32 → Int32 → Int32 → Int32 → Int32 → Mm → Option (Int32 × Mm)) (rec37 : Nat → Int32 → Int32 → Int32 → Int32 → Int32 → Int32 → Mm → Option (Int32 × Mm)) (fu : Nat) (a0 : Nat) (v1 : Int32) (v2 : Int32) (v3 : Int32) (v4 : Int32) (v5 : Int32) (v6 : Int32) (μ : Mm) : Option (Int32 × Mm) :=
  if v6 < 0 then
    fX10_sayLongest_L71 rec17 fu a0 v1 v2 v3 v4 v5 v6 μ
  else
    gd (ib v6 4096) <|
    bd (fX10_indexOf a0 v1 v5 μ) fun x2 =>
    if (μ.1 (μ.2 a0 25) v6.toNatClampNeg) = x2 then
      fX10_sayLongest_L71 rec17 fu a0 v1 v2 v3 v4 v5 v6 μ
    else
      gd (ib v6 4096) <|
      lt' (μ.1 (μ.2 a0 37) v6.toNatClampNeg) fun x4 =>
      rec37 a0 v1 v2 v3 v4 v5 x4 μ
def fX10_sayLongest_L37 (rec17 : Nat → Int32 → Int32 → Int32 → Int32 → Int32 → Int32 → Mm → Option (Int32 × Mm)) (fu : Nat) : Nat → Nat → Int32 → Int32 → Int32 → Int32 → Int32 → Int32 → Mm → Option (Int32 × Mm)
  | 0 => fun _ _ _ _ _ _ _ _ => none
  | n + 1 => fX10_sayLongest_B37 rec17 (fX10_sayLongest_L37 rec17 fu n) fu
def fX10_sayLongest_B17 (rec17 : Nat → Int32 → Int32 → Int32 → Int32 → Int32 → Int32 → Mm → Option (Int32 × Mm)) (fu : Nat) (a0 : Nat) (v1 : Int32) (v2 : Int32) (v3 : Int32) (v4 : Int32) (v5 : Int32) (v6 : Int32) (μ : Mm) : Option (Int32 × Mm) :=
  if v6 < 0 then
    fX10_sayLongest_L86 fu a0 v1 v2 v3 v4 v5 μ
  else
    if v3 ≤ v5 then
      fX10_sayLongest_L86 fu a0 v1 v2 v3 v4 v5 μ
    else
      gd (ib v4 4096) <|
      lt' (μ.1 (μ.2 a0 36) v4.toNatClampNeg) fun x2 =>
      fX10_sayLongest_L37 rec17 fu fu a0 v1 v2 v3 v4 v5 x2 μ
def fX10_sayLongest_L17 (fu : Nat) : Nat → Nat → Int32 → Int32 → Int32 → Int32 → Int32 → Int32 → Mm → Option (Int32 × Mm)
  | 0 => fun _ _ _ _ _ _ _ _ => none
  | n + 1 => fX10_sayLongest_B17 (fX10_sayLongest_L17 fu n) fu
def fX10_sayLongest (fu : Nat) (a0 : Nat) (v1 : Int32) (v2 : Int32) (v3 : Int32) (μ : Mm) : Option (Int32 × Mm) :=
  bd (fX10_indexOf a0 v1 v2 μ) fun x1 =>
  lt' (v2 + 1) fun x2 =>
  fX10_sayLongest_L17 fu fu a0 v1 v2 v3 x1 x2 x1 μ
def fX10_sayCodes_L131 (rec74 : Nat → Int32 → Int32 → Int32 → Int32 → Mm → Option (Mm)) (fu : Nat) (a0 : Nat) (v1 : Int32) (v2 : Int32) (v3 : Int32) (v4 : Int32) (μ : Mm) : Option (Mm) :=
  bd (fX10_sayLongest fu a0 v2 v4 v3 μ) fun q1 =>
  lt' q1.1 fun x2 =>
  rec74 a0 v1 v2 v3 x2 q1.2
def fX10_sayCodes_B109 (rec74 : Nat → Int32 → Int32 → Int32 → Int32 → Mm → Option (Mm)) (rec109 : Nat → Int32 → Int32 → Int32 → Int32 → Int32 → Mm → Option (Mm)) (fu : Nat) (a0 : Nat) (v1 : Int32) (v2 : Int32) (v3 : Int32) (v4 : Int32) (v5 : Int32) (μ : Mm) : Option (Mm) :=
  if (1 <<< (v1 &&& 31)) ≤ v5 then
    fX10_sayCodes_L131 rec74 fu a0 v1 v2 v3 v4 μ
  else
    gd (ib v5 4096) <|
    lt' (si μ (μ.2 a0 36) v5.toNatClampNeg (vp_nar .short (-1))) fun μ1 =>
    lt' (v5 + 1) fun x2 =>
    rec109 a0 v1 v2 v3 v4 x2 μ1
def fX10_sayCodes_L109 (rec74 : Nat → Int32 → Int32 → Int32 → Int32 → Mm → Option (Mm)) (fu : Nat) : Nat → Nat → Int32 → Int32 → Int32 → Int32 → Int32 → Mm → Option (Mm)
  | 0 => fun _ _ _ _ _ _ _ => none
  | n + 1 => fX10_sayCodes_B109 rec74 (fX10_sayCodes_L109 rec74 fu n) fu
def fX10_sayCodes_B74 (rec74 : Nat → Int32 → Int32 → Int32 → Int32 → Mm → Option (Mm)) (fu : Nat) (a0 : Nat) (v1 : Int32) (v2 : Int32) (v3 : Int32) (v4 : Int32) (μ : Mm) : Option (Mm) :=
  if v3 ≤ v4 then
    bd (fX10_sayBits fu a0 ((1 <<< (v1 &&& 31)) + 1) (μ.1 a0 28) μ) fun μ1 =>
    if (μ1.1 a0 33) ≤ 0 then
      some μ1
    else
      bd (fX10_sayBits fu a0 0 (8 - (μ1.1 a0 33)) μ1) fun μ2 =>
      some μ2
  else
    if (μ.1 a0 29) = 4096 then
      bd (fX10_sayBits fu a0 (1 <<< (v1 &&& 31)) (μ.1 a0 28) μ) fun μ3 =>
      lt' (fX10_restart a0 v1 μ3) fun μ4 =>
      fX10_sayCodes_L109 rec74 fu fu a0 v1 v2 v3 v4 0 μ4
    else
      fX10_sayCodes_L131 rec74 fu a0 v1 v2 v3 v4 μ
def fX10_sayCodes_L74 (fu : Nat) : Nat → Nat → Int32 → Int32 → Int32 → Int32 → Mm → Option (Mm)
  | 0 => fun _ _ _ _ _ _ => none
  | n + 1 => fX10_sayCodes_B74 (fX10_sayCodes_L74 fu n) fu
def fX10_sayCodes_B49 (rec49 : Nat → Int32 → Int32 → Int32 → Int32 → Mm → Option (Mm)) (fu : Nat) (a0 : Nat) (v1 : Int32) (v2 : Int32) (v3 : Int32) (v4 : Int32) (μ : Mm) : Option (Mm) :=
  if (1 <<< (v1 &&& 31)) ≤ v4 then
    fX10_sayCodes_L74 fu fu a0 v1 v2 v3 0 μ
  else
    gd (ib v4 4096) <|
    lt' (si μ (μ.2 a0 36) v4.toNatClampNeg (vp_nar .short (-1))) fun μ1 =>
    lt' (v4 + 1) fun x2 =>
    rec49 a0 v1 v2 v3 x2 μ1
def fX10_sayCodes_L49 (fu : Nat) : Nat → Nat → Int32 → Int32 → Int32 → Int32 → Mm → Option (Mm)
  | 0 => fun _ _ _ _ _ _ => none
  | n + 1 => fX10_sayCodes_B49 (fX10_sayCodes_L49 fu n) fu
def fX10_sayCodes (fu : Nat) (a0 : Nat) (v1 : Int32) (v2 : Int32) (μ : Mm) : Option (Mm) :=
  bd (fX10_places a0 (μ.1 a0 6) v2 μ) fun x1 =>
  bd (fX10_alone fu a0 v1 μ) fun μ2 =>
  lt' (fX10_restart a0 v1 μ2) fun μ3 =>
  lt' (si μ3 a0 32 0) fun μ4 =>
  lt' (si μ4 a0 33 0) fun μ5 =>
  lt' (si μ5 a0 34 0) fun μ6 =>
  bd (fX10_sayBits fu a0 (1 <<< (v1 &&& 31)) (μ6.1 a0 28) μ6) fun μ7 =>
  fX10_sayCodes_L49 fu fu a0 v1 v2 x1 0 μ7
def fX10_sayFrame_L249 (fu : Nat) (a0 : Nat) (μ : Mm) : Option (Mm) :=
  bd (fX10_say a0 0 μ) fun μ1 =>
  some μ1
def fX10_sayFrame_L225 (fu : Nat) (a0 : Nat) (v1 : Int32) (v4 : Int32) (μ : Mm) : Option (Mm) :=
  bd (fX10_say a0 v4 μ) fun μ1 =>
  bd (fX10_sayCodes fu a0 v4 v1 μ1) fun μ2 =>
  if (μ2.1 a0 34) ≤ 0 then
    fX10_sayFrame_L249 fu a0 μ2
  else
    bd (fX10_sayRow fu a0 μ2) fun μ3 =>
    fX10_sayFrame_L249 fu a0 μ3
def fX10_sayFrame_L160 (fu : Nat) (a0 : Nat) (v1 : Int32) (v3 : Int32) (o0 : Nat) (t1 : Int32) (μ : Mm) : Option (Mm) :=
  bd (fX10_field a0 (μ.1 a0 6) v1 5 μ) fun x1 =>
  bd (fX10_bitsOf fu v3) fun x2 =>
  bd (fX10_say o0 ((t1 ||| (x1 <<< (6 &&& 31))) ||| x2) μ) fun μ3 =>
  lt' (fX10_localAt (μ3.1 a0 6) v1 0) fun x4 =>
  bd (fX10_sayTable fu 12288 a0 (μ3.2 a0 10) x4 v3 μ3) fun μ5 =>
  bd (fX10_colours a0 (μ5.1 a0 6) v1 μ5) fun x6 =>
  bd (fX10_bitsOf fu x6) fun x7 =>
  lt' (x7 + 1) fun x8 =>
  if (2 : Int32) ≤ x8 then
    fX10_sayFrame_L225 fu a0 v1 x8 μ5
  else
    fX10_sayFrame_L225 fu a0 v1 2 μ5
def fX10_sayFrame_B112 (rec112 : Nat → Int32 → Int32 → Mm → Option (Mm)) (fu : Nat) (a0 : Nat) (v1 : Int32) (v3 : Int32) (μ : Mm) : Option (Mm) :=
  if (4 : Int32) ≤ v3 then
    bd (fX10_field a0 (μ.1 a0 6) v1 4 μ) fun x1 =>
    if x1 ≤ 0 then
      fX10_sayFrame_L160 fu a0 v1 x1 a0 0 μ
    else
      fX10_sayFrame_L160 fu a0 v1 x1 a0 128 μ
  else
    bd (fX10_field a0 (μ.1 a0 6) v1 v3 μ) fun x2 =>
    bd (fX10_sayTwo a0 x2 μ) fun μ3 =>
    lt' (v3 + 1) fun x4 =>
    rec112 a0 v1 x4 μ3
def fX10_sayFrame_L112 (fu : Nat) : Nat → Nat → Int32 → Int32 → Mm → Option (Mm)
  | 0 => fun _ _ _ _ => none
  | n + 1 => fX10_sayFrame_B112 (fX10_sayFrame_L112 fu n) fu
def fX10_sayFrame_L96 (fu : Nat) (a0 : Nat) (v1 : Int32) (o0 : Nat) (t1 : Int32) (μ : Mm) : Option (Mm) :=
  bd (fX10_say o0 t1 μ) fun μ1 =>
  bd (fX10_say a0 0 μ1) fun μ2 =>
  bd (fX10_say a0 44 μ2) fun μ3 =>
  fX10_sayFrame_L112 fu fu a0 v1 0 μ3
def fX10_sayFrame_L67 (fu : Nat) (a0 : Nat) (v1 : Int32) (v2 : Int32) (o0 : Nat) (t1 : Int32) (t2 : Int32) (μ : Mm) : Option (Mm) :=
  bd (fX10_say o0 (t1 ||| t2) μ) fun μ1 =>
  bd (fX10_field a0 (μ1.1 a0 6) v1 8 μ1) fun x2 =>
  bd (fX10_sayTwo a0 x2 μ1) fun μ3 =>
  if (0 : Int32) ≤ v2 then
    fX10_sayFrame_L96 fu a0 v1 a0 v2 μ3
  else
    fX10_sayFrame_L96 fu a0 v1 a0 0 μ3
def fX10_sayFrame (fu : Nat) (a0 : Nat) (v1 : Int32) (μ : Mm) : Option (Mm) :=
  bd (fX10_field a0 (μ.1 a0 6) v1 7 μ) fun x1 =>
  bd (fX10_say a0 33 μ) fun μ2 =>
  bd (fX10_say a0 249 μ2) fun μ3 =>
  bd (fX10_say a0 4 μ3) fun μ4 =>
  bd (fX10_field a0 (μ4.1 a0 6) v1 6 μ4) fun x5 =>
  bd (fX10_field a0 (μ4.1 a0 6) v1 9 μ4) fun x6 =>
  if (0 : Int32) ≤ x1 then
    fX10_sayFrame_L67 fu a0 v1 x1 a0 ((x5 <<< (2 &&& 31)) ||| (x6 <<< (1 &&& 31))) 1 μ4
  else
    fX10_sayFrame_L67 fu a0 v1 x1 a0 ((x5 <<< (2 &&& 31)) ||| (x6 <<< (1 &&& 31))) 0 μ4
def fX10_write_B207 (rec207 : Nat → Int32 → Mm → Option (Int32 × Mm)) (fu : Nat) (a0 : Nat) (v2 : Int32) (μ : Mm) : Option (Int32 × Mm) :=
  if (μ.1 a0 31) ≤ v2 then
    lt' (si μ a0 3 (μ.1 a0 31)) fun μ1 =>
    some (μ1.1 a0 3, μ1)
  else
    gd (ib v2 12020) <|
    gd (ib v2 12020) <|
    lt' (si μ (μ.2 a0 1) v2.toNatClampNeg (vp_nar .byte (μ.1 (μ.2 a0 21) v2.toNatClampNeg))) fun μ3 =>
    lt' (v2 + 1) fun x4 =>
    rec207 a0 x4 μ3
def fX10_write_L207 (fu : Nat) : Nat → Nat → Int32 → Mm → Option (Int32 × Mm)
  | 0 => fun _ _ _ => none
  | n + 1 => fX10_write_B207 (fX10_write_L207 fu n) fu
def fX10_write_B168 (rec168 : Nat → Int32 → Mm → Option (Int32 × Mm)) (fu : Nat) (a0 : Nat) (v2 : Int32) (μ : Mm) : Option (Int32 × Mm) :=
  bd (fX10_frames a0 μ) fun x1 =>
  if x1 ≤ v2 then
    bd (fX10_say a0 59 μ) fun μ2 =>
    if (μ2.1 a0 31) ≤ 12000 then
      fX10_write_L207 fu fu a0 0 μ2
    else
      some ((-1), μ2)
  else
    bd (fX10_sayFrame fu a0 v2 μ) fun μ3 =>
    lt' (v2 + 1) fun x4 =>
    rec168 a0 x4 μ3
def fX10_write_L168 (fu : Nat) : Nat → Nat → Int32 → Mm → Option (Int32 × Mm)
  | 0 => fun _ _ _ => none
  | n + 1 => fX10_write_B168 (fX10_write_L168 fu n) fu
def fX10_write_L104 (fu : Nat) (a0 : Nat) (v1 : Int32) (o0 : Nat) (t1 : Int32) (t2 : Int32) (μ : Mm) : Option (Int32 × Mm) :=
  bd (fX10_bitsOf fu v1) fun x1 =>
  bd (fX10_say o0 ((t1 + t2) + x1) μ) fun μ2 =>
  gd (ib ((6 * (μ2.1 a0 6)) + 3) 12) <|
  bd (fX10_say a0 (μ2.1 (μ2.2 a0 7) ((6 * (μ2.1 a0 6)) + 3).toNatClampNeg) μ2) fun μ4 =>
  gd (ib ((6 * (μ4.1 a0 6)) + 4) 12) <|
  bd (fX10_say a0 (μ4.1 (μ4.2 a0 7) ((6 * (μ4.1 a0 6)) + 4).toNatClampNeg) μ4) fun μ6 =>
  bd (fX10_sayTable fu 512 a0 (μ6.2 a0 8) (256 * (μ6.1 a0 6)) v1 μ6) fun μ7 =>
  fX10_write_L168 fu fu a0 0 μ7
def fX10_write (fu : Nat) (a0 : Nat) (μ : Mm) : Option (Int32 × Mm) :=
  lt' (si μ a0 31 0) fun μ1 =>
  bd (fX10_say a0 71 μ1) fun μ2 =>
  bd (fX10_say a0 73 μ2) fun μ3 =>
  bd (fX10_say a0 70 μ3) fun μ4 =>
  bd (fX10_say a0 56 μ4) fun μ5 =>
  bd (fX10_say a0 57 μ5) fun μ6 =>
  bd (fX10_say a0 97 μ6) fun μ7 =>
  gd (ib (6 * (μ7.1 a0 6)) 12) <|
  bd (fX10_sayTwo a0 (μ7.1 (μ7.2 a0 7) (6 * (μ7.1 a0 6)).toNatClampNeg) μ7) fun μ9 =>
  gd (ib ((6 * (μ9.1 a0 6)) + 1) 12) <|
  bd (fX10_sayTwo a0 (μ9.1 (μ9.2 a0 7) ((6 * (μ9.1 a0 6)) + 1).toNatClampNeg) μ9) fun μ11 =>
  gd (ib ((6 * (μ11.1 a0 6)) + 2) 12) <|
  lt' (μ11.1 (μ11.2 a0 7) ((6 * (μ11.1 a0 6)) + 2).toNatClampNeg) fun x13 =>
  if x13 ≤ 0 then
    fX10_write_L104 fu a0 x13 a0 112 0 μ11
  else
    fX10_write_L104 fu a0 x13 a0 112 128 μ11
def fX10_out (a0 : Nat) (v1 : Int32) (μ : Mm) : Option (Int32) :=
  if v1 < 0 then
    some (-1)
  else
    if (μ.1 a0 3) ≤ v1 then
      some (-1)
    else
      gd (ib v1 12020) <|
      some ((μ.1 (μ.2 a0 1) v1.toNatClampNeg) &&& 255)
def fX10_about (a0 : Nat) (v1 : Int32) (μ : Mm) : Option (Int32) :=
  if v1 = 6 then
    some (μ.1 a0 2)
  else
    if v1 = 7 then
      some (μ.1 a0 3)
    else
      if v1 < 0 then
        some (-1)
      else
        if (6 : Int32) ≤ v1 then
          some (-1)
        else
          gd (ib ((6 * (μ.1 a0 6)) + v1) 12) <|
          some (μ.1 (μ.2 a0 7) ((6 * (μ.1 a0 6)) + v1).toNatClampNeg)
def fX10_frameOf (a0 : Nat) (v1 : Int32) (v2 : Int32) (μ : Mm) : Option (Int32) :=
  bd (fX10_isFrame a0 v1 μ) fun x1 =>
  if x1 = 0 then
    some (-1)
  else
    if v2 < 0 then
      some (-1)
    else
      if (10 : Int32) ≤ v2 then
        some (-1)
      else
        bd (fX10_field a0 (μ.1 a0 6) v1 v2 μ) fun x2 =>
        some x2
def fX10_colourOf (a0 : Nat) (v1 : Int32) (v2 : Int32) (μ : Mm) : Option (Int32) :=
  bd (fX10_isColour a0 v1 v2 μ) fun x1 =>
  if x1 = 0 then
    some (-1)
  else
    if v1 = (-1) then
      gd (ib ((256 * (μ.1 a0 6)) + v2) 512) <|
      some (μ.1 (μ.2 a0 8) ((256 * (μ.1 a0 6)) + v2).toNatClampNeg)
    else
      lt' (fX10_localAt (μ.1 a0 6) v1 v2) fun x2 =>
      gd (ib x2 12288) <|
      some (μ.1 (μ.2 a0 10) x2.toNatClampNeg)
def fX10_index (a0 : Nat) (v1 : Int32) (v2 : Int32) (μ : Mm) : Option (Int32) :=
  bd (fX10_isFrame a0 v1 μ) fun x1 =>
  if x1 = 0 then
    some (-1)
  else
    if v2 < 0 then
      some (-1)
    else
      bd (fX10_places a0 (μ.1 a0 6) v1 μ) fun x2 =>
      if x2 ≤ v2 then
        some (-1)
      else
        bd (fX10_indexAt a0 (μ.1 a0 6) v1 v2 μ) fun x3 =>
        some x3
def fX10_covers (a0 : Nat) (v1 : Int32) (v2 : Int32) (v3 : Int32) (μ : Mm) : Option (Int32) :=
  bd (fX10_field a0 (μ.1 a0 6) v1 0 μ) fun x1 =>
  lt' (v2 - x1) fun x2 =>
  bd (fX10_field a0 (μ.1 a0 6) v1 1 μ) fun x3 =>
  lt' (v3 - x3) fun x4 =>
  bd (fX10_field a0 (μ.1 a0 6) v1 2 μ) fun x5 =>
  if x2 < 0 then
    some (-1)
  else
    if x4 < 0 then
      some (-1)
    else
      if x5 ≤ x2 then
        some (-1)
      else
        bd (fX10_field a0 (μ.1 a0 6) v1 3 μ) fun x6 =>
        if x4 < x6 then
          bd (fX10_indexAt a0 (μ.1 a0 6) v1 ((x5 * x4) + x2) μ) fun x7 =>
          some x7
        else
          some (-1)
def fX10_canvas_L258 (rec133 : Nat → Int32 → Int32 → Int32 → Int32 → Int32 → Int32 → Int32 → Mm → Option (Int32)) (fu : Nat) (a0 : Nat) (v1 : Int32) (v2 : Int32) (v3 : Int32) (v4 : Int32) (v5 : Int32) (v6 : Int32) (v7 : Int32) (v9 : Int32) (μ : Mm) : Option (Int32) :=
  if v9 = 3 then
    lt' (v7 + 1) fun x1 =>
    rec133 a0 v1 v2 v3 v4 v5 v6 x1 μ
  else
    lt' (v7 + 1) fun x2 =>
    rec133 a0 v1 v2 v3 v4 v6 v6 x2 μ
def fX10_canvas_L226 (rec133 : Nat → Int32 → Int32 → Int32 → Int32 → Int32 → Int32 → Int32 → Mm → Option (Int32)) (fu : Nat) (a0 : Nat) (v1 : Int32) (v2 : Int32) (v3 : Int32) (v4 : Int32) (v5 : Int32) (v6 : Int32) (v7 : Int32) (v8 : Int32) (μ : Mm) : Option (Int32) :=
  bd (fX10_field a0 (μ.1 a0 6) v7 6 μ) fun x1 =>
  if x1 = 2 then
    if v8 < 0 then
      fX10_canvas_L258 rec133 fu a0 v1 v2 v3 v4 v5 v6 v7 x1 μ
    else
      lt' (v7 + 1) fun x2 =>
      rec133 a0 v1 v2 v3 v4 v4 v6 x2 μ
  else
    fX10_canvas_L258 rec133 fu a0 v1 v2 v3 v4 v5 v6 v7 x1 μ
def fX10_canvas_L224 (rec133 : Nat → Int32 → Int32 → Int32 → Int32 → Int32 → Int32 → Int32 → Mm → Option (Int32)) (fu : Nat) (a0 : Nat) (v1 : Int32) (v2 : Int32) (v3 : Int32) (v4 : Int32) (v5 : Int32) (v7 : Int32) (v8 : Int32) (t0 : Int32) (μ : Mm) : Option (Int32) :=
  fX10_canvas_L226 rec133 fu a0 v1 v2 v3 v4 v5 t0 v7 v8 μ
def fX10_canvas_B133 (rec133 : Nat → Int32 → Int32 → Int32 → Int32 → Int32 → Int32 → Int32 → Mm → Option (Int32)) (fu : Nat) (a0 : Nat) (v1 : Int32) (v2 : Int32) (v3 : Int32) (v4 : Int32) (v5 : Int32) (v6 : Int32) (v7 : Int32) (μ : Mm) : Option (Int32) :=
  if v1 < v7 then
    some v6
  else
    bd (fX10_covers a0 v7 v2 v3 μ) fun x1 =>
    if x1 < 0 then
      fX10_canvas_L226 rec133 fu a0 v1 v2 v3 v4 v5 v5 v7 x1 μ
    else
      bd (fX10_field a0 (μ.1 a0 6) v7 7 μ) fun x2 =>
      if x1 = x2 then
        fX10_canvas_L226 rec133 fu a0 v1 v2 v3 v4 v5 v5 v7 x1 μ
      else
        bd (fX10_field a0 (μ.1 a0 6) v7 4 μ) fun x3 =>
        if x3 ≤ 0 then
          gd (ib ((256 * (μ.1 a0 6)) + x1) 512) <|
          fX10_canvas_L224 rec133 fu a0 v1 v2 v3 v4 v5 v7 x1 (μ.1 (μ.2 a0 8) ((256 * (μ.1 a0 6)) + x1).toNatClampNeg) μ
        else
          lt' (fX10_localAt (μ.1 a0 6) v7 x1) fun x5 =>
          gd (ib x5 12288) <|
          fX10_canvas_L224 rec133 fu a0 v1 v2 v3 v4 v5 v7 x1 (μ.1 (μ.2 a0 10) x5.toNatClampNeg) μ
def fX10_canvas_L133 (fu : Nat) : Nat → Nat → Int32 → Int32 → Int32 → Int32 → Int32 → Int32 → Int32 → Mm → Option (Int32)
  | 0 => fun _ _ _ _ _ _ _ _ _ => none
  | n + 1 => fX10_canvas_B133 (fX10_canvas_L133 fu n) fu
def fX10_canvas_L120 (fu : Nat) (a0 : Nat) (v1 : Int32) (v2 : Int32) (v3 : Int32) (t0 : Int32) (μ : Mm) : Option (Int32) :=
  fX10_canvas_L133 fu fu a0 v1 v2 v3 t0 t0 t0 0 μ
def fX10_canvas (fu : Nat) (a0 : Nat) (v1 : Int32) (v2 : Int32) (v3 : Int32) (μ : Mm) : Option (Int32) :=
  bd (fX10_isFrame a0 v1 μ) fun x1 =>
  if x1 = 0 then
    some (-2)
  else
    gd (ib (6 * (μ.1 a0 6)) 12) <|
    lt' (fX10_isWithin v2 0 ((μ.1 (μ.2 a0 7) (6 * (μ.1 a0 6)).toNatClampNeg) - 1)) fun x3 =>
    if x3 = 0 then
      some (-2)
    else
      gd (ib ((6 * (μ.1 a0 6)) + 1) 12) <|
      lt' (fX10_isWithin v3 0 ((μ.1 (μ.2 a0 7) ((6 * (μ.1 a0 6)) + 1).toNatClampNeg) - 1)) fun x5 =>
      if x5 = 0 then
        some (-2)
      else
        gd (ib ((6 * (μ.1 a0 6)) + 3) 12) <|
        gd (ib ((6 * (μ.1 a0 6)) + 2) 12) <|
        if (μ.1 (μ.2 a0 7) ((6 * (μ.1 a0 6)) + 2).toNatClampNeg) ≤ (μ.1 (μ.2 a0 7) ((6 * (μ.1 a0 6)) + 3).toNatClampNeg) then
          fX10_canvas_L120 fu a0 v1 v2 v3 (-1) μ
        else
          gd (ib ((6 * (μ.1 a0 6)) + 3) 12) <|
          gd (ib ((256 * (μ.1 a0 6)) + (μ.1 (μ.2 a0 7) ((6 * (μ.1 a0 6)) + 3).toNatClampNeg)) 512) <|
          fX10_canvas_L120 fu a0 v1 v2 v3 (μ.1 (μ.2 a0 8) ((256 * (μ.1 a0 6)) + (μ.1 (μ.2 a0 7) ((6 * (μ.1 a0 6)) + 3).toNatClampNeg)).toNatClampNeg) μ
