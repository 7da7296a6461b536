def fL_law_L413 (rec18 : Nat → Nat → Int32 → Mm → Option (Int32)) (fu : Nat) (L : Nat) (xs : Nat → Int32) (a1 : Nat) (a2 : Nat) (v3 : Int32) (t0 : Int32) (o1 : Nat) (t2 : Int32) (t3 : Int32) (t4 : Int32) (t5 : Int32) (t6 : Int32) (t7 : Int32) (μ : Mm) : Option (Int32) :=
  bd (fX10_frame fu o1 t2 t3 t4 t5 t6 t7 μ) fun q1 =>
  if t0 = q1.1 then
    lt' (v3 + 7) fun x2 =>
    rec18 a1 a2 x2 q1.2
  else
    some 0
def fL_law_L370 (rec18 : Nat → Nat → Int32 → Mm → Option (Int32)) (fu : Nat) (L : Nat) (xs : Nat → Int32) (a1 : Nat) (a2 : Nat) (v3 : Int32) (o0 : Nat) (t1 : Int32) (t2 : Int32) (t3 : Int32) (t4 : Int32) (t5 : Int32) (t6 : Int32) (μ : Mm) : Option (Int32) :=
  bd (fX9_frame fu o0 t1 t2 t3 t4 t5 t6 μ) fun q1 =>
  gd (ib (v3 + 1) L) <|
  gd (ib (v3 + 2) L) <|
  gd (ib (v3 + 3) L) <|
  gd (ib (v3 + 4) L) <|
  gd (ib (v3 + 5) L) <|
  gd (ib (v3 + 6) L) <|
  if (xs (v3 + 6).toNatClampNeg) = 0 then
    fL_law_L413 rec18 fu L xs a1 a2 v3 q1.1 a2 (xs (v3 + 1).toNatClampNeg) (xs (v3 + 2).toNatClampNeg) (xs (v3 + 3).toNatClampNeg) (xs (v3 + 4).toNatClampNeg) (xs (v3 + 5).toNatClampNeg) 0 q1.2
  else
    fL_law_L413 rec18 fu L xs a1 a2 v3 q1.1 a2 (xs (v3 + 1).toNatClampNeg) (xs (v3 + 2).toNatClampNeg) (xs (v3 + 3).toNatClampNeg) (xs (v3 + 4).toNatClampNeg) (xs (v3 + 5).toNatClampNeg) 1 q1.2
def fL_law_L492 (rec18 : Nat → Nat → Int32 → Mm → Option (Int32)) (fu : Nat) (L : Nat) (xs : Nat → Int32) (a1 : Nat) (a2 : Nat) (v3 : Int32) (t0 : Int32) (o1 : Nat) (t2 : Int32) (t3 : Int32) (t4 : Int32) (t5 : Int32) (t6 : Int32) (μ : Mm) : Option (Int32) :=
  bd (fX10_control o1 t2 t3 t4 t5 t6 μ) fun q1 =>
  if t0 = q1.1 then
    lt' (v3 + 7) fun x2 =>
    rec18 a1 a2 x2 q1.2
  else
    some 0
def fL_law_L455 (rec18 : Nat → Nat → Int32 → Mm → Option (Int32)) (fu : Nat) (L : Nat) (xs : Nat → Int32) (a1 : Nat) (a2 : Nat) (v3 : Int32) (o0 : Nat) (t1 : Int32) (t2 : Int32) (t3 : Int32) (t4 : Int32) (t5 : Int32) (μ : Mm) : Option (Int32) :=
  bd (fX9_control o0 t1 t2 t3 t4 t5 μ) fun q1 =>
  gd (ib (v3 + 1) L) <|
  gd (ib (v3 + 2) L) <|
  gd (ib (v3 + 3) L) <|
  gd (ib (v3 + 4) L) <|
  gd (ib (v3 + 5) L) <|
  if (xs (v3 + 5).toNatClampNeg) = 0 then
    fL_law_L492 rec18 fu L xs a1 a2 v3 q1.1 a2 (xs (v3 + 1).toNatClampNeg) (xs (v3 + 2).toNatClampNeg) (xs (v3 + 3).toNatClampNeg) (xs (v3 + 4).toNatClampNeg) 0 q1.2
  else
    fL_law_L492 rec18 fu L xs a1 a2 v3 q1.1 a2 (xs (v3 + 1).toNatClampNeg) (xs (v3 + 2).toNatClampNeg) (xs (v3 + 3).toNatClampNeg) (xs (v3 + 4).toNatClampNeg) 1 q1.2
def fL_law_B18 (rec18 : Nat → Nat → Int32 → Mm → Option (Int32)) (fu : Nat) (L : Nat) (xs : Nat → Int32) (a1 : Nat) (a2 : Nat) (v3 : Int32) (μ : Mm) : Option (Int32) :=
  if ((Int32.ofNat L) - 7) < v3 then
    some 1
  else
    gd (ib v3 L) <|
    lt' ((xs v3.toNatClampNeg) &&& 15) fun x1 =>
    if x1 = 0 then
      gd (ib (v3 + 1) L) <|
      gd (ib (v3 + 2) L) <|
      gd (ib (v3 + 3) L) <|
      gd (ib (v3 + 4) L) <|
      gd (ib (v3 + 5) L) <|
      bd (fX9_feed a1 (xs (v3 + 1).toNatClampNeg) (xs (v3 + 2).toNatClampNeg) (xs (v3 + 3).toNatClampNeg) (xs (v3 + 4).toNatClampNeg) (xs (v3 + 5).toNatClampNeg) μ) fun q2 =>
      gd (ib (v3 + 1) L) <|
      gd (ib (v3 + 2) L) <|
      gd (ib (v3 + 3) L) <|
      gd (ib (v3 + 4) L) <|
      gd (ib (v3 + 5) L) <|
      bd (fX10_feed fu a2 (xs (v3 + 1).toNatClampNeg) (xs (v3 + 2).toNatClampNeg) (xs (v3 + 3).toNatClampNeg) (xs (v3 + 4).toNatClampNeg) (xs (v3 + 5).toNatClampNeg) q2.2) fun q3 =>
      if q2.1 = q3.1 then
        lt' (v3 + 7) fun x4 =>
        rec18 a1 a2 x4 q3.2
      else
        some 0
    else
      if x1 = 1 then
        bd (fX9_take a1 μ) fun q5 =>
        bd (fX10_take fu a2 q5.2) fun q6 =>
        if q5.1 = q6.1 then
          lt' (v3 + 7) fun x7 =>
          rec18 a1 a2 x7 q6.2
        else
          some 0
      else
        if x1 = 2 then
          gd (ib (v3 + 1) L) <|
          bd (fX9_read fu a1 (xs (v3 + 1).toNatClampNeg) μ) fun q8 =>
          gd (ib (v3 + 1) L) <|
          bd (fX10_read fu a2 (xs (v3 + 1).toNatClampNeg) q8.2) fun q9 =>
          if q8.1 = q9.1 then
            lt' (v3 + 7) fun x10 =>
            rec18 a1 a2 x10 q9.2
          else
            some 0
        else
          if x1 = 3 then
            gd (ib (v3 + 1) L) <|
            lt' (fX9_fault a1 (xs (v3 + 1).toNatClampNeg) μ) fun x11 =>
            gd (ib (v3 + 1) L) <|
            lt' (fX10_fault a2 (xs (v3 + 1).toNatClampNeg) μ) fun x12 =>
            if x11 = x12 then
              lt' (v3 + 7) fun x13 =>
              rec18 a1 a2 x13 μ
            else
              some 0
          else
            if x1 = 4 then
              gd (ib (v3 + 1) L) <|
              gd (ib (v3 + 2) L) <|
              gd (ib (v3 + 3) L) <|
              gd (ib (v3 + 4) L) <|
              bd (fX9_begin fu a1 (xs (v3 + 1).toNatClampNeg) (xs (v3 + 2).toNatClampNeg) (xs (v3 + 3).toNatClampNeg) (xs (v3 + 4).toNatClampNeg) μ) fun q14 =>
              gd (ib (v3 + 1) L) <|
              gd (ib (v3 + 2) L) <|
              gd (ib (v3 + 3) L) <|
              gd (ib (v3 + 4) L) <|
              bd (fX10_begin fu a2 (xs (v3 + 1).toNatClampNeg) (xs (v3 + 2).toNatClampNeg) (xs (v3 + 3).toNatClampNeg) (xs (v3 + 4).toNatClampNeg) q14.2) fun q15 =>
              if q14.1 = q15.1 then
                lt' (v3 + 7) fun x16 =>
                rec18 a1 a2 x16 q15.2
              else
                some 0
            else
              if x1 = 5 then
                gd (ib (v3 + 1) L) <|
                gd (ib (v3 + 2) L) <|
                gd (ib (v3 + 3) L) <|
                bd (fX9_colour a1 (xs (v3 + 1).toNatClampNeg) (xs (v3 + 2).toNatClampNeg) (xs (v3 + 3).toNatClampNeg) μ) fun q17 =>
                gd (ib (v3 + 1) L) <|
                gd (ib (v3 + 2) L) <|
                gd (ib (v3 + 3) L) <|
                bd (fX10_colour a2 (xs (v3 + 1).toNatClampNeg) (xs (v3 + 2).toNatClampNeg) (xs (v3 + 3).toNatClampNeg) q17.2) fun q18 =>
                if q17.1 = q18.1 then
                  lt' (v3 + 7) fun x19 =>
                  rec18 a1 a2 x19 q18.2
                else
                  some 0
              else
                if x1 = 6 then
                  gd (ib (v3 + 1) L) <|
                  gd (ib (v3 + 2) L) <|
                  gd (ib (v3 + 3) L) <|
                  gd (ib (v3 + 4) L) <|
                  gd (ib (v3 + 5) L) <|
                  gd (ib (v3 + 6) L) <|
                  if (xs (v3 + 6).toNatClampNeg) = 0 then
                    fL_law_L370 rec18 fu L xs a1 a2 v3 a1 (xs (v3 + 1).toNatClampNeg) (xs (v3 + 2).toNatClampNeg) (xs (v3 + 3).toNatClampNeg) (xs (v3 + 4).toNatClampNeg) (xs (v3 + 5).toNatClampNeg) 0 μ
                  else
                    fL_law_L370 rec18 fu L xs a1 a2 v3 a1 (xs (v3 + 1).toNatClampNeg) (xs (v3 + 2).toNatClampNeg) (xs (v3 + 3).toNatClampNeg) (xs (v3 + 4).toNatClampNeg) (xs (v3 + 5).toNatClampNeg) 1 μ
                else
                  if x1 = 7 then
                    gd (ib (v3 + 1) L) <|
                    gd (ib (v3 + 2) L) <|
                    gd (ib (v3 + 3) L) <|
                    gd (ib (v3 + 4) L) <|
                    gd (ib (v3 + 5) L) <|
                    if (xs (v3 + 5).toNatClampNeg) = 0 then
                      fL_law_L455 rec18 fu L xs a1 a2 v3 a1 (xs (v3 + 1).toNatClampNeg) (xs (v3 + 2).toNatClampNeg) (xs (v3 + 3).toNatClampNeg) (xs (v3 + 4).toNatClampNeg) 0 μ
                    else
                      fL_law_L455 rec18 fu L xs a1 a2 v3 a1 (xs (v3 + 1).toNatClampNeg) (xs (v3 + 2).toNatClampNeg) (xs (v3 + 3).toNatClampNeg) (xs (v3 + 4).toNatClampNeg) 1 μ
                  else
                    if x1 = 8 then
                      gd (ib (v3 + 1) L) <|
                      gd (ib (v3 + 2) L) <|
                      gd (ib (v3 + 3) L) <|
                      gd (ib (v3 + 4) L) <|
                      bd (fX9_paint fu a1 (xs (v3 + 1).toNatClampNeg) (xs (v3 + 2).toNatClampNeg) (xs (v3 + 3).toNatClampNeg) (xs (v3 + 4).toNatClampNeg) μ) fun q20 =>
                      gd (ib (v3 + 1) L) <|
                      gd (ib (v3 + 2) L) <|
                      gd (ib (v3 + 3) L) <|
                      gd (ib (v3 + 4) L) <|
                      bd (fX10_paint fu a2 (xs (v3 + 1).toNatClampNeg) (xs (v3 + 2).toNatClampNeg) (xs (v3 + 3).toNatClampNeg) (xs (v3 + 4).toNatClampNeg) q20.2) fun q21 =>
                      if q20.1 = q21.1 then
                        lt' (v3 + 7) fun x22 =>
                        rec18 a1 a2 x22 q21.2
                      else
                        some 0
                    else
                      if x1 = 9 then
                        bd (fX9_write fu a1 μ) fun q23 =>
                        bd (fX10_write fu a2 q23.2) fun q24 =>
                        if q23.1 = q24.1 then
                          lt' (v3 + 7) fun x25 =>
                          rec18 a1 a2 x25 q24.2
                        else
                          some 0
                      else
                        if x1 = 10 then
                          gd (ib (v3 + 1) L) <|
                          bd (fX9_out a1 (xs (v3 + 1).toNatClampNeg) μ) fun x26 =>
                          gd (ib (v3 + 1) L) <|
                          bd (fX10_out a2 (xs (v3 + 1).toNatClampNeg) μ) fun x27 =>
                          if x26 = x27 then
                            lt' (v3 + 7) fun x28 =>
                            rec18 a1 a2 x28 μ
                          else
                            some 0
                        else
                          if x1 = 11 then
                            gd (ib (v3 + 1) L) <|
                            lt' (fX9_about a1 (xs (v3 + 1).toNatClampNeg) μ) fun x29 =>
                            gd (ib (v3 + 1) L) <|
                            bd (fX10_about a2 (xs (v3 + 1).toNatClampNeg) μ) fun x30 =>
                            if x29 = x30 then
                              lt' (v3 + 7) fun x31 =>
                              rec18 a1 a2 x31 μ
                            else
                              some 0
                          else
                            if x1 = 12 then
                              gd (ib (v3 + 1) L) <|
                              gd (ib (v3 + 2) L) <|
                              bd (fX9_frameOf a1 (xs (v3 + 1).toNatClampNeg) (xs (v3 + 2).toNatClampNeg) μ) fun x32 =>
                              gd (ib (v3 + 1) L) <|
                              gd (ib (v3 + 2) L) <|
                              bd (fX10_frameOf a2 (xs (v3 + 1).toNatClampNeg) (xs (v3 + 2).toNatClampNeg) μ) fun x33 =>
                              if x32 = x33 then
                                lt' (v3 + 7) fun x34 =>
                                rec18 a1 a2 x34 μ
                              else
                                some 0
                            else
                              if x1 = 13 then
                                gd (ib (v3 + 1) L) <|
                                gd (ib (v3 + 2) L) <|
                                bd (fX9_colourOf a1 (xs (v3 + 1).toNatClampNeg) (xs (v3 + 2).toNatClampNeg) μ) fun x35 =>
                                gd (ib (v3 + 1) L) <|
                                gd (ib (v3 + 2) L) <|
                                bd (fX10_colourOf a2 (xs (v3 + 1).toNatClampNeg) (xs (v3 + 2).toNatClampNeg) μ) fun x36 =>
                                if x35 = x36 then
                                  lt' (v3 + 7) fun x37 =>
                                  rec18 a1 a2 x37 μ
                                else
                                  some 0
                              else
                                if x1 = 14 then
                                  gd (ib (v3 + 1) L) <|
                                  gd (ib (v3 + 2) L) <|
                                  bd (fX9_index a1 (xs (v3 + 1).toNatClampNeg) (xs (v3 + 2).toNatClampNeg) μ) fun x38 =>
                                  gd (ib (v3 + 1) L) <|
                                  gd (ib (v3 + 2) L) <|
                                  bd (fX10_index a2 (xs (v3 + 1).toNatClampNeg) (xs (v3 + 2).toNatClampNeg) μ) fun x39 =>
                                  if x38 = x39 then
                                    lt' (v3 + 7) fun x40 =>
                                    rec18 a1 a2 x40 μ
                                  else
                                    some 0
                                else
                                  if x1 = 15 then
                                    gd (ib (v3 + 1) L) <|
                                    gd (ib (v3 + 2) L) <|
                                    gd (ib (v3 + 3) L) <|
                                    bd (fX9_canvas fu a1 (xs (v3 + 1).toNatClampNeg) (xs (v3 + 2).toNatClampNeg) (xs (v3 + 3).toNatClampNeg) μ) fun x41 =>
                                    gd (ib (v3 + 1) L) <|
                                    gd (ib (v3 + 2) L) <|
                                    gd (ib (v3 + 3) L) <|
                                    bd (fX10_canvas fu a2 (xs (v3 + 1).toNatClampNeg) (xs (v3 + 2).toNatClampNeg) (xs (v3 + 3).toNatClampNeg) μ) fun x42 =>
                                    if x41 = x42 then
                                      lt' (v3 + 7) fun x43 =>
                                      rec18 a1 a2 x43 μ
                                    else
                                      some 0
                                  else
                                    lt' (v3 + 7) fun x44 =>
                                    rec18 a1 a2 x44 μ
def fL_law_L18 (fu : Nat) (L : Nat) (xs : Nat → Int32) : Nat → Nat → Nat → Int32 → Mm → Option (Int32)
  | 0 => fun _ _ _ _ => none
  | n + 1 => fL_law_B18 (fL_law_L18 fu L xs n) fu L xs
