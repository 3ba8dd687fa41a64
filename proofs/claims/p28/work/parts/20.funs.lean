def fX1_init_40 (x0 : Option Nat) (k60 : Mem → Int32 → Option (Mem)) : Nat → Mem → Int32 → Option (Mem)
  | 0, _, _ => none
  | n + 1, M, x1 =>
    if 5 ≤ x1 then
      k60 M x1
    else
      (gR 1 0 M x0).bind fun v9 =>
      (aR 9 M v9 x1).bind fun v10 =>
      (wI M v10 0 1).bind fun M11 =>
      fX1_init_40 x0 k60 n M11 (x1 + 1)
def fX1_init (M : Mem) (a0 : Option Nat) : Option (Mem) :=
  (ck 1 M a0).bind fun _ =>
  (nwG M).bind fun M1 =>
  (pR 1 0 M1 a0 (some M.1)).bind fun M2 =>
  (nwA 4 M2 8).bind fun M3 =>
  (pR 1 1 M3 a0 (some M2.1)).bind fun M4 =>
  (pI 1 2 M4 a0 0).bind fun M5 =>
  (pI 1 3 M5 a0 0).bind fun M6 =>
  (pI 1 4 M6 a0 0).bind fun M7 =>
  fX1_init_40 a0
    (fun M12 x13 =>
      some M12)
    FU M7 0
def fXT_init (M : Mem) (a0 : Option Nat) : Option (Mem) :=
  (ck 11 M a0).bind fun _ =>
  (nwA 5 M 1231).bind fun M1 =>
  (pR 11 0 M1 a0 (some M.1)).bind fun M2 =>
  some M2
def fX0_init (M : Mem) (a0 : Option Nat) : Option (Mem) :=
  (ck 0 M a0).bind fun _ =>
  (nwA 4 M 9).bind fun M1 =>
  (pR 0 0 M1 a0 (some M.1)).bind fun M2 =>
  (nwA 4 M2 9).bind fun M3 =>
  (pR 0 1 M3 a0 (some M2.1)).bind fun M4 =>
  (nwA 4 M4 9).bind fun M5 =>
  (pR 0 2 M5 a0 (some M4.1)).bind fun M6 =>
  (pI 0 3 M6 a0 0).bind fun M7 =>
  (pI 0 4 M7 a0 (-1)).bind fun M8 =>
  (pI 0 5 M8 a0 (-1)).bind fun M9 =>
  some M9
def fX2_init (M : Mem) (a0 : Option Nat) : Option (Mem) :=
  (ck 2 M a0).bind fun _ =>
  (nwO 1 M).bind fun M1 =>
  (fX1_init M1 (some M.1)).bind fun w2 =>
  (pR 2 0 w2 a0 (some M.1)).bind fun M3 =>
  (nwA 8 M3 6).bind fun M4 =>
  (pR 2 1 M4 a0 (some M3.1)).bind fun M5 =>
  (pI 2 2 M5 a0 0).bind fun M6 =>
  (nwA 8 M6 2).bind fun M7 =>
  (pR 2 3 M7 a0 (some M6.1)).bind fun M8 =>
  (nwA 6 M8 2).bind fun M9 =>
  (pR 2 4 M9 a0 (some M8.1)).bind fun M10 =>
  (nwA 4 M10 60).bind fun M11 =>
  (pR 2 5 M11 a0 (some M10.1)).bind fun M12 =>
  (pI 2 6 M12 a0 0).bind fun M13 =>
  (nwA 5 M13 9).bind fun M14 =>
  (pR 2 7 M14 a0 (some M13.1)).bind fun M15 =>
  (nwA 7 M15 9).bind fun M16 =>
  (pR 2 8 M16 a0 (some M15.1)).bind fun M17 =>
  (nwO 11 M17).bind fun M18 =>
  (fXT_init M18 (some M17.1)).bind fun w19 =>
  (pR 2 9 w19 a0 (some M17.1)).bind fun M20 =>
  (gR 2 1 M20 a0).bind fun v21 =>
  (nwO 1 M20).bind fun M22 =>
  (fX1_init M22 (some M20.1)).bind fun w23 =>
  (wR 8 1 w23 v21 0 (some M20.1)).bind fun M24 =>
  (gR 2 1 M24 a0).bind fun v25 =>
  (nwO 1 M24).bind fun M26 =>
  (fX1_init M26 (some M24.1)).bind fun w27 =>
  (wR 8 1 w27 v25 1 (some M24.1)).bind fun M28 =>
  (gR 2 1 M28 a0).bind fun v29 =>
  (nwO 1 M28).bind fun M30 =>
  (fX1_init M30 (some M28.1)).bind fun w31 =>
  (wR 8 1 w31 v29 2 (some M28.1)).bind fun M32 =>
  (gR 2 1 M32 a0).bind fun v33 =>
  (nwO 1 M32).bind fun M34 =>
  (fX1_init M34 (some M32.1)).bind fun w35 =>
  (wR 8 1 w35 v33 3 (some M32.1)).bind fun M36 =>
  (gR 2 1 M36 a0).bind fun v37 =>
  (nwO 1 M36).bind fun M38 =>
  (fX1_init M38 (some M36.1)).bind fun w39 =>
  (wR 8 1 w39 v37 4 (some M36.1)).bind fun M40 =>
  (gR 2 1 M40 a0).bind fun v41 =>
  (nwO 1 M40).bind fun M42 =>
  (fX1_init M42 (some M40.1)).bind fun w43 =>
  (wR 8 1 w43 v41 5 (some M40.1)).bind fun M44 =>
  (gR 2 3 M44 a0).bind fun v45 =>
  (nwO 1 M44).bind fun M46 =>
  (fX1_init M46 (some M44.1)).bind fun w47 =>
  (wR 8 1 w47 v45 0 (some M44.1)).bind fun M48 =>
  (gR 2 3 M48 a0).bind fun v49 =>
  (nwO 1 M48).bind fun M50 =>
  (fX1_init M50 (some M48.1)).bind fun w51 =>
  (wR 8 1 w51 v49 1 (some M48.1)).bind fun M52 =>
  (gR 2 8 M52 a0).bind fun v53 =>
  (nwO 0 M52).bind fun M54 =>
  (fX0_init M54 (some M52.1)).bind fun w55 =>
  (wR 7 0 w55 v53 0 (some M52.1)).bind fun M56 =>
  (gR 2 8 M56 a0).bind fun v57 =>
  (nwO 0 M56).bind fun M58 =>
  (fX0_init M58 (some M56.1)).bind fun w59 =>
  (wR 7 0 w59 v57 1 (some M56.1)).bind fun M60 =>
  (gR 2 8 M60 a0).bind fun v61 =>
  (nwO 0 M60).bind fun M62 =>
  (fX0_init M62 (some M60.1)).bind fun w63 =>
  (wR 7 0 w63 v61 2 (some M60.1)).bind fun M64 =>
  (gR 2 8 M64 a0).bind fun v65 =>
  (nwO 0 M64).bind fun M66 =>
  (fX0_init M66 (some M64.1)).bind fun w67 =>
  (wR 7 0 w67 v65 3 (some M64.1)).bind fun M68 =>
  (gR 2 8 M68 a0).bind fun v69 =>
  (nwO 0 M68).bind fun M70 =>
  (fX0_init M70 (some M68.1)).bind fun w71 =>
  (wR 7 0 w71 v69 4 (some M68.1)).bind fun M72 =>
  (gR 2 8 M72 a0).bind fun v73 =>
  (nwO 0 M72).bind fun M74 =>
  (fX0_init M74 (some M72.1)).bind fun w75 =>
  (wR 7 0 w75 v73 5 (some M72.1)).bind fun M76 =>
  (gR 2 8 M76 a0).bind fun v77 =>
  (nwO 0 M76).bind fun M78 =>
  (fX0_init M78 (some M76.1)).bind fun w79 =>
  (wR 7 0 w79 v77 6 (some M76.1)).bind fun M80 =>
  (gR 2 8 M80 a0).bind fun v81 =>
  (nwO 0 M80).bind fun M82 =>
  (fX0_init M82 (some M80.1)).bind fun w83 =>
  (wR 7 0 w83 v81 7 (some M80.1)).bind fun M84 =>
  (gR 2 8 M84 a0).bind fun v85 =>
  (nwO 0 M84).bind fun M86 =>
  (fX0_init M86 (some M84.1)).bind fun w87 =>
  (wR 7 0 w87 v85 8 (some M84.1)).bind fun M88 =>
  some M88
def fX2_checkNumber (M : Mem) (a0 : Int32) : Option (Unit) :=
  if a0 < 0 then
    none
  else
    if a0 < 5 then
      some ()
    else
      none
def fX2_checkPower (M : Mem) (a0 : Int32) : Option (Unit) :=
  if a0 < 0 then
    none
  else
    if a0 ≤ 8 then
      some ()
    else
      none
def fX2_checkSign (M : Mem) (a0 : Int32) : Option (Unit) :=
  if a0 < (-1) then
    none
  else
    if a0 ≤ 1 then
      some ()
    else
      none
def fX2_dropOldest_9 (x0 : Option Nat) (x1 : Option Nat) (k35 : Mem → Int32 → Option (Mem)) : Nat → Mem → Int32 → Option (Mem)
  | 0, _, _ => none
  | n + 1, M, x2 =>
    if 6 ≤ x2 then
      k35 M x2
    else
      (gR 2 1 M x0).bind fun v4 =>
      (gR 2 1 M x0).bind fun v5 =>
      (aR 8 M v5 x2).bind fun v6 =>
      (wR 8 1 M v4 (x2 - 1) v6).bind fun M7 =>
      fX2_dropOldest_9 x0 x1 k35 n M7 (x2 + 1)
def fX2_dropOldest (M : Mem) (a0 : Option Nat) : Option (Mem) :=
  (gR 2 1 M a0).bind fun v1 =>
  (aR 8 M v1 0).bind fun v2 =>
  fX2_dropOldest_9 a0 v2
    (fun M8 x9 =>
      (gR 2 1 M8 a0).bind fun v10 =>
      (wR 8 1 M8 v10 5 v2).bind fun M11 =>
      (gI 2 2 M11 a0).bind fun v12 =>
      (pI 2 2 M11 a0 (v12 - 1)).bind fun M13 =>
      some M13)
    FU M 1
def fX1_takeOver_2 (x0 : Option Nat) (x1 : Option Nat) (k32 : Mem → Int32 → Option (Mem)) : Nat → Mem → Int32 → Option (Mem)
  | 0, _, _ => none
  | n + 1, M, x2 =>
    if 5 ≤ x2 then
      k32 M x2
    else
      (gR 1 0 M x1).bind fun v2 =>
      (aR 9 M v2 x2).bind fun v3 =>
      (gR 1 0 M x0).bind fun v4 =>
      (aR 9 M v4 x2).bind fun v5 =>
      (cpI M v3 0 v5 0 9).bind fun M6 =>
      fX1_takeOver_2 x0 x1 k32 n M6 (x2 + 1)
def fX1_takeOver (M : Mem) (a0 : Option Nat) (a1 : Option Nat) : Option (Mem) :=
  fX1_takeOver_2 a0 a1
    (fun M7 x8 =>
      (gR 1 1 M7 a1).bind fun v9 =>
      (gR 1 1 M7 a0).bind fun v10 =>
      (cpI M7 v9 0 v10 0 8).bind fun M11 =>
      (gI 1 2 M11 a1).bind fun v12 =>
      (pI 1 2 M11 a0 v12).bind fun M13 =>
      (gI 1 3 M13 a1).bind fun v14 =>
      (pI 1 3 M13 a0 v14).bind fun M15 =>
      (gI 1 4 M15 a1).bind fun v16 =>
      (pI 1 4 M15 a0 v16).bind fun M17 =>
      some M17)
    FU M 0
def fX2_save (M : Mem) (a0 : Option Nat) : Option (Mem) :=
  (gI 2 2 M a0).bind fun v1 =>
  if v1 < 6 then
    (gR 2 1 M a0).bind fun v3 =>
    (gI 2 2 M a0).bind fun v4 =>
    (aR 8 M v3 v4).bind fun v5 =>
    (gR 2 0 M a0).bind fun v6 =>
    (ck 1 M v5).bind fun _ =>
    (fX1_takeOver M v5 v6).bind fun w7 =>
    (gI 2 2 w7 a0).bind fun v8 =>
    (pI 2 2 w7 a0 (v8 + 1)).bind fun M9 =>
    some M9
  else
    (ck 2 M a0).bind fun _ =>
    (fX2_dropOldest M a0).bind fun w10 =>
    (gR 2 1 w10 a0).bind fun v11 =>
    (gI 2 2 w10 a0).bind fun v12 =>
    (aR 8 w10 v11 v12).bind fun v13 =>
    (gR 2 0 w10 a0).bind fun v14 =>
    (ck 1 w10 v13).bind fun _ =>
    (fX1_takeOver w10 v13 v14).bind fun w15 =>
    (gI 2 2 w15 a0).bind fun v16 =>
    (pI 2 2 w15 a0 (v16 + 1)).bind fun M17 =>
    some M17
def fX2_notZero_4 (M : Mem) (x0 : Option Nat) (k25 : Int32 → Int32 → Option (Int32)) : Nat → Int32 → Int32 → Option (Int32)
  | 0, _, _ => none
  | n + 1, x1, x2 =>
    if 9 ≤ x2 then
      k25 x1 x2
    else
      (aI M x0 x2).bind fun v2 =>
      if v2 = 0 then
        fX2_notZero_4 M x0 k25 n x1 (x2 + 1)
      else
        fX2_notZero_4 M x0 k25 n (x1 + 1) (x2 + 1)
def fX2_notZero (M : Mem) (a0 : Option Nat) : Option (Int32) :=
  fX2_notZero_4 M a0
    (fun x4 x5 =>
      some x4)
    FU 0 0
def fX2_isAloneNotZero (M : Mem) (a0 : Option Nat) (a1 : Int32) : Option (Int32) :=
  (aI M a0 a1).bind fun v1 =>
  if v1 = 0 then
    some 0
  else
    (fX2_notZero M a0).bind fun w3 =>
    some (if w3 = 1 then 1 else 0)
def fX2_degreeOf_3 (M : Mem) (x0 : Option Nat) (k13 : Int32 → Option (Int32)) (k21 : Int32 → Option (Int32)) : Nat → Int32 → Option (Int32)
  | 0, _ => none
  | n + 1, x1 =>
    if x1 ≤ 0 then
      k21 x1
    else
      (aI M x0 x1).bind fun v2 =>
      if v2 = 0 then
        fX2_degreeOf_3 M x0 k13 k21 n (x1 + (-1))
      else
        k13 x1
def fX2_degreeOf (M : Mem) (a0 : Option Nat) : Option (Int32) :=
  fX2_degreeOf_3 M a0
    (fun x4 =>
      some x4)
    (fun x5 =>
      some 0)
    FU 8
def fX2_put (M : Mem) (a0 : Option Nat) (a1 : Int32) (a2 : Int32) (a3 : Int32) : Option (Mem × Int32) :=
  (fX2_checkNumber M a1).bind fun w1 =>
  (fX2_checkPower M a2).bind fun w2 =>
  (fX2_checkSign M a3).bind fun w3 =>
  (ck 2 M a0).bind fun _ =>
  (fX2_save M a0).bind fun w4 =>
  (gR 2 0 w4 a0).bind fun v5 =>
  (gR 1 0 w4 v5).bind fun v6 =>
  (aR 9 w4 v6 a1).bind fun v7 =>
  if a3 = 0 then
    (fX2_isAloneNotZero w4 v7 a2).bind fun w9 =>
    if w9 = 0 then
      (wI w4 v7 a2 a3).bind fun M11 =>
      (fX2_degreeOf M11 v7).bind fun w12 =>
      some (M11, w12)
    else
      (gR 2 0 w4 a0).bind fun v13 =>
      (gI 1 4 w4 v13).bind fun v14 =>
      (pI 1 4 w4 v13 (v14 + 1)).bind fun M15 =>
      some (M15, (-9))
  else
    (wI w4 v7 a2 a3).bind fun M16 =>
    (fX2_degreeOf M16 v7).bind fun w17 =>
    some (M16, w17)
def fX2_copy (M : Mem) (a0 : Option Nat) (a1 : Int32) (a2 : Int32) : Option (Mem × Int32) :=
  (fX2_checkNumber M a1).bind fun w1 =>
  (fX2_checkNumber M a2).bind fun w2 =>
  (ck 2 M a0).bind fun _ =>
  (fX2_save M a0).bind fun w3 =>
  (gR 2 0 w3 a0).bind fun v4 =>
  (gR 1 0 w3 v4).bind fun v5 =>
  (aR 9 w3 v5 a1).bind fun v6 =>
  (gR 2 0 w3 a0).bind fun v7 =>
  (gR 1 0 w3 v7).bind fun v8 =>
  (aR 9 w3 v8 a2).bind fun v9 =>
  (cpI w3 v6 0 v9 0 9).bind fun M10 =>
  (gR 2 0 M10 a0).bind fun v11 =>
  (gR 1 0 M10 v11).bind fun v12 =>
  (aR 9 M10 v12 a2).bind fun v13 =>
  (fX2_degreeOf M10 v13).bind fun w14 =>
  some (M10, w14)
def fX0_start_2 (x0 : Option Nat) (x1 : Option Nat) (x2 : Int32) (k30 : Mem → Int32 → Option (Mem)) : Nat → Mem → Int32 → Option (Mem)
  | 0, _, _ => none
  | n + 1, M, x3 =>
    if 9 ≤ x3 then
      k30 M x3
    else
      (gR 0 0 M x0).bind fun v2 =>
      (aI M x1 x3).bind fun v3 =>
      (wI M v2 x3 v3).bind fun M4 =>
      (gR 0 1 M4 x0).bind fun v5 =>
      (wI M4 v5 x3 0).bind fun M6 =>
      fX0_start_2 x0 x1 x2 k30 n M6 (x3 + 1)
def fX0_start (M : Mem) (a0 : Option Nat) (a1 : Option Nat) (a2 : Int32) : Option (Mem) :=
  fX0_start_2 a0 a1 a2
    (fun M7 x8 =>
      (pI 0 3 M7 a0 a2).bind fun M9 =>
      (fX2_degreeOf M9 a1).bind fun w10 =>
      (pI 0 4 M9 a0 (w10 - 1)).bind fun M11 =>
      (gI 0 4 M11 a0).bind fun v12 =>
      (pI 0 5 M11 a0 (if 0 ≤ v12 then 0 else (-1))).bind fun M13 =>
      (gR 0 1 M13 a0).bind fun v14 =>
      (gI 0 4 M13 a0).bind fun v15 =>
      (wI M13 v14 0 (if 0 ≤ v15 then (-2) else 0)).bind fun M16 =>
      some M16)
    FU M 0
def fX2_markOf (M : Mem) (a0 : Int32) : Option (Int32) :=
  some (if a0 ≤ 0 then (if 0 ≤ a0 then 0 else 2) else 1)
def fX2_holds (M : Mem) (a0 : Int32) (a1 : Int32) : Option (Int32) :=
  if a0 = 3 then
    some 1
  else
    (fX2_markOf M a1).bind fun w2 =>
    some (if a0 = w2 then 1 else 0)
def fX0_fits (M : Mem) (a0 : Option Nat) (a1 : Int32) : Option (Int32) :=
  if a1 = 0 then
    (fX2_markOf M 0).bind fun w2 =>
    (gI 0 3 M a0).bind fun v3 =>
    (gR 0 1 M a0).bind fun v4 =>
    (aI M v4 a1).bind fun v5 =>
    (fX2_markOf M ((-v3) * v5)).bind fun w6 =>
    (gR 0 0 M a0).bind fun v7 =>
    (aI M v7 a1).bind fun v8 =>
    (fX2_holds M (w2 ||| w6) v8).bind fun w9 =>
    chk (zb w9) <|
    some w9
  else
    (gR 0 1 M a0).bind fun v10 =>
    (aI M v10 (a1 - 1)).bind fun v11 =>
    (fX2_markOf M v11).bind fun w12 =>
    (gI 0 3 M a0).bind fun v13 =>
    (gR 0 1 M a0).bind fun v14 =>
    (aI M v14 a1).bind fun v15 =>
    (fX2_markOf M ((-v13) * v15)).bind fun w16 =>
    (gR 0 0 M a0).bind fun v17 =>
    (aI M v17 a1).bind fun v18 =>
    (fX2_holds M (w12 ||| w16) v18).bind fun w19 =>
    chk (zb w19) <|
    some w19
def fX0_advance_2 (x0 : Option Nat) (k131 : Mem → Int32 → Option (Mem × Int32)) (k139 : Mem → Int32 → Option (Mem × Int32)) : Nat → Mem → Int32 → Option (Mem × Int32)
  | 0, _, _ => none
  | n + 1, M, x1 =>
    if 1000000 ≤ x1 then
      k139 M x1
    else
      (gI 0 5 M x0).bind fun v2 =>
      if v2 < 0 then
        k139 M x1
      else
        (gR 0 1 M x0).bind fun v4 =>
        (gI 0 5 M x0).bind fun v5 =>
        (aI M v4 v5).bind fun v6 =>
        if v6 < 1 then
          (gR 0 1 M x0).bind fun v8 =>
          (gI 0 5 M x0).bind fun v9 =>
          (aI M v8 v9).bind fun v10 =>
          (wI M v8 v9 (v10 + 1)).bind fun M11 =>
          (gI 0 5 M11 x0).bind fun v12 =>
          (ck 0 M11 x0).bind fun _ =>
          (fX0_fits M11 x0 v12).bind fun w13 =>
          if w13 = 0 then
            fX0_advance_2 x0 k131 k139 n M11 (x1 + 1)
          else
            (gI 0 5 M11 x0).bind fun v15 =>
            (gI 0 4 M11 x0).bind fun v16 =>
            if v16 ≤ v15 then
              (gR 0 1 M11 x0).bind fun v18 =>
              (gI 0 4 M11 x0).bind fun v19 =>
              (aI M11 v18 v19).bind fun v20 =>
              if v20 = 0 then
                fX0_advance_2 x0 k131 k139 n M11 (x1 + 1)
              else
                (gI 0 4 M11 x0).bind fun v22 =>
                (ck 0 M11 x0).bind fun _ =>
                (fX0_fits M11 x0 (v22 + 1)).bind fun w23 =>
                if w23 = 0 then
                  fX0_advance_2 x0 k131 k139 n M11 (x1 + 1)
                else
                  k131 M11 x1
            else
              (gI 0 5 M11 x0).bind fun v25 =>
              (pI 0 5 M11 x0 (v25 + 1)).bind fun M26 =>
              (gR 0 1 M26 x0).bind fun v27 =>
              (gI 0 5 M26 x0).bind fun v28 =>
              (wI M26 v27 v28 (-2)).bind fun M29 =>
              fX0_advance_2 x0 k131 k139 n M29 (x1 + 1)
        else
          (gI 0 5 M x0).bind fun v30 =>
          (pI 0 5 M x0 (v30 - 1)).bind fun M31 =>
          fX0_advance_2 x0 k131 k139 n M31 (x1 + 1)
def fX0_advance (M : Mem) (a0 : Option Nat) : Option (Mem × Int32) :=
  fX0_advance_2 a0
    (fun M32 x33 =>
      some (M32, 1))
    (fun M34 x35 =>
      some (M34, 0))
    FU M 0
def fX2_formOf_5 (M : Mem) (x0 : Option Nat) (k25 : Int32 → Int32 → Option (Int32)) : Nat → Int32 → Int32 → Option (Int32)
  | 0, _, _ => none
  | n + 1, x1, x2 =>
    if x2 < 0 then
      k25 x1 x2
    else
      (aI M x0 x2).bind fun v2 =>
      fX2_formOf_5 M x0 k25 n (((3 * x1) + v2) + 1) (x2 + (-1))
def fX2_formOf (M : Mem) (a0 : Option Nat) : Option (Int32) :=
  fX2_formOf_5 M a0
    (fun x3 x4 =>
      some x3)
    FU 0 8
def fXT_placeOf (M : Mem) (a0 : Int32) (a1 : Int32) : Option (Int32) :=
  some ((((a0 - 6561) * 3) + a1) + 1)
def fXT_timesOf (M : Mem) (a0 : Option Nat) (a1 : Int32) (a2 : Int32) : Option (Int32) :=
  (fXT_placeOf M a1 a2).bind fun w1 =>
  if w1 < 0 then
    some (-1)
  else
    if w1 < 19683 then
      (gR 11 0 M a0).bind fun v4 =>
      (aJ M v4 (w1 / 16)).bind fun v5 =>
      some (((((v5.toUInt64 >>> (((w1 - w1 / 16 * 16) * 4).toInt64.toUInt64 &&& Int64.toUInt64 63)).toInt64) &&& 15).toInt32) - 1)
    else
      some (-1)
def fXT_remember (M : Mem) (a0 : Option Nat) (a1 : Int32) (a2 : Int32) (a3 : Int32) : Option (Mem) :=
  (fXT_placeOf M a1 a2).bind fun w1 =>
  if w1 < 0 then
    some M
  else
    if 19683 ≤ w1 then
      some M
    else
      (gR 11 0 M a0).bind fun v4 =>
      (aJ M v4 (w1 / 16)).bind fun v5 =>
      (wJ M v4 (w1 / 16) (v5 ||| ((a3.toInt64 + 1) <<< (((w1 - w1 / 16 * 16) * 4).toInt64 &&& 63)))).bind fun M6 =>
      some M6
def fX0_rememberBest (M : Mem) (a0 : Option Nat) : Option (Mem) :=
  (gR 0 1 M a0).bind fun v1 =>
  (gR 0 2 M a0).bind fun v2 =>
  (cpI M v1 0 v2 0 9).bind fun M3 =>
  some M3
def fX2_tryQuotients_28 (rec : Mem → Option Nat → Int32 → Option Nat → Option Nat → Int32 → Option (Mem × Int32)) (x0 : Option Nat) (x1 : Int32) (x2 : Option Nat) (x3 : Option Nat) (x4 : Int32) (x6 : Option Nat) (k121 : Mem → Int32 → Int32 → Option (Mem × Int32)) : Nat → Mem → Int32 → Int32 → Option (Mem × Int32)
  | 0, _, _, _ => none
  | n + 1, M, x5, x7 =>
    if 1000000 ≤ x7 then
      k121 M x5 x7
    else
      (ck 0 M x6).bind fun _ =>
      (fX0_advance M x6).bind fun w6 =>
      if w6.2 = 0 then
        k121 w6.1 x5 x7
      else
        (gR 0 1 w6.1 x6).bind fun v8 =>
        (fX2_formOf w6.1 v8).bind fun w9 =>
        (ck 11 w6.1 x3).bind fun _ =>
        (fXT_timesOf w6.1 x3 w9 x1).bind fun w10 =>
        if w10 = (-1) then
          (gR 0 1 w6.1 x6).bind fun v12 =>
          (rec w6.1 v12 x1 x2 x3 (x4 + 1)).bind fun w13 =>
          (ck 11 w13.1 x3).bind fun _ =>
          (fXT_remember w13.1 x3 w9 x1 w13.2).bind fun w14 =>
          if (w13.2 + 1) ≤ x5 then
            fX2_tryQuotients_28 rec x0 x1 x2 x3 x4 x6 k121 n w14 x5 (x7 + 1)
          else
            (ck 0 w14 x6).bind fun _ =>
            (fX0_rememberBest w14 x6).bind fun w16 =>
            fX2_tryQuotients_28 rec x0 x1 x2 x3 x4 x6 k121 n w16 (w13.2 + 1) (x7 + 1)
        else
          if (w10 + 1) ≤ x5 then
            fX2_tryQuotients_28 rec x0 x1 x2 x3 x4 x6 k121 n w6.1 x5 (x7 + 1)
          else
            (ck 0 w6.1 x6).bind fun _ =>
            (fX0_rememberBest w6.1 x6).bind fun w18 =>
            fX2_tryQuotients_28 rec x0 x1 x2 x3 x4 x6 k121 n w18 (w10 + 1) (x7 + 1)
def fX2_tryQuotients_B (rec : Mem → Option Nat → Int32 → Option Nat → Option Nat → Int32 → Option (Mem × Int32)) (M : Mem) (a0 : Option Nat) (a1 : Int32) (a2 : Option Nat) (a3 : Option Nat) (a4 : Int32) : Option (Mem × Int32) :=
  (aL M a2).bind fun v1 =>
  if a4 < v1 then
    (aR 7 M a2 a4).bind fun v3 =>
    (ck 0 M v3).bind fun _ =>
    (fX0_start M v3 a0 a1).bind fun w4 =>
    fX2_tryQuotients_28 rec a0 a1 a2 a3 a4 v3
      (fun M19 x20 x21 =>
        some (M19, x20))
      FU w4 0 0
  else
    some (M, 0)
def fX2_tryQuotients_D : Nat → Mem → Option Nat → Int32 → Option Nat → Option Nat → Int32 → Option (Mem × Int32)
  | 0, _, _, _, _, _, _ => none
  | d + 1, M, a0, a1, a2, a3, a4 => fX2_tryQuotients_B (fX2_tryQuotients_D d) M a0 a1 a2 a3 a4
def fX2_tryQuotients (M : Mem) (a0 : Option Nat) (a1 : Int32) (a2 : Option Nat) (a3 : Option Nat) (a4 : Int32) : Option (Mem × Int32) := fX2_tryQuotients_D 12 M a0 a1 a2 a3 a4
def fX2_divide (M : Mem) (a0 : Option Nat) (a1 : Int32) (a2 : Int32) : Option (Mem × Int32) :=
  (fX2_checkNumber M a1).bind fun w1 =>
  (fX2_checkSign M a2).bind fun w2 =>
  (ck 2 M a0).bind fun _ =>
  (fX2_save M a0).bind fun w3 =>
  (gR 2 0 w3 a0).bind fun v4 =>
  (gR 1 0 w3 v4).bind fun v5 =>
  (aR 9 w3 v5 a1).bind fun v6 =>
  (gR 2 8 w3 a0).bind fun v7 =>
  (gR 2 9 w3 a0).bind fun v8 =>
  (fX2_tryQuotients w3 v6 a2 v7 v8 0).bind fun w9 =>
  if w9.2 = 0 then
    (gR 2 0 w9.1 a0).bind fun v11 =>
    (gI 1 4 w9.1 v11).bind fun v12 =>
    (pI 1 4 w9.1 v11 (v12 + 1)).bind fun M13 =>
    some (M13, (-9))
  else
    (gR 2 8 w9.1 a0).bind fun v14 =>
    (aR 7 w9.1 v14 0).bind fun v15 =>
    (gR 0 2 w9.1 v15).bind fun v16 =>
    (cpI w9.1 v16 0 v6 0 9).bind fun M17 =>
    (gR 2 0 M17 a0).bind fun v18 =>
    (gI 1 3 M17 v18).bind fun v19 =>
    (pI 1 3 M17 v18 (v19 + 1)).bind fun M20 =>
    (fX2_degreeOf M20 v6).bind fun w21 =>
    some (M20, w21)
def fX2_root (M : Mem) (a0 : Option Nat) (a1 : Int32) : Option (Mem × Int32) :=
  if a1 < (-9) then
    none
  else
    if a1 ≤ 9 then
      (ck 2 M a0).bind fun _ =>
      (fX2_save M a0).bind fun w3 =>
      (gR 2 0 w3 a0).bind fun v4 =>
      (gI 1 2 w3 v4).bind fun v5 =>
      if v5 < 8 then
        (gR 2 0 w3 a0).bind fun v7 =>
        (gR 1 1 w3 v7).bind fun v8 =>
        (gR 2 0 w3 a0).bind fun v9 =>
        (gI 1 2 w3 v9).bind fun v10 =>
        (wI w3 v8 v10 a1).bind fun M11 =>
        (gR 2 0 M11 a0).bind fun v12 =>
        (gI 1 2 M11 v12).bind fun v13 =>
        (pI 1 2 M11 v12 (v13 + 1)).bind fun M14 =>
        (gR 2 0 M14 a0).bind fun v15 =>
        (gI 1 2 M14 v15).bind fun v16 =>
        some (M14, v16)
      else
        (gR 2 0 w3 a0).bind fun v17 =>
        (gI 1 4 w3 v17).bind fun v18 =>
        (pI 1 4 w3 v17 (v18 + 1)).bind fun M19 =>
        some (M19, (-9))
    else
      none
def fX2_unroot (M : Mem) (a0 : Option Nat) : Option (Mem × Int32) :=
  (ck 2 M a0).bind fun _ =>
  (fX2_save M a0).bind fun w1 =>
  (gR 2 0 w1 a0).bind fun v2 =>
  (gI 1 2 w1 v2).bind fun v3 =>
  if 0 < v3 then
    (gR 2 0 w1 a0).bind fun v5 =>
    (gI 1 2 w1 v5).bind fun v6 =>
    (pI 1 2 w1 v5 (v6 - 1)).bind fun M7 =>
    (gR 2 0 M7 a0).bind fun v8 =>
    (gR 1 1 M7 v8).bind fun v9 =>
    (gR 2 0 M7 a0).bind fun v10 =>
    (gI 1 2 M7 v10).bind fun v11 =>
    (aI M7 v9 v11).bind fun v12 =>
    some (M7, v12)
  else
    (gR 2 0 w1 a0).bind fun v13 =>
    (gI 1 4 w1 v13).bind fun v14 =>
    (pI 1 4 w1 v13 (v14 + 1)).bind fun M15 =>
    some (M15, 99)
def fX2_expandWhole_2 (x0 : Option Nat) (k21 : Mem → Int32 → Option (Mem)) : Nat → Mem → Int32 → Option (Mem)
  | 0, _, _ => none
  | n + 1, M, x1 =>
    if 9 ≤ x1 then
      k21 M x1
    else
      (gR 2 7 M x0).bind fun v2 =>
      (wJ M v2 x1 0).bind fun M3 =>
      fX2_expandWhole_2 x0 k21 n M3 (x1 + 1)
def fX2_expandWhole_51 (x0 : Option Nat) (x1 : Int32) (k93 : Mem → Int32 → Option (Mem)) : Nat → Mem → Int32 → Option (Mem)
  | 0, _, _ => none
  | n + 1, M, x2 =>
    if x2 ≤ 0 then
      k93 M x2
    else
      (gR 2 7 M x0).bind fun v13 =>
      (gR 2 7 M x0).bind fun v14 =>
      (aJ M v14 (x2 - 1)).bind fun v15 =>
      (gR 2 0 M x0).bind fun v16 =>
      (gR 1 1 M v16).bind fun v17 =>
      (aI M v17 x1).bind fun v18 =>
      (gR 2 7 M x0).bind fun v19 =>
      (aJ M v19 x2).bind fun v20 =>
      (wJ M v13 x2 (v15 - (v18.toInt64 * v20))).bind fun M21 =>
      fX2_expandWhole_51 x0 x1 k93 n M21 (x2 + (-1))
def fX2_expandWhole_30 (x0 : Option Nat) (k123 : Mem → Int32 → Option (Mem)) : Nat → Mem → Int32 → Option (Mem)
  | 0, _, _ => none
  | n + 1, M, x1 =>
    (gR 2 0 M x0).bind fun v8 =>
    (gI 1 2 M v8).bind fun v9 =>
    if v9 ≤ x1 then
      k123 M x1
    else
      if 8 ≤ x1 then
        k123 M x1
      else
        fX2_expandWhole_51 x0 x1
          (fun M22 x23 =>
            (gR 2 7 M22 x0).bind fun v24 =>
            (gR 2 0 M22 x0).bind fun v25 =>
            (gR 1 1 M22 v25).bind fun v26 =>
            (aI M22 v26 x1).bind fun v27 =>
            (gR 2 7 M22 x0).bind fun v28 =>
            (aJ M22 v28 0).bind fun v29 =>
            (wJ M22 v24 0 (((-v27).toInt64) * v29)).bind fun M30 =>
            fX2_expandWhole_30 x0 k123 n M30 (x1 + 1))
          FU M (x1 + 1)
def fX2_expandWhole (M : Mem) (a0 : Option Nat) : Option (Mem) :=
  fX2_expandWhole_2 a0
    (fun M4 x5 =>
      (gR 2 7 M4 a0).bind fun v6 =>
      (wJ M4 v6 0 1).bind fun M7 =>
      fX2_expandWhole_30 a0
        (fun M31 x32 =>
          some M31)
        FU M7 0)
    FU M 0
def fX2_signOf (M : Mem) (a0 : Int64) : Option (Int32) :=
  some (if (lg_cmp a0 0) ≤ 0 then (if 0 ≤ (lg_cmp a0 0) then 0 else (-1)) else 1)
def fX2_lower_24 (x0 : Option Nat) (x1 : Int32) (x2 : Option Nat) (k48 : Mem → Int32 → Option (Mem × Int32)) : Nat → Mem → Int32 → Option (Mem × Int32)
  | 0, _, _ => none
  | n + 1, M, x3 =>
    if 9 ≤ x3 then
      k48 M x3
    else
      (gR 2 7 M x0).bind fun v8 =>
      (aJ M v8 x3).bind fun v9 =>
      (fX2_signOf M v9).bind fun w10 =>
      (wI M x2 x3 w10).bind fun M11 =>
      fX2_lower_24 x0 x1 x2 k48 n M11 (x3 + 1)
def fX2_lower (M : Mem) (a0 : Option Nat) (a1 : Int32) : Option (Mem × Int32) :=
  (fX2_checkNumber M a1).bind fun w1 =>
  (ck 2 M a0).bind fun _ =>
  (fX2_save M a0).bind fun w2 =>
  (ck 2 w2 a0).bind fun _ =>
  (fX2_expandWhole w2 a0).bind fun w3 =>
  (gR 2 0 w3 a0).bind fun v4 =>
  (gR 1 0 w3 v4).bind fun v5 =>
  (aR 9 w3 v5 a1).bind fun v6 =>
  fX2_lower_24 a0 a1 v6
    (fun M12 x13 =>
      (fX2_degreeOf M12 v6).bind fun w14 =>
      some (M12, w14))
    FU w3 0
def fX2_checkSlot (M : Mem) (a0 : Int32) : Option (Unit) :=
  if a0 < 0 then
    none
  else
    if a0 < 2 then
      some ()
    else
      none
def fX2_degreesTogether_4 (M : Mem) (x0 : Option Nat) (k30 : Int32 → Int32 → Option (Int32)) : Nat → Int32 → Int32 → Option (Int32)
  | 0, _, _ => none
  | n + 1, x1, x2 =>
    if 5 ≤ x2 then
      k30 x1 x2
    else
      (gR 2 0 M x0).bind fun v2 =>
      (gR 1 0 M v2).bind fun v3 =>
      (aR 9 M v3 x2).bind fun v4 =>
      (fX2_degreeOf M v4).bind fun w5 =>
      fX2_degreesTogether_4 M x0 k30 n (x1 + w5) (x2 + 1)
def fX2_degreesTogether (M : Mem) (a0 : Option Nat) : Option (Int32) :=
  fX2_degreesTogether_4 M a0
    (fun x6 x7 =>
      some x6)
    FU 0 0
def fX2_keep (M : Mem) (a0 : Option Nat) (a1 : Int32) : Option (Mem × Int32) :=
  (fX2_checkSlot M a1).bind fun w1 =>
  (gR 2 3 M a0).bind fun v2 =>
  (aR 8 M v2 a1).bind fun v3 =>
  (gR 2 0 M a0).bind fun v4 =>
  (ck 1 M v3).bind fun _ =>
  (fX1_takeOver M v3 v4).bind fun w5 =>
  (gR 2 4 w5 a0).bind fun v6 =>
  (wZ w5 v6 a1 1).bind fun M7 =>
  (ck 2 M7 a0).bind fun _ =>
  (fX2_degreesTogether M7 a0).bind fun w8 =>
  some (M7, w8)
def fX2_goBack (M : Mem) (a0 : Option Nat) (a1 : Int32) : Option (Mem × Int32) :=
  (fX2_checkSlot M a1).bind fun w1 =>
  (gR 2 4 M a0).bind fun v2 =>
  (aZ M v2 a1).bind fun v3 =>
  if v3 = 0 then
    none
  else
    (ck 2 M a0).bind fun _ =>
    (fX2_save M a0).bind fun w5 =>
    (gR 2 0 w5 a0).bind fun v6 =>
    (gR 2 3 w5 a0).bind fun v7 =>
    (aR 8 w5 v7 a1).bind fun v8 =>
    (ck 1 w5 v6).bind fun _ =>
    (fX1_takeOver w5 v6 v8).bind fun w9 =>
    (ck 2 w9 a0).bind fun _ =>
    (fX2_degreesTogether w9 a0).bind fun w10 =>
    some (w9, w10)
def fX2_undo (M : Mem) (a0 : Option Nat) : Option (Mem × Int32) :=
  (gI 2 2 M a0).bind fun v1 =>
  if 0 < v1 then
    (gI 2 2 M a0).bind fun v3 =>
    (pI 2 2 M a0 (v3 - 1)).bind fun M4 =>
    (gR 2 0 M4 a0).bind fun v5 =>
    (gR 2 1 M4 a0).bind fun v6 =>
    (gI 2 2 M4 a0).bind fun v7 =>
    (aR 8 M4 v6 v7).bind fun v8 =>
    (ck 1 M4 v5).bind fun _ =>
    (fX1_takeOver M4 v5 v8).bind fun w9 =>
    (gI 2 2 w9 a0).bind fun v10 =>
    some (w9, v10)
  else
    none
def fX2_sign (M : Mem) (a0 : Option Nat) (a1 : Int32) (a2 : Int32) : Option (Int32) :=
  (fX2_checkNumber M a1).bind fun w1 =>
  (fX2_checkPower M a2).bind fun w2 =>
  (gR 2 0 M a0).bind fun v3 =>
  (gR 1 0 M v3).bind fun v4 =>
  (aR 9 M v4 a1).bind fun v5 =>
  (aI M v5 a2).bind fun v6 =>
  some v6
def fX2_checkWhat (M : Mem) (a0 : Int32) (a1 : Int32) : Option (Unit) :=
  if a0 < 0 then
    none
  else
    if a0 < a1 then
      some ()
    else
      none
def fX2_powerOf (M : Mem) (a0 : Int32) (a1 : Int32) : Option (Int32) :=
  if a1 = 0 then
    some 1
  else
    some (if (a1 - a1 / 2 * 2) = 0 then a0 * a0 else a0)
def fX2_changesOf_7 (M : Mem) (x0 : Option Nat) (x1 : Int32) (k54 : Int32 → Int32 → Int32 → Option (Int32)) : Nat → Int32 → Int32 → Int32 → Option (Int32)
  | 0, _, _, _ => none
  | n + 1, x2, x3, x4 =>
    if 9 ≤ x4 then
      k54 x2 x3 x4
    else
      (aI M x0 x4).bind fun v2 =>
      (fX2_powerOf M x1 x4).bind fun w3 =>
      if (v2 * w3) = 0 then
        fX2_changesOf_7 M x0 x1 k54 n x2 x3 (x4 + 1)
      else
        if x3 = 0 then
          fX2_changesOf_7 M x0 x1 k54 n x2 (v2 * w3) (x4 + 1)
        else
          if (v2 * w3) = x3 then
            fX2_changesOf_7 M x0 x1 k54 n x2 (v2 * w3) (x4 + 1)
          else
            fX2_changesOf_7 M x0 x1 k54 n (x2 + 1) (v2 * w3) (x4 + 1)
def fX2_changesOf (M : Mem) (a0 : Option Nat) (a1 : Int32) : Option (Int32) :=
  fX2_changesOf_7 M a0 a1
    (fun x7 x8 x9 =>
      some x7)
    FU 0 0 0
def fX2_of (M : Mem) (a0 : Option Nat) (a1 : Int32) (a2 : Int32) : Option (Int32) :=
  (fX2_checkNumber M a1).bind fun w1 =>
  (fX2_checkWhat M a2 4).bind fun w2 =>
  (gR 2 0 M a0).bind fun v3 =>
  (gR 1 0 M v3).bind fun v4 =>
  (aR 9 M v4 a1).bind fun v5 =>
  if a2 = 0 then
    (fX2_degreeOf M v5).bind fun w7 =>
    some w7
  else
    if a2 = 1 then
      (fX2_notZero M v5).bind fun w8 =>
      some w8
    else
      if a2 = 2 then
        (fX2_changesOf M v5 1).bind fun w9 =>
        some w9
      else
        (fX2_formOf M v5).bind fun w6 =>
        some w6
def fX2_hasRoot_4 (M : Mem) (x0 : Option Nat) (x1 : Int32) (k31 : Int32 → Int32 → Option (Int32)) : Nat → Int32 → Int32 → Option (Int32)
  | 0, _, _ => none
  | n + 1, x2, x3 =>
    if 9 ≤ x3 then
      k31 x2 x3
    else
      (aI M x0 x3).bind fun v2 =>
      (fX2_powerOf M x1 x3).bind fun w3 =>
      (fX2_markOf M (v2 * w3)).bind fun w4 =>
      fX2_hasRoot_4 M x0 x1 k31 n (x2 ||| w4) (x3 + 1)
def fX2_hasRoot (M : Mem) (a0 : Option Nat) (a1 : Int32) : Option (Int32) :=
  fX2_hasRoot_4 M a0 a1
    (fun x5 x6 =>
      (fX2_holds M x5 0).bind fun w7 =>
      chk (zb w7) <|
      some w7)
    FU 0 0
def fX2_isRoot (M : Mem) (a0 : Option Nat) (a1 : Int32) (a2 : Int32) : Option (Int32) :=
  (fX2_checkNumber M a1).bind fun w1 =>
  (fX2_checkSign M a2).bind fun w2 =>
  (gR 2 0 M a0).bind fun v3 =>
  (gR 1 0 M v3).bind fun v4 =>
  (aR 9 M v4 a1).bind fun v5 =>
  (fX2_hasRoot M v5 a2).bind fun w6 =>
  some (if w6 = 0 then 0 else 1)
def fX2_zerosBelow_4 (M : Mem) (x0 : Option Nat) (k25 : Int32 → Int32 → Option (Int32)) : Nat → Int32 → Int32 → Option (Int32)
  | 0, _, _ => none
  | n + 1, x1, x2 =>
    if 9 ≤ x2 then
      k25 x1 x2
    else
      (aI M x0 x2).bind fun v2 =>
      if v2 = 0 then
        fX2_zerosBelow_4 M x0 k25 n (x1 + 1) (x2 + 1)
      else
        k25 x1 x2
def fX2_zerosBelow (M : Mem) (a0 : Option Nat) : Option (Int32) :=
  fX2_zerosBelow_4 M a0
    (fun x4 x5 =>
      some x4)
    FU 0 0
def fX2_countedTimes (M : Mem) (a0 : Option Nat) (a1 : Int32) : Option (Int32) :=
  if a1 = 0 then
    (fX2_zerosBelow M a0).bind fun w2 =>
    some w2
  else
    (fX2_changesOf M a0 a1).bind fun w3 =>
    some w3
def fX2_times (M : Mem) (a0 : Option Nat) (a1 : Int32) (a2 : Int32) (a3 : Int32) : Option (Mem × Int32) :=
  (fX2_checkNumber M a1).bind fun w1 =>
  (fX2_checkSign M a2).bind fun w2 =>
  (fX2_checkWhat M a3 2).bind fun w3 =>
  (gR 2 0 M a0).bind fun v4 =>
  (gR 1 0 M v4).bind fun v5 =>
  (aR 9 M v5 a1).bind fun v6 =>
  if a3 = 0 then
    (gR 2 8 M a0).bind fun v8 =>
    (gR 2 9 M a0).bind fun v9 =>
    (fX2_tryQuotients M v6 a2 v8 v9 0).bind fun w10 =>
    some (w10.1, w10.2)
  else
    (fX2_countedTimes M v6 a2).bind fun w11 =>
    some (M, w11)
def fX2_quotientsOf_19 (x0 : Option Nat) (x1 : Option Nat) (x2 : Int32) (x3 : Option Nat) (k43 : Mem → Int32 → Int32 → Option (Mem × Int32)) : Nat → Mem → Int32 → Int32 → Option (Mem × Int32)
  | 0, _, _, _ => none
  | n + 1, M, x4, x5 =>
    if 1000000 ≤ x5 then
      k43 M x4 x5
    else
      (ck 0 M x3).bind fun _ =>
      (fX0_advance M x3).bind fun w5 =>
      if w5.2 = 0 then
        k43 w5.1 x4 x5
      else
        fX2_quotientsOf_19 x0 x1 x2 x3 k43 n w5.1 (x4 + 1) (x5 + 1)
def fX2_quotientsOf (M : Mem) (a0 : Option Nat) (a1 : Option Nat) (a2 : Int32) : Option (Mem × Int32) :=
  (gR 2 8 M a0).bind fun v1 =>
  (aR 7 M v1 0).bind fun v2 =>
  (ck 0 M v2).bind fun _ =>
  (fX0_start M v2 a1 a2).bind fun w3 =>
  fX2_quotientsOf_19 a0 a1 a2 v2
    (fun M7 x8 x9 =>
      some (M7, x8))
    FU w3 0 0
def fX2_quotients (M : Mem) (a0 : Option Nat) (a1 : Int32) (a2 : Int32) : Option (Mem × Int32) :=
  (fX2_checkNumber M a1).bind fun w1 =>
  (fX2_checkSign M a2).bind fun w2 =>
  (gR 2 0 M a0).bind fun v3 =>
  (gR 1 0 M v3).bind fun v4 =>
  (aR 9 M v4 a1).bind fun v5 =>
  (ck 2 M a0).bind fun _ =>
  (fX2_quotientsOf M a0 v5 a2).bind fun w6 =>
  some (w6.1, w6.2)
def fX2_bestForm (M : Mem) (a0 : Option Nat) (a1 : Int32) : Option (Int32) :=
  if a1 = 0 then
    some (-9)
  else
    (gR 2 8 M a0).bind fun v2 =>
    (aR 7 M v2 0).bind fun v3 =>
    (gR 0 2 M v3).bind fun v4 =>
    (fX2_formOf M v4).bind fun w5 =>
    some w5
def fX2_best (M : Mem) (a0 : Option Nat) (a1 : Int32) (a2 : Int32) : Option (Mem × Int32) :=
  (fX2_checkNumber M a1).bind fun w1 =>
  (fX2_checkSign M a2).bind fun w2 =>
  (gR 2 0 M a0).bind fun v3 =>
  (gR 1 0 M v3).bind fun v4 =>
  (aR 9 M v4 a1).bind fun v5 =>
  (gR 2 8 M a0).bind fun v6 =>
  (gR 2 9 M a0).bind fun v7 =>
  (fX2_tryQuotients M v5 a2 v6 v7 0).bind fun w8 =>
  (ck 2 w8.1 a0).bind fun _ =>
  (fX2_bestForm w8.1 a0 w8.2).bind fun w9 =>
  some (w8.1, w9)
def fX2_isTooHigh (M : Mem) (a0 : Option Nat) (a1 : Option Nat) (a2 : Int32) : Option (Int32) :=
  if a2 = 1 then
    (fX2_degreeOf M a0).bind fun w2 =>
    (fX2_degreeOf M a1).bind fun w3 =>
    some (if (w2 + w3) ≤ 8 then 0 else 1)
  else
    some 0
def fX2_sumMarks (M : Mem) (a0 : Option Nat) (a1 : Option Nat) (a2 : Int32) : Option (Int32) :=
  (aI M a0 a2).bind fun v1 =>
  (fX2_markOf M v1).bind fun w2 =>
  (aI M a1 a2).bind fun v3 =>
  (fX2_markOf M v3).bind fun w4 =>
  some (w2 ||| w4)
def fX2_productMarks_5 (M : Mem) (x0 : Option Nat) (x1 : Option Nat) (x2 : Int32) (k34 : Int32 → Int32 → Option (Int32)) : Nat → Int32 → Int32 → Option (Int32)
  | 0, _, _ => none
  | n + 1, x3, x4 =>
    if x2 < x4 then
      k34 x3 x4
    else
      (aI M x0 x4).bind fun v2 =>
      (aI M x1 (x2 - x4)).bind fun v3 =>
      (fX2_markOf M (v2 * v3)).bind fun w4 =>
      fX2_productMarks_5 M x0 x1 x2 k34 n (x3 ||| w4) (x4 + 1)
def fX2_productMarks (M : Mem) (a0 : Option Nat) (a1 : Option Nat) (a2 : Int32) : Option (Int32) :=
  fX2_productMarks_5 M a0 a1 a2
    (fun x5 x6 =>
      some x5)
    FU 0 0
def fX2_marksAt (M : Mem) (a0 : Option Nat) (a1 : Option Nat) (a2 : Int32) (a3 : Int32) : Option (Int32) :=
  if a2 = 0 then
    (fX2_sumMarks M a0 a1 a3).bind fun w2 =>
    some w2
  else
    (fX2_productMarks M a0 a1 a3).bind fun w3 =>
    some w3
def fX2_rowsOf_17 (M : Mem) (x0 : Option Nat) (x1 : Option Nat) (x2 : Int32) (k46 : Int32 → Int32 → Option (Int32)) : Nat → Int32 → Int32 → Option (Int32)
  | 0, _, _ => none
  | n + 1, x3, x4 =>
    if 9 ≤ x4 then
      k46 x3 x4
    else
      (fX2_marksAt M x0 x1 x2 x4).bind fun w4 =>
      fX2_rowsOf_17 M x0 x1 x2 k46 n (if w4 = 3 then x3 * 3 else x3) (x4 + 1)
def fX2_rowsOf (M : Mem) (a0 : Option Nat) (a1 : Option Nat) (a2 : Int32) : Option (Int32) :=
  (fX2_isTooHigh M a0 a1 a2).bind fun w1 =>
  if w1 = 0 then
    fX2_rowsOf_17 M a0 a1 a2
      (fun x7 x8 =>
        some x7)
      FU 1 0
  else
    some (-9)
def fX2_many (M : Mem) (a0 : Option Nat) (a1 : Int32) (a2 : Int32) (a3 : Int32) : Option (Int32) :=
  (fX2_checkNumber M a1).bind fun w1 =>
  (fX2_checkNumber M a2).bind fun w2 =>
  (fX2_checkWhat M a3 2).bind fun w3 =>
  (gR 2 0 M a0).bind fun v4 =>
  (gR 1 0 M v4).bind fun v5 =>
  (aR 9 M v5 a1).bind fun v6 =>
  (gR 2 0 M a0).bind fun v7 =>
  (gR 1 0 M v7).bind fun v8 =>
  (aR 9 M v8 a2).bind fun v9 =>
  (fX2_rowsOf M v6 v9 a3).bind fun w10 =>
  some w10
def fX2_isAmong_14 (M : Mem) (x0 : Option Nat) (x1 : Option Nat) (x2 : Option Nat) (x3 : Int32) (k39 : Int32 → Option (Int32)) (k47 : Int32 → Option (Int32)) : Nat → Int32 → Option (Int32)
  | 0, _ => none
  | n + 1, x4 =>
    if 9 ≤ x4 then
      k47 x4
    else
      (fX2_marksAt M x1 x2 x3 x4).bind fun w4 =>
      (aI M x0 x4).bind fun v5 =>
      (fX2_holds M w4 v5).bind fun w6 =>
      if w6 = 0 then
        k39 x4
      else
        fX2_isAmong_14 M x0 x1 x2 x3 k39 k47 n (x4 + 1)
def fX2_isAmong (M : Mem) (a0 : Option Nat) (a1 : Option Nat) (a2 : Option Nat) (a3 : Int32) : Option (Int32) :=
  (fX2_isTooHigh M a1 a2 a3).bind fun w1 =>
  if w1 = 0 then
    fX2_isAmong_14 M a0 a1 a2 a3
      (fun x8 =>
        some 0)
      (fun x9 =>
        some 1)
      FU 0
  else
    some 0
def fX2_isIn (M : Mem) (a0 : Option Nat) (a1 : Int32) (a2 : Int32) (a3 : Int32) (a4 : Int32) : Option (Int32) :=
  (fX2_checkNumber M a1).bind fun w1 =>
  (fX2_checkNumber M a2).bind fun w2 =>
  (fX2_checkNumber M a3).bind fun w3 =>
  (fX2_checkWhat M a4 2).bind fun w4 =>
  (gR 2 0 M a0).bind fun v5 =>
  (gR 1 0 M v5).bind fun v6 =>
  (aR 9 M v6 a1).bind fun v7 =>
  (gR 2 0 M a0).bind fun v8 =>
  (gR 1 0 M v8).bind fun v9 =>
  (aR 9 M v9 a2).bind fun v10 =>
  (gR 2 0 M a0).bind fun v11 =>
  (gR 1 0 M v11).bind fun v12 =>
  (aR 9 M v12 a3).bind fun v13 =>
  (fX2_isAmong M v7 v10 v13 a4).bind fun w14 =>
  some (if w14 = 0 then 0 else 1)
def fX2_coefficient (M : Mem) (a0 : Option Nat) (a1 : Int32) : Option (Mem × Int64) :=
  (fX2_checkPower M a1).bind fun w1 =>
  (ck 2 M a0).bind fun _ =>
  (fX2_expandWhole M a0).bind fun w2 =>
  (gR 2 7 w2 a0).bind fun v3 =>
  (aJ w2 v3 a1).bind fun v4 =>
  some (w2, v4)
def fX2_rootsOfSign_4 (M : Mem) (x0 : Option Nat) (x1 : Int32) (k47 : Int32 → Int32 → Option (Int32)) : Nat → Int32 → Int32 → Option (Int32)
  | 0, _, _ => none
  | n + 1, x2, x3 =>
    (gR 2 0 M x0).bind fun v1 =>
    (gI 1 2 M v1).bind fun v2 =>
    if v2 ≤ x3 then
      k47 x2 x3
    else
      if 8 ≤ x3 then
        k47 x2 x3
      else
        (gR 2 0 M x0).bind fun v5 =>
        (gR 1 1 M v5).bind fun v6 =>
        (aI M v6 x3).bind fun v7 =>
        (fX2_signOf M v7.toInt64).bind fun w8 =>
        if w8 = x1 then
          fX2_rootsOfSign_4 M x0 x1 k47 n (x2 + 1) (x3 + 1)
        else
          fX2_rootsOfSign_4 M x0 x1 k47 n x2 (x3 + 1)
def fX2_rootsOfSign (M : Mem) (a0 : Option Nat) (a1 : Int32) : Option (Int32) :=
  fX2_rootsOfSign_4 M a0 a1
    (fun x10 x11 =>
      some x10)
    FU 0 0
def fX2_withRootOne_4 (M : Mem) (x0 : Option Nat) (k34 : Int32 → Int32 → Option (Int32)) : Nat → Int32 → Int32 → Option (Int32)
  | 0, _, _ => none
  | n + 1, x1, x2 =>
    if 5 ≤ x2 then
      k34 x1 x2
    else
      (gR 2 0 M x0).bind fun v2 =>
      (gR 1 0 M v2).bind fun v3 =>
      (aR 9 M v3 x2).bind fun v4 =>
      (fX2_hasRoot M v4 1).bind fun w5 =>
      if w5 = 0 then
        fX2_withRootOne_4 M x0 k34 n x1 (x2 + 1)
      else
        fX2_withRootOne_4 M x0 k34 n (x1 + 1) (x2 + 1)
def fX2_withRootOne (M : Mem) (a0 : Option Nat) : Option (Int32) :=
  fX2_withRootOne_4 M a0
    (fun x7 x8 =>
      some x7)
    FU 0 0
def fX2_count (M : Mem) (a0 : Option Nat) (a1 : Int32) : Option (Int32) :=
  (fX2_checkWhat M a1 8).bind fun w1 =>
  if a1 = 0 then
    (gR 2 0 M a0).bind fun v3 =>
    (gI 1 2 M v3).bind fun v4 =>
    some v4
  else
    if a1 = 1 then
      (ck 2 M a0).bind fun _ =>
      (fX2_rootsOfSign M a0 1).bind fun w5 =>
      some w5
    else
      if a1 = 2 then
        (ck 2 M a0).bind fun _ =>
        (fX2_rootsOfSign M a0 (-1)).bind fun w6 =>
        some w6
      else
        if a1 = 3 then
          (ck 2 M a0).bind fun _ =>
          (fX2_rootsOfSign M a0 0).bind fun w7 =>
          some w7
        else
          if a1 = 4 then
            (gR 2 0 M a0).bind fun v8 =>
            (gI 1 3 M v8).bind fun v9 =>
            some v9
          else
            if a1 = 5 then
              (gR 2 0 M a0).bind fun v10 =>
              (gI 1 4 M v10).bind fun v11 =>
              some v11
            else
              if a1 = 6 then
                (ck 2 M a0).bind fun _ =>
                (fX2_withRootOne M a0).bind fun w12 =>
                some w12
              else
                (gI 2 2 M a0).bind fun v2 =>
                some v2
def fX2_shareOf (M : Mem) (a0 : Option Nat) : Option (UInt64) :=
  (fX2_degreeOf M a0).bind fun w1 =>
  if w1 = 0 then
    some FP.dconst1
  else
    (fX2_countedTimes M a0 1).bind fun w3 =>
    (fX2_countedTimes M a0 (-1)).bind fun w4 =>
    (fX2_countedTimes M a0 0).bind fun w5 =>
    chk (n64b (FP.ddiv (FP.i2d ((w3 + w4) + w5)) (FP.i2d w1))) <|
    some (FP.ddiv (FP.i2d ((w3 + w4) + w5)) (FP.i2d w1))
def fX2_takenShare (M : Mem) (a0 : Option Nat) (a1 : Int32) : Option (UInt64) :=
  (fX2_checkNumber M a1).bind fun w1 =>
  (gR 2 0 M a0).bind fun v2 =>
  (gR 1 0 M v2).bind fun v3 =>
  (aR 9 M v3 a1).bind fun v4 =>
  (fX2_shareOf M v4).bind fun w5 =>
  some w5
def fL_cell (xs : Nat → Int32) (L : Nat) (M : Mem) (a1 : Int32) : Option (Int32) :=
  if (Int32.ofNat L) ≤ a1 then
    some ((7919 * (a1 + 3)) * (a1 + 11))
  else
    (sc xs L a1).bind fun v2 =>
    some v2
def fL_low (M : Mem) (a0 : Int32) (a1 : Int32) : Option (Int32) :=
  chk (!(a1 == 0)) <|
  some ((a0 &&& 2147483647) - (a0 &&& 2147483647) / a1 * a1)
def fL_told_6 (x0 : Option Nat) (k31 : Mem → Int64 → Int32 → Option (Mem × Int64)) : Nat → Mem → Int64 → Int32 → Option (Mem × Int64)
  | 0, _, _, _ => none
  | n + 1, M, x1, x3 =>
    if 7 ≤ x3 then
      k31 M x1 x3
    else
      (ck 2 M x0).bind fun _ =>
      (fX2_count M x0 x3).bind fun w2 =>
      fL_told_6 x0 k31 n M ((31 * x1) + w2.toInt64) (x3 + 1)
def fL_told_33 (x0 : Option Nat) (k58 : Mem → Int64 → Int32 → Option (Mem × Int64)) : Nat → Mem → Int64 → Int32 → Option (Mem × Int64)
  | 0, _, _, _ => none
  | n + 1, M, x1, x3 =>
    if 5 ≤ x3 then
      k58 M x1 x3
    else
      (ck 2 M x0).bind fun _ =>
      (fX2_of M x0 x3 3).bind fun w7 =>
      fL_told_33 x0 k58 n M ((31 * x1) + w7.toInt64) (x3 + 1)
def fL_told_60 (x0 : Option Nat) (k84 : Mem → Int64 → Int32 → Option (Mem × Int64)) : Nat → Mem → Int64 → Int32 → Option (Mem × Int64)
  | 0, _, _, _ => none
  | n + 1, M, x1, x3 =>
    if 9 ≤ x3 then
      k84 M x1 x3
    else
      (ck 2 M x0).bind fun _ =>
      (fX2_coefficient M x0 x3).bind fun w12 =>
      fL_told_60 x0 k84 n w12.1 ((31 * x1) + w12.2) (x3 + 1)
def fL_told (M : Mem) (a0 : Option Nat) : Option (Mem × Int64) :=
  fL_told_6 a0
    (fun M3 x4 x5 =>
      fL_told_33 a0
        (fun M8 x9 x10 =>
          fL_told_60 a0
            (fun M13 x14 x15 =>
              some (M13, x14))
            FU M8 x9 0)
        FU M3 x4 0)
    FU M 3 0
def fL_act (M : Mem) (a0 : Option Nat) (a1 : Int32) (a2 : Int32) : Option (Mem × Int32) :=
  (fL_low M (a1 >>> ((4 : Int32) &&& 31)) 5).bind fun w1 =>
  if (a1 &&& 15) = 0 then
    (fL_low M a2 9).bind fun w3 =>
    (fL_low M (a2 >>> ((4 : Int32) &&& 31)) 3).bind fun w4 =>
    (ck 2 M a0).bind fun _ =>
    (fX2_put M a0 w1 w3 (w4 - 1)).bind fun w5 =>
    some (w5.1, w5.2)
  else
    if (a1 &&& 15) = 1 then
      (fL_low M a2 9).bind fun w6 =>
      (fL_low M (a2 >>> ((4 : Int32) &&& 31)) 3).bind fun w7 =>
      (ck 2 M a0).bind fun _ =>
      (fX2_put M a0 w1 w6 (w7 - 1)).bind fun w8 =>
      some (w8.1, w8.2)
    else
      if (a1 &&& 15) = 2 then
        (fL_low M a2 9).bind fun w9 =>
        (fL_low M (a2 >>> ((4 : Int32) &&& 31)) 3).bind fun w10 =>
        (ck 2 M a0).bind fun _ =>
        (fX2_put M a0 w1 w9 (w10 - 1)).bind fun w11 =>
        some (w11.1, w11.2)
      else
        if (a1 &&& 15) = 3 then
          (fL_low M a2 9).bind fun w12 =>
          (fL_low M (a2 >>> ((4 : Int32) &&& 31)) 3).bind fun w13 =>
          (ck 2 M a0).bind fun _ =>
          (fX2_put M a0 w1 w12 (w13 - 1)).bind fun w14 =>
          some (w14.1, w14.2)
        else
          if (a1 &&& 15) = 4 then
            (fL_low M a2 9).bind fun w15 =>
            (fL_low M (a2 >>> ((4 : Int32) &&& 31)) 3).bind fun w16 =>
            (ck 2 M a0).bind fun _ =>
            (fX2_put M a0 w1 w15 (w16 - 1)).bind fun w17 =>
            some (w17.1, w17.2)
          else
            if (a1 &&& 15) = 5 then
              (fL_low M a2 9).bind fun w18 =>
              (fL_low M (a2 >>> ((4 : Int32) &&& 31)) 3).bind fun w19 =>
              (ck 2 M a0).bind fun _ =>
              (fX2_put M a0 w1 w18 (w19 - 1)).bind fun w20 =>
              some (w20.1, w20.2)
            else
              if (a1 &&& 15) = 6 then
                (fL_low M a2 5).bind fun w21 =>
                (ck 2 M a0).bind fun _ =>
                (fX2_copy M a0 w1 w21).bind fun w22 =>
                some (w22.1, w22.2)
              else
                if (a1 &&& 15) = 7 then
                  (fL_low M a2 3).bind fun w23 =>
                  (ck 2 M a0).bind fun _ =>
                  (fX2_divide M a0 w1 (w23 - 1)).bind fun w24 =>
                  some (w24.1, w24.2)
                else
                  if (a1 &&& 15) = 8 then
                    (fL_low M a2 3).bind fun w25 =>
                    (ck 2 M a0).bind fun _ =>
                    (fX2_divide M a0 w1 (w25 - 1)).bind fun w26 =>
                    some (w26.1, w26.2)
                  else
                    if (a1 &&& 15) = 9 then
                      (fL_low M a2 3).bind fun w27 =>
                      (ck 2 M a0).bind fun _ =>
                      (fX2_divide M a0 w1 (w27 - 1)).bind fun w28 =>
                      some (w28.1, w28.2)
                    else
                      if (a1 &&& 15) = 10 then
                        (fL_low M a2 19).bind fun w29 =>
                        (ck 2 M a0).bind fun _ =>
                        (fX2_root M a0 (w29 - 9)).bind fun w30 =>
                        some (w30.1, w30.2)
                      else
                        if (a1 &&& 15) = 11 then
                          (fL_low M a2 19).bind fun w31 =>
                          (ck 2 M a0).bind fun _ =>
                          (fX2_root M a0 (w31 - 9)).bind fun w32 =>
                          some (w32.1, w32.2)
                        else
                          if (a1 &&& 15) = 12 then
                            (fL_low M a2 19).bind fun w33 =>
                            (ck 2 M a0).bind fun _ =>
                            (fX2_root M a0 (w33 - 9)).bind fun w34 =>
                            some (w34.1, w34.2)
                          else
                            if (a1 &&& 15) = 13 then
                              if (a2 &&& 1) = 0 then
                                (ck 2 M a0).bind fun _ =>
                                (fX2_unroot M a0).bind fun w36 =>
                                some (w36.1, w36.2)
                              else
                                (ck 2 M a0).bind fun _ =>
                                (fX2_goBack M a0 0).bind fun w37 =>
                                some (w37.1, w37.2)
                            else
                              (ck 2 M a0).bind fun _ =>
                              (fX2_lower M a0 w1).bind fun w2 =>
                              some (w2.1, w2.2)
def fL_holds_5 (x0 : Option Nat) (x1 : Int32) (x2 : Int32) (k121 : Mem → Int32 → Int32 → Option (Mem × Int32)) (k129 : Mem → Int32 → Int32 → Option (Mem × Int32)) : Nat → Mem → Int32 → Int32 → Option (Mem × Int32)
  | 0, _, _, _ => none
  | n + 1, M, x3, x4 =>
    if 2 ≤ x4 then
      k129 M x3 x4
    else
      (ck 2 M x0).bind fun _ =>
      (fX2_times M x0 x1 x4 0).bind fun w2 =>
      (ck 2 w2.1 x0).bind fun _ =>
      (fX2_isRoot w2.1 x0 x1 x4).bind fun w3 =>
      (ck 2 w2.1 x0).bind fun _ =>
      (fX2_times w2.1 x0 x1 x4 1).bind fun w4 =>
      if w2.2 = w4.2 then
        if ((if w3 = 1 then 1 else 0) : Int32) = ((if w2.2 ≤ 0 then 0 else 1) : Int32) then
          (ck 2 w4.1 x0).bind fun _ =>
          (fX2_quotients w4.1 x0 x1 x4).bind fun w7 =>
          if ((if w3 = 1 then 1 else 0) : Int32) = ((if w7.2 ≤ 0 then 0 else 1) : Int32) then
            (ck 2 w7.1 x0).bind fun _ =>
            (fX2_best w7.1 x0 x1 x4).bind fun w9 =>
            if ((if w3 = 1 then 1 else 0) : Int32) = ((if w9.2 < 0 then 0 else 1) : Int32) then
              fL_holds_5 x0 x1 x2 k121 k129 n w9.1 (x3 + (if 0 ≤ x4 then w2.2 else 0)) (x4 + 1)
            else
              k121 w9.1 (x3 + (if 0 ≤ x4 then w2.2 else 0)) x4
          else
            k121 w7.1 (x3 + (if 0 ≤ x4 then w2.2 else 0)) x4
        else
          k121 w4.1 (x3 + (if 0 ≤ x4 then w2.2 else 0)) x4
      else
        k121 w4.1 (x3 + (if 0 ≤ x4 then w2.2 else 0)) x4
def fL_holds_219 (x0 : Option Nat) (x1 : Int32) (x2 : Int32) (x3 : Int32) (x4 : Int32) (k254 : Mem → Int32 → Int32 → Option (Mem × Int32)) : Nat → Mem → Int32 → Int32 → Option (Mem × Int32)
  | 0, _, _, _ => none
  | n + 1, M, x5, x6 =>
    if 9 ≤ x6 then
      k254 M x5 x6
    else
      if x5 = 0 then
        none
      else
        (ck 2 M x0).bind fun _ =>
        (fX2_sign M x0 x1 x6).bind fun w43 =>
        if w43 = 0 then
          fL_holds_219 x0 x1 x2 x3 x4 k254 n M 1 (x6 + 1)
        else
          none
def fL_holds_257 (x0 : Option Nat) (x1 : Int32) (x2 : Int32) (x3 : Int32) (x4 : Int32) (k367 : Mem → Int32 → Int32 → Option (Mem × Int32)) : Nat → Mem → Int32 → Int32 → Option (Mem × Int32)
  | 0, _, _, _ => none
  | n + 1, M, x5, x6 =>
    if 2 ≤ x6 then
      k367 M x5 x6
    else
      if x5 = 0 then
        none
      else
        (ck 2 M x0).bind fun _ =>
        (fX2_many M x0 x1 x2 x6).bind fun w50 =>
        (ck 2 M x0).bind fun _ =>
        (fX2_many M x0 x2 x1 x6).bind fun w51 =>
        if w50 = w51 then
          (ck 2 M x0).bind fun _ =>
          (fX2_isIn M x0 0 x1 x2 x6).bind fun w53 =>
          (ck 2 M x0).bind fun _ =>
          (fX2_isIn M x0 0 x2 x1 x6).bind fun w54 =>
          if w53 = w54 then
            if x6 = 0 then
              fL_holds_257 x0 x1 x2 x3 x4 k367 n M 1 (x6 + 1)
            else
              (ck 2 M x0).bind fun _ =>
              (fX2_isIn M x0 0 x1 x2 1).bind fun w57 =>
              if w57 = 0 then
                fL_holds_257 x0 x1 x2 x3 x4 k367 n M 1 (x6 + 1)
              else
                (ck 2 M x0).bind fun _ =>
                (fX2_of M x0 0 0).bind fun w59 =>
                (ck 2 M x0).bind fun _ =>
                (fX2_of M x0 x2 0).bind fun w60 =>
                if w59 = (x4 + w60) then
                  fL_holds_257 x0 x1 x2 x3 x4 k367 n M 1 (x6 + 1)
                else
                  none
          else
            none
        else
          none
def fL_holds (M : Mem) (a0 : Option Nat) (a1 : Int32) (a2 : Int32) : Option (Mem × Int32) :=
  fL_holds_5 a0 a1 a2
    (fun M21 x22 x23 =>
      none)
    (fun M24 x25 x26 =>
      (ck 2 M24 a0).bind fun _ =>
      (fX2_of M24 a0 a1 0).bind fun w27 =>
      (ck 2 M24 a0).bind fun _ =>
      (fX2_isIn M24 a0 a1 a1 a1 0).bind fun w28 =>
      if w28 = 1 then
        (ck 2 M24 a0).bind fun _ =>
        (fX2_quotients M24 a0 a1 0).bind fun w30 =>
        if 1 < w30.2 then
          none
        else
          if w27 < x25 then
            none
          else
            (ck 2 w30.1 a0).bind fun _ =>
            (fX2_of w30.1 a0 a1 2).bind fun w33 =>
            (ck 2 w30.1 a0).bind fun _ =>
            (fX2_times w30.1 a0 a1 1 1).bind fun w34 =>
            if w33 = w34.2 then
              (ck 2 w34.1 a0).bind fun _ =>
              (fX2_of w34.1 a0 a1 2).bind fun w36 =>
              (ck 2 w34.1 a0).bind fun _ =>
              (fX2_of w34.1 a0 a1 1).bind fun w37 =>
              if w37 ≤ w36 then
                none
              else
                (ck 2 w34.1 a0).bind fun _ =>
                (fX2_sign w34.1 a0 a1 w27).bind fun w39 =>
                if w39 = 0 then
                  none
                else
                  fL_holds_219 a0 a1 a2 x25 w27
                    (fun M45 x46 x47 =>
                      fL_holds_257 a0 a1 a2 x25 w27
                        (fun M62 x63 x64 =>
                          (ck 2 M62 a0).bind fun _ =>
                          (fX2_count M62 a0 0).bind fun w65 =>
                          (ck 2 M62 a0).bind fun _ =>
                          (fX2_coefficient M62 a0 w65).bind fun w66 =>
                          if x63 = 0 then
                            none
                          else
                            (ck 2 w66.1 a0).bind fun _ =>
                            (fX2_count w66.1 a0 1).bind fun w68 =>
                            (ck 2 w66.1 a0).bind fun _ =>
                            (fX2_count w66.1 a0 2).bind fun w69 =>
                            (ck 2 w66.1 a0).bind fun _ =>
                            (fX2_count w66.1 a0 3).bind fun w70 =>
                            if w65 = ((w68 + w69) + w70) then
                              if (lg_cmp w66.2 1) = 0 then
                                (ck 2 w66.1 a0).bind fun _ =>
                                (fX2_takenShare w66.1 a0 a1).bind fun w73 =>
                                if (Op.cmpValue (FP.dcmp w73 FP.dconst0) .l) < 0 then
                                  none
                                else
                                  some (w66.1, 1)
                              else
                                none
                            else
                              none)
                        FU M45 x46 0)
                    FU w34.1 1 (w27 + 1)
            else
              none
      else
        none)
    FU M 0 (-1)
