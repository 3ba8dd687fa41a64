def fX1_init_40 (x0 : Option Nat) (k60 : Mem → Int32 → Option (Mem)) : Nat → Mem → Int32 → Option (Mem)
  | 0, _, _ => none
  | n + 1, M, x1 =>
    if 5 ≤ x1 then
      k60 M x1
    else
      (gR 1 0 M x0).bind fun v9 =>
      (aR 9 M v9 x1).bind fun v10 =>
      (wI M v10 0 1).bind fun M11 =>
      fX1_init_40 x0 k60 n M11 (x1 + 1)
def fX1_init (M : Mem) (a0 : Option Nat) : Option (Mem) :=
  (ck 1 M a0).bind fun _ =>
  (nwG M).bind fun M1 =>
  (pR 1 0 M1 a0 (some M.1)).bind fun M2 =>
  (nwA 4 M2 8).bind fun M3 =>
  (pR 1 1 M3 a0 (some M2.1)).bind fun M4 =>
  (pI 1 2 M4 a0 0).bind fun M5 =>
  (pI 1 3 M5 a0 0).bind fun M6 =>
  (pI 1 4 M6 a0 0).bind fun M7 =>
  fX1_init_40 a0
    (fun M12 x13 =>
      some M12)
    FU M7 0
def fXT_init (M : Mem) (a0 : Option Nat) : Option (Mem) :=
  (ck 11 M a0).bind fun _ =>
  (nwA 5 M 1231).bind fun M1 =>
  (pR 11 0 M1 a0 (some M.1)).bind fun M2 =>
  some M2
def fX0_init (M : Mem) (a0 : Option Nat) : Option (Mem) :=
  (ck 0 M a0).bind fun _ =>
  (nwA 4 M 9).bind fun M1 =>
  (pR 0 0 M1 a0 (some M.1)).bind fun M2 =>
  (nwA 4 M2 9).bind fun M3 =>
  (pR 0 1 M3 a0 (some M2.1)).bind fun M4 =>
  (nwA 4 M4 9).bind fun M5 =>
  (pR 0 2 M5 a0 (some M4.1)).bind fun M6 =>
  (pI 0 3 M6 a0 0).bind fun M7 =>
  (pI 0 4 M7 a0 (-1)).bind fun M8 =>
  (pI 0 5 M8 a0 (-1)).bind fun M9 =>
  some M9
def fX2_init (M : Mem) (a0 : Option Nat) : Option (Mem) :=
  (ck 2 M a0).bind fun _ =>
  (nwO 1 M).bind fun M1 =>
  (fX1_init M1 (some M.1)).bind fun w2 =>
  (pR 2 0 w2 a0 (some M.1)).bind fun M3 =>
  (nwA 8 M3 6).bind fun M4 =>
  (pR 2 1 M4 a0 (some M3.1)).bind fun M5 =>
  (pI 2 2 M5 a0 0).bind fun M6 =>
  (nwA 8 M6 2).bind fun M7 =>
  (pR 2 3 M7 a0 (some M6.1)).bind fun M8 =>
  (nwA 6 M8 2).bind fun M9 =>
  (pR 2 4 M9 a0 (some M8.1)).bind fun M10 =>
  (nwA 4 M10 60).bind fun M11 =>
  (pR 2 5 M11 a0 (some M10.1)).bind fun M12 =>
  (pI 2 6 M12 a0 0).bind fun M13 =>
  (nwA 5 M13 9).bind fun M14 =>
  (pR 2 7 M14 a0 (some M13.1)).bind fun M15 =>
  (nwA 7 M15 9).bind fun M16 =>
  (pR 2 8 M16 a0 (some M15.1)).bind fun M17 =>
  (nwO 11 M17).bind fun M18 =>
  (fXT_init M18 (some M17.1)).bind fun w19 =>
  (pR 2 9 w19 a0 (some M17.1)).bind fun M20 =>
  (gR 2 1 M20 a0).bind fun v21 =>
  (nwO 1 M20).bind fun M22 =>
  (fX1_init M22 (some M20.1)).bind fun w23 =>
  (wR 8 1 w23 v21 0 (some M20.1)).bind fun M24 =>
  (gR 2 1 M24 a0).bind fun v25 =>
  (nwO 1 M24).bind fun M26 =>
  (fX1_init M26 (some M24.1)).bind fun w27 =>
  (wR 8 1 w27 v25 1 (some M24.1)).bind fun M28 =>
  (gR 2 1 M28 a0).bind fun v29 =>
  (nwO 1 M28).bind fun M30 =>
  (fX1_init M30 (some M28.1)).bind fun w31 =>
  (wR 8 1 w31 v29 2 (some M28.1)).bind fun M32 =>
  (gR 2 1 M32 a0).bind fun v33 =>
  (nwO 1 M32).bind fun M34 =>
  (fX1_init M34 (some M32.1)).bind fun w35 =>
  (wR 8 1 w35 v33 3 (some M32.1)).bind fun M36 =>
  (gR 2 1 M36 a0).bind fun v37 =>
  (nwO 1 M36).bind fun M38 =>
  (fX1_init M38 (some M36.1)).bind fun w39 =>
  (wR 8 1 w39 v37 4 (some M36.1)).bind fun M40 =>
  (gR 2 1 M40 a0).bind fun v41 =>
  (nwO 1 M40).bind fun M42 =>
  (fX1_init M42 (some M40.1)).bind fun w43 =>
  (wR 8 1 w43 v41 5 (some M40.1)).bind fun M44 =>
  (gR 2 3 M44 a0).bind fun v45 =>
  (nwO 1 M44).bind fun M46 =>
  (fX1_init M46 (some M44.1)).bind fun w47 =>
  (wR 8 1 w47 v45 0 (some M44.1)).bind fun M48 =>
  (gR 2 3 M48 a0).bind fun v49 =>
  (nwO 1 M48).bind fun M50 =>
  (fX1_init M50 (some M48.1)).bind fun w51 =>
  (wR 8 1 w51 v49 1 (some M48.1)).bind fun M52 =>
  (gR 2 8 M52 a0).bind fun v53 =>
  (nwO 0 M52).bind fun M54 =>
  (fX0_init M54 (some M52.1)).bind fun w55 =>
  (wR 7 0 w55 v53 0 (some M52.1)).bind fun M56 =>
  (gR 2 8 M56 a0).bind fun v57 =>
  (nwO 0 M56).bind fun M58 =>
  (fX0_init M58 (some M56.1)).bind fun w59 =>
  (wR 7 0 w59 v57 1 (some M56.1)).bind fun M60 =>
  (gR 2 8 M60 a0).bind fun v61 =>
  (nwO 0 M60).bind fun M62 =>
  (fX0_init M62 (some M60.1)).bind fun w63 =>
  (wR 7 0 w63 v61 2 (some M60.1)).bind fun M64 =>
  (gR 2 8 M64 a0).bind fun v65 =>
  (nwO 0 M64).bind fun M66 =>
  (fX0_init M66 (some M64.1)).bind fun w67 =>
  (wR 7 0 w67 v65 3 (some M64.1)).bind fun M68 =>
  (gR 2 8 M68 a0).bind fun v69 =>
  (nwO 0 M68).bind fun M70 =>
  (fX0_init M70 (some M68.1)).bind fun w71 =>
  (wR 7 0 w71 v69 4 (some M68.1)).bind fun M72 =>
  (gR 2 8 M72 a0).bind fun v73 =>
  (nwO 0 M72).bind fun M74 =>
  (fX0_init M74 (some M72.1)).bind fun w75 =>
  (wR 7 0 w75 v73 5 (some M72.1)).bind fun M76 =>
  (gR 2 8 M76 a0).bind fun v77 =>
  (nwO 0 M76).bind fun M78 =>
  (fX0_init M78 (some M76.1)).bind fun w79 =>
  (wR 7 0 w79 v77 6 (some M76.1)).bind fun M80 =>
  (gR 2 8 M80 a0).bind fun v81 =>
  (nwO 0 M80).bind fun M82 =>
  (fX0_init M82 (some M80.1)).bind fun w83 =>
  (wR 7 0 w83 v81 7 (some M80.1)).bind fun M84 =>
  (gR 2 8 M84 a0).bind fun v85 =>
  (nwO 0 M84).bind fun M86 =>
  (fX0_init M86 (some M84.1)).bind fun w87 =>
  (wR 7 0 w87 v85 8 (some M84.1)).bind fun M88 =>
  some M88
def fX2_checkNumber (M : Mem) (a0 : Int32) : Option (String ⊕ Unit) :=
  if a0 < 0 then
    some (.inl "java/lang/IndexOutOfBoundsException")
  else
    if a0 < 5 then
      some (.inr ())
    else
      some (.inl "java/lang/IndexOutOfBoundsException")
def fX2_checkPower (M : Mem) (a0 : Int32) : Option (String ⊕ Unit) :=
  if a0 < 0 then
    some (.inl "java/lang/IllegalArgumentException")
  else
    if a0 ≤ 8 then
      some (.inr ())
    else
      some (.inl "java/lang/IllegalArgumentException")
def fX2_checkSign (M : Mem) (a0 : Int32) : Option (String ⊕ Unit) :=
  if a0 < (-1) then
    some (.inl "java/lang/IllegalArgumentException")
  else
    if a0 ≤ 1 then
      some (.inr ())
    else
      some (.inl "java/lang/IllegalArgumentException")
def fX2_dropOldest_9 (x0 : Option Nat) (x1 : Option Nat) (k35 : Mem → Int32 → Option (Mem)) : Nat → Mem → Int32 → Option (Mem)
  | 0, _, _ => none
  | n + 1, M, x2 =>
    if 6 ≤ x2 then
      k35 M x2
    else
      (gR 2 1 M x0).bind fun v4 =>
      (gR 2 1 M x0).bind fun v5 =>
      (aR 8 M v5 x2).bind fun v6 =>
      (wR 8 1 M v4 (x2 - 1) v6).bind fun M7 =>
      fX2_dropOldest_9 x0 x1 k35 n M7 (x2 + 1)
def fX2_dropOldest (M : Mem) (a0 : Option Nat) : Option (Mem) :=
  (gR 2 1 M a0).bind fun v1 =>
  (aR 8 M v1 0).bind fun v2 =>
  fX2_dropOldest_9 a0 v2
    (fun M8 x9 =>
      (gR 2 1 M8 a0).bind fun v10 =>
      (wR 8 1 M8 v10 5 v2).bind fun M11 =>
      (gI 2 2 M11 a0).bind fun v12 =>
      (pI 2 2 M11 a0 (v12 - 1)).bind fun M13 =>
      some M13)
    FU M 1
def fX1_takeOver_2 (x0 : Option Nat) (x1 : Option Nat) (k32 : Mem → Int32 → Option (Mem)) : Nat → Mem → Int32 → Option (Mem)
  | 0, _, _ => none
  | n + 1, M, x2 =>
    if 5 ≤ x2 then
      k32 M x2
    else
      (gR 1 0 M x1).bind fun v2 =>
      (aR 9 M v2 x2).bind fun v3 =>
      (gR 1 0 M x0).bind fun v4 =>
      (aR 9 M v4 x2).bind fun v5 =>
      (cpI M v3 0 v5 0 9).bind fun M6 =>
      fX1_takeOver_2 x0 x1 k32 n M6 (x2 + 1)
def fX1_takeOver (M : Mem) (a0 : Option Nat) (a1 : Option Nat) : Option (Mem) :=
  fX1_takeOver_2 a0 a1
    (fun M7 x8 =>
      (gR 1 1 M7 a1).bind fun v9 =>
      (gR 1 1 M7 a0).bind fun v10 =>
      (cpI M7 v9 0 v10 0 8).bind fun M11 =>
      (gI 1 2 M11 a1).bind fun v12 =>
      (pI 1 2 M11 a0 v12).bind fun M13 =>
      (gI 1 3 M13 a1).bind fun v14 =>
      (pI 1 3 M13 a0 v14).bind fun M15 =>
      (gI 1 4 M15 a1).bind fun v16 =>
      (pI 1 4 M15 a0 v16).bind fun M17 =>
      some M17)
    FU M 0
def fX2_save (M : Mem) (a0 : Option Nat) : Option (Mem) :=
  (gI 2 2 M a0).bind fun v1 =>
  if v1 < 6 then
    (gR 2 1 M a0).bind fun v3 =>
    (gI 2 2 M a0).bind fun v4 =>
    (aR 8 M v3 v4).bind fun v5 =>
    (gR 2 0 M a0).bind fun v6 =>
    (ck 1 M v5).bind fun _ =>
    (fX1_takeOver M v5 v6).bind fun w7 =>
    (gI 2 2 w7 a0).bind fun v8 =>
    (pI 2 2 w7 a0 (v8 + 1)).bind fun M9 =>
    some M9
  else
    (ck 2 M a0).bind fun _ =>
    (fX2_dropOldest M a0).bind fun w10 =>
    (gR 2 1 w10 a0).bind fun v11 =>
    (gI 2 2 w10 a0).bind fun v12 =>
    (aR 8 w10 v11 v12).bind fun v13 =>
    (gR 2 0 w10 a0).bind fun v14 =>
    (ck 1 w10 v13).bind fun _ =>
    (fX1_takeOver w10 v13 v14).bind fun w15 =>
    (gI 2 2 w15 a0).bind fun v16 =>
    (pI 2 2 w15 a0 (v16 + 1)).bind fun M17 =>
    some M17
def fX2_notZero_4 (M : Mem) (x0 : Option Nat) (k25 : Int32 → Int32 → Option (Int32)) : Nat → Int32 → Int32 → Option (Int32)
  | 0, _, _ => none
  | n + 1, x1, x2 =>
    if 9 ≤ x2 then
      k25 x1 x2
    else
      (aI M x0 x2).bind fun v2 =>
      if v2 = 0 then
        fX2_notZero_4 M x0 k25 n x1 (x2 + 1)
      else
        fX2_notZero_4 M x0 k25 n (x1 + 1) (x2 + 1)
def fX2_notZero (M : Mem) (a0 : Option Nat) : Option (Int32) :=
  fX2_notZero_4 M a0
    (fun x4 x5 =>
      some x4)
    FU 0 0
def fX2_isAloneNotZero (M : Mem) (a0 : Option Nat) (a1 : Int32) : Option (Int32) :=
  (aI M a0 a1).bind fun v1 =>
  if v1 = 0 then
    some 0
  else
    (fX2_notZero M a0).bind fun w3 =>
    some (if w3 = 1 then 1 else 0)
def fX2_degreeOf_3 (M : Mem) (x0 : Option Nat) (k13 : Int32 → Option (Int32)) (k21 : Int32 → Option (Int32)) : Nat → Int32 → Option (Int32)
  | 0, _ => none
  | n + 1, x1 =>
    if x1 ≤ 0 then
      k21 x1
    else
      (aI M x0 x1).bind fun v2 =>
      if v2 = 0 then
        fX2_degreeOf_3 M x0 k13 k21 n (x1 + (-1))
      else
        k13 x1
def fX2_degreeOf (M : Mem) (a0 : Option Nat) : Option (Int32) :=
  fX2_degreeOf_3 M a0
    (fun x4 =>
      some x4)
    (fun x5 =>
      some 0)
    FU 8
def fX2_put (M : Mem) (a0 : Option Nat) (a1 : Int32) (a2 : Int32) (a3 : Int32) : Option (Mem × (String ⊕ Int32)) :=
  (fX2_checkNumber M a1).bind fun w1 =>
  thrE w1 (fun E => some (M, .inl E)) fun v2 =>
  (fX2_checkPower M a2).bind fun w3 =>
  thrE w3 (fun E => some (M, .inl E)) fun v4 =>
  (fX2_checkSign M a3).bind fun w5 =>
  thrE w5 (fun E => some (M, .inl E)) fun v6 =>
  (ck 2 M a0).bind fun _ =>
  (fX2_save M a0).bind fun w7 =>
  (gR 2 0 w7 a0).bind fun v8 =>
  (gR 1 0 w7 v8).bind fun v9 =>
  (aR 9 w7 v9 a1).bind fun v10 =>
  if a3 = 0 then
    (fX2_isAloneNotZero w7 v10 a2).bind fun w12 =>
    if w12 = 0 then
      (wI w7 v10 a2 a3).bind fun M14 =>
      (fX2_degreeOf M14 v10).bind fun w15 =>
      some (M14, .inr w15)
    else
      (gR 2 0 w7 a0).bind fun v16 =>
      (gI 1 4 w7 v16).bind fun v17 =>
      (pI 1 4 w7 v16 (v17 + 1)).bind fun M18 =>
      some (M18, .inr (-9))
  else
    (wI w7 v10 a2 a3).bind fun M19 =>
    (fX2_degreeOf M19 v10).bind fun w20 =>
    some (M19, .inr w20)
def fX2_copy (M : Mem) (a0 : Option Nat) (a1 : Int32) (a2 : Int32) : Option (Mem × (String ⊕ Int32)) :=
  (fX2_checkNumber M a1).bind fun w1 =>
  thrE w1 (fun E => some (M, .inl E)) fun v2 =>
  (fX2_checkNumber M a2).bind fun w3 =>
  thrE w3 (fun E => some (M, .inl E)) fun v4 =>
  (ck 2 M a0).bind fun _ =>
  (fX2_save M a0).bind fun w5 =>
  (gR 2 0 w5 a0).bind fun v6 =>
  (gR 1 0 w5 v6).bind fun v7 =>
  (aR 9 w5 v7 a1).bind fun v8 =>
  (gR 2 0 w5 a0).bind fun v9 =>
  (gR 1 0 w5 v9).bind fun v10 =>
  (aR 9 w5 v10 a2).bind fun v11 =>
  (cpI w5 v8 0 v11 0 9).bind fun M12 =>
  (gR 2 0 M12 a0).bind fun v13 =>
  (gR 1 0 M12 v13).bind fun v14 =>
  (aR 9 M12 v14 a2).bind fun v15 =>
  (fX2_degreeOf M12 v15).bind fun w16 =>
  some (M12, .inr w16)
def fX0_start_2 (x0 : Option Nat) (x1 : Option Nat) (x2 : Int32) (k30 : Mem → Int32 → Option (Mem)) : Nat → Mem → Int32 → Option (Mem)
  | 0, _, _ => none
  | n + 1, M, x3 =>
    if 9 ≤ x3 then
      k30 M x3
    else
      (gR 0 0 M x0).bind fun v2 =>
      (aI M x1 x3).bind fun v3 =>
      (wI M v2 x3 v3).bind fun M4 =>
      (gR 0 1 M4 x0).bind fun v5 =>
      (wI M4 v5 x3 0).bind fun M6 =>
      fX0_start_2 x0 x1 x2 k30 n M6 (x3 + 1)
def fX0_start (M : Mem) (a0 : Option Nat) (a1 : Option Nat) (a2 : Int32) : Option (Mem) :=
  fX0_start_2 a0 a1 a2
    (fun M7 x8 =>
      (pI 0 3 M7 a0 a2).bind fun M9 =>
      (fX2_degreeOf M9 a1).bind fun w10 =>
      (pI 0 4 M9 a0 (w10 - 1)).bind fun M11 =>
      (gI 0 4 M11 a0).bind fun v12 =>
      (pI 0 5 M11 a0 (if 0 ≤ v12 then 0 else (-1))).bind fun M13 =>
      (gR 0 1 M13 a0).bind fun v14 =>
      (gI 0 4 M13 a0).bind fun v15 =>
      (wI M13 v14 0 (if 0 ≤ v15 then (-2) else 0)).bind fun M16 =>
      some M16)
    FU M 0
def fX2_markOf (M : Mem) (a0 : Int32) : Option (Int32) :=
  some (if a0 ≤ 0 then (if 0 ≤ a0 then 0 else 2) else 1)
def fX2_holds (M : Mem) (a0 : Int32) (a1 : Int32) : Option (Int32) :=
  if a0 = 3 then
    some 1
  else
    (fX2_markOf M a1).bind fun w2 =>
    some (if a0 = w2 then 1 else 0)
def fX0_fits (M : Mem) (a0 : Option Nat) (a1 : Int32) : Option (Int32) :=
  if a1 = 0 then
    (fX2_markOf M 0).bind fun w2 =>
    (gI 0 3 M a0).bind fun v3 =>
    (gR 0 1 M a0).bind fun v4 =>
    (aI M v4 a1).bind fun v5 =>
    (fX2_markOf M ((-v3) * v5)).bind fun w6 =>
    (gR 0 0 M a0).bind fun v7 =>
    (aI M v7 a1).bind fun v8 =>
    (fX2_holds M (w2 ||| w6) v8).bind fun w9 =>
    chk (zb w9) <|
    some w9
  else
    (gR 0 1 M a0).bind fun v10 =>
    (aI M v10 (a1 - 1)).bind fun v11 =>
    (fX2_markOf M v11).bind fun w12 =>
    (gI 0 3 M a0).bind fun v13 =>
    (gR 0 1 M a0).bind fun v14 =>
    (aI M v14 a1).bind fun v15 =>
    (fX2_markOf M ((-v13) * v15)).bind fun w16 =>
    (gR 0 0 M a0).bind fun v17 =>
    (aI M v17 a1).bind fun v18 =>
    (fX2_holds M (w12 ||| w16) v18).bind fun w19 =>
    chk (zb w19) <|
    some w19
def fX0_advance_2 (x0 : Option Nat) (k131 : Mem → Int32 → Option (Mem × Int32)) (k139 : Mem → Int32 → Option (Mem × Int32)) : Nat → Mem → Int32 → Option (Mem × Int32)
  | 0, _, _ => none
  | n + 1, M, x1 =>
    if 1000000 ≤ x1 then
      k139 M x1
    else
      (gI 0 5 M x0).bind fun v2 =>
      if v2 < 0 then
        k139 M x1
      else
        (gR 0 1 M x0).bind fun v4 =>
        (gI 0 5 M x0).bind fun v5 =>
        (aI M v4 v5).bind fun v6 =>
        if v6 < 1 then
          (gR 0 1 M x0).bind fun v8 =>
          (gI 0 5 M x0).bind fun v9 =>
          (aI M v8 v9).bind fun v10 =>
          (wI M v8 v9 (v10 + 1)).bind fun M11 =>
          (gI 0 5 M11 x0).bind fun v12 =>
          (ck 0 M11 x0).bind fun _ =>
          (fX0_fits M11 x0 v12).bind fun w13 =>
          if w13 = 0 then
            fX0_advance_2 x0 k131 k139 n M11 (x1 + 1)
          else
            (gI 0 5 M11 x0).bind fun v15 =>
            (gI 0 4 M11 x0).bind fun v16 =>
            if v16 ≤ v15 then
              (gR 0 1 M11 x0).bind fun v18 =>
              (gI 0 4 M11 x0).bind fun v19 =>
              (aI M11 v18 v19).bind fun v20 =>
              if v20 = 0 then
                fX0_advance_2 x0 k131 k139 n M11 (x1 + 1)
              else
                (gI 0 4 M11 x0).bind fun v22 =>
                (ck 0 M11 x0).bind fun _ =>
                (fX0_fits M11 x0 (v22 + 1)).bind fun w23 =>
                if w23 = 0 then
                  fX0_advance_2 x0 k131 k139 n M11 (x1 + 1)
                else
                  k131 M11 x1
            else
              (gI 0 5 M11 x0).bind fun v25 =>
              (pI 0 5 M11 x0 (v25 + 1)).bind fun M26 =>
              (gR 0 1 M26 x0).bind fun v27 =>
              (gI 0 5 M26 x0).bind fun v28 =>
              (wI M26 v27 v28 (-2)).bind fun M29 =>
              fX0_advance_2 x0 k131 k139 n M29 (x1 + 1)
        else
          (gI 0 5 M x0).bind fun v30 =>
          (pI 0 5 M x0 (v30 - 1)).bind fun M31 =>
          fX0_advance_2 x0 k131 k139 n M31 (x1 + 1)
def fX0_advance (M : Mem) (a0 : Option Nat) : Option (Mem × Int32) :=
  fX0_advance_2 a0
    (fun M32 x33 =>
      some (M32, 1))
    (fun M34 x35 =>
      some (M34, 0))
    FU M 0
def fX2_formOf_5 (M : Mem) (x0 : Option Nat) (k25 : Int32 → Int32 → Option (Int32)) : Nat → Int32 → Int32 → Option (Int32)
  | 0, _, _ => none
  | n + 1, x1, x2 =>
    if x2 < 0 then
      k25 x1 x2
    else
      (aI M x0 x2).bind fun v2 =>
      fX2_formOf_5 M x0 k25 n (((3 * x1) + v2) + 1) (x2 + (-1))
def fX2_formOf (M : Mem) (a0 : Option Nat) : Option (Int32) :=
  fX2_formOf_5 M a0
    (fun x3 x4 =>
      some x3)
    FU 0 8
def fXT_placeOf (M : Mem) (a0 : Int32) (a1 : Int32) : Option (Int32) :=
  some ((((a0 - 6561) * 3) + a1) + 1)
def fXT_timesOf (M : Mem) (a0 : Option Nat) (a1 : Int32) (a2 : Int32) : Option (Int32) :=
  (fXT_placeOf M a1 a2).bind fun w1 =>
  if w1 < 0 then
    some (-1)
  else
    if w1 < 19683 then
      (gR 11 0 M a0).bind fun v4 =>
      (aJ M v4 (w1 / 16)).bind fun v5 =>
      some (((((v5.toUInt64 >>> (((w1 - w1 / 16 * 16) * 4).toInt64.toUInt64 &&& Int64.toUInt64 63)).toInt64) &&& 15).toInt32) - 1)
    else
      some (-1)
def fXT_remember (M : Mem) (a0 : Option Nat) (a1 : Int32) (a2 : Int32) (a3 : Int32) : Option (Mem) :=
  (fXT_placeOf M a1 a2).bind fun w1 =>
  if w1 < 0 then
    some M
  else
    if 19683 ≤ w1 then
      some M
    else
      (gR 11 0 M a0).bind fun v4 =>
      (aJ M v4 (w1 / 16)).bind fun v5 =>
      (wJ M v4 (w1 / 16) (v5 ||| ((a3.toInt64 + 1) <<< (((w1 - w1 / 16 * 16) * 4).toInt64 &&& 63)))).bind fun M6 =>
      some M6
def fX0_rememberBest (M : Mem) (a0 : Option Nat) : Option (Mem) :=
  (gR 0 1 M a0).bind fun v1 =>
  (gR 0 2 M a0).bind fun v2 =>
  (cpI M v1 0 v2 0 9).bind fun M3 =>
  some M3
def fX2_tryQuotients_28 (rec : Mem → Option Nat → Int32 → Option Nat → Option Nat → Int32 → Option (Mem × Int32)) (x0 : Option Nat) (x1 : Int32) (x2 : Option Nat) (x3 : Option Nat) (x4 : Int32) (x6 : Option Nat) (k121 : Mem → Int32 → Int32 → Option (Mem × Int32)) : Nat → Mem → Int32 → Int32 → Option (Mem × Int32)
  | 0, _, _, _ => none
  | n + 1, M, x5, x7 =>
    if 1000000 ≤ x7 then
      k121 M x5 x7
    else
      (ck 0 M x6).bind fun _ =>
      (fX0_advance M x6).bind fun w6 =>
      if w6.2 = 0 then
        k121 w6.1 x5 x7
      else
        (gR 0 1 w6.1 x6).bind fun v8 =>
        (fX2_formOf w6.1 v8).bind fun w9 =>
        (ck 11 w6.1 x3).bind fun _ =>
        (fXT_timesOf w6.1 x3 w9 x1).bind fun w10 =>
        if w10 = (-1) then
          (gR 0 1 w6.1 x6).bind fun v12 =>
          (rec w6.1 v12 x1 x2 x3 (x4 + 1)).bind fun w13 =>
          (ck 11 w13.1 x3).bind fun _ =>
          (fXT_remember w13.1 x3 w9 x1 w13.2).bind fun w14 =>
          if (w13.2 + 1) ≤ x5 then
            fX2_tryQuotients_28 rec x0 x1 x2 x3 x4 x6 k121 n w14 x5 (x7 + 1)
          else
            (ck 0 w14 x6).bind fun _ =>
            (fX0_rememberBest w14 x6).bind fun w16 =>
            fX2_tryQuotients_28 rec x0 x1 x2 x3 x4 x6 k121 n w16 (w13.2 + 1) (x7 + 1)
        else
          if (w10 + 1) ≤ x5 then
            fX2_tryQuotients_28 rec x0 x1 x2 x3 x4 x6 k121 n w6.1 x5 (x7 + 1)
          else
            (ck 0 w6.1 x6).bind fun _ =>
            (fX0_rememberBest w6.1 x6).bind fun w18 =>
            fX2_tryQuotients_28 rec x0 x1 x2 x3 x4 x6 k121 n w18 (w10 + 1) (x7 + 1)
def fX2_tryQuotients_B (rec : Mem → Option Nat → Int32 → Option Nat → Option Nat → Int32 → Option (Mem × Int32)) (M : Mem) (a0 : Option Nat) (a1 : Int32) (a2 : Option Nat) (a3 : Option Nat) (a4 : Int32) : Option (Mem × Int32) :=
  (aL M a2).bind fun v1 =>
  if a4 < v1 then
    (aR 7 M a2 a4).bind fun v3 =>
    (ck 0 M v3).bind fun _ =>
    (fX0_start M v3 a0 a1).bind fun w4 =>
    fX2_tryQuotients_28 rec a0 a1 a2 a3 a4 v3
      (fun M19 x20 x21 =>
        some (M19, x20))
      FU w4 0 0
  else
    some (M, 0)
def fX2_tryQuotients_D : Nat → Mem → Option Nat → Int32 → Option Nat → Option Nat → Int32 → Option (Mem × Int32)
  | 0, _, _, _, _, _, _ => none
  | d + 1, M, a0, a1, a2, a3, a4 => fX2_tryQuotients_B (fX2_tryQuotients_D d) M a0 a1 a2 a3 a4
def fX2_tryQuotients (M : Mem) (a0 : Option Nat) (a1 : Int32) (a2 : Option Nat) (a3 : Option Nat) (a4 : Int32) : Option (Mem × Int32) := fX2_tryQuotients_D 12 M a0 a1 a2 a3 a4
def fX2_divide (M : Mem) (a0 : Option Nat) (a1 : Int32) (a2 : Int32) : Option (Mem × (String ⊕ Int32)) :=
  (fX2_checkNumber M a1).bind fun w1 =>
  thrE w1 (fun E => some (M, .inl E)) fun v2 =>
  (fX2_checkSign M a2).bind fun w3 =>
  thrE w3 (fun E => some (M, .inl E)) fun v4 =>
  (ck 2 M a0).bind fun _ =>
  (fX2_save M a0).bind fun w5 =>
  (gR 2 0 w5 a0).bind fun v6 =>
  (gR 1 0 w5 v6).bind fun v7 =>
  (aR 9 w5 v7 a1).bind fun v8 =>
  (gR 2 8 w5 a0).bind fun v9 =>
  (gR 2 9 w5 a0).bind fun v10 =>
  (fX2_tryQuotients w5 v8 a2 v9 v10 0).bind fun w11 =>
  if w11.2 = 0 then
    (gR 2 0 w11.1 a0).bind fun v13 =>
    (gI 1 4 w11.1 v13).bind fun v14 =>
    (pI 1 4 w11.1 v13 (v14 + 1)).bind fun M15 =>
    some (M15, .inr (-9))
  else
    (gR 2 8 w11.1 a0).bind fun v16 =>
    (aR 7 w11.1 v16 0).bind fun v17 =>
    (gR 0 2 w11.1 v17).bind fun v18 =>
    (cpI w11.1 v18 0 v8 0 9).bind fun M19 =>
    (gR 2 0 M19 a0).bind fun v20 =>
    (gI 1 3 M19 v20).bind fun v21 =>
    (pI 1 3 M19 v20 (v21 + 1)).bind fun M22 =>
    (fX2_degreeOf M22 v8).bind fun w23 =>
    some (M22, .inr w23)
def fX2_root (M : Mem) (a0 : Option Nat) (a1 : Int32) : Option (Mem × (String ⊕ Int32)) :=
  if a1 < (-9) then
    some (M, .inl "java/lang/IllegalArgumentException")
  else
    if a1 ≤ 9 then
      (ck 2 M a0).bind fun _ =>
      (fX2_save M a0).bind fun w3 =>
      (gR 2 0 w3 a0).bind fun v4 =>
      (gI 1 2 w3 v4).bind fun v5 =>
      if v5 < 8 then
        (gR 2 0 w3 a0).bind fun v7 =>
        (gR 1 1 w3 v7).bind fun v8 =>
        (gR 2 0 w3 a0).bind fun v9 =>
        (gI 1 2 w3 v9).bind fun v10 =>
        (wI w3 v8 v10 a1).bind fun M11 =>
        (gR 2 0 M11 a0).bind fun v12 =>
        (gI 1 2 M11 v12).bind fun v13 =>
        (pI 1 2 M11 v12 (v13 + 1)).bind fun M14 =>
        (gR 2 0 M14 a0).bind fun v15 =>
        (gI 1 2 M14 v15).bind fun v16 =>
        some (M14, .inr v16)
      else
        (gR 2 0 w3 a0).bind fun v17 =>
        (gI 1 4 w3 v17).bind fun v18 =>
        (pI 1 4 w3 v17 (v18 + 1)).bind fun M19 =>
        some (M19, .inr (-9))
    else
      some (M, .inl "java/lang/IllegalArgumentException")
def fX2_unroot (M : Mem) (a0 : Option Nat) : Option (Mem × Int32) :=
  (ck 2 M a0).bind fun _ =>
  (fX2_save M a0).bind fun w1 =>
  (gR 2 0 w1 a0).bind fun v2 =>
  (gI 1 2 w1 v2).bind fun v3 =>
  if 0 < v3 then
    (gR 2 0 w1 a0).bind fun v5 =>
    (gI 1 2 w1 v5).bind fun v6 =>
    (pI 1 2 w1 v5 (v6 - 1)).bind fun M7 =>
    (gR 2 0 M7 a0).bind fun v8 =>
    (gR 1 1 M7 v8).bind fun v9 =>
    (gR 2 0 M7 a0).bind fun v10 =>
    (gI 1 2 M7 v10).bind fun v11 =>
    (aI M7 v9 v11).bind fun v12 =>
    some (M7, v12)
  else
    (gR 2 0 w1 a0).bind fun v13 =>
    (gI 1 4 w1 v13).bind fun v14 =>
    (pI 1 4 w1 v13 (v14 + 1)).bind fun M15 =>
    some (M15, 99)
def fX2_expandWhole_2 (x0 : Option Nat) (k21 : Mem → Int32 → Option (Mem)) : Nat → Mem → Int32 → Option (Mem)
  | 0, _, _ => none
  | n + 1, M, x1 =>
    if 9 ≤ x1 then
      k21 M x1
    else
      (gR 2 7 M x0).bind fun v2 =>
      (wJ M v2 x1 0).bind fun M3 =>
      fX2_expandWhole_2 x0 k21 n M3 (x1 + 1)
def fX2_expandWhole_51 (x0 : Option Nat) (x1 : Int32) (k93 : Mem → Int32 → Option (Mem)) : Nat → Mem → Int32 → Option (Mem)
  | 0, _, _ => none
  | n + 1, M, x2 =>
    if x2 ≤ 0 then
      k93 M x2
    else
      (gR 2 7 M x0).bind fun v13 =>
      (gR 2 7 M x0).bind fun v14 =>
      (aJ M v14 (x2 - 1)).bind fun v15 =>
      (gR 2 0 M x0).bind fun v16 =>
      (gR 1 1 M v16).bind fun v17 =>
      (aI M v17 x1).bind fun v18 =>
      (gR 2 7 M x0).bind fun v19 =>
      (aJ M v19 x2).bind fun v20 =>
      (wJ M v13 x2 (v15 - (v18.toInt64 * v20))).bind fun M21 =>
      fX2_expandWhole_51 x0 x1 k93 n M21 (x2 + (-1))
def fX2_expandWhole_30 (x0 : Option Nat) (k123 : Mem → Int32 → Option (Mem)) : Nat → Mem → Int32 → Option (Mem)
  | 0, _, _ => none
  | n + 1, M, x1 =>
    (gR 2 0 M x0).bind fun v8 =>
    (gI 1 2 M v8).bind fun v9 =>
    if v9 ≤ x1 then
      k123 M x1
    else
      if 8 ≤ x1 then
        k123 M x1
      else
        fX2_expandWhole_51 x0 x1
          (fun M22 x23 =>
            (gR 2 7 M22 x0).bind fun v24 =>
            (gR 2 0 M22 x0).bind fun v25 =>
            (gR 1 1 M22 v25).bind fun v26 =>
            (aI M22 v26 x1).bind fun v27 =>
            (gR 2 7 M22 x0).bind fun v28 =>
            (aJ M22 v28 0).bind fun v29 =>
            (wJ M22 v24 0 (((-v27).toInt64) * v29)).bind fun M30 =>
            fX2_expandWhole_30 x0 k123 n M30 (x1 + 1))
          FU M (x1 + 1)
def fX2_expandWhole (M : Mem) (a0 : Option Nat) : Option (Mem) :=
  fX2_expandWhole_2 a0
    (fun M4 x5 =>
      (gR 2 7 M4 a0).bind fun v6 =>
      (wJ M4 v6 0 1).bind fun M7 =>
      fX2_expandWhole_30 a0
        (fun M31 x32 =>
          some M31)
        FU M7 0)
    FU M 0
def fX2_signOf (M : Mem) (a0 : Int64) : Option (Int32) :=
  some (if (lg_cmp a0 0) ≤ 0 then (if 0 ≤ (lg_cmp a0 0) then 0 else (-1)) else 1)
def fX2_lower_24 (x0 : Option Nat) (x1 : Int32) (x2 : Option Nat) (k48 : Mem → Int32 → Option (Mem × (String ⊕ Int32))) : Nat → Mem → Int32 → Option (Mem × (String ⊕ Int32))
  | 0, _, _ => none
  | n + 1, M, x3 =>
    if 9 ≤ x3 then
      k48 M x3
    else
      (gR 2 7 M x0).bind fun v9 =>
      (aJ M v9 x3).bind fun v10 =>
      (fX2_signOf M v10).bind fun w11 =>
      (wI M x2 x3 w11).bind fun M12 =>
      fX2_lower_24 x0 x1 x2 k48 n M12 (x3 + 1)
def fX2_lower (M : Mem) (a0 : Option Nat) (a1 : Int32) : Option (Mem × (String ⊕ Int32)) :=
  (fX2_checkNumber M a1).bind fun w1 =>
  thrE w1 (fun E => some (M, .inl E)) fun v2 =>
  (ck 2 M a0).bind fun _ =>
  (fX2_save M a0).bind fun w3 =>
  (ck 2 w3 a0).bind fun _ =>
  (fX2_expandWhole w3 a0).bind fun w4 =>
  (gR 2 0 w4 a0).bind fun v5 =>
  (gR 1 0 w4 v5).bind fun v6 =>
  (aR 9 w4 v6 a1).bind fun v7 =>
  fX2_lower_24 a0 a1 v7
    (fun M13 x14 =>
      (fX2_degreeOf M13 v7).bind fun w15 =>
      some (M13, .inr w15))
    FU w4 0
def fX2_append (M : Mem) (a0 : Option Nat) (a1 : Int32) : Option (Mem × (String ⊕ Int32)) :=
  if a1 < 33 then
    some (M, .inl "java/lang/IllegalArgumentException")
  else
    if a1 ≤ 126 then
      (gI 2 6 M a0).bind fun v3 =>
      if v3 < 60 then
        (gR 2 5 M a0).bind fun v5 =>
        (gI 2 6 M a0).bind fun v6 =>
        (wI M v5 v6 a1).bind fun M7 =>
        (gI 2 6 M7 a0).bind fun v8 =>
        (pI 2 6 M7 a0 (v8 + 1)).bind fun M9 =>
        (gI 2 6 M9 a0).bind fun v10 =>
        some (M9, .inr v10)
      else
        some (M, .inl "java/lang/IllegalStateException")
    else
      some (M, .inl "java/lang/IllegalArgumentException")
def fX2_clearBuffer (M : Mem) (a0 : Option Nat) : Option (Mem × Int32) :=
  (gI 2 6 M a0).bind fun v1 =>
  (pI 2 6 M a0 0).bind fun M2 =>
  some (M2, v1)
def fX2_isSignCode (M : Mem) (a0 : Int32) : Option (Int32) :=
  some (if a0 = 43 then 1 else (if a0 = 45 then 1 else (if a0 = 48 then 1 else 0)))
def fX2_errorPlace_2 (M : Mem) (x0 : Option Nat) (k49 : Int32 → Option (Int32)) (k57 : Int32 → Option (Int32)) : Nat → Int32 → Option (Int32)
  | 0, _ => none
  | n + 1, x1 =>
    (gI 2 6 M x0).bind fun v1 =>
    if v1 ≤ x1 then
      k57 x1
    else
      if 60 ≤ x1 then
        k57 x1
      else
        if 9 ≤ x1 then
          k49 x1
        else
          (gR 2 5 M x0).bind fun v5 =>
          (aI M v5 x1).bind fun v6 =>
          (fX2_isSignCode M v6).bind fun w7 =>
          if w7 = 0 then
            k49 x1
          else
            if x1 = 0 then
              (gR 2 5 M x0).bind fun v10 =>
              (aI M v10 x1).bind fun v11 =>
              if v11 = 48 then
                k49 x1
              else
                fX2_errorPlace_2 M x0 k49 k57 n (x1 + 1)
            else
              fX2_errorPlace_2 M x0 k49 k57 n (x1 + 1)
def fX2_errorPlace (M : Mem) (a0 : Option Nat) : Option (Int32) :=
  fX2_errorPlace_2 M a0
    (fun x13 =>
      some x13)
    (fun x14 =>
      (gI 2 6 M a0).bind fun v15 =>
      some v15)
    FU 0
def fX2_firstError (M : Mem) (a0 : Option Nat) : Option (Int32) :=
  (ck 2 M a0).bind fun _ =>
  (fX2_errorPlace M a0).bind fun w1 =>
  some w1
def fX2_signOfCode (M : Mem) (a0 : Int32) : Option (Int32) :=
  some (if a0 = 43 then 1 else (if a0 = 45 then (-1) else 0))
def fX2_load_48 (x0 : Option Nat) (x1 : Int32) (x2 : Option Nat) (k91 : Mem → Int32 → Option (Mem × (String ⊕ Int32))) : Nat → Mem → Int32 → Option (Mem × (String ⊕ Int32))
  | 0, _, _ => none
  | n + 1, M, x3 =>
    if 9 ≤ x3 then
      k91 M x3
    else
      (gI 2 6 M x0).bind fun v13 =>
      if v13 ≤ x3 then
        (wI M x2 x3 0).bind fun M15 =>
        fX2_load_48 x0 x1 x2 k91 n M15 (x3 + 1)
      else
        (gR 2 5 M x0).bind fun v16 =>
        (gI 2 6 M x0).bind fun v17 =>
        (aI M v16 ((v17 - 1) - x3)).bind fun v18 =>
        (fX2_signOfCode M v18).bind fun w19 =>
        (wI M x2 x3 w19).bind fun M20 =>
        fX2_load_48 x0 x1 x2 k91 n M20 (x3 + 1)
def fX2_load (M : Mem) (a0 : Option Nat) (a1 : Int32) : Option (Mem × (String ⊕ Int32)) :=
  (fX2_checkNumber M a1).bind fun w1 =>
  thrE w1 (fun E => some (M, .inl E)) fun v2 =>
  (gI 2 6 M a0).bind fun v3 =>
  if v3 = 0 then
    some (M, .inl "java/lang/IllegalArgumentException")
  else
    (ck 2 M a0).bind fun _ =>
    (fX2_errorPlace M a0).bind fun w5 =>
    (gI 2 6 M a0).bind fun v6 =>
    if v6 ≤ w5 then
      (ck 2 M a0).bind fun _ =>
      (fX2_save M a0).bind fun w8 =>
      (gR 2 0 w8 a0).bind fun v9 =>
      (gR 1 0 w8 v9).bind fun v10 =>
      (aR 9 w8 v10 a1).bind fun v11 =>
      fX2_load_48 a0 a1 v11
        (fun M21 x22 =>
          (pI 2 6 M21 a0 0).bind fun M23 =>
          (fX2_degreeOf M23 v11).bind fun w24 =>
          some (M23, .inr w24))
        FU w8 0
    else
      some (M, .inl "java/lang/IllegalArgumentException")
def fX2_checkSlot (M : Mem) (a0 : Int32) : Option (String ⊕ Unit) :=
  if a0 < 0 then
    some (.inl "java/lang/IllegalArgumentException")
  else
    if a0 < 2 then
      some (.inr ())
    else
      some (.inl "java/lang/IllegalArgumentException")
def fX2_degreesTogether_4 (M : Mem) (x0 : Option Nat) (k30 : Int32 → Int32 → Option (Int32)) : Nat → Int32 → Int32 → Option (Int32)
  | 0, _, _ => none
  | n + 1, x1, x2 =>
    if 5 ≤ x2 then
      k30 x1 x2
    else
      (gR 2 0 M x0).bind fun v2 =>
      (gR 1 0 M v2).bind fun v3 =>
      (aR 9 M v3 x2).bind fun v4 =>
      (fX2_degreeOf M v4).bind fun w5 =>
      fX2_degreesTogether_4 M x0 k30 n (x1 + w5) (x2 + 1)
def fX2_degreesTogether (M : Mem) (a0 : Option Nat) : Option (Int32) :=
  fX2_degreesTogether_4 M a0
    (fun x6 x7 =>
      some x6)
    FU 0 0
def fX2_keep (M : Mem) (a0 : Option Nat) (a1 : Int32) : Option (Mem × (String ⊕ Int32)) :=
  (fX2_checkSlot M a1).bind fun w1 =>
  thrE w1 (fun E => some (M, .inl E)) fun v2 =>
  (gR 2 3 M a0).bind fun v3 =>
  (aR 8 M v3 a1).bind fun v4 =>
  (gR 2 0 M a0).bind fun v5 =>
  (ck 1 M v4).bind fun _ =>
  (fX1_takeOver M v4 v5).bind fun w6 =>
  (gR 2 4 w6 a0).bind fun v7 =>
  (wZ w6 v7 a1 1).bind fun M8 =>
  (ck 2 M8 a0).bind fun _ =>
  (fX2_degreesTogether M8 a0).bind fun w9 =>
  some (M8, .inr w9)
def fX2_goBack (M : Mem) (a0 : Option Nat) (a1 : Int32) : Option (Mem × (String ⊕ Int32)) :=
  (fX2_checkSlot M a1).bind fun w1 =>
  thrE w1 (fun E => some (M, .inl E)) fun v2 =>
  (gR 2 4 M a0).bind fun v3 =>
  (aZ M v3 a1).bind fun v4 =>
  if v4 = 0 then
    some (M, .inl "java/lang/IllegalStateException")
  else
    (ck 2 M a0).bind fun _ =>
    (fX2_save M a0).bind fun w6 =>
    (gR 2 0 w6 a0).bind fun v7 =>
    (gR 2 3 w6 a0).bind fun v8 =>
    (aR 8 w6 v8 a1).bind fun v9 =>
    (ck 1 w6 v7).bind fun _ =>
    (fX1_takeOver w6 v7 v9).bind fun w10 =>
    (ck 2 w10 a0).bind fun _ =>
    (fX2_degreesTogether w10 a0).bind fun w11 =>
    some (w10, .inr w11)
def fX2_undo (M : Mem) (a0 : Option Nat) : Option (Mem × (String ⊕ Int32)) :=
  (gI 2 2 M a0).bind fun v1 =>
  if 0 < v1 then
    (gI 2 2 M a0).bind fun v3 =>
    (pI 2 2 M a0 (v3 - 1)).bind fun M4 =>
    (gR 2 0 M4 a0).bind fun v5 =>
    (gR 2 1 M4 a0).bind fun v6 =>
    (gI 2 2 M4 a0).bind fun v7 =>
    (aR 8 M4 v6 v7).bind fun v8 =>
    (ck 1 M4 v5).bind fun _ =>
    (fX1_takeOver M4 v5 v8).bind fun w9 =>
    (gI 2 2 w9 a0).bind fun v10 =>
    some (w9, .inr v10)
  else
    some (M, .inl "java/lang/IllegalStateException")
def fX2_sign (M : Mem) (a0 : Option Nat) (a1 : Int32) (a2 : Int32) : Option (String ⊕ Int32) :=
  (fX2_checkNumber M a1).bind fun w1 =>
  thrE w1 (fun E => some (.inl E)) fun v2 =>
  (fX2_checkPower M a2).bind fun w3 =>
  thrE w3 (fun E => some (.inl E)) fun v4 =>
  (gR 2 0 M a0).bind fun v5 =>
  (gR 1 0 M v5).bind fun v6 =>
  (aR 9 M v6 a1).bind fun v7 =>
  (aI M v7 a2).bind fun v8 =>
  some (.inr v8)
def fX2_checkWhat (M : Mem) (a0 : Int32) (a1 : Int32) : Option (String ⊕ Unit) :=
  if a0 < 0 then
    some (.inl "java/lang/IllegalArgumentException")
  else
    if a0 < a1 then
      some (.inr ())
    else
      some (.inl "java/lang/IllegalArgumentException")
def fX2_powerOf (M : Mem) (a0 : Int32) (a1 : Int32) : Option (Int32) :=
  if a1 = 0 then
    some 1
  else
    some (if (a1 - a1 / 2 * 2) = 0 then a0 * a0 else a0)
def fX2_changesOf_7 (M : Mem) (x0 : Option Nat) (x1 : Int32) (k54 : Int32 → Int32 → Int32 → Option (Int32)) : Nat → Int32 → Int32 → Int32 → Option (Int32)
  | 0, _, _, _ => none
  | n + 1, x2, x3, x4 =>
    if 9 ≤ x4 then
      k54 x2 x3 x4
    else
      (aI M x0 x4).bind fun v2 =>
      (fX2_powerOf M x1 x4).bind fun w3 =>
      if (v2 * w3) = 0 then
        fX2_changesOf_7 M x0 x1 k54 n x2 x3 (x4 + 1)
      else
        if x3 = 0 then
          fX2_changesOf_7 M x0 x1 k54 n x2 (v2 * w3) (x4 + 1)
        else
          if (v2 * w3) = x3 then
            fX2_changesOf_7 M x0 x1 k54 n x2 (v2 * w3) (x4 + 1)
          else
            fX2_changesOf_7 M x0 x1 k54 n (x2 + 1) (v2 * w3) (x4 + 1)
def fX2_changesOf (M : Mem) (a0 : Option Nat) (a1 : Int32) : Option (Int32) :=
  fX2_changesOf_7 M a0 a1
    (fun x7 x8 x9 =>
      some x7)
    FU 0 0 0
def fX2_of (M : Mem) (a0 : Option Nat) (a1 : Int32) (a2 : Int32) : Option (String ⊕ Int32) :=
  (fX2_checkNumber M a1).bind fun w1 =>
  thrE w1 (fun E => some (.inl E)) fun v2 =>
  (fX2_checkWhat M a2 4).bind fun w3 =>
  thrE w3 (fun E => some (.inl E)) fun v4 =>
  (gR 2 0 M a0).bind fun v5 =>
  (gR 1 0 M v5).bind fun v6 =>
  (aR 9 M v6 a1).bind fun v7 =>
  if a2 = 0 then
    (fX2_degreeOf M v7).bind fun w9 =>
    some (.inr w9)
  else
    if a2 = 1 then
      (fX2_notZero M v7).bind fun w10 =>
      some (.inr w10)
    else
      if a2 = 2 then
        (fX2_changesOf M v7 1).bind fun w11 =>
        some (.inr w11)
      else
        (fX2_formOf M v7).bind fun w8 =>
        some (.inr w8)
def fX2_hasRoot_4 (M : Mem) (x0 : Option Nat) (x1 : Int32) (k31 : Int32 → Int32 → Option (Int32)) : Nat → Int32 → Int32 → Option (Int32)
  | 0, _, _ => none
  | n + 1, x2, x3 =>
    if 9 ≤ x3 then
      k31 x2 x3
    else
      (aI M x0 x3).bind fun v2 =>
      (fX2_powerOf M x1 x3).bind fun w3 =>
      (fX2_markOf M (v2 * w3)).bind fun w4 =>
      fX2_hasRoot_4 M x0 x1 k31 n (x2 ||| w4) (x3 + 1)
def fX2_hasRoot (M : Mem) (a0 : Option Nat) (a1 : Int32) : Option (Int32) :=
  fX2_hasRoot_4 M a0 a1
    (fun x5 x6 =>
      (fX2_holds M x5 0).bind fun w7 =>
      chk (zb w7) <|
      some w7)
    FU 0 0
def fX2_isRoot (M : Mem) (a0 : Option Nat) (a1 : Int32) (a2 : Int32) : Option (String ⊕ Int32) :=
  (fX2_checkNumber M a1).bind fun w1 =>
  thrE w1 (fun E => some (.inl E)) fun v2 =>
  (fX2_checkSign M a2).bind fun w3 =>
  thrE w3 (fun E => some (.inl E)) fun v4 =>
  (gR 2 0 M a0).bind fun v5 =>
  (gR 1 0 M v5).bind fun v6 =>
  (aR 9 M v6 a1).bind fun v7 =>
  (fX2_hasRoot M v7 a2).bind fun w8 =>
  some (.inr (if w8 = 0 then 0 else 1))
def fX2_zerosBelow_4 (M : Mem) (x0 : Option Nat) (k25 : Int32 → Int32 → Option (Int32)) : Nat → Int32 → Int32 → Option (Int32)
  | 0, _, _ => none
  | n + 1, x1, x2 =>
    if 9 ≤ x2 then
      k25 x1 x2
    else
      (aI M x0 x2).bind fun v2 =>
      if v2 = 0 then
        fX2_zerosBelow_4 M x0 k25 n (x1 + 1) (x2 + 1)
      else
        k25 x1 x2
def fX2_zerosBelow (M : Mem) (a0 : Option Nat) : Option (Int32) :=
  fX2_zerosBelow_4 M a0
    (fun x4 x5 =>
      some x4)
    FU 0 0
def fX2_countedTimes (M : Mem) (a0 : Option Nat) (a1 : Int32) : Option (Int32) :=
  if a1 = 0 then
    (fX2_zerosBelow M a0).bind fun w2 =>
    some w2
  else
    (fX2_changesOf M a0 a1).bind fun w3 =>
    some w3
def fX2_times (M : Mem) (a0 : Option Nat) (a1 : Int32) (a2 : Int32) (a3 : Int32) : Option (Mem × (String ⊕ Int32)) :=
  (fX2_checkNumber M a1).bind fun w1 =>
  thrE w1 (fun E => some (M, .inl E)) fun v2 =>
  (fX2_checkSign M a2).bind fun w3 =>
  thrE w3 (fun E => some (M, .inl E)) fun v4 =>
  (fX2_checkWhat M a3 2).bind fun w5 =>
  thrE w5 (fun E => some (M, .inl E)) fun v6 =>
  (gR 2 0 M a0).bind fun v7 =>
  (gR 1 0 M v7).bind fun v8 =>
  (aR 9 M v8 a1).bind fun v9 =>
  if a3 = 0 then
    (gR 2 8 M a0).bind fun v11 =>
    (gR 2 9 M a0).bind fun v12 =>
    (fX2_tryQuotients M v9 a2 v11 v12 0).bind fun w13 =>
    some (w13.1, .inr w13.2)
  else
    (fX2_countedTimes M v9 a2).bind fun w14 =>
    some (M, .inr w14)
def fX2_quotientsOf_19 (x0 : Option Nat) (x1 : Option Nat) (x2 : Int32) (x3 : Option Nat) (k43 : Mem → Int32 → Int32 → Option (Mem × Int32)) : Nat → Mem → Int32 → Int32 → Option (Mem × Int32)
  | 0, _, _, _ => none
  | n + 1, M, x4, x5 =>
    if 1000000 ≤ x5 then
      k43 M x4 x5
    else
      (ck 0 M x3).bind fun _ =>
      (fX0_advance M x3).bind fun w5 =>
      if w5.2 = 0 then
        k43 w5.1 x4 x5
      else
        fX2_quotientsOf_19 x0 x1 x2 x3 k43 n w5.1 (x4 + 1) (x5 + 1)
def fX2_quotientsOf (M : Mem) (a0 : Option Nat) (a1 : Option Nat) (a2 : Int32) : Option (Mem × Int32) :=
  (gR 2 8 M a0).bind fun v1 =>
  (aR 7 M v1 0).bind fun v2 =>
  (ck 0 M v2).bind fun _ =>
  (fX0_start M v2 a1 a2).bind fun w3 =>
  fX2_quotientsOf_19 a0 a1 a2 v2
    (fun M7 x8 x9 =>
      some (M7, x8))
    FU w3 0 0
def fX2_quotients (M : Mem) (a0 : Option Nat) (a1 : Int32) (a2 : Int32) : Option (Mem × (String ⊕ Int32)) :=
  (fX2_checkNumber M a1).bind fun w1 =>
  thrE w1 (fun E => some (M, .inl E)) fun v2 =>
  (fX2_checkSign M a2).bind fun w3 =>
  thrE w3 (fun E => some (M, .inl E)) fun v4 =>
  (gR 2 0 M a0).bind fun v5 =>
  (gR 1 0 M v5).bind fun v6 =>
  (aR 9 M v6 a1).bind fun v7 =>
  (ck 2 M a0).bind fun _ =>
  (fX2_quotientsOf M a0 v7 a2).bind fun w8 =>
  some (w8.1, .inr w8.2)
def fX2_bestForm (M : Mem) (a0 : Option Nat) (a1 : Int32) : Option (Int32) :=
  if a1 = 0 then
    some (-9)
  else
    (gR 2 8 M a0).bind fun v2 =>
    (aR 7 M v2 0).bind fun v3 =>
    (gR 0 2 M v3).bind fun v4 =>
    (fX2_formOf M v4).bind fun w5 =>
    some w5
def fX2_best (M : Mem) (a0 : Option Nat) (a1 : Int32) (a2 : Int32) : Option (Mem × (String ⊕ Int32)) :=
  (fX2_checkNumber M a1).bind fun w1 =>
  thrE w1 (fun E => some (M, .inl E)) fun v2 =>
  (fX2_checkSign M a2).bind fun w3 =>
  thrE w3 (fun E => some (M, .inl E)) fun v4 =>
  (gR 2 0 M a0).bind fun v5 =>
  (gR 1 0 M v5).bind fun v6 =>
  (aR 9 M v6 a1).bind fun v7 =>
  (gR 2 8 M a0).bind fun v8 =>
  (gR 2 9 M a0).bind fun v9 =>
  (fX2_tryQuotients M v7 a2 v8 v9 0).bind fun w10 =>
  (ck 2 w10.1 a0).bind fun _ =>
  (fX2_bestForm w10.1 a0 w10.2).bind fun w11 =>
  some (w10.1, .inr w11)
def fX2_isTooHigh (M : Mem) (a0 : Option Nat) (a1 : Option Nat) (a2 : Int32) : Option (Int32) :=
  if a2 = 1 then
    (fX2_degreeOf M a0).bind fun w2 =>
    (fX2_degreeOf M a1).bind fun w3 =>
    some (if (w2 + w3) ≤ 8 then 0 else 1)
  else
    some 0
def fX2_sumMarks (M : Mem) (a0 : Option Nat) (a1 : Option Nat) (a2 : Int32) : Option (Int32) :=
  (aI M a0 a2).bind fun v1 =>
  (fX2_markOf M v1).bind fun w2 =>
  (aI M a1 a2).bind fun v3 =>
  (fX2_markOf M v3).bind fun w4 =>
  some (w2 ||| w4)
def fX2_productMarks_5 (M : Mem) (x0 : Option Nat) (x1 : Option Nat) (x2 : Int32) (k34 : Int32 → Int32 → Option (Int32)) : Nat → Int32 → Int32 → Option (Int32)
  | 0, _, _ => none
  | n + 1, x3, x4 =>
    if x2 < x4 then
      k34 x3 x4
    else
      (aI M x0 x4).bind fun v2 =>
      (aI M x1 (x2 - x4)).bind fun v3 =>
      (fX2_markOf M (v2 * v3)).bind fun w4 =>
      fX2_productMarks_5 M x0 x1 x2 k34 n (x3 ||| w4) (x4 + 1)
def fX2_productMarks (M : Mem) (a0 : Option Nat) (a1 : Option Nat) (a2 : Int32) : Option (Int32) :=
  fX2_productMarks_5 M a0 a1 a2
    (fun x5 x6 =>
      some x5)
    FU 0 0
def fX2_marksAt (M : Mem) (a0 : Option Nat) (a1 : Option Nat) (a2 : Int32) (a3 : Int32) : Option (Int32) :=
  if a2 = 0 then
    (fX2_sumMarks M a0 a1 a3).bind fun w2 =>
    some w2
  else
    (fX2_productMarks M a0 a1 a3).bind fun w3 =>
    some w3
def fX2_rowsOf_17 (M : Mem) (x0 : Option Nat) (x1 : Option Nat) (x2 : Int32) (k46 : Int32 → Int32 → Option (Int32)) : Nat → Int32 → Int32 → Option (Int32)
  | 0, _, _ => none
  | n + 1, x3, x4 =>
    if 9 ≤ x4 then
      k46 x3 x4
    else
      (fX2_marksAt M x0 x1 x2 x4).bind fun w4 =>
      fX2_rowsOf_17 M x0 x1 x2 k46 n (if w4 = 3 then x3 * 3 else x3) (x4 + 1)
def fX2_rowsOf (M : Mem) (a0 : Option Nat) (a1 : Option Nat) (a2 : Int32) : Option (Int32) :=
  (fX2_isTooHigh M a0 a1 a2).bind fun w1 =>
  if w1 = 0 then
    fX2_rowsOf_17 M a0 a1 a2
      (fun x7 x8 =>
        some x7)
      FU 1 0
  else
    some (-9)
def fX2_many (M : Mem) (a0 : Option Nat) (a1 : Int32) (a2 : Int32) (a3 : Int32) : Option (String ⊕ Int32) :=
  (fX2_checkNumber M a1).bind fun w1 =>
  thrE w1 (fun E => some (.inl E)) fun v2 =>
  (fX2_checkNumber M a2).bind fun w3 =>
  thrE w3 (fun E => some (.inl E)) fun v4 =>
  (fX2_checkWhat M a3 2).bind fun w5 =>
  thrE w5 (fun E => some (.inl E)) fun v6 =>
  (gR 2 0 M a0).bind fun v7 =>
  (gR 1 0 M v7).bind fun v8 =>
  (aR 9 M v8 a1).bind fun v9 =>
  (gR 2 0 M a0).bind fun v10 =>
  (gR 1 0 M v10).bind fun v11 =>
  (aR 9 M v11 a2).bind fun v12 =>
  (fX2_rowsOf M v9 v12 a3).bind fun w13 =>
  some (.inr w13)
def fX2_isAmong_14 (M : Mem) (x0 : Option Nat) (x1 : Option Nat) (x2 : Option Nat) (x3 : Int32) (k39 : Int32 → Option (Int32)) (k47 : Int32 → Option (Int32)) : Nat → Int32 → Option (Int32)
  | 0, _ => none
  | n + 1, x4 =>
    if 9 ≤ x4 then
      k47 x4
    else
      (fX2_marksAt M x1 x2 x3 x4).bind fun w4 =>
      (aI M x0 x4).bind fun v5 =>
      (fX2_holds M w4 v5).bind fun w6 =>
      if w6 = 0 then
        k39 x4
      else
        fX2_isAmong_14 M x0 x1 x2 x3 k39 k47 n (x4 + 1)
def fX2_isAmong (M : Mem) (a0 : Option Nat) (a1 : Option Nat) (a2 : Option Nat) (a3 : Int32) : Option (Int32) :=
  (fX2_isTooHigh M a1 a2 a3).bind fun w1 =>
  if w1 = 0 then
    fX2_isAmong_14 M a0 a1 a2 a3
      (fun x8 =>
        some 0)
      (fun x9 =>
        some 1)
      FU 0
  else
    some 0
def fX2_isIn (M : Mem) (a0 : Option Nat) (a1 : Int32) (a2 : Int32) (a3 : Int32) (a4 : Int32) : Option (String ⊕ Int32) :=
  (fX2_checkNumber M a1).bind fun w1 =>
  thrE w1 (fun E => some (.inl E)) fun v2 =>
  (fX2_checkNumber M a2).bind fun w3 =>
  thrE w3 (fun E => some (.inl E)) fun v4 =>
  (fX2_checkNumber M a3).bind fun w5 =>
  thrE w5 (fun E => some (.inl E)) fun v6 =>
  (fX2_checkWhat M a4 2).bind fun w7 =>
  thrE w7 (fun E => some (.inl E)) fun v8 =>
  (gR 2 0 M a0).bind fun v9 =>
  (gR 1 0 M v9).bind fun v10 =>
  (aR 9 M v10 a1).bind fun v11 =>
  (gR 2 0 M a0).bind fun v12 =>
  (gR 1 0 M v12).bind fun v13 =>
  (aR 9 M v13 a2).bind fun v14 =>
  (gR 2 0 M a0).bind fun v15 =>
  (gR 1 0 M v15).bind fun v16 =>
  (aR 9 M v16 a3).bind fun v17 =>
  (fX2_isAmong M v11 v14 v17 a4).bind fun w18 =>
  some (.inr (if w18 = 0 then 0 else 1))
def fX2_coefficient (M : Mem) (a0 : Option Nat) (a1 : Int32) : Option (Mem × (String ⊕ Int64)) :=
  (fX2_checkPower M a1).bind fun w1 =>
  thrE w1 (fun E => some (M, .inl E)) fun v2 =>
  (ck 2 M a0).bind fun _ =>
  (fX2_expandWhole M a0).bind fun w3 =>
  (gR 2 7 w3 a0).bind fun v4 =>
  (aJ w3 v4 a1).bind fun v5 =>
  some (w3, .inr v5)
def fX2_rootsOfSign_4 (M : Mem) (x0 : Option Nat) (x1 : Int32) (k47 : Int32 → Int32 → Option (Int32)) : Nat → Int32 → Int32 → Option (Int32)
  | 0, _, _ => none
  | n + 1, x2, x3 =>
    (gR 2 0 M x0).bind fun v1 =>
    (gI 1 2 M v1).bind fun v2 =>
    if v2 ≤ x3 then
      k47 x2 x3
    else
      if 8 ≤ x3 then
        k47 x2 x3
      else
        (gR 2 0 M x0).bind fun v5 =>
        (gR 1 1 M v5).bind fun v6 =>
        (aI M v6 x3).bind fun v7 =>
        (fX2_signOf M v7.toInt64).bind fun w8 =>
        if w8 = x1 then
          fX2_rootsOfSign_4 M x0 x1 k47 n (x2 + 1) (x3 + 1)
        else
          fX2_rootsOfSign_4 M x0 x1 k47 n x2 (x3 + 1)
def fX2_rootsOfSign (M : Mem) (a0 : Option Nat) (a1 : Int32) : Option (Int32) :=
  fX2_rootsOfSign_4 M a0 a1
    (fun x10 x11 =>
      some x10)
    FU 0 0
def fX2_withRootOne_4 (M : Mem) (x0 : Option Nat) (k34 : Int32 → Int32 → Option (Int32)) : Nat → Int32 → Int32 → Option (Int32)
  | 0, _, _ => none
  | n + 1, x1, x2 =>
    if 5 ≤ x2 then
      k34 x1 x2
    else
      (gR 2 0 M x0).bind fun v2 =>
      (gR 1 0 M v2).bind fun v3 =>
      (aR 9 M v3 x2).bind fun v4 =>
      (fX2_hasRoot M v4 1).bind fun w5 =>
      if w5 = 0 then
        fX2_withRootOne_4 M x0 k34 n x1 (x2 + 1)
      else
        fX2_withRootOne_4 M x0 k34 n (x1 + 1) (x2 + 1)
def fX2_withRootOne (M : Mem) (a0 : Option Nat) : Option (Int32) :=
  fX2_withRootOne_4 M a0
    (fun x7 x8 =>
      some x7)
    FU 0 0
def fX2_count (M : Mem) (a0 : Option Nat) (a1 : Int32) : Option (String ⊕ Int32) :=
  (fX2_checkWhat M a1 8).bind fun w1 =>
  thrE w1 (fun E => some (.inl E)) fun v2 =>
  if a1 = 0 then
    (gR 2 0 M a0).bind fun v4 =>
    (gI 1 2 M v4).bind fun v5 =>
    some (.inr v5)
  else
    if a1 = 1 then
      (ck 2 M a0).bind fun _ =>
      (fX2_rootsOfSign M a0 1).bind fun w6 =>
      some (.inr w6)
    else
      if a1 = 2 then
        (ck 2 M a0).bind fun _ =>
        (fX2_rootsOfSign M a0 (-1)).bind fun w7 =>
        some (.inr w7)
      else
        if a1 = 3 then
          (ck 2 M a0).bind fun _ =>
          (fX2_rootsOfSign M a0 0).bind fun w8 =>
          some (.inr w8)
        else
          if a1 = 4 then
            (gR 2 0 M a0).bind fun v9 =>
            (gI 1 3 M v9).bind fun v10 =>
            some (.inr v10)
          else
            if a1 = 5 then
              (gR 2 0 M a0).bind fun v11 =>
              (gI 1 4 M v11).bind fun v12 =>
              some (.inr v12)
            else
              if a1 = 6 then
                (ck 2 M a0).bind fun _ =>
                (fX2_withRootOne M a0).bind fun w13 =>
                some (.inr w13)
              else
                (gI 2 2 M a0).bind fun v3 =>
                some (.inr v3)
def fX2_shareOf (M : Mem) (a0 : Option Nat) : Option (UInt64) :=
  (fX2_degreeOf M a0).bind fun w1 =>
  if w1 = 0 then
    some FP.dconst1
  else
    (fX2_countedTimes M a0 1).bind fun w3 =>
    (fX2_countedTimes M a0 (-1)).bind fun w4 =>
    (fX2_countedTimes M a0 0).bind fun w5 =>
    chk (n64b (FP.ddiv (FP.i2d ((w3 + w4) + w5)) (FP.i2d w1))) <|
    some (FP.ddiv (FP.i2d ((w3 + w4) + w5)) (FP.i2d w1))
def fX2_takenShare (M : Mem) (a0 : Option Nat) (a1 : Int32) : Option (String ⊕ UInt64) :=
  (fX2_checkNumber M a1).bind fun w1 =>
  thrE w1 (fun E => some (.inl E)) fun v2 =>
  (gR 2 0 M a0).bind fun v3 =>
  (gR 1 0 M v3).bind fun v4 =>
  (aR 9 M v4 a1).bind fun v5 =>
  (fX2_shareOf M v5).bind fun w6 =>
  some (.inr w6)
def fX2_mixed (M : Mem) (a0 : Int64) (a2 : Int64) : Option (Int64) :=
  some ((31 * a0) + a2)
def fX2_bitsOf_18 (M : Mem) (x0 : UInt64) (k50 : UInt64 → Int64 → Int32 → Option (Int64)) : Nat → UInt64 → Int64 → Int32 → Option (Int64)
  | 0, _, _, _ => none
  | n + 1, x2, x4, x6 =>
    if 1023 ≤ x6 then
      k50 x2 x4 x6
    else
      if 0 ≤ (Op.cmpValue (FP.dcmp x2 FP.dconst1) .g) then
        k50 x2 x4 x6
      else
        chk (n64b (FP.dmul x2 (4611686018427387904 : UInt64))) <|
        fX2_bitsOf_18 M x0 k50 n (FP.dmul x2 (4611686018427387904 : UInt64)) (x4 - 1) (x6 + 1)
def fX2_bitsOf (M : Mem) (a0 : UInt64) : Option (Int64) :=
  if 0 < (Op.cmpValue (FP.dcmp a0 FP.dconst0) .g) then
    fX2_bitsOf_18 M a0
      (fun x4 x5 x6 =>
        chk (n64b (FP.dsub x4 FP.dconst1)) <|
        chk (n64b (FP.dmul (FP.dsub x4 FP.dconst1) (4841369599423283200 : UInt64))) <|
        some ((x5 <<< ((52 : Int32).toInt64 &&& 63)) + (FP.d2l (FP.dmul (FP.dsub x4 FP.dconst1) (4841369599423283200 : UInt64)))))
      FU a0 1023 0
  else
    some 0
def fX2_mixedPolynomial_51 (x0 : Option Nat) (x1 : Int64) (x3 : Option Nat) (k76 : Mem → Int64 → Int32 → Option (Mem × Int64)) : Nat → Mem → Int64 → Int32 → Option (Mem × Int64)
  | 0, _, _, _ => none
  | n + 1, M, x4, x6 =>
    if 9 ≤ x6 then
      k76 M x4 x6
    else
      (aI M x3 x6).bind fun v10 =>
      (fX2_mixed M x4 v10.toInt64).bind fun w11 =>
      fX2_mixedPolynomial_51 x0 x1 x3 k76 n M w11 (x6 + 1)
def fX2_mixedPolynomial_79 (x0 : Option Nat) (x1 : Int64) (x3 : Option Nat) (k186 : Mem → Int64 → Int32 → Option (Mem × Int64)) : Nat → Mem → Int64 → Int32 → Option (Mem × Int64)
  | 0, _, _, _ => none
  | n + 1, M, x4, x6 =>
    if 1 < x6 then
      k186 M x4 x6
    else
      (gR 2 8 M x0).bind fun v16 =>
      (gR 2 9 M x0).bind fun v17 =>
      (fX2_tryQuotients M x3 x6 v16 v17 0).bind fun w18 =>
      (ck 2 w18.1 x0).bind fun _ =>
      (fX2_bestForm w18.1 x0 w18.2).bind fun w19 =>
      (fX2_hasRoot w18.1 x3 x6).bind fun w20 =>
      (fX2_mixed w18.1 x4 (if w20 = 0 then 0 else 1)).bind fun w21 =>
      (fX2_mixed w18.1 w21 w18.2.toInt64).bind fun w22 =>
      (fX2_countedTimes w18.1 x3 x6).bind fun w23 =>
      (fX2_mixed w18.1 w22 w23.toInt64).bind fun w24 =>
      (ck 2 w18.1 x0).bind fun _ =>
      (fX2_quotientsOf w18.1 x0 x3 x6).bind fun w25 =>
      (fX2_mixed w25.1 w24 w25.2.toInt64).bind fun w26 =>
      (fX2_mixed w25.1 w26 w19.toInt64).bind fun w27 =>
      fX2_mixedPolynomial_79 x0 x1 x3 k186 n w25.1 w27 (x6 + 1)
def fX2_mixedPolynomial (M : Mem) (a0 : Option Nat) (a1 : Int64) (a3 : Option Nat) : Option (Mem × Int64) :=
  (fX2_degreeOf M a3).bind fun w1 =>
  (fX2_mixed M a1 w1.toInt64).bind fun w2 =>
  (fX2_notZero M a3).bind fun w3 =>
  (fX2_mixed M w2 w3.toInt64).bind fun w4 =>
  (fX2_changesOf M a3 1).bind fun w5 =>
  (fX2_mixed M w4 w5.toInt64).bind fun w6 =>
  (fX2_formOf M a3).bind fun w7 =>
  (fX2_mixed M w6 w7.toInt64).bind fun w8 =>
  fX2_mixedPolynomial_51 a0 a1 a3
    (fun M12 x13 x14 =>
      fX2_mixedPolynomial_79 a0 a1 a3
        (fun M30 x31 x32 =>
          (fX2_shareOf M30 a3).bind fun w33 =>
          (fX2_bitsOf M30 w33).bind fun w34 =>
          (fX2_mixed M30 x31 w34).bind fun w35 =>
          some (M30, w35))
        FU M12 x13 (-1))
    FU M w8 0
def fX2_mixedPairs_14 (M : Mem) (x0 : Option Nat) (x1 : Int64) (x5 : Int32) (k86 : Int64 → Int32 → Option (Int64)) : Nat → Int64 → Int32 → Option (Int64)
  | 0, _, _ => none
  | n + 1, x3, x6 =>
    if 5 ≤ x6 then
      k86 x3 x6
    else
      (gR 2 0 M x0).bind fun v3 =>
      (gR 1 0 M v3).bind fun v4 =>
      (aR 9 M v4 x5).bind fun v5 =>
      (gR 2 0 M x0).bind fun v6 =>
      (gR 1 0 M v6).bind fun v7 =>
      (aR 9 M v7 x6).bind fun v8 =>
      (fX2_rowsOf M v5 v8 0).bind fun w9 =>
      (fX2_mixed M x3 w9.toInt64).bind fun w10 =>
      (gR 2 0 M x0).bind fun v11 =>
      (gR 1 0 M v11).bind fun v12 =>
      (aR 9 M v12 x5).bind fun v13 =>
      (gR 2 0 M x0).bind fun v14 =>
      (gR 1 0 M v14).bind fun v15 =>
      (aR 9 M v15 x6).bind fun v16 =>
      (fX2_rowsOf M v13 v16 1).bind fun w17 =>
      (fX2_mixed M w10 w17.toInt64).bind fun w18 =>
      fX2_mixedPairs_14 M x0 x1 x5 k86 n w18 (x6 + 1)
def fX2_mixedPairs_5 (M : Mem) (x0 : Option Nat) (x1 : Int64) (k92 : Int64 → Int32 → Option (Int64)) : Nat → Int64 → Int32 → Option (Int64)
  | 0, _, _ => none
  | n + 1, x3, x5 =>
    if 5 ≤ x5 then
      k92 x3 x5
    else
      fX2_mixedPairs_14 M x0 x1 x5
        (fun x19 x20 =>
          fX2_mixedPairs_5 M x0 x1 k92 n x19 (x5 + 1))
        FU x3 0
def fX2_mixedPairs (M : Mem) (a0 : Option Nat) (a1 : Int64) : Option (Int64) :=
  fX2_mixedPairs_5 M a0 a1
    (fun x21 x22 =>
      some x21)
    FU a1 0
def fX2_mixedWhole_9 (x0 : Option Nat) (x1 : Int64) (k34 : Mem → Int64 → Int32 → Option (Mem × Int64)) : Nat → Mem → Int64 → Int32 → Option (Mem × Int64)
  | 0, _, _, _ => none
  | n + 1, M, x3, x5 =>
    if 9 ≤ x5 then
      k34 M x3 x5
    else
      (gR 2 7 M x0).bind fun v3 =>
      (aJ M v3 x5).bind fun v4 =>
      (fX2_mixed M x3 v4).bind fun w5 =>
      fX2_mixedWhole_9 x0 x1 k34 n M w5 (x5 + 1)
def fX2_mixedWhole_37 (x0 : Option Nat) (x1 : Int64) (k78 : Mem → Int64 → Int32 → Option (Mem × Int64)) : Nat → Mem → Int64 → Int32 → Option (Mem × Int64)
  | 0, _, _, _ => none
  | n + 1, M, x3, x5 =>
    (gR 2 0 M x0).bind fun v9 =>
    (gI 1 2 M v9).bind fun v10 =>
    if v10 ≤ x5 then
      k78 M x3 x5
    else
      if 8 ≤ x5 then
        k78 M x3 x5
      else
        (gR 2 0 M x0).bind fun v13 =>
        (gR 1 1 M v13).bind fun v14 =>
        (aI M v14 x5).bind fun v15 =>
        (fX2_mixed M x3 v15.toInt64).bind fun w16 =>
        fX2_mixedWhole_37 x0 x1 k78 n M w16 (x5 + 1)
def fX2_mixedWhole (M : Mem) (a0 : Option Nat) (a1 : Int64) : Option (Mem × Int64) :=
  (ck 2 M a0).bind fun _ =>
  (fX2_expandWhole M a0).bind fun w1 =>
  fX2_mixedWhole_9 a0 a1
    (fun M6 x7 x8 =>
      fX2_mixedWhole_37 a0 a1
        (fun M17 x18 x19 =>
          some (M17, x18))
        FU M6 x7 0)
    FU w1 a1 0
def fX2_mixedTexts_5 (M : Mem) (x0 : Option Nat) (x1 : Int64) (k37 : Int64 → Int32 → Option (Int64)) : Nat → Int64 → Int32 → Option (Int64)
  | 0, _, _ => none
  | n + 1, x3, x5 =>
    if 2 ≤ x5 then
      k37 x3 x5
    else
      (gR 2 4 M x0).bind fun v2 =>
      (aZ M v2 x5).bind fun v3 =>
      (fX2_mixed M x3 (if v3 = 0 then 0 else 1)).bind fun w4 =>
      fX2_mixedTexts_5 M x0 x1 k37 n w4 (x5 + 1)
def fX2_mixedTexts_50 (M : Mem) (x0 : Option Nat) (x1 : Int64) (k85 : Int64 → Int32 → Option (Int64)) : Nat → Int64 → Int32 → Option (Int64)
  | 0, _, _ => none
  | n + 1, x3, x5 =>
    (gI 2 6 M x0).bind fun v11 =>
    if v11 ≤ x5 then
      k85 x3 x5
    else
      if 60 ≤ x5 then
        k85 x3 x5
      else
        (gR 2 5 M x0).bind fun v14 =>
        (aI M v14 x5).bind fun v15 =>
        (fX2_mixed M x3 v15.toInt64).bind fun w16 =>
        fX2_mixedTexts_50 M x0 x1 k85 n w16 (x5 + 1)
def fX2_mixedTexts (M : Mem) (a0 : Option Nat) (a1 : Int64) : Option (Int64) :=
  fX2_mixedTexts_5 M a0 a1
    (fun x7 x8 =>
      (gI 2 6 M a0).bind fun v9 =>
      (fX2_mixed M x7 v9.toInt64).bind fun w10 =>
      fX2_mixedTexts_50 M a0 a1
        (fun x17 x18 =>
          some x17)
        FU w10 0)
    FU a1 0
def fX2_digest_6 (x0 : Option Nat) (k29 : Mem → Int64 → Int32 → Option (Mem × Int64)) : Nat → Mem → Int64 → Int32 → Option (Mem × Int64)
  | 0, _, _, _ => none
  | n + 1, M, x1, x3 =>
    if 8 ≤ x3 then
      k29 M x1 x3
    else
      (ck 2 M x0).bind fun _ =>
      (fX2_count M x0 x3).bind fun w2 =>
      thrE w2 (fun _ => none) fun v3 =>
      (fX2_mixed M x1 v3.toInt64).bind fun w4 =>
      fX2_digest_6 x0 k29 n M w4 (x3 + 1)
def fX2_digest_31 (x0 : Option Nat) (k57 : Mem → Int64 → Int32 → Option (Mem × Int64)) : Nat → Mem → Int64 → Int32 → Option (Mem × Int64)
  | 0, _, _, _ => none
  | n + 1, M, x1, x3 =>
    if 5 ≤ x3 then
      k57 M x1 x3
    else
      (gR 2 0 M x0).bind fun v9 =>
      (gR 1 0 M v9).bind fun v10 =>
      (aR 9 M v10 x3).bind fun v11 =>
      (ck 2 M x0).bind fun _ =>
      (fX2_mixedPolynomial M x0 x1 v11).bind fun w12 =>
      fX2_digest_31 x0 k57 n w12.1 w12.2 (x3 + 1)
def fX2_digest (M : Mem) (a0 : Option Nat) : Option (Mem × Int64) :=
  fX2_digest_6 a0
    (fun M5 x6 x7 =>
      fX2_digest_31 a0
        (fun M13 x14 x15 =>
          (ck 2 M13 a0).bind fun _ =>
          (fX2_mixedPairs M13 a0 x14).bind fun w16 =>
          (ck 2 M13 a0).bind fun _ =>
          (fX2_mixedWhole M13 a0 w16).bind fun w17 =>
          (ck 2 w17.1 a0).bind fun _ =>
          (fX2_mixedTexts w17.1 a0 w17.2).bind fun w18 =>
          some (w17.1, w18))
        FU M5 x6 0)
    FU M 3623 0
def fX3_init_75 (x0 : Option Nat) (k98 : Mem → Int32 → Option (Mem)) : Nat → Mem → Int32 → Option (Mem)
  | 0, _, _ => none
  | n + 1, M, x1 =>
    if 5 ≤ x1 then
      k98 M x1
    else
      (gR 3 1 M x0).bind fun v19 =>
      (wI M v19 (0 + (9 * x1)) 1).bind fun M20 =>
      fX3_init_75 x0 k98 n M20 (x1 + 1)
def fX3_init (M : Mem) (a0 : Option Nat) : Option (Mem) :=
  (ck 3 M a0).bind fun _ =>
  (nwA 4 M 56).bind fun M1 =>
  (pR 3 1 M1 a0 (some M.1)).bind fun M2 =>
  (nwA 4 M2 336).bind fun M3 =>
  (pR 3 2 M3 a0 (some M2.1)).bind fun M4 =>
  (nwA 4 M4 112).bind fun M5 =>
  (pR 3 4 M5 a0 (some M4.1)).bind fun M6 =>
  (nwA 6 M6 2).bind fun M7 =>
  (pR 3 5 M7 a0 (some M6.1)).bind fun M8 =>
  (nwA 4 M8 60).bind fun M9 =>
  (pR 3 6 M9 a0 (some M8.1)).bind fun M10 =>
  (nwA 4 M10 9).bind fun M11 =>
  (pR 3 8 M11 a0 (some M10.1)).bind fun M12 =>
  (nwA 4 M12 9).bind fun M13 =>
  (pR 3 9 M13 a0 (some M12.1)).bind fun M14 =>
  (nwA 5 M14 9).bind fun M15 =>
  (pR 3 11 M15 a0 (some M14.1)).bind fun M16 =>
  (pI 3 0 M16 a0 0).bind fun M17 =>
  fX3_init_75 a0
    (fun M21 x22 =>
      some M21)
    FU M17 0
def fX3_thrown (M : Mem) (a0 : Option Nat) : Option (Int32) :=
  (gI 3 0 M a0).bind fun v1 =>
  some v1
def fX3_in (M : Mem) (a0 : Int32) (a1 : Int32) (a2 : Int32) : Option (Int32) :=
  some (if a0 < a1 then 0 else (if a2 < a0 then 0 else 1))
def fX3_fails (M : Mem) (a0 : Option Nat) (a1 : Int32) : Option (Mem × Int32) :=
  (pI 3 0 M a0 a1).bind fun M1 =>
  some (M1, 0)
def fX3_isPoly (M : Mem) (a0 : Int32) : Option (Int32) :=
  (fX3_in M a0 0 4).bind fun w1 =>
  chk (zb w1) <|
  some w1
def fX3_isSign (M : Mem) (a0 : Int32) : Option (Int32) :=
  (fX3_in M a0 (-1) 1).bind fun w1 =>
  chk (zb w1) <|
  some w1
def fX3_signAt (M : Mem) (a0 : Option Nat) (a1 : Int32) (a2 : Int32) : Option (Int32) :=
  if a2 < 0 then
    some 0
  else
    if a2 < 9 then
      (gR 3 1 M a0).bind fun v3 =>
      (aI M v3 ((0 + (9 * a1)) + a2)).bind fun v4 =>
      some v4
    else
      some 0
def fX3_degree_4 (M : Mem) (x0 : Option Nat) (x1 : Int32) (k31 : Int32 → Int32 → Option (Int32)) : Nat → Int32 → Int32 → Option (Int32)
  | 0, _, _ => none
  | n + 1, x2, x3 =>
    if 9 ≤ x3 then
      k31 x2 x3
    else
      (ck 3 M x0).bind fun _ =>
      (fX3_signAt M x0 x1 x3).bind fun w2 =>
      fX3_degree_4 M x0 x1 k31 n (if w2 = 0 then x2 else x3) (x3 + 1)
def fX3_degree (M : Mem) (a0 : Option Nat) (a1 : Int32) : Option (Int32) :=
  fX3_degree_4 M a0 a1
    (fun x5 x6 =>
      some x5)
    FU 0 0
def fX3_saves_11 (x0 : Option Nat) (k39 : Mem → Int32 → Option (Mem)) : Nat → Mem → Int32 → Option (Mem)
  | 0, _, _ => none
  | n + 1, M, x1 =>
    if 280 ≤ x1 then
      k39 M x1
    else
      (gR 3 2 M x0).bind fun v4 =>
      (gR 3 2 M x0).bind fun v5 =>
      (aI M v5 (x1 + 56)).bind fun v6 =>
      (wI M v4 x1 v6).bind fun M7 =>
      fX3_saves_11 x0 k39 n M7 (x1 + 1)
def fX3_saves_51 (x0 : Option Nat) (k83 : Mem → Int32 → Option (Mem)) : Nat → Mem → Int32 → Option (Mem)
  | 0, _, _ => none
  | n + 1, M, x1 =>
    if 56 ≤ x1 then
      k83 M x1
    else
      (gR 3 2 M x0).bind fun v13 =>
      (gI 3 3 M x0).bind fun v14 =>
      (gR 3 1 M x0).bind fun v15 =>
      (aI M v15 x1).bind fun v16 =>
      (wI M v13 ((56 * v14) + x1) v16).bind fun M17 =>
      fX3_saves_51 x0 k83 n M17 (x1 + 1)
def fX3_saves (M : Mem) (a0 : Option Nat) : Option (Mem) :=
  (gI 3 3 M a0).bind fun v1 =>
  if v1 = 6 then
    fX3_saves_11 a0
      (fun M8 x9 =>
        (gI 3 3 M8 a0).bind fun v10 =>
        (pI 3 3 M8 a0 (v10 - 1)).bind fun M11 =>
        fX3_saves_51 a0
          (fun M18 x19 =>
            (gI 3 3 M18 a0).bind fun v20 =>
            (pI 3 3 M18 a0 (v20 + 1)).bind fun M21 =>
            some M21)
          FU M11 0)
      FU M 0
  else
    fX3_saves_51 a0
      (fun M28 x29 =>
        (gI 3 3 M28 a0).bind fun v30 =>
        (pI 3 3 M28 a0 (v30 + 1)).bind fun M31 =>
        some M31)
      FU M 0
def fX3_refuses (M : Mem) (a0 : Option Nat) (a1 : Int32) : Option (Mem × Int32) :=
  (gR 3 1 M a0).bind fun v1 =>
  (aI M v1 55).bind fun v2 =>
  (wI M v1 55 (v2 + 1)).bind fun M3 =>
  some (M3, a1)
def fX3_isInSum (M : Mem) (a0 : Int32) (a1 : Int32) (a2 : Int32) : Option (Int32) :=
  some (if a1 = 0 then (if a0 = a2 then 1 else 0) else (if a1 = (-a2) then 1 else (if a0 = a1 then 1 else 0)))
def fX3_changes_8 (M : Mem) (x0 : Option Nat) (x1 : Int32) (x2 : Int32) (k111 : Int32 → Int32 → Int32 → Option (Int32)) : Nat → Int32 → Int32 → Int32 → Option (Int32)
  | 0, _, _, _ => none
  | n + 1, x3, x4, x5 =>
    if x1 < x5 then
      k111 x3 x4 x5
    else
      if 0 ≤ x2 then
        (aI M x0 x5).bind fun v3 =>
        fX3_changes_8 M x0 x1 x2 k111 n ((x3 + (if x2 = 0 then 0 else (if v3 = 0 then 0 else (if x4 = 0 then 0 else (if v3 = x4 then 0 else 1))))) + (if x2 = 0 then (if v3 = 0 then (if x4 = 0 then 1 else 0) else 0) else 0)) (if v3 = 0 then x4 else v3) (x5 + 1)
      else
        if (x5 - x5 / 2 * 2) = 1 then
          (aI M x0 x5).bind fun v16 =>
          fX3_changes_8 M x0 x1 x2 k111 n ((x3 + (if x2 = 0 then 0 else (if (-v16) = 0 then 0 else (if x4 = 0 then 0 else (if (-v16) = x4 then 0 else 1))))) + (if x2 = 0 then (if (-v16) = 0 then (if x4 = 0 then 1 else 0) else 0) else 0)) (if (-v16) = 0 then x4 else -v16) (x5 + 1)
        else
          (aI M x0 x5).bind fun v28 =>
          fX3_changes_8 M x0 x1 x2 k111 n ((x3 + (if x2 = 0 then 0 else (if v28 = 0 then 0 else (if x4 = 0 then 0 else (if v28 = x4 then 0 else 1))))) + (if x2 = 0 then (if v28 = 0 then (if x4 = 0 then 1 else 0) else 0) else 0)) (if v28 = 0 then x4 else v28) (x5 + 1)
def fX3_changes (M : Mem) (a0 : Option Nat) (a1 : Int32) (a2 : Int32) : Option (Int32) :=
  fX3_changes_8 M a0 a1 a2
    (fun x40 x41 x42 =>
      some x40)
    FU 0 0 0
def fX3_often_2 (x0 : Option Nat) (x1 : Int32) (x2 : Int32) (k26 : Mem → Int32 → Option (Mem × Int32)) : Nat → Mem → Int32 → Option (Mem × Int32)
  | 0, _, _ => none
  | n + 1, M, x3 =>
    if 9 ≤ x3 then
      k26 M x3
    else
      (gR 3 8 M x0).bind fun v2 =>
      (ck 3 M x0).bind fun _ =>
      (fX3_signAt M x0 x1 x3).bind fun w3 =>
      (wI M v2 x3 w3).bind fun M4 =>
      fX3_often_2 x0 x1 x2 k26 n M4 (x3 + 1)
def fX3_often (M : Mem) (a0 : Option Nat) (a1 : Int32) (a2 : Int32) : Option (Mem × Int32) :=
  fX3_often_2 a0 a1 a2
    (fun M5 x6 =>
      (gR 3 8 M5 a0).bind fun v7 =>
      (ck 3 M5 a0).bind fun _ =>
      (fX3_degree M5 a0 a1).bind fun w8 =>
      (fX3_changes M5 v7 w8 a2).bind fun w9 =>
      some (M5, w9))
    FU M 0
def fX3_laysRow_5 (x0 : Option Nat) (x1 : Int32) (x2 : Int32) (k32 : Mem → Int32 → Int32 → Option (Mem)) : Nat → Mem → Int32 → Int32 → Option (Mem)
  | 0, _, _, _ => none
  | n + 1, M, x3, x4 =>
    if x4 < 0 then
      k32 M x3 x4
    else
      (gR 3 8 M x0).bind fun v2 =>
      (wI M v2 x4 ((x3 - x3 / 3 * 3) - 1)).bind fun M3 =>
      fX3_laysRow_5 x0 x1 x2 k32 n M3 (x3 / 3) (x4 + (-1))
def fX3_laysRow (M : Mem) (a0 : Option Nat) (a1 : Int32) (a2 : Int32) : Option (Mem) :=
  fX3_laysRow_5 a0 a1 a2
    (fun M4 x5 x6 =>
      some M4)
    FU M a1 a2
def fX3_isQuotient_19 (M : Mem) (x0 : Option Nat) (x1 : Int32) (x2 : Int32) (x3 : Int32) (k96 : Int32 → Int32 → Option (Int32)) : Nat → Int32 → Int32 → Option (Int32)
  | 0, _, _ => none
  | n + 1, x4, x5 =>
    if (x3 + 1) < x5 then
      k96 x4 x5
    else
      if x4 = 0 then
        k96 x4 x5
      else
        if x5 = 0 then
          if x5 ≤ x3 then
            (gR 3 8 M x0).bind fun v7 =>
            (aI M v7 x5).bind fun v8 =>
            (ck 3 M x0).bind fun _ =>
            (fX3_signAt M x0 x1 x5).bind fun w9 =>
            (fX3_isInSum M w9 0 ((-x2) * v8)).bind fun w10 =>
            fX3_isQuotient_19 M x0 x1 x2 x3 k96 n w10 (x5 + 1)
          else
            (ck 3 M x0).bind fun _ =>
            (fX3_signAt M x0 x1 x5).bind fun w11 =>
            (fX3_isInSum M w11 0 0).bind fun w12 =>
            fX3_isQuotient_19 M x0 x1 x2 x3 k96 n w12 (x5 + 1)
        else
          (gR 3 8 M x0).bind fun v13 =>
          (aI M v13 (x5 - 1)).bind fun v14 =>
          if x5 ≤ x3 then
            (gR 3 8 M x0).bind fun v16 =>
            (aI M v16 x5).bind fun v17 =>
            (ck 3 M x0).bind fun _ =>
            (fX3_signAt M x0 x1 x5).bind fun w18 =>
            (fX3_isInSum M w18 v14 ((-x2) * v17)).bind fun w19 =>
            fX3_isQuotient_19 M x0 x1 x2 x3 k96 n w19 (x5 + 1)
          else
            (ck 3 M x0).bind fun _ =>
            (fX3_signAt M x0 x1 x5).bind fun w20 =>
            (fX3_isInSum M w20 v14 0).bind fun w21 =>
            fX3_isQuotient_19 M x0 x1 x2 x3 k96 n w21 (x5 + 1)
def fX3_isQuotient (M : Mem) (a0 : Option Nat) (a1 : Int32) (a2 : Int32) (a3 : Int32) : Option (Int32) :=
  (gR 3 8 M a0).bind fun v1 =>
  (aI M v1 a3).bind fun v2 =>
  fX3_isQuotient_19 M a0 a1 a2 a3
    (fun x22 x23 =>
      chk (zb x22) <|
      some x22)
    FU (if v2 = 0 then 0 else 1) 0
def fX3_notes_26 (x0 : Option Nat) (x1 : Int32) (x2 : Int32) (x3 : Int32) (k63 : Mem → Int32 → Option (Mem)) : Nat → Mem → Int32 → Option (Mem)
  | 0, _, _ => none
  | n + 1, M, x4 =>
    if 9 ≤ x4 then
      k63 M x4
    else
      (gR 3 9 M x0).bind fun v7 =>
      if x1 < x4 then
        (wI M v7 x4 0).bind fun M9 =>
        fX3_notes_26 x0 x1 x2 x3 k63 n M9 (x4 + 1)
      else
        (gR 3 8 M x0).bind fun v10 =>
        (aI M v10 x4).bind fun v11 =>
        (wI M v7 x4 v11).bind fun M12 =>
        fX3_notes_26 x0 x1 x2 x3 k63 n M12 (x4 + 1)
def fX3_notes (M : Mem) (a0 : Option Nat) (a1 : Int32) (a2 : Int32) : Option (Mem) :=
  (gR 3 8 M a0).bind fun v1 =>
  (fX3_changes M v1 a1 a2).bind fun w2 =>
  (gI 3 10 M a0).bind fun v3 =>
  if w2 ≤ v3 then
    some M
  else
    (pI 3 10 M a0 w2).bind fun M5 =>
    fX3_notes_26 a0 a1 a2 w2
      (fun M13 x14 =>
        some M13)
      FU M5 0
def fX3_divides_14 (x0 : Option Nat) (x1 : Int32) (x2 : Int32) (x3 : Int32) (k32 : Mem → Int32 → Int32 → Option (Mem × Int32)) : Nat → Mem → Int32 → Int32 → Option (Mem × Int32)
  | 0, _, _, _ => none
  | n + 1, M, x4, x5 =>
    if x3 < x5 then
      k32 M x4 x5
    else
      fX3_divides_14 x0 x1 x2 x3 k32 n M (x4 * 3) (x5 + 1)
def fX3_divides_44 (x0 : Option Nat) (x1 : Int32) (x2 : Int32) (x3 : Int32) (x4 : Int32) (k87 : Mem → Int32 → Int32 → Option (Mem × Int32)) : Nat → Mem → Int32 → Int32 → Option (Mem × Int32)
  | 0, _, _, _ => none
  | n + 1, M, x5, x6 =>
    if x4 ≤ x6 then
      k87 M x5 x6
    else
      if x3 < 0 then
        k87 M x5 x6
      else
        (ck 3 M x0).bind fun _ =>
        (fX3_laysRow M x0 x6 x3).bind fun w9 =>
        (ck 3 w9 x0).bind fun _ =>
        (fX3_isQuotient w9 x0 x1 x2 x3).bind fun w10 =>
        if w10 = 0 then
          fX3_divides_44 x0 x1 x2 x3 x4 k87 n w9 x5 (x6 + 1)
        else
          (ck 3 w9 x0).bind fun _ =>
          (fX3_notes w9 x0 x3 x2).bind fun w12 =>
          fX3_divides_44 x0 x1 x2 x3 x4 k87 n w12 (x5 + 1) (x6 + 1)
def fX3_divides (M : Mem) (a0 : Option Nat) (a1 : Int32) (a2 : Int32) : Option (Mem × Int32) :=
  (ck 3 M a0).bind fun _ =>
  (fX3_degree M a0 a1).bind fun w1 =>
  fX3_divides_14 a0 a1 a2 (w1 - 1)
    (fun M3 x4 x5 =>
      (pI 3 10 M3 a0 (-9)).bind fun M6 =>
      fX3_divides_44 a0 a1 a2 (w1 - 1) x4
        (fun M13 x14 x15 =>
          some (M13, x14))
        FU M6 0 0)
    FU M 1 0
def fX3_form_5 (M : Mem) (x0 : Option Nat) (k25 : Int32 → Int32 → Option (Int32)) : Nat → Int32 → Int32 → Option (Int32)
  | 0, _, _ => none
  | n + 1, x1, x2 =>
    if x2 < 0 then
      k25 x1 x2
    else
      (aI M x0 x2).bind fun v2 =>
      fX3_form_5 M x0 k25 n (((3 * x1) + v2) + 1) (x2 + (-1))
def fX3_form (M : Mem) (a0 : Option Nat) : Option (Int32) :=
  fX3_form_5 M a0
    (fun x3 x4 =>
      some x3)
    FU 0 8
def fX3_put (M : Mem) (a0 : Option Nat) (a1 : Int32) (a2 : Int32) (a3 : Int32) : Option (Mem × Int32) :=
  (pI 3 0 M a0 0).bind fun M1 =>
  (fX3_isPoly M1 a1).bind fun w2 =>
  if w2 = 0 then
    (ck 3 M1 a0).bind fun _ =>
    (fX3_fails M1 a0 1).bind fun w4 =>
    some (w4.1, w4.2)
  else
    (fX3_in M1 a2 0 8).bind fun w5 =>
    if w5 = 0 then
      (ck 3 M1 a0).bind fun _ =>
      (fX3_fails M1 a0 2).bind fun w7 =>
      some (w7.1, w7.2)
    else
      (fX3_isSign M1 a3).bind fun w8 =>
      if w8 = 0 then
        (ck 3 M1 a0).bind fun _ =>
        (fX3_fails M1 a0 2).bind fun w10 =>
        some (w10.1, w10.2)
      else
        (ck 3 M1 a0).bind fun _ =>
        (fX3_saves M1 a0).bind fun w11 =>
        (gR 3 1 w11 a0).bind fun v12 =>
        (aI w11 v12 ((0 + (9 * a1)) + a2)).bind fun v13 =>
        (gR 3 1 w11 a0).bind fun v14 =>
        (wI w11 v14 ((0 + (9 * a1)) + a2) a3).bind fun M15 =>
        (ck 3 M15 a0).bind fun _ =>
        (fX3_degree M15 a0 a1).bind fun w16 =>
        (ck 3 M15 a0).bind fun _ =>
        (fX3_signAt M15 a0 a1 w16).bind fun w17 =>
        if w17 = 0 then
          (gR 3 1 M15 a0).bind fun v19 =>
          (wI M15 v19 ((0 + (9 * a1)) + a2) v13).bind fun M20 =>
          (ck 3 M20 a0).bind fun _ =>
          (fX3_refuses M20 a0 (-9)).bind fun w21 =>
          some (w21.1, w21.2)
        else
          (ck 3 M15 a0).bind fun _ =>
          (fX3_degree M15 a0 a1).bind fun w22 =>
          some (M15, w22)
def fX3_copy_31 (x0 : Option Nat) (x1 : Int32) (x2 : Int32) (k69 : Mem → Int32 → Option (Mem × Int32)) : Nat → Mem → Int32 → Option (Mem × Int32)
  | 0, _, _ => none
  | n + 1, M, x3 =>
    if 9 ≤ x3 then
      k69 M x3
    else
      (gR 3 1 M x0).bind fun v10 =>
      (gR 3 1 M x0).bind fun v11 =>
      (aI M v11 ((0 + (9 * x1)) + x3)).bind fun v12 =>
      (wI M v10 ((0 + (9 * x2)) + x3) v12).bind fun M13 =>
      fX3_copy_31 x0 x1 x2 k69 n M13 (x3 + 1)
def fX3_copy (M : Mem) (a0 : Option Nat) (a1 : Int32) (a2 : Int32) : Option (Mem × Int32) :=
  (pI 3 0 M a0 0).bind fun M1 =>
  (fX3_isPoly M1 a1).bind fun w2 =>
  if w2 = 0 then
    (ck 3 M1 a0).bind fun _ =>
    (fX3_fails M1 a0 1).bind fun w4 =>
    some (w4.1, w4.2)
  else
    (fX3_isPoly M1 a2).bind fun w5 =>
    if w5 = 0 then
      (ck 3 M1 a0).bind fun _ =>
      (fX3_fails M1 a0 1).bind fun w7 =>
      some (w7.1, w7.2)
    else
      (ck 3 M1 a0).bind fun _ =>
      (fX3_saves M1 a0).bind fun w8 =>
      fX3_copy_31 a0 a1 a2
        (fun M14 x15 =>
          (ck 3 M14 a0).bind fun _ =>
          (fX3_degree M14 a0 a2).bind fun w16 =>
          some (M14, w16))
        FU w8 0
def fX3_divide_53 (x0 : Option Nat) (x1 : Int32) (x2 : Int32) (k84 : Mem → Int32 → Option (Mem × Int32)) : Nat → Mem → Int32 → Option (Mem × Int32)
  | 0, _, _ => none
  | n + 1, M, x3 =>
    if 9 ≤ x3 then
      k84 M x3
    else
      (gR 3 1 M x0).bind fun v13 =>
      (gR 3 9 M x0).bind fun v14 =>
      (aI M v14 x3).bind fun v15 =>
      (wI M v13 ((0 + (9 * x1)) + x3) v15).bind fun M16 =>
      fX3_divide_53 x0 x1 x2 k84 n M16 (x3 + 1)
def fX3_divide (M : Mem) (a0 : Option Nat) (a1 : Int32) (a2 : Int32) : Option (Mem × Int32) :=
  (pI 3 0 M a0 0).bind fun M1 =>
  (fX3_isPoly M1 a1).bind fun w2 =>
  if w2 = 0 then
    (ck 3 M1 a0).bind fun _ =>
    (fX3_fails M1 a0 1).bind fun w4 =>
    some (w4.1, w4.2)
  else
    (fX3_isSign M1 a2).bind fun w5 =>
    if w5 = 0 then
      (ck 3 M1 a0).bind fun _ =>
      (fX3_fails M1 a0 2).bind fun w7 =>
      some (w7.1, w7.2)
    else
      (ck 3 M1 a0).bind fun _ =>
      (fX3_saves M1 a0).bind fun w8 =>
      (ck 3 w8 a0).bind fun _ =>
      (fX3_divides w8 a0 a1 a2).bind fun w9 =>
      if w9.2 = 0 then
        (ck 3 w9.1 a0).bind fun _ =>
        (fX3_refuses w9.1 a0 (-9)).bind fun w11 =>
        some (w11.1, w11.2)
      else
        fX3_divide_53 a0 a1 a2
          (fun M17 x18 =>
            (gR 3 1 M17 a0).bind fun v19 =>
            (aI M17 v19 54).bind fun v20 =>
            (wI M17 v19 54 (v20 + 1)).bind fun M21 =>
            (ck 3 M21 a0).bind fun _ =>
            (fX3_degree M21 a0 a1).bind fun w22 =>
            some (M21, w22))
          FU w9.1 0
def fX3_root (M : Mem) (a0 : Option Nat) (a1 : Int32) : Option (Mem × Int32) :=
  (pI 3 0 M a0 0).bind fun M1 =>
  (fX3_in M1 a1 (-9) 9).bind fun w2 =>
  if w2 = 0 then
    (ck 3 M1 a0).bind fun _ =>
    (fX3_fails M1 a0 1).bind fun w4 =>
    some (w4.1, w4.2)
  else
    (ck 3 M1 a0).bind fun _ =>
    (fX3_saves M1 a0).bind fun w5 =>
    (gR 3 1 w5 a0).bind fun v6 =>
    (aI w5 v6 45).bind fun v7 =>
    if v7 = 8 then
      (ck 3 w5 a0).bind fun _ =>
      (fX3_refuses w5 a0 (-9)).bind fun w9 =>
      some (w9.1, w9.2)
    else
      (gR 3 1 w5 a0).bind fun v10 =>
      (gR 3 1 w5 a0).bind fun v11 =>
      (aI w5 v11 45).bind fun v12 =>
      (wI w5 v10 (46 + v12) a1).bind fun M13 =>
      (gR 3 1 M13 a0).bind fun v14 =>
      (aI M13 v14 45).bind fun v15 =>
      (wI M13 v14 45 (v15 + 1)).bind fun M16 =>
      (gR 3 1 M16 a0).bind fun v17 =>
      (aI M16 v17 45).bind fun v18 =>
      some (M16, v18)
def fX3_unroot (M : Mem) (a0 : Option Nat) : Option (Mem × Int32) :=
  (pI 3 0 M a0 0).bind fun M1 =>
  (ck 3 M1 a0).bind fun _ =>
  (fX3_saves M1 a0).bind fun w2 =>
  (gR 3 1 w2 a0).bind fun v3 =>
  (aI w2 v3 45).bind fun v4 =>
  if v4 = 0 then
    (ck 3 w2 a0).bind fun _ =>
    (fX3_refuses w2 a0 99).bind fun w6 =>
    some (w6.1, w6.2)
  else
    (gR 3 1 w2 a0).bind fun v7 =>
    (aI w2 v7 45).bind fun v8 =>
    (wI w2 v7 45 (v8 - 1)).bind fun M9 =>
    (gR 3 1 M9 a0).bind fun v10 =>
    (gR 3 1 M9 a0).bind fun v11 =>
    (aI M9 v11 45).bind fun v12 =>
    (aI M9 v10 (46 + v12)).bind fun v13 =>
    (gR 3 1 M9 a0).bind fun v14 =>
    (gR 3 1 M9 a0).bind fun v15 =>
    (aI M9 v15 45).bind fun v16 =>
    (wI M9 v14 (46 + v16) 0).bind fun M17 =>
    some (M17, v13)
def fX3_multiplies_2 (x0 : Option Nat) (k21 : Mem → Int32 → Option (Mem)) : Nat → Mem → Int32 → Option (Mem)
  | 0, _, _ => none
  | n + 1, M, x1 =>
    if 9 ≤ x1 then
      k21 M x1
    else
      (gR 3 11 M x0).bind fun v2 =>
      (wJ M v2 x1 0).bind fun M3 =>
      fX3_multiplies_2 x0 k21 n M3 (x1 + 1)
def fX3_multiplies_44 (x0 : Option Nat) (x1 : Int32) (k94 : Mem → Int32 → Option (Mem)) : Nat → Mem → Int32 → Option (Mem)
  | 0, _, _ => none
  | n + 1, M, x2 =>
    if x2 < 0 then
      k94 M x2
    else
      (gR 3 11 M x0).bind fun v12 =>
      if x2 = 0 then
        (gR 3 1 M x0).bind fun v14 =>
        (aI M v14 (46 + x1)).bind fun v15 =>
        (gR 3 11 M x0).bind fun v16 =>
        (aJ M v16 x2).bind fun v17 =>
        (wJ M v12 x2 (0 - (v15.toInt64 * v17))).bind fun M18 =>
        fX3_multiplies_44 x0 x1 k94 n M18 (x2 + (-1))
      else
        (gR 3 11 M x0).bind fun v19 =>
        (aJ M v19 (x2 - 1)).bind fun v20 =>
        (gR 3 1 M x0).bind fun v21 =>
        (aI M v21 (46 + x1)).bind fun v22 =>
        (gR 3 11 M x0).bind fun v23 =>
        (aJ M v23 x2).bind fun v24 =>
        (wJ M v12 x2 (v20 - (v22.toInt64 * v24))).bind fun M25 =>
        fX3_multiplies_44 x0 x1 k94 n M25 (x2 + (-1))
def fX3_multiplies_30 (x0 : Option Nat) (k100 : Mem → Int32 → Option (Mem)) : Nat → Mem → Int32 → Option (Mem)
  | 0, _, _ => none
  | n + 1, M, x1 =>
    (gR 3 1 M x0).bind fun v8 =>
    (aI M v8 45).bind fun v9 =>
    if v9 ≤ x1 then
      k100 M x1
    else
      fX3_multiplies_44 x0 x1
        (fun M26 x27 =>
          fX3_multiplies_30 x0 k100 n M26 (x1 + 1))
        FU M 8
def fX3_multiplies (M : Mem) (a0 : Option Nat) : Option (Mem) :=
  fX3_multiplies_2 a0
    (fun M4 x5 =>
      (gR 3 11 M4 a0).bind fun v6 =>
      (wJ M4 v6 0 1).bind fun M7 =>
      fX3_multiplies_30 a0
        (fun M28 x29 =>
          some M28)
        FU M7 0)
    FU M 0
def fX3_lower_28 (x0 : Option Nat) (x1 : Int32) (k84 : Mem → Int32 → Option (Mem × Int32)) : Nat → Mem → Int32 → Option (Mem × Int32)
  | 0, _, _ => none
  | n + 1, M, x2 =>
    if 9 ≤ x2 then
      k84 M x2
    else
      (gR 3 1 M x0).bind fun v8 =>
      (gR 3 11 M x0).bind fun v9 =>
      (aJ M v9 x2).bind fun v10 =>
      if (lg_cmp v10 0) ≤ 0 then
        (gR 3 11 M x0).bind fun v12 =>
        (aJ M v12 x2).bind fun v13 =>
        (wI M v8 ((0 + (9 * x1)) + x2) (if 0 ≤ (lg_cmp v13 0) then 0 else (-1))).bind fun M14 =>
        fX3_lower_28 x0 x1 k84 n M14 (x2 + 1)
      else
        (wI M v8 ((0 + (9 * x1)) + x2) 1).bind fun M17 =>
        fX3_lower_28 x0 x1 k84 n M17 (x2 + 1)
def fX3_lower (M : Mem) (a0 : Option Nat) (a1 : Int32) : Option (Mem × Int32) :=
  (pI 3 0 M a0 0).bind fun M1 =>
  (fX3_isPoly M1 a1).bind fun w2 =>
  if w2 = 0 then
    (ck 3 M1 a0).bind fun _ =>
    (fX3_fails M1 a0 1).bind fun w4 =>
    some (w4.1, w4.2)
  else
    (ck 3 M1 a0).bind fun _ =>
    (fX3_saves M1 a0).bind fun w5 =>
    (ck 3 w5 a0).bind fun _ =>
    (fX3_multiplies w5 a0).bind fun w6 =>
    fX3_lower_28 a0 a1
      (fun M18 x19 =>
        (ck 3 M18 a0).bind fun _ =>
        (fX3_degree M18 a0 a1).bind fun w20 =>
        some (M18, w20))
      FU w6 0
def fX3_append (M : Mem) (a0 : Option Nat) (a1 : Int32) : Option (Mem × Int32) :=
  (pI 3 0 M a0 0).bind fun M1 =>
  (fX3_in M1 a1 33 126).bind fun w2 =>
  if w2 = 0 then
    (ck 3 M1 a0).bind fun _ =>
    (fX3_fails M1 a0 1).bind fun w4 =>
    some (w4.1, w4.2)
  else
    (gI 3 7 M1 a0).bind fun v5 =>
    if v5 = 60 then
      (ck 3 M1 a0).bind fun _ =>
      (fX3_fails M1 a0 2).bind fun w7 =>
      some (w7.1, w7.2)
    else
      (gR 3 6 M1 a0).bind fun v8 =>
      (gI 3 7 M1 a0).bind fun v9 =>
      (wI M1 v8 v9 a1).bind fun M10 =>
      (gI 3 7 M10 a0).bind fun v11 =>
      (pI 3 7 M10 a0 (v11 + 1)).bind fun M12 =>
      (gI 3 7 M12 a0).bind fun v13 =>
      some (M12, v13)
def fX3_clearBuffer (M : Mem) (a0 : Option Nat) : Option (Mem × Int32) :=
  (pI 3 0 M a0 0).bind fun M1 =>
  (gI 3 7 M1 a0).bind fun v2 =>
  (pI 3 7 M1 a0 0).bind fun M3 =>
  some (M3, v2)
def fX3_error_4 (M : Mem) (x0 : Option Nat) (k80 : Int32 → Int32 → Option (Int32)) : Nat → Int32 → Int32 → Option (Int32)
  | 0, _, _ => none
  | n + 1, x1, x2 =>
    (gI 3 7 M x0).bind fun v1 =>
    if v1 ≤ x1 then
      k80 x1 x2
    else
      if x2 = 0 then
        k80 x1 x2
      else
        if 9 ≤ x1 then
          fX3_error_4 M x0 k80 n (x1 + 0) 0
        else
          (gR 3 6 M x0).bind fun v5 =>
          (aI M v5 x1).bind fun v6 =>
          if v6 = 43 then
            fX3_error_4 M x0 k80 n (x1 + 1) 1
          else
            (gR 3 6 M x0).bind fun v8 =>
            (aI M v8 x1).bind fun v9 =>
            if v9 = 45 then
              fX3_error_4 M x0 k80 n (x1 + 1) 1
            else
              (gR 3 6 M x0).bind fun v11 =>
              (aI M v11 x1).bind fun v12 =>
              fX3_error_4 M x0 k80 n (x1 + (if ((if v12 = 48 then (if x1 ≤ 0 then 0 else 1) else 0) : Int32) = 0 then 0 else 1)) (if v12 = 48 then (if x1 ≤ 0 then 0 else 1) else 0)
def fX3_error (M : Mem) (a0 : Option Nat) : Option (Int32) :=
  fX3_error_4 M a0
    (fun x18 x19 =>
      some x18)
    FU 0 1
def fX3_firstError (M : Mem) (a0 : Option Nat) : Option (Mem × Int32) :=
  (pI 3 0 M a0 0).bind fun M1 =>
  (ck 3 M1 a0).bind fun _ =>
  (fX3_error M1 a0).bind fun w2 =>
  some (M1, w2)
def fX3_load_48 (x0 : Option Nat) (x1 : Int32) (k121 : Mem → Int32 → Option (Mem × Int32)) : Nat → Mem → Int32 → Option (Mem × Int32)
  | 0, _, _ => none
  | n + 1, M, x2 =>
    if 9 ≤ x2 then
      k121 M x2
    else
      (gI 3 7 M x0).bind fun v13 =>
      if v13 ≤ x2 then
        (gR 3 1 M x0).bind fun v15 =>
        (wI M v15 ((0 + (9 * x1)) + x2) 0).bind fun M16 =>
        fX3_load_48 x0 x1 k121 n M16 (x2 + 1)
      else
        (gR 3 6 M x0).bind fun v17 =>
        (gI 3 7 M x0).bind fun v18 =>
        (aI M v17 ((v18 - 1) - x2)).bind fun v19 =>
        (gR 3 1 M x0).bind fun v20 =>
        (wI M v20 ((0 + (9 * x1)) + x2) (if v19 = 43 then 1 else (if v19 = 45 then (-1) else 0))).bind fun M21 =>
        fX3_load_48 x0 x1 k121 n M21 (x2 + 1)
def fX3_load (M : Mem) (a0 : Option Nat) (a1 : Int32) : Option (Mem × Int32) :=
  (pI 3 0 M a0 0).bind fun M1 =>
  (fX3_isPoly M1 a1).bind fun w2 =>
  if w2 = 0 then
    (ck 3 M1 a0).bind fun _ =>
    (fX3_fails M1 a0 1).bind fun w4 =>
    some (w4.1, w4.2)
  else
    (gI 3 7 M1 a0).bind fun v5 =>
    if v5 = 0 then
      (ck 3 M1 a0).bind fun _ =>
      (fX3_fails M1 a0 2).bind fun w7 =>
      some (w7.1, w7.2)
    else
      (ck 3 M1 a0).bind fun _ =>
      (fX3_error M1 a0).bind fun w8 =>
      (gI 3 7 M1 a0).bind fun v9 =>
      if v9 ≤ w8 then
        (ck 3 M1 a0).bind fun _ =>
        (fX3_saves M1 a0).bind fun w11 =>
        fX3_load_48 a0 a1
          (fun M25 x26 =>
            (pI 3 7 M25 a0 0).bind fun M27 =>
            (ck 3 M27 a0).bind fun _ =>
            (fX3_degree M27 a0 a1).bind fun w28 =>
            some (M27, w28))
          FU w11 0
      else
        (ck 3 M1 a0).bind fun _ =>
        (fX3_fails M1 a0 2).bind fun w29 =>
        some (w29.1, w29.2)
def fX3_degrees_4 (M : Mem) (x0 : Option Nat) (k23 : Int32 → Int32 → Option (Int32)) : Nat → Int32 → Int32 → Option (Int32)
  | 0, _, _ => none
  | n + 1, x1, x2 =>
    if 5 ≤ x2 then
      k23 x1 x2
    else
      (ck 3 M x0).bind fun _ =>
      (fX3_degree M x0 x2).bind fun w2 =>
      fX3_degrees_4 M x0 k23 n (x1 + w2) (x2 + 1)
def fX3_degrees (M : Mem) (a0 : Option Nat) : Option (Int32) :=
  fX3_degrees_4 M a0
    (fun x3 x4 =>
      some x3)
    FU 0 0
def fX3_keep_22 (x0 : Option Nat) (x1 : Int32) (k51 : Mem → Int32 → Option (Mem × Int32)) : Nat → Mem → Int32 → Option (Mem × Int32)
  | 0, _, _ => none
  | n + 1, M, x2 =>
    if 56 ≤ x2 then
      k51 M x2
    else
      (gR 3 4 M x0).bind fun v6 =>
      (gR 3 1 M x0).bind fun v7 =>
      (aI M v7 x2).bind fun v8 =>
      (wI M v6 ((56 * x1) + x2) v8).bind fun M9 =>
      fX3_keep_22 x0 x1 k51 n M9 (x2 + 1)
def fX3_keep (M : Mem) (a0 : Option Nat) (a1 : Int32) : Option (Mem × Int32) :=
  (pI 3 0 M a0 0).bind fun M1 =>
  (fX3_in M1 a1 0 1).bind fun w2 =>
  if w2 = 0 then
    (ck 3 M1 a0).bind fun _ =>
    (fX3_fails M1 a0 1).bind fun w4 =>
    some (w4.1, w4.2)
  else
    fX3_keep_22 a0 a1
      (fun M10 x11 =>
        (gR 3 5 M10 a0).bind fun v12 =>
        (wZ M10 v12 a1 1).bind fun M13 =>
        (ck 3 M13 a0).bind fun _ =>
        (fX3_degrees M13 a0).bind fun w14 =>
        some (M13, w14))
      FU M1 0
def fX3_goBack_41 (x0 : Option Nat) (x1 : Int32) (k70 : Mem → Int32 → Option (Mem × Int32)) : Nat → Mem → Int32 → Option (Mem × Int32)
  | 0, _, _ => none
  | n + 1, M, x2 =>
    if 56 ≤ x2 then
      k70 M x2
    else
      (gR 3 1 M x0).bind fun v11 =>
      (gR 3 4 M x0).bind fun v12 =>
      (aI M v12 ((56 * x1) + x2)).bind fun v13 =>
      (wI M v11 x2 v13).bind fun M14 =>
      fX3_goBack_41 x0 x1 k70 n M14 (x2 + 1)
def fX3_goBack (M : Mem) (a0 : Option Nat) (a1 : Int32) : Option (Mem × Int32) :=
  (pI 3 0 M a0 0).bind fun M1 =>
  (fX3_in M1 a1 0 1).bind fun w2 =>
  if w2 = 0 then
    (ck 3 M1 a0).bind fun _ =>
    (fX3_fails M1 a0 1).bind fun w4 =>
    some (w4.1, w4.2)
  else
    (gR 3 5 M1 a0).bind fun v5 =>
    (aZ M1 v5 a1).bind fun v6 =>
    if v6 = 0 then
      (ck 3 M1 a0).bind fun _ =>
      (fX3_fails M1 a0 2).bind fun w8 =>
      some (w8.1, w8.2)
    else
      (ck 3 M1 a0).bind fun _ =>
      (fX3_saves M1 a0).bind fun w9 =>
      fX3_goBack_41 a0 a1
        (fun M15 x16 =>
          (ck 3 M15 a0).bind fun _ =>
          (fX3_degrees M15 a0).bind fun w17 =>
          some (M15, w17))
        FU w9 0
def fX3_undo_30 (x0 : Option Nat) (k62 : Mem → Int32 → Option (Mem × Int32)) : Nat → Mem → Int32 → Option (Mem × Int32)
  | 0, _, _ => none
  | n + 1, M, x1 =>
    if 56 ≤ x1 then
      k62 M x1
    else
      (gR 3 1 M x0).bind fun v8 =>
      (gR 3 2 M x0).bind fun v9 =>
      (gI 3 3 M x0).bind fun v10 =>
      (aI M v9 ((56 * v10) + x1)).bind fun v11 =>
      (wI M v8 x1 v11).bind fun M12 =>
      fX3_undo_30 x0 k62 n M12 (x1 + 1)
def fX3_undo (M : Mem) (a0 : Option Nat) : Option (Mem × Int32) :=
  (pI 3 0 M a0 0).bind fun M1 =>
  (gI 3 3 M1 a0).bind fun v2 =>
  if v2 = 0 then
    (ck 3 M1 a0).bind fun _ =>
    (fX3_fails M1 a0 1).bind fun w4 =>
    some (w4.1, w4.2)
  else
    (gI 3 3 M1 a0).bind fun v5 =>
    (pI 3 3 M1 a0 (v5 - 1)).bind fun M6 =>
    fX3_undo_30 a0
      (fun M13 x14 =>
        (gI 3 3 M13 a0).bind fun v15 =>
        some (M13, v15))
      FU M6 0
def fX3_sign (M : Mem) (a0 : Option Nat) (a1 : Int32) (a2 : Int32) : Option (Mem × Int32) :=
  (pI 3 0 M a0 0).bind fun M1 =>
  (fX3_isPoly M1 a1).bind fun w2 =>
  if w2 = 0 then
    (ck 3 M1 a0).bind fun _ =>
    (fX3_fails M1 a0 1).bind fun w4 =>
    some (w4.1, w4.2)
  else
    (fX3_in M1 a2 0 8).bind fun w5 =>
    if w5 = 0 then
      (ck 3 M1 a0).bind fun _ =>
      (fX3_fails M1 a0 2).bind fun w7 =>
      some (w7.1, w7.2)
    else
      (ck 3 M1 a0).bind fun _ =>
      (fX3_signAt M1 a0 a1 a2).bind fun w8 =>
      some (M1, w8)
def fX3_tells_27 (x0 : Option Nat) (x1 : Int32) (x2 : Int32) (k72 : Mem → Int32 → Int32 → Option (Mem × Int32)) : Nat → Mem → Int32 → Int32 → Option (Mem × Int32)
  | 0, _, _, _ => none
  | n + 1, M, x3, x4 =>
    if 9 ≤ x4 then
      k72 M x3 x4
    else
      (gR 3 8 M x0).bind fun v6 =>
      (ck 3 M x0).bind fun _ =>
      (fX3_signAt M x0 x1 x4).bind fun w7 =>
      (wI M v6 x4 w7).bind fun M8 =>
      (gR 3 8 M8 x0).bind fun v9 =>
      (aI M8 v9 x4).bind fun v10 =>
      fX3_tells_27 x0 x1 x2 k72 n M8 (x3 + (if v10 = 0 then 0 else 1)) (x4 + 1)
def fX3_tells (M : Mem) (a0 : Option Nat) (a1 : Int32) (a2 : Int32) : Option (Mem × Int32) :=
  if a2 = 0 then
    (ck 3 M a0).bind fun _ =>
    (fX3_degree M a0 a1).bind fun w2 =>
    some (M, w2)
  else
    if a2 = 2 then
      (ck 3 M a0).bind fun _ =>
      (fX3_often M a0 a1 1).bind fun w4 =>
      some (w4.1, w4.2)
    else
      fX3_tells_27 a0 a1 a2
        (fun M13 x14 x15 =>
          if a2 = 1 then
            some (M13, x14)
          else
            (gR 3 8 M13 a0).bind fun v17 =>
            (fX3_form M13 v17).bind fun w18 =>
            some (M13, w18))
        FU M 0 0
def fX3_of (M : Mem) (a0 : Option Nat) (a1 : Int32) (a2 : Int32) : Option (Mem × Int32) :=
  (pI 3 0 M a0 0).bind fun M1 =>
  (fX3_isPoly M1 a1).bind fun w2 =>
  if w2 = 0 then
    (ck 3 M1 a0).bind fun _ =>
    (fX3_fails M1 a0 1).bind fun w4 =>
    some (w4.1, w4.2)
  else
    (fX3_in M1 a2 0 3).bind fun w5 =>
    if w5 = 0 then
      (ck 3 M1 a0).bind fun _ =>
      (fX3_fails M1 a0 2).bind fun w7 =>
      some (w7.1, w7.2)
    else
      (ck 3 M1 a0).bind fun _ =>
      (fX3_tells M1 a0 a1 a2).bind fun w8 =>
      some (w8.1, w8.2)
def fX3_has_8 (M : Mem) (x0 : Option Nat) (x1 : Int32) (x2 : Int32) (k98 : Int32 → Int32 → Int32 → Option (Int32)) : Nat → Int32 → Int32 → Int32 → Option (Int32)
  | 0, _, _, _ => none
  | n + 1, x3, x4, x5 =>
    if 9 ≤ x5 then
      k98 x3 x4 x5
    else
      if x2 = 0 then
        if x5 ≤ 0 then
          if 0 ≤ x2 then
            (ck 3 M x0).bind fun _ =>
            (fX3_signAt M x0 x1 x5).bind fun w5 =>
            fX3_has_8 M x0 x1 x2 k98 n (if x3 = 0 then (if w5 ≤ 0 then 0 else 1) else 1) (if x4 = 0 then (if 0 ≤ w5 then 0 else 1) else 1) (x5 + 1)
          else
            if (x5 - x5 / 2 * 2) = 1 then
              (ck 3 M x0).bind fun _ =>
              (fX3_signAt M x0 x1 x5).bind fun w13 =>
              fX3_has_8 M x0 x1 x2 k98 n (if x3 = 0 then (if (-w13) ≤ 0 then 0 else 1) else 1) (if x4 = 0 then (if 0 ≤ (-w13) then 0 else 1) else 1) (x5 + 1)
            else
              (ck 3 M x0).bind fun _ =>
              (fX3_signAt M x0 x1 x5).bind fun w20 =>
              fX3_has_8 M x0 x1 x2 k98 n (if x3 = 0 then (if w20 ≤ 0 then 0 else 1) else 1) (if x4 = 0 then (if 0 ≤ w20 then 0 else 1) else 1) (x5 + 1)
        else
          fX3_has_8 M x0 x1 x2 k98 n (if x3 = 0 then 0 else 1) (if x4 = 0 then 0 else 1) (x5 + 1)
      else
        if 0 ≤ x2 then
          (ck 3 M x0).bind fun _ =>
          (fX3_signAt M x0 x1 x5).bind fun w32 =>
          fX3_has_8 M x0 x1 x2 k98 n (if x3 = 0 then (if w32 ≤ 0 then 0 else 1) else 1) (if x4 = 0 then (if 0 ≤ w32 then 0 else 1) else 1) (x5 + 1)
        else
          if (x5 - x5 / 2 * 2) = 1 then
            (ck 3 M x0).bind fun _ =>
            (fX3_signAt M x0 x1 x5).bind fun w40 =>
            fX3_has_8 M x0 x1 x2 k98 n (if x3 = 0 then (if (-w40) ≤ 0 then 0 else 1) else 1) (if x4 = 0 then (if 0 ≤ (-w40) then 0 else 1) else 1) (x5 + 1)
          else
            (ck 3 M x0).bind fun _ =>
            (fX3_signAt M x0 x1 x5).bind fun w47 =>
            fX3_has_8 M x0 x1 x2 k98 n (if x3 = 0 then (if w47 ≤ 0 then 0 else 1) else 1) (if x4 = 0 then (if 0 ≤ w47 then 0 else 1) else 1) (x5 + 1)
def fX3_has (M : Mem) (a0 : Option Nat) (a1 : Int32) (a2 : Int32) : Option (Int32) :=
  fX3_has_8 M a0 a1 a2
    (fun x54 x55 x56 =>
      some (if x54 = x55 then 1 else 0))
    FU 0 0 0
def fX3_isRoot (M : Mem) (a0 : Option Nat) (a1 : Int32) (a2 : Int32) : Option (Mem × Int32) :=
  (pI 3 0 M a0 0).bind fun M1 =>
  (fX3_isPoly M1 a1).bind fun w2 =>
  if w2 = 0 then
    (ck 3 M1 a0).bind fun _ =>
    (fX3_fails M1 a0 1).bind fun w4 =>
    some (w4.1, w4.2)
  else
    (fX3_isSign M1 a2).bind fun w5 =>
    if w5 = 0 then
      (ck 3 M1 a0).bind fun _ =>
      (fX3_fails M1 a0 2).bind fun w7 =>
      some (w7.1, w7.2)
    else
      (ck 3 M1 a0).bind fun _ =>
      (fX3_has M1 a0 a1 a2).bind fun w8 =>
      some (M1, (if w8 = 0 then 0 else 1))
def fX3_times (M : Mem) (a0 : Option Nat) (a1 : Int32) (a2 : Int32) (a3 : Int32) : Option (Mem × Int32) :=
  (pI 3 0 M a0 0).bind fun M1 =>
  (fX3_isPoly M1 a1).bind fun w2 =>
  if w2 = 0 then
    (ck 3 M1 a0).bind fun _ =>
    (fX3_fails M1 a0 1).bind fun w4 =>
    some (w4.1, w4.2)
  else
    (fX3_isSign M1 a2).bind fun w5 =>
    if w5 = 0 then
      (ck 3 M1 a0).bind fun _ =>
      (fX3_fails M1 a0 2).bind fun w7 =>
      some (w7.1, w7.2)
    else
      (fX3_in M1 a3 0 1).bind fun w8 =>
      if w8 = 0 then
        (ck 3 M1 a0).bind fun _ =>
        (fX3_fails M1 a0 2).bind fun w10 =>
        some (w10.1, w10.2)
      else
        (ck 3 M1 a0).bind fun _ =>
        (fX3_often M1 a0 a1 a2).bind fun w11 =>
        some (w11.1, w11.2)
def fX3_quotients (M : Mem) (a0 : Option Nat) (a1 : Int32) (a2 : Int32) : Option (Mem × Int32) :=
  (pI 3 0 M a0 0).bind fun M1 =>
  (fX3_isPoly M1 a1).bind fun w2 =>
  if w2 = 0 then
    (ck 3 M1 a0).bind fun _ =>
    (fX3_fails M1 a0 1).bind fun w4 =>
    some (w4.1, w4.2)
  else
    (fX3_isSign M1 a2).bind fun w5 =>
    if w5 = 0 then
      (ck 3 M1 a0).bind fun _ =>
      (fX3_fails M1 a0 2).bind fun w7 =>
      some (w7.1, w7.2)
    else
      (ck 3 M1 a0).bind fun _ =>
      (fX3_divides M1 a0 a1 a2).bind fun w8 =>
      some (w8.1, w8.2)
def fX3_bestForm (M : Mem) (a0 : Option Nat) (a1 : Int32) (a2 : Int32) : Option (Mem × Int32) :=
  (ck 3 M a0).bind fun _ =>
  (fX3_divides M a0 a1 a2).bind fun w1 =>
  if w1.2 = 0 then
    some (w1.1, (-9))
  else
    (gR 3 9 w1.1 a0).bind fun v3 =>
    (fX3_form w1.1 v3).bind fun w4 =>
    some (w1.1, w4)
def fX3_best (M : Mem) (a0 : Option Nat) (a1 : Int32) (a2 : Int32) : Option (Mem × Int32) :=
  (pI 3 0 M a0 0).bind fun M1 =>
  (fX3_isPoly M1 a1).bind fun w2 =>
  if w2 = 0 then
    (ck 3 M1 a0).bind fun _ =>
    (fX3_fails M1 a0 1).bind fun w4 =>
    some (w4.1, w4.2)
  else
    (fX3_isSign M1 a2).bind fun w5 =>
    if w5 = 0 then
      (ck 3 M1 a0).bind fun _ =>
      (fX3_fails M1 a0 2).bind fun w7 =>
      some (w7.1, w7.2)
    else
      (ck 3 M1 a0).bind fun _ =>
      (fX3_bestForm M1 a0 a1 a2).bind fun w8 =>
      some (w8.1, w8.2)
def fX3_hasProduct_6 (M : Mem) (x0 : Option Nat) (x1 : Int32) (x2 : Int32) (x3 : Int32) (x4 : Int32) (k52 : Int32 → Int32 → Option (Int32)) : Nat → Int32 → Int32 → Option (Int32)
  | 0, _, _ => none
  | n + 1, x5, x6 =>
    if x3 < x6 then
      k52 x5 x6
    else
      if x5 = 0 then
        (ck 3 M x0).bind fun _ =>
        (fX3_signAt M x0 x1 x6).bind fun w3 =>
        (ck 3 M x0).bind fun _ =>
        (fX3_signAt M x0 x2 (x3 - x6)).bind fun w4 =>
        fX3_hasProduct_6 M x0 x1 x2 x3 x4 k52 n (if (w3 * w4) = x4 then 1 else 0) (x6 + 1)
      else
        fX3_hasProduct_6 M x0 x1 x2 x3 x4 k52 n 1 (x6 + 1)
def fX3_hasProduct (M : Mem) (a0 : Option Nat) (a1 : Int32) (a2 : Int32) (a3 : Int32) (a4 : Int32) : Option (Int32) :=
  fX3_hasProduct_6 M a0 a1 a2 a3 a4
    (fun x7 x8 =>
      chk (zb x7) <|
      some x7)
    FU 0 0
def fX3_isThree (M : Mem) (a0 : Option Nat) (a1 : Int32) (a2 : Int32) (a3 : Int32) (a4 : Int32) : Option (Int32) :=
  if a4 = 0 then
    (ck 3 M a0).bind fun _ =>
    (fX3_signAt M a0 a1 a3).bind fun w2 =>
    (ck 3 M a0).bind fun _ =>
    (fX3_signAt M a0 a2 a3).bind fun w3 =>
    some (if 0 ≤ (w2 * w3) then 0 else 1)
  else
    (ck 3 M a0).bind fun _ =>
    (fX3_hasProduct M a0 a1 a2 a3 1).bind fun w6 =>
    if w6 = 0 then
      some 0
    else
      (ck 3 M a0).bind fun _ =>
      (fX3_hasProduct M a0 a1 a2 a3 (-1)).bind fun w8 =>
      some (if w8 = 0 then 0 else 1)
def fX3_only (M : Mem) (a0 : Option Nat) (a1 : Int32) (a2 : Int32) (a3 : Int32) (a4 : Int32) : Option (Int32) :=
  if a4 = 0 then
    (ck 3 M a0).bind fun _ =>
    (fX3_signAt M a0 a1 a3).bind fun w2 =>
    if w2 = 0 then
      (ck 3 M a0).bind fun _ =>
      (fX3_signAt M a0 a2 a3).bind fun w4 =>
      some w4
    else
      (ck 3 M a0).bind fun _ =>
      (fX3_signAt M a0 a1 a3).bind fun w5 =>
      some w5
  else
    (ck 3 M a0).bind fun _ =>
    (fX3_hasProduct M a0 a1 a2 a3 1).bind fun w6 =>
    if w6 = 0 then
      (ck 3 M a0).bind fun _ =>
      (fX3_hasProduct M a0 a1 a2 a3 (-1)).bind fun w8 =>
      some (if w8 = 0 then 0 else (-1))
    else
      some 1
def fX3_isTooHigh (M : Mem) (a0 : Option Nat) (a1 : Int32) (a2 : Int32) (a3 : Int32) : Option (Int32) :=
  if a3 = 1 then
    (ck 3 M a0).bind fun _ =>
    (fX3_degree M a0 a1).bind fun w2 =>
    (ck 3 M a0).bind fun _ =>
    (fX3_degree M a0 a2).bind fun w3 =>
    some (if (w2 + w3) ≤ 8 then 0 else 1)
  else
    some 0
def fX3_rows_19 (M : Mem) (x0 : Option Nat) (x1 : Int32) (x2 : Int32) (x3 : Int32) (k54 : Int32 → Int32 → Option (Int32)) : Nat → Int32 → Int32 → Option (Int32)
  | 0, _, _ => none
  | n + 1, x4, x5 =>
    if 9 ≤ x5 then
      k54 x4 x5
    else
      (ck 3 M x0).bind fun _ =>
      (fX3_isThree M x0 x1 x2 x5 x3).bind fun w4 =>
      fX3_rows_19 M x0 x1 x2 x3 k54 n (x4 * (if w4 = 0 then 1 else 3)) (x5 + 1)
def fX3_rows (M : Mem) (a0 : Option Nat) (a1 : Int32) (a2 : Int32) (a3 : Int32) : Option (Int32) :=
  (ck 3 M a0).bind fun _ =>
  (fX3_isTooHigh M a0 a1 a2 a3).bind fun w1 =>
  if w1 = 0 then
    fX3_rows_19 M a0 a1 a2 a3
      (fun x7 x8 =>
        some x7)
      FU 1 0
  else
    some (-9)
def fX3_many (M : Mem) (a0 : Option Nat) (a1 : Int32) (a2 : Int32) (a3 : Int32) : Option (Mem × Int32) :=
  (pI 3 0 M a0 0).bind fun M1 =>
  (fX3_isPoly M1 a1).bind fun w2 =>
  if w2 = 0 then
    (ck 3 M1 a0).bind fun _ =>
    (fX3_fails M1 a0 1).bind fun w4 =>
    some (w4.1, w4.2)
  else
    (fX3_isPoly M1 a2).bind fun w5 =>
    if w5 = 0 then
      (ck 3 M1 a0).bind fun _ =>
      (fX3_fails M1 a0 1).bind fun w7 =>
      some (w7.1, w7.2)
    else
      (fX3_in M1 a3 0 1).bind fun w8 =>
      if w8 = 0 then
        (ck 3 M1 a0).bind fun _ =>
        (fX3_fails M1 a0 2).bind fun w10 =>
        some (w10.1, w10.2)
      else
        (ck 3 M1 a0).bind fun _ =>
        (fX3_rows M1 a0 a1 a2 a3).bind fun w11 =>
        some (M1, w11)
def fX3_isAmong_21 (M : Mem) (x0 : Option Nat) (x1 : Int32) (x2 : Int32) (x3 : Int32) (x4 : Int32) (k79 : Int32 → Int32 → Option (Int32)) : Nat → Int32 → Int32 → Option (Int32)
  | 0, _, _ => none
  | n + 1, x5, x6 =>
    if 9 ≤ x6 then
      k79 x5 x6
    else
      if x5 = 0 then
        fX3_isAmong_21 M x0 x1 x2 x3 x4 k79 n 0 (x6 + 1)
      else
        (ck 3 M x0).bind fun _ =>
        (fX3_isThree M x0 x2 x3 x6 x4).bind fun w4 =>
        if w4 = 0 then
          (ck 3 M x0).bind fun _ =>
          (fX3_signAt M x0 x1 x6).bind fun w6 =>
          (ck 3 M x0).bind fun _ =>
          (fX3_only M x0 x2 x3 x6 x4).bind fun w7 =>
          fX3_isAmong_21 M x0 x1 x2 x3 x4 k79 n (if w6 = w7 then 1 else 0) (x6 + 1)
        else
          fX3_isAmong_21 M x0 x1 x2 x3 x4 k79 n 1 (x6 + 1)
def fX3_isAmong (M : Mem) (a0 : Option Nat) (a1 : Int32) (a2 : Int32) (a3 : Int32) (a4 : Int32) : Option (Int32) :=
  (ck 3 M a0).bind fun _ =>
  (fX3_isTooHigh M a0 a2 a3 a4).bind fun w1 =>
  fX3_isAmong_21 M a0 a1 a2 a3 a4
    (fun x10 x11 =>
      chk (zb x10) <|
      some x10)
    FU (if w1 = 0 then 1 else 0) 0
def fX3_isIn (M : Mem) (a0 : Option Nat) (a1 : Int32) (a2 : Int32) (a3 : Int32) (a4 : Int32) : Option (Mem × Int32) :=
  (pI 3 0 M a0 0).bind fun M1 =>
  (fX3_isPoly M1 a1).bind fun w2 =>
  if w2 = 0 then
    (ck 3 M1 a0).bind fun _ =>
    (fX3_fails M1 a0 1).bind fun w4 =>
    some (w4.1, w4.2)
  else
    (fX3_isPoly M1 a2).bind fun w5 =>
    if w5 = 0 then
      (ck 3 M1 a0).bind fun _ =>
      (fX3_fails M1 a0 1).bind fun w7 =>
      some (w7.1, w7.2)
    else
      (fX3_isPoly M1 a3).bind fun w8 =>
      if w8 = 0 then
        (ck 3 M1 a0).bind fun _ =>
        (fX3_fails M1 a0 1).bind fun w10 =>
        some (w10.1, w10.2)
      else
        (fX3_in M1 a4 0 1).bind fun w11 =>
        if w11 = 0 then
          (ck 3 M1 a0).bind fun _ =>
          (fX3_fails M1 a0 2).bind fun w13 =>
          some (w13.1, w13.2)
        else
          (ck 3 M1 a0).bind fun _ =>
          (fX3_isAmong M1 a0 a1 a2 a3 a4).bind fun w14 =>
          some (M1, (if w14 = 0 then 0 else 1))
def fX3_coefficient (M : Mem) (a0 : Option Nat) (a1 : Int32) : Option (Mem × Int64) :=
  (pI 3 0 M a0 0).bind fun M1 =>
  (fX3_in M1 a1 0 8).bind fun w2 =>
  if w2 = 0 then
    (ck 3 M1 a0).bind fun _ =>
    (fX3_fails M1 a0 1).bind fun w4 =>
    some (w4.1, w4.2.toInt64)
  else
    (ck 3 M1 a0).bind fun _ =>
    (fX3_multiplies M1 a0).bind fun w5 =>
    (gR 3 11 w5 a0).bind fun v6 =>
    (aJ w5 v6 a1).bind fun v7 =>
    some (w5, v7)
def fX3_rootsOf_4 (M : Mem) (x0 : Option Nat) (x1 : Int32) (k63 : Int32 → Int32 → Option (Int32)) : Nat → Int32 → Int32 → Option (Int32)
  | 0, _, _ => none
  | n + 1, x2, x3 =>
    (gR 3 1 M x0).bind fun v1 =>
    (aI M v1 45).bind fun v2 =>
    if v2 ≤ x3 then
      k63 x2 x3
    else
      (gR 3 1 M x0).bind fun v4 =>
      (aI M v4 (46 + x3)).bind fun v5 =>
      fX3_rootsOf_4 M x0 x1 k63 n (x2 + (if ((if v5 ≤ 0 then (if 0 ≤ v5 then 3 else 2) else 1) : Int32) = x1 then 1 else 0)) (x3 + 1)
def fX3_rootsOf (M : Mem) (a0 : Option Nat) (a1 : Int32) : Option (Int32) :=
  fX3_rootsOf_4 M a0 a1
    (fun x11 x12 =>
      some x11)
    FU 0 0
def fX3_tellsCount_78 (M : Mem) (x0 : Option Nat) (x1 : Int32) (k106 : Int32 → Int32 → Option (Int32)) : Nat → Int32 → Int32 → Option (Int32)
  | 0, _, _ => none
  | n + 1, x2, x3 =>
    if 5 ≤ x3 then
      k106 x2 x3
    else
      (ck 3 M x0).bind fun _ =>
      (fX3_has M x0 x3 1).bind fun w12 =>
      fX3_tellsCount_78 M x0 x1 k106 n (x2 + (if w12 = 0 then 0 else 1)) (x3 + 1)
def fX3_tellsCount (M : Mem) (a0 : Option Nat) (a1 : Int32) : Option (Int32) :=
  if a1 = 0 then
    (gR 3 1 M a0).bind fun v2 =>
    (aI M v2 45).bind fun v3 =>
    some v3
  else
    if a1 = 1 then
      (ck 3 M a0).bind fun _ =>
      (fX3_rootsOf M a0 a1).bind fun w4 =>
      some w4
    else
      if a1 = 2 then
        (ck 3 M a0).bind fun _ =>
        (fX3_rootsOf M a0 a1).bind fun w5 =>
        some w5
      else
        if a1 = 3 then
          (ck 3 M a0).bind fun _ =>
          (fX3_rootsOf M a0 a1).bind fun w6 =>
          some w6
        else
          if a1 = 4 then
            (gR 3 1 M a0).bind fun v7 =>
            (aI M v7 54).bind fun v8 =>
            some v8
          else
            if a1 = 5 then
              (gR 3 1 M a0).bind fun v9 =>
              (aI M v9 55).bind fun v10 =>
              some v10
            else
              if a1 = 6 then
                fX3_tellsCount_78 M a0 a1
                  (fun x15 x16 =>
                    some x15)
                  FU 0 0
              else
                (gI 3 3 M a0).bind fun v1 =>
                some v1
def fX3_count (M : Mem) (a0 : Option Nat) (a1 : Int32) : Option (Mem × Int32) :=
  (pI 3 0 M a0 0).bind fun M1 =>
  (fX3_in M1 a1 0 7).bind fun w2 =>
  if w2 = 0 then
    (ck 3 M1 a0).bind fun _ =>
    (fX3_fails M1 a0 1).bind fun w4 =>
    some (w4.1, w4.2)
  else
    (ck 3 M1 a0).bind fun _ =>
    (fX3_tellsCount M1 a0 a1).bind fun w5 =>
    some (M1, w5)
def fX3_share (M : Mem) (a0 : Option Nat) (a1 : Int32) : Option (Mem × UInt64) :=
  (ck 3 M a0).bind fun _ =>
  (fX3_often M a0 a1 1).bind fun w1 =>
  (ck 3 w1.1 a0).bind fun _ =>
  (fX3_often w1.1 a0 a1 (-1)).bind fun w2 =>
  (ck 3 w2.1 a0).bind fun _ =>
  (fX3_often w2.1 a0 a1 0).bind fun w3 =>
  (ck 3 w3.1 a0).bind fun _ =>
  (fX3_degree w3.1 a0 a1).bind fun w4 =>
  if w4 = 0 then
    some (w3.1, FP.dconst1)
  else
    (ck 3 w3.1 a0).bind fun _ =>
    (fX3_degree w3.1 a0 a1).bind fun w6 =>
    chk (n64b (FP.ddiv (FP.i2d ((w1.2 + w2.2) + w3.2)) (FP.i2d w6))) <|
    some (w3.1, FP.ddiv (FP.i2d ((w1.2 + w2.2) + w3.2)) (FP.i2d w6))
def fX3_takenShare (M : Mem) (a0 : Option Nat) (a1 : Int32) : Option (Mem × UInt64) :=
  (pI 3 0 M a0 0).bind fun M1 =>
  (fX3_isPoly M1 a1).bind fun w2 =>
  if w2 = 0 then
    (ck 3 M1 a0).bind fun _ =>
    (fX3_fails M1 a0 1).bind fun w4 =>
    some (w4.1, FP.i2d w4.2)
  else
    (ck 3 M1 a0).bind fun _ =>
    (fX3_share M1 a0 a1).bind fun w5 =>
    some (w5.1, w5.2)
def fX3_hashes (M : Mem) (a0 : Option Nat) (a1 : Int64) : Option (Mem) :=
  (gJ 3 12 M a0).bind fun v1 =>
  (pJ 3 12 M a0 ((31 * v1) + a1)).bind fun M2 =>
  some M2
def fJxe99ae_isNaN_b9ae7 (M : Mem) (a0 : UInt64) : Option (Int32) :=
  some (if (Op.cmpValue (FP.dcmp a0 a0) .l) = 0 then 0 else 1)
def fJxe99ae_doubleToLongBits_ccdee (M : Mem) (a0 : UInt64) : Option (Int64) :=
  (fJxe99ae_isNaN_b9ae7 M a0).bind fun w1 =>
  if w1 = 0 then
    some a0.toInt64
  else
    some 9221120237041090560
def fX3_hashesPoly_2 (x0 : Option Nat) (x1 : Int32) (k24 : Mem → Int32 → Option (Mem)) : Nat → Mem → Int32 → Option (Mem)
  | 0, _, _ => none
  | n + 1, M, x2 =>
    if 4 ≤ x2 then
      k24 M x2
    else
      (ck 3 M x0).bind fun _ =>
      (fX3_tells M x0 x1 x2).bind fun w2 =>
      (ck 3 w2.1 x0).bind fun _ =>
      (fX3_hashes w2.1 x0 w2.2.toInt64).bind fun w3 =>
      fX3_hashesPoly_2 x0 x1 k24 n w3 (x2 + 1)
def fX3_hashesPoly_26 (x0 : Option Nat) (x1 : Int32) (k49 : Mem → Int32 → Option (Mem)) : Nat → Mem → Int32 → Option (Mem)
  | 0, _, _ => none
  | n + 1, M, x2 =>
    if 9 ≤ x2 then
      k49 M x2
    else
      (ck 3 M x0).bind fun _ =>
      (fX3_signAt M x0 x1 x2).bind fun w7 =>
      (ck 3 M x0).bind fun _ =>
      (fX3_hashes M x0 w7.toInt64).bind fun w8 =>
      fX3_hashesPoly_26 x0 x1 k49 n w8 (x2 + 1)
def fX3_hashesPoly_51 (x0 : Option Nat) (x1 : Int32) (k137 : Mem → Int32 → Option (Mem)) : Nat → Mem → Int32 → Option (Mem)
  | 0, _, _ => none
  | n + 1, M, x2 =>
    if 2 ≤ x2 then
      k137 M x2
    else
      (ck 3 M x0).bind fun _ =>
      (fX3_has M x0 x1 x2).bind fun w12 =>
      (ck 3 M x0).bind fun _ =>
      (fX3_hashes M x0 (if w12 = 0 then 0 else 1)).bind fun w13 =>
      (ck 3 w13 x0).bind fun _ =>
      (fX3_often w13 x0 x1 x2).bind fun w14 =>
      (ck 3 w14.1 x0).bind fun _ =>
      (fX3_hashes w14.1 x0 w14.2.toInt64).bind fun w15 =>
      (ck 3 w15 x0).bind fun _ =>
      (fX3_often w15 x0 x1 x2).bind fun w16 =>
      (ck 3 w16.1 x0).bind fun _ =>
      (fX3_hashes w16.1 x0 w16.2.toInt64).bind fun w17 =>
      (ck 3 w17 x0).bind fun _ =>
      (fX3_divides w17 x0 x1 x2).bind fun w18 =>
      (ck 3 w18.1 x0).bind fun _ =>
      (fX3_hashes w18.1 x0 w18.2.toInt64).bind fun w19 =>
      if w18.2 = 0 then
        (ck 3 w19 x0).bind fun _ =>
        (fX3_hashes w19 x0 (-9)).bind fun w21 =>
        fX3_hashesPoly_51 x0 x1 k137 n w21 (x2 + 1)
      else
        (gR 3 9 w19 x0).bind fun v22 =>
        (fX3_form w19 v22).bind fun w23 =>
        (ck 3 w19 x0).bind fun _ =>
        (fX3_hashes w19 x0 w23.toInt64).bind fun w24 =>
        fX3_hashesPoly_51 x0 x1 k137 n w24 (x2 + 1)
def fX3_hashesPoly (M : Mem) (a0 : Option Nat) (a1 : Int32) : Option (Mem) :=
  fX3_hashesPoly_2 a0 a1
    (fun M4 x5 =>
      fX3_hashesPoly_26 a0 a1
        (fun M9 x10 =>
          fX3_hashesPoly_51 a0 a1
            (fun M27 x28 =>
              (ck 3 M27 a0).bind fun _ =>
              (fX3_share M27 a0 a1).bind fun w29 =>
              (fJxe99ae_doubleToLongBits_ccdee w29.1 w29.2).bind fun w30 =>
              (ck 3 w29.1 a0).bind fun _ =>
              (fX3_hashes w29.1 a0 w30).bind fun w31 =>
              some w31)
            FU M9 (-1))
        FU M4 0)
    FU M 0
def fX3_digest_14 (x0 : Option Nat) (k36 : Mem → Int32 → Option (Mem × Int64)) : Nat → Mem → Int32 → Option (Mem × Int64)
  | 0, _, _ => none
  | n + 1, M, x1 =>
    if 8 ≤ x1 then
      k36 M x1
    else
      (ck 3 M x0).bind fun _ =>
      (fX3_tellsCount M x0 x1).bind fun w4 =>
      (ck 3 M x0).bind fun _ =>
      (fX3_hashes M x0 w4.toInt64).bind fun w5 =>
      fX3_digest_14 x0 k36 n w5 (x1 + 1)
def fX3_digest_38 (x0 : Option Nat) (k54 : Mem → Int32 → Option (Mem × Int64)) : Nat → Mem → Int32 → Option (Mem × Int64)
  | 0, _, _ => none
  | n + 1, M, x1 =>
    if 5 ≤ x1 then
      k54 M x1
    else
      (ck 3 M x0).bind fun _ =>
      (fX3_hashesPoly M x0 x1).bind fun w9 =>
      fX3_digest_38 x0 k54 n w9 (x1 + 1)
def fX3_digest_56 (x0 : Option Nat) (k100 : Mem → Int32 → Option (Mem × Int64)) : Nat → Mem → Int32 → Option (Mem × Int64)
  | 0, _, _ => none
  | n + 1, M, x1 =>
    if 25 ≤ x1 then
      k100 M x1
    else
      (ck 3 M x0).bind fun _ =>
      (fX3_rows M x0 (x1 / 5) (x1 - x1 / 5 * 5) 0).bind fun w13 =>
      (ck 3 M x0).bind fun _ =>
      (fX3_hashes M x0 w13.toInt64).bind fun w14 =>
      (ck 3 w14 x0).bind fun _ =>
      (fX3_rows w14 x0 (x1 / 5) (x1 - x1 / 5 * 5) 1).bind fun w15 =>
      (ck 3 w14 x0).bind fun _ =>
      (fX3_hashes w14 x0 w15.toInt64).bind fun w16 =>
      fX3_digest_56 x0 k100 n w16 (x1 + 1)
def fX3_digest_106 (x0 : Option Nat) (k128 : Mem → Int32 → Option (Mem × Int64)) : Nat → Mem → Int32 → Option (Mem × Int64)
  | 0, _, _ => none
  | n + 1, M, x1 =>
    if 9 ≤ x1 then
      k128 M x1
    else
      (gR 3 11 M x0).bind fun v21 =>
      (aJ M v21 x1).bind fun v22 =>
      (ck 3 M x0).bind fun _ =>
      (fX3_hashes M x0 v22).bind fun w23 =>
      fX3_digest_106 x0 k128 n w23 (x1 + 1)
def fX3_digest_130 (x0 : Option Nat) (k161 : Mem → Int32 → Option (Mem × Int64)) : Nat → Mem → Int32 → Option (Mem × Int64)
  | 0, _, _ => none
  | n + 1, M, x1 =>
    (gR 3 1 M x0).bind fun v26 =>
    (aI M v26 45).bind fun v27 =>
    if v27 ≤ x1 then
      k161 M x1
    else
      (gR 3 1 M x0).bind fun v29 =>
      (aI M v29 (46 + x1)).bind fun v30 =>
      (ck 3 M x0).bind fun _ =>
      (fX3_hashes M x0 v30.toInt64).bind fun w31 =>
      fX3_digest_130 x0 k161 n w31 (x1 + 1)
def fX3_digest_208 (x0 : Option Nat) (k233 : Mem → Int32 → Option (Mem × Int64)) : Nat → Mem → Int32 → Option (Mem × Int64)
  | 0, _, _ => none
  | n + 1, M, x1 =>
    (gI 3 7 M x0).bind fun v42 =>
    if v42 ≤ x1 then
      k233 M x1
    else
      (gR 3 6 M x0).bind fun v44 =>
      (aI M v44 x1).bind fun v45 =>
      (ck 3 M x0).bind fun _ =>
      (fX3_hashes M x0 v45.toInt64).bind fun w46 =>
      fX3_digest_208 x0 k233 n w46 (x1 + 1)
def fX3_digest (M : Mem) (a0 : Option Nat) : Option (Mem × Int64) :=
  (pI 3 0 M a0 0).bind fun M1 =>
  (pJ 3 12 M1 a0 3623).bind fun M2 =>
  fX3_digest_14 a0
    (fun M6 x7 =>
      fX3_digest_38 a0
        (fun M10 x11 =>
          fX3_digest_56 a0
            (fun M17 x18 =>
              (ck 3 M17 a0).bind fun _ =>
              (fX3_multiplies M17 a0).bind fun w19 =>
              fX3_digest_106 a0
                (fun M24 x25 =>
                  fX3_digest_130 a0
                    (fun M32 x33 =>
                      (gR 3 5 M32 a0).bind fun v34 =>
                      (aZ M32 v34 0).bind fun v35 =>
                      (ck 3 M32 a0).bind fun _ =>
                      (fX3_hashes M32 a0 (if v35 = 0 then 0 else 1)).bind fun w36 =>
                      (gR 3 5 w36 a0).bind fun v37 =>
                      (aZ w36 v37 1).bind fun v38 =>
                      (ck 3 w36 a0).bind fun _ =>
                      (fX3_hashes w36 a0 (if v38 = 0 then 0 else 1)).bind fun w39 =>
                      (gI 3 7 w39 a0).bind fun v40 =>
                      (ck 3 w39 a0).bind fun _ =>
                      (fX3_hashes w39 a0 v40.toInt64).bind fun w41 =>
                      fX3_digest_208 a0
                        (fun M47 x48 =>
                          (gJ 3 12 M47 a0).bind fun v49 =>
                          some (M47, v49))
                        FU w41 0)
                    FU M24 0)
                FU w19 0)
            FU M10 0)
        FU M6 0)
    FU M2 0
def fL_put (M : Mem) (a0 : Option Nat) (a1 : Int32) (a2 : Int32) (a3 : Int32) (a4 : Option Nat) : Option (Mem × Int32) :=
  (ck 2 M a0).bind fun _ =>
  (fX2_put M a0 a1 a2 a3).bind fun w1 =>
  thrE w1.2 (fun E =>
      if E = "java/lang/IndexOutOfBoundsException" then
        some (w1.1, 1)
      else
        if E = "java/lang/IllegalArgumentException" then
          some (w1.1, 2)
        else
          none
    ) fun v2 =>
  (wJ w1.1 a4 0 v2.toInt64).bind fun M3 =>
  some (M3, 0)
def fL_copy (M : Mem) (a0 : Option Nat) (a1 : Int32) (a2 : Int32) (a3 : Option Nat) : Option (Mem × Int32) :=
  (ck 2 M a0).bind fun _ =>
  (fX2_copy M a0 a1 a2).bind fun w1 =>
  thrE w1.2 (fun E =>
      if E = "java/lang/IndexOutOfBoundsException" then
        some (w1.1, 1)
      else
        none
    ) fun v2 =>
  (wJ w1.1 a3 0 v2.toInt64).bind fun M3 =>
  some (M3, 0)
def fL_divide (M : Mem) (a0 : Option Nat) (a1 : Int32) (a2 : Int32) (a3 : Option Nat) : Option (Mem × Int32) :=
  (ck 2 M a0).bind fun _ =>
  (fX2_divide M a0 a1 a2).bind fun w1 =>
  thrE w1.2 (fun E =>
      if E = "java/lang/IndexOutOfBoundsException" then
        some (w1.1, 1)
      else
        if E = "java/lang/IllegalArgumentException" then
          some (w1.1, 2)
        else
          none
    ) fun v2 =>
  (wJ w1.1 a3 0 v2.toInt64).bind fun M3 =>
  some (M3, 0)
def fL_root (M : Mem) (a0 : Option Nat) (a1 : Int32) (a2 : Option Nat) : Option (Mem × Int32) :=
  (ck 2 M a0).bind fun _ =>
  (fX2_root M a0 a1).bind fun w1 =>
  thrE w1.2 (fun E =>
      if E = "java/lang/IllegalArgumentException" then
        some (w1.1, 1)
      else
        none
    ) fun v2 =>
  (wJ w1.1 a2 0 v2.toInt64).bind fun M3 =>
  some (M3, 0)
def fL_lower (M : Mem) (a0 : Option Nat) (a1 : Int32) (a2 : Option Nat) : Option (Mem × Int32) :=
  (ck 2 M a0).bind fun _ =>
  (fX2_lower M a0 a1).bind fun w1 =>
  thrE w1.2 (fun E =>
      if E = "java/lang/IndexOutOfBoundsException" then
        some (w1.1, 1)
      else
        none
    ) fun v2 =>
  (wJ w1.1 a2 0 v2.toInt64).bind fun M3 =>
  some (M3, 0)
def fL_append (M : Mem) (a0 : Option Nat) (a1 : Int32) (a2 : Option Nat) : Option (Mem × Int32) :=
  (ck 2 M a0).bind fun _ =>
  (fX2_append M a0 a1).bind fun w1 =>
  thrE w1.2 (fun E =>
      if E = "java/lang/IllegalArgumentException" then
        some (w1.1, 1)
      else
        if E = "java/lang/IllegalStateException" then
          some (w1.1, 2)
        else
          none
    ) fun v2 =>
  (wJ w1.1 a2 0 v2.toInt64).bind fun M3 =>
  some (M3, 0)
def fL_load (M : Mem) (a0 : Option Nat) (a1 : Int32) (a2 : Option Nat) : Option (Mem × Int32) :=
  (ck 2 M a0).bind fun _ =>
  (fX2_load M a0 a1).bind fun w1 =>
  thrE w1.2 (fun E =>
      if E = "java/lang/IndexOutOfBoundsException" then
        some (w1.1, 1)
      else
        if E = "java/lang/IllegalArgumentException" then
          some (w1.1, 2)
        else
          none
    ) fun v2 =>
  (wJ w1.1 a2 0 v2.toInt64).bind fun M3 =>
  some (M3, 0)
def fL_keep (M : Mem) (a0 : Option Nat) (a1 : Int32) (a2 : Option Nat) : Option (Mem × Int32) :=
  (ck 2 M a0).bind fun _ =>
  (fX2_keep M a0 a1).bind fun w1 =>
  thrE w1.2 (fun E =>
      if E = "java/lang/IllegalArgumentException" then
        some (w1.1, 1)
      else
        none
    ) fun v2 =>
  (wJ w1.1 a2 0 v2.toInt64).bind fun M3 =>
  some (M3, 0)
def fL_goBack (M : Mem) (a0 : Option Nat) (a1 : Int32) (a2 : Option Nat) : Option (Mem × Int32) :=
  (ck 2 M a0).bind fun _ =>
  (fX2_goBack M a0 a1).bind fun w1 =>
  thrE w1.2 (fun E =>
      if E = "java/lang/IllegalArgumentException" then
        some (w1.1, 1)
      else
        if E = "java/lang/IllegalStateException" then
          some (w1.1, 2)
        else
          none
    ) fun v2 =>
  (wJ w1.1 a2 0 v2.toInt64).bind fun M3 =>
  some (M3, 0)
def fL_undo (M : Mem) (a0 : Option Nat) (a1 : Option Nat) : Option (Mem × Int32) :=
  (ck 2 M a0).bind fun _ =>
  (fX2_undo M a0).bind fun w1 =>
  thrE w1.2 (fun E =>
      if E = "java/lang/IllegalStateException" then
        some (w1.1, 1)
      else
        none
    ) fun v2 =>
  (wJ w1.1 a1 0 v2.toInt64).bind fun M3 =>
  some (M3, 0)
def fL_sign (M : Mem) (a0 : Option Nat) (a1 : Int32) (a2 : Int32) (a3 : Option Nat) : Option (Mem × Int32) :=
  (ck 2 M a0).bind fun _ =>
  (fX2_sign M a0 a1 a2).bind fun w1 =>
  thrE w1 (fun E =>
      if E = "java/lang/IndexOutOfBoundsException" then
        some (M, 1)
      else
        if E = "java/lang/IllegalArgumentException" then
          some (M, 2)
        else
          none
    ) fun v2 =>
  (wJ M a3 0 v2.toInt64).bind fun M3 =>
  some (M3, 0)
def fL_of (M : Mem) (a0 : Option Nat) (a1 : Int32) (a2 : Int32) (a3 : Option Nat) : Option (Mem × Int32) :=
  (ck 2 M a0).bind fun _ =>
  (fX2_of M a0 a1 a2).bind fun w1 =>
  thrE w1 (fun E =>
      if E = "java/lang/IndexOutOfBoundsException" then
        some (M, 1)
      else
        if E = "java/lang/IllegalArgumentException" then
          some (M, 2)
        else
          none
    ) fun v2 =>
  (wJ M a3 0 v2.toInt64).bind fun M3 =>
  some (M3, 0)
def fL_isRoot (M : Mem) (a0 : Option Nat) (a1 : Int32) (a2 : Int32) (a3 : Option Nat) : Option (Mem × Int32) :=
  (ck 2 M a0).bind fun _ =>
  (fX2_isRoot M a0 a1 a2).bind fun w1 =>
  thrE w1 (fun E =>
      if E = "java/lang/IndexOutOfBoundsException" then
        some (M, 1)
      else
        if E = "java/lang/IllegalArgumentException" then
          some (M, 2)
        else
          none
    ) fun v2 =>
  (wJ M a3 0 v2.toInt64).bind fun M3 =>
  some (M3, 0)
def fL_times (M : Mem) (a0 : Option Nat) (a1 : Int32) (a2 : Int32) (a3 : Int32) (a4 : Option Nat) : Option (Mem × Int32) :=
  (ck 2 M a0).bind fun _ =>
  (fX2_times M a0 a1 a2 a3).bind fun w1 =>
  thrE w1.2 (fun E =>
      if E = "java/lang/IndexOutOfBoundsException" then
        some (w1.1, 1)
      else
        if E = "java/lang/IllegalArgumentException" then
          some (w1.1, 2)
        else
          none
    ) fun v2 =>
  (wJ w1.1 a4 0 v2.toInt64).bind fun M3 =>
  some (M3, 0)
def fL_quotients (M : Mem) (a0 : Option Nat) (a1 : Int32) (a2 : Int32) (a3 : Option Nat) : Option (Mem × Int32) :=
  (ck 2 M a0).bind fun _ =>
  (fX2_quotients M a0 a1 a2).bind fun w1 =>
  thrE w1.2 (fun E =>
      if E = "java/lang/IndexOutOfBoundsException" then
        some (w1.1, 1)
      else
        if E = "java/lang/IllegalArgumentException" then
          some (w1.1, 2)
        else
          none
    ) fun v2 =>
  (wJ w1.1 a3 0 v2.toInt64).bind fun M3 =>
  some (M3, 0)
def fL_best (M : Mem) (a0 : Option Nat) (a1 : Int32) (a2 : Int32) (a3 : Option Nat) : Option (Mem × Int32) :=
  (ck 2 M a0).bind fun _ =>
  (fX2_best M a0 a1 a2).bind fun w1 =>
  thrE w1.2 (fun E =>
      if E = "java/lang/IndexOutOfBoundsException" then
        some (w1.1, 1)
      else
        if E = "java/lang/IllegalArgumentException" then
          some (w1.1, 2)
        else
          none
    ) fun v2 =>
  (wJ w1.1 a3 0 v2.toInt64).bind fun M3 =>
  some (M3, 0)
def fL_many (M : Mem) (a0 : Option Nat) (a1 : Int32) (a2 : Int32) (a3 : Int32) (a4 : Option Nat) : Option (Mem × Int32) :=
  (ck 2 M a0).bind fun _ =>
  (fX2_many M a0 a1 a2 a3).bind fun w1 =>
  thrE w1 (fun E =>
      if E = "java/lang/IndexOutOfBoundsException" then
        some (M, 1)
      else
        if E = "java/lang/IllegalArgumentException" then
          some (M, 2)
        else
          none
    ) fun v2 =>
  (wJ M a4 0 v2.toInt64).bind fun M3 =>
  some (M3, 0)
def fL_isIn (M : Mem) (a0 : Option Nat) (a1 : Int32) (a2 : Int32) (a3 : Int32) (a4 : Int32) (a5 : Option Nat) : Option (Mem × Int32) :=
  (ck 2 M a0).bind fun _ =>
  (fX2_isIn M a0 a1 a2 a3 a4).bind fun w1 =>
  thrE w1 (fun E =>
      if E = "java/lang/IndexOutOfBoundsException" then
        some (M, 1)
      else
        if E = "java/lang/IllegalArgumentException" then
          some (M, 2)
        else
          none
    ) fun v2 =>
  (wJ M a5 0 v2.toInt64).bind fun M3 =>
  some (M3, 0)
def fL_coefficient (M : Mem) (a0 : Option Nat) (a1 : Int32) (a2 : Option Nat) : Option (Mem × Int32) :=
  (ck 2 M a0).bind fun _ =>
  (fX2_coefficient M a0 a1).bind fun w1 =>
  thrE w1.2 (fun E =>
      if E = "java/lang/IllegalArgumentException" then
        some (w1.1, 1)
      else
        none
    ) fun v2 =>
  (wJ w1.1 a2 0 v2).bind fun M3 =>
  some (M3, 0)
def fL_count (M : Mem) (a0 : Option Nat) (a1 : Int32) (a2 : Option Nat) : Option (Mem × Int32) :=
  (ck 2 M a0).bind fun _ =>
  (fX2_count M a0 a1).bind fun w1 =>
  thrE w1 (fun E =>
      if E = "java/lang/IllegalArgumentException" then
        some (M, 1)
      else
        none
    ) fun v2 =>
  (wJ M a2 0 v2.toInt64).bind fun M3 =>
  some (M3, 0)
def fL_takenShare (M : Mem) (a0 : Option Nat) (a1 : Int32) (a2 : Option Nat) : Option (Mem × Int32) :=
  (ck 2 M a0).bind fun _ =>
  (fX2_takenShare M a0 a1).bind fun w1 =>
  thrE w1 (fun E =>
      if E = "java/lang/IndexOutOfBoundsException" then
        some (M, 1)
      else
        none
    ) fun v2 =>
  (wD M a2 0 v2).bind fun M3 =>
  some (M3, 0)
