def fL_A (xs : Nat → Int32) (L : Nat) (x1 : Option Nat) (x2 : Int32) (kn : Mem → Int32 → Int32 → Option (Mem × Int32)) (M : Mem) : Option (Mem × Int32) :=
  if 40 ≤ x2 then
    some (M, 1)
  else
    (fL_cell xs L M (2 * x2)).bind fun w2 =>
    (fL_cell xs L M ((2 * x2) + 1)).bind fun w3 =>
    (ck 2 M x1).bind fun _ =>
    (fX2_count M x1 7).bind fun w4 =>
    if w4 = 6 then
      (ck 2 M x1).bind fun _ =>
      (fX2_undo M x1).bind fun w6 =>
      (ck 2 w6.1 x1).bind fun _ =>
      (fX2_undo w6.1 x1).bind fun w7 =>
      kn w7.1 w2 w3
    else
      kn M w2 w3
def fL_B (x1 : Option Nat) (x2 : Int32) (x3 : Int32) (x4 : Int32) (kn : Mem → Int32 → Int64 → Int32 → Int64 → Option (Mem × Int32)) (M : Mem) : Option (Mem × Int32) :=
  (ck 2 M x1).bind fun _ =>
  (fX2_count M x1 7).bind fun w1 =>
  (ck 2 M x1).bind fun _ =>
  (fX2_count M x1 4).bind fun w2 =>
  (fL_told M x1).bind fun w3 =>
  (fL_act w3.1 x1 x3 x4).bind fun w4 =>
  (fL_told w4.1 x1).bind fun w5 =>
  (ck 2 w5.1 x1).bind fun _ =>
  (fX2_count w5.1 x1 7).bind fun w6 =>
  if w6 = (w1 + 1) then
    if (x3 &&& 15) ≤ 6 then
      kn w5.1 w1 w3.2 w4.2 w5.2
    else
      if 10 ≤ (x3 &&& 15) then
        kn w5.1 w1 w3.2 w4.2 w5.2
      else
        (ck 2 w5.1 x1).bind fun _ =>
        (fX2_count w5.1 x1 4).bind fun w10 =>
        if w10 = ((w2 + (if w4.2 = (-9) then 0 else 1)) : Int32) then
          kn w5.1 w1 w3.2 w4.2 w5.2
        else
          none
  else
    none
def fL_C (x1 : Option Nat) (x2 : Int32) (x3 : Int32) (x4 : Int32) (x5 : Int32) (x7 : Int64) (x9 : Int32) (x10 : Int64) (kn : Mem → Option (Mem × Int32)) (M : Mem) : Option (Mem × Int32) :=
  if ((x3 >>> ((10 : Int32) &&& 31)) &&& 1) = 0 then
    (ck 2 M x1).bind fun _ =>
    (fX2_undo M x1).bind fun w2 =>
    if w2.2 = x5 then
      (fL_told w2.1 x1).bind fun w4 =>
      if (lg_cmp w4.2 x7) = 0 then
        (fL_act w4.1 x1 x3 x4).bind fun w6 =>
        if w6.2 = x9 then
          (fL_told w6.1 x1).bind fun w8 =>
          if (lg_cmp w8.2 x10) = 0 then
            kn w8.1
          else
            none
        else
          none
      else
        none
    else
      none
  else
    kn M
def fL_D (x1 : Option Nat) (x2 : Int32) (x3 : Int32) (x4 : Int32) (kn : Mem → Int32 → Option (Mem × Int32)) (M : Mem) : Option (Mem × Int32) :=
  (fL_low M (x3 >>> ((4 : Int32) &&& 31)) 5).bind fun w1 =>
  (fL_low M (x4 >>> ((5 : Int32) &&& 31)) 5).bind fun w2 =>
  (fL_holds M x1 w1 w2).bind fun w3 =>
  if w3.2 = 0 then
    none
  else
    kn w3.1 (x2 + 1)
