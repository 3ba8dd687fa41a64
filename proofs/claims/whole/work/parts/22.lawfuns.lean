def fL_case0 (xs : Nat → Int32) (L : Nat) (x1 x2 x3 x4 : Option Nat) (x5 : Int32) (kn : Mem → Option (Mem × Int32)) (M : Mem) : Option (Mem × Int32) :=
  (sc xs L (x5 + 1)).bind fun v1 =>
  (sc xs L (x5 + 2)).bind fun v2 =>
  (sc xs L (x5 + 3)).bind fun v3 =>
  (fL_put M x1 v1 v2 v3 x3).bind fun w4 =>
  (sc xs L (x5 + 1)).bind fun v5 =>
  (sc xs L (x5 + 2)).bind fun v6 =>
  (sc xs L (x5 + 3)).bind fun v7 =>
  (ck 3 w4.1 x2).bind fun _ =>
  (fX3_put w4.1 x2 v5 v6 v7).bind fun w8 =>
  (ck 3 w8.1 x2).bind fun _ =>
  (fX3_thrown w8.1 x2).bind fun w9 =>
  if w9 = w4.2 then
    if w4.2 = 0 then
      (aJ w8.1 x3 0).bind fun v12 =>
      if (lg_cmp v12 w8.2.toInt64) = 0 then
        kn w8.1
      else
        some (w8.1, 0)
    else
      kn w8.1
  else
    some (w8.1, 0)
def fL_case1 (xs : Nat → Int32) (L : Nat) (x1 x2 x3 x4 : Option Nat) (x5 : Int32) (kn : Mem → Option (Mem × Int32)) (M : Mem) : Option (Mem × Int32) :=
  (sc xs L (x5 + 1)).bind fun v14 =>
  (sc xs L (x5 + 2)).bind fun v15 =>
  (fL_copy M x1 v14 v15 x3).bind fun w16 =>
  (sc xs L (x5 + 1)).bind fun v17 =>
  (sc xs L (x5 + 2)).bind fun v18 =>
  (ck 3 w16.1 x2).bind fun _ =>
  (fX3_copy w16.1 x2 v17 v18).bind fun w19 =>
  (ck 3 w19.1 x2).bind fun _ =>
  (fX3_thrown w19.1 x2).bind fun w20 =>
  if w20 = w16.2 then
    if w16.2 = 0 then
      (aJ w19.1 x3 0).bind fun v23 =>
      if (lg_cmp v23 w19.2.toInt64) = 0 then
        kn w19.1
      else
        some (w19.1, 0)
    else
      kn w19.1
  else
    some (w19.1, 0)
def fL_case2 (xs : Nat → Int32) (L : Nat) (x1 x2 x3 x4 : Option Nat) (x5 : Int32) (kn : Mem → Option (Mem × Int32)) (M : Mem) : Option (Mem × Int32) :=
  (sc xs L (x5 + 1)).bind fun v25 =>
  (sc xs L (x5 + 2)).bind fun v26 =>
  (fL_divide M x1 v25 v26 x3).bind fun w27 =>
  (sc xs L (x5 + 1)).bind fun v28 =>
  (sc xs L (x5 + 2)).bind fun v29 =>
  (ck 3 w27.1 x2).bind fun _ =>
  (fX3_divide w27.1 x2 v28 v29).bind fun w30 =>
  (ck 3 w30.1 x2).bind fun _ =>
  (fX3_thrown w30.1 x2).bind fun w31 =>
  if w31 = w27.2 then
    if w27.2 = 0 then
      (aJ w30.1 x3 0).bind fun v34 =>
      if (lg_cmp v34 w30.2.toInt64) = 0 then
        kn w30.1
      else
        some (w30.1, 0)
    else
      kn w30.1
  else
    some (w30.1, 0)
def fL_case3 (xs : Nat → Int32) (L : Nat) (x1 x2 x3 x4 : Option Nat) (x5 : Int32) (kn : Mem → Option (Mem × Int32)) (M : Mem) : Option (Mem × Int32) :=
  (sc xs L (x5 + 1)).bind fun v36 =>
  (fL_root M x1 v36 x3).bind fun w37 =>
  (sc xs L (x5 + 1)).bind fun v38 =>
  (ck 3 w37.1 x2).bind fun _ =>
  (fX3_root w37.1 x2 v38).bind fun w39 =>
  (ck 3 w39.1 x2).bind fun _ =>
  (fX3_thrown w39.1 x2).bind fun w40 =>
  if w40 = w37.2 then
    if w37.2 = 0 then
      (aJ w39.1 x3 0).bind fun v43 =>
      if (lg_cmp v43 w39.2.toInt64) = 0 then
        kn w39.1
      else
        some (w39.1, 0)
    else
      kn w39.1
  else
    some (w39.1, 0)
def fL_case4 (xs : Nat → Int32) (L : Nat) (x1 x2 x3 x4 : Option Nat) (x5 : Int32) (kn : Mem → Option (Mem × Int32)) (M : Mem) : Option (Mem × Int32) :=
  (ck 2 M x1).bind fun _ =>
  (fX2_unroot M x1).bind fun w45 =>
  (ck 3 w45.1 x2).bind fun _ =>
  (fX3_unroot w45.1 x2).bind fun w46 =>
  if w45.2 = w46.2 then
    kn w46.1
  else
    some (w46.1, 0)
def fL_case5 (xs : Nat → Int32) (L : Nat) (x1 x2 x3 x4 : Option Nat) (x5 : Int32) (kn : Mem → Option (Mem × Int32)) (M : Mem) : Option (Mem × Int32) :=
  (sc xs L (x5 + 1)).bind fun v48 =>
  (fL_lower M x1 v48 x3).bind fun w49 =>
  (sc xs L (x5 + 1)).bind fun v50 =>
  (ck 3 w49.1 x2).bind fun _ =>
  (fX3_lower w49.1 x2 v50).bind fun w51 =>
  (ck 3 w51.1 x2).bind fun _ =>
  (fX3_thrown w51.1 x2).bind fun w52 =>
  if w52 = w49.2 then
    if w49.2 = 0 then
      (aJ w51.1 x3 0).bind fun v55 =>
      if (lg_cmp v55 w51.2.toInt64) = 0 then
        kn w51.1
      else
        some (w51.1, 0)
    else
      kn w51.1
  else
    some (w51.1, 0)
def fL_case6 (xs : Nat → Int32) (L : Nat) (x1 x2 x3 x4 : Option Nat) (x5 : Int32) (kn : Mem → Option (Mem × Int32)) (M : Mem) : Option (Mem × Int32) :=
  (sc xs L (x5 + 1)).bind fun v57 =>
  (fL_append M x1 v57 x3).bind fun w58 =>
  (sc xs L (x5 + 1)).bind fun v59 =>
  (ck 3 w58.1 x2).bind fun _ =>
  (fX3_append w58.1 x2 v59).bind fun w60 =>
  (ck 3 w60.1 x2).bind fun _ =>
  (fX3_thrown w60.1 x2).bind fun w61 =>
  if w61 = w58.2 then
    if w58.2 = 0 then
      (aJ w60.1 x3 0).bind fun v64 =>
      if (lg_cmp v64 w60.2.toInt64) = 0 then
        kn w60.1
      else
        some (w60.1, 0)
    else
      kn w60.1
  else
    some (w60.1, 0)
def fL_case7 (xs : Nat → Int32) (L : Nat) (x1 x2 x3 x4 : Option Nat) (x5 : Int32) (kn : Mem → Option (Mem × Int32)) (M : Mem) : Option (Mem × Int32) :=
  (ck 2 M x1).bind fun _ =>
  (fX2_clearBuffer M x1).bind fun w66 =>
  (ck 3 w66.1 x2).bind fun _ =>
  (fX3_clearBuffer w66.1 x2).bind fun w67 =>
  if w66.2 = w67.2 then
    kn w67.1
  else
    some (w67.1, 0)
def fL_case8 (xs : Nat → Int32) (L : Nat) (x1 x2 x3 x4 : Option Nat) (x5 : Int32) (kn : Mem → Option (Mem × Int32)) (M : Mem) : Option (Mem × Int32) :=
  (ck 2 M x1).bind fun _ =>
  (fX2_firstError M x1).bind fun w69 =>
  (ck 3 M x2).bind fun _ =>
  (fX3_firstError M x2).bind fun w70 =>
  if w69 = w70.2 then
    kn w70.1
  else
    some (w70.1, 0)
def fL_case9 (xs : Nat → Int32) (L : Nat) (x1 x2 x3 x4 : Option Nat) (x5 : Int32) (kn : Mem → Option (Mem × Int32)) (M : Mem) : Option (Mem × Int32) :=
  (sc xs L (x5 + 1)).bind fun v72 =>
  (fL_load M x1 v72 x3).bind fun w73 =>
  (sc xs L (x5 + 1)).bind fun v74 =>
  (ck 3 w73.1 x2).bind fun _ =>
  (fX3_load w73.1 x2 v74).bind fun w75 =>
  (ck 3 w75.1 x2).bind fun _ =>
  (fX3_thrown w75.1 x2).bind fun w76 =>
  if w76 = w73.2 then
    if w73.2 = 0 then
      (aJ w75.1 x3 0).bind fun v79 =>
      if (lg_cmp v79 w75.2.toInt64) = 0 then
        kn w75.1
      else
        some (w75.1, 0)
    else
      kn w75.1
  else
    some (w75.1, 0)
def fL_case10 (xs : Nat → Int32) (L : Nat) (x1 x2 x3 x4 : Option Nat) (x5 : Int32) (kn : Mem → Option (Mem × Int32)) (M : Mem) : Option (Mem × Int32) :=
  (sc xs L (x5 + 1)).bind fun v81 =>
  (fL_keep M x1 v81 x3).bind fun w82 =>
  (sc xs L (x5 + 1)).bind fun v83 =>
  (ck 3 w82.1 x2).bind fun _ =>
  (fX3_keep w82.1 x2 v83).bind fun w84 =>
  (ck 3 w84.1 x2).bind fun _ =>
  (fX3_thrown w84.1 x2).bind fun w85 =>
  if w85 = w82.2 then
    if w82.2 = 0 then
      (aJ w84.1 x3 0).bind fun v88 =>
      if (lg_cmp v88 w84.2.toInt64) = 0 then
        kn w84.1
      else
        some (w84.1, 0)
    else
      kn w84.1
  else
    some (w84.1, 0)
def fL_case11 (xs : Nat → Int32) (L : Nat) (x1 x2 x3 x4 : Option Nat) (x5 : Int32) (kn : Mem → Option (Mem × Int32)) (M : Mem) : Option (Mem × Int32) :=
  (sc xs L (x5 + 1)).bind fun v90 =>
  (fL_goBack M x1 v90 x3).bind fun w91 =>
  (sc xs L (x5 + 1)).bind fun v92 =>
  (ck 3 w91.1 x2).bind fun _ =>
  (fX3_goBack w91.1 x2 v92).bind fun w93 =>
  (ck 3 w93.1 x2).bind fun _ =>
  (fX3_thrown w93.1 x2).bind fun w94 =>
  if w94 = w91.2 then
    if w91.2 = 0 then
      (aJ w93.1 x3 0).bind fun v97 =>
      if (lg_cmp v97 w93.2.toInt64) = 0 then
        kn w93.1
      else
        some (w93.1, 0)
    else
      kn w93.1
  else
    some (w93.1, 0)
def fL_case12 (xs : Nat → Int32) (L : Nat) (x1 x2 x3 x4 : Option Nat) (x5 : Int32) (kn : Mem → Option (Mem × Int32)) (M : Mem) : Option (Mem × Int32) :=
  (fL_undo M x1 x3).bind fun w99 =>
  (ck 3 w99.1 x2).bind fun _ =>
  (fX3_undo w99.1 x2).bind fun w100 =>
  (ck 3 w100.1 x2).bind fun _ =>
  (fX3_thrown w100.1 x2).bind fun w101 =>
  if w101 = w99.2 then
    if w99.2 = 0 then
      (aJ w100.1 x3 0).bind fun v104 =>
      if (lg_cmp v104 w100.2.toInt64) = 0 then
        kn w100.1
      else
        some (w100.1, 0)
    else
      kn w100.1
  else
    some (w100.1, 0)
def fL_case13 (xs : Nat → Int32) (L : Nat) (x1 x2 x3 x4 : Option Nat) (x5 : Int32) (kn : Mem → Option (Mem × Int32)) (M : Mem) : Option (Mem × Int32) :=
  (sc xs L (x5 + 1)).bind fun v106 =>
  (sc xs L (x5 + 2)).bind fun v107 =>
  (fL_sign M x1 v106 v107 x3).bind fun w108 =>
  (sc xs L (x5 + 1)).bind fun v109 =>
  (sc xs L (x5 + 2)).bind fun v110 =>
  (ck 3 w108.1 x2).bind fun _ =>
  (fX3_sign w108.1 x2 v109 v110).bind fun w111 =>
  (ck 3 w111.1 x2).bind fun _ =>
  (fX3_thrown w111.1 x2).bind fun w112 =>
  if w112 = w108.2 then
    if w108.2 = 0 then
      (aJ w111.1 x3 0).bind fun v115 =>
      if (lg_cmp v115 w111.2.toInt64) = 0 then
        kn w111.1
      else
        some (w111.1, 0)
    else
      kn w111.1
  else
    some (w111.1, 0)
def fL_case14 (xs : Nat → Int32) (L : Nat) (x1 x2 x3 x4 : Option Nat) (x5 : Int32) (kn : Mem → Option (Mem × Int32)) (M : Mem) : Option (Mem × Int32) :=
  (sc xs L (x5 + 1)).bind fun v117 =>
  (sc xs L (x5 + 2)).bind fun v118 =>
  (fL_of M x1 v117 v118 x3).bind fun w119 =>
  (sc xs L (x5 + 1)).bind fun v120 =>
  (sc xs L (x5 + 2)).bind fun v121 =>
  (ck 3 w119.1 x2).bind fun _ =>
  (fX3_of w119.1 x2 v120 v121).bind fun w122 =>
  (ck 3 w122.1 x2).bind fun _ =>
  (fX3_thrown w122.1 x2).bind fun w123 =>
  if w123 = w119.2 then
    if w119.2 = 0 then
      (aJ w122.1 x3 0).bind fun v126 =>
      if (lg_cmp v126 w122.2.toInt64) = 0 then
        kn w122.1
      else
        some (w122.1, 0)
    else
      kn w122.1
  else
    some (w122.1, 0)
def fL_case15 (xs : Nat → Int32) (L : Nat) (x1 x2 x3 x4 : Option Nat) (x5 : Int32) (kn : Mem → Option (Mem × Int32)) (M : Mem) : Option (Mem × Int32) :=
  (sc xs L (x5 + 1)).bind fun v128 =>
  (sc xs L (x5 + 2)).bind fun v129 =>
  (fL_isRoot M x1 v128 v129 x3).bind fun w130 =>
  (sc xs L (x5 + 1)).bind fun v131 =>
  (sc xs L (x5 + 2)).bind fun v132 =>
  (ck 3 w130.1 x2).bind fun _ =>
  (fX3_isRoot w130.1 x2 v131 v132).bind fun w133 =>
  (ck 3 w133.1 x2).bind fun _ =>
  (fX3_thrown w133.1 x2).bind fun w134 =>
  if w134 = w130.2 then
    if w130.2 = 0 then
      (aJ w133.1 x3 0).bind fun v137 =>
      if (lg_cmp v137 w133.2.toInt64) = 0 then
        kn w133.1
      else
        some (w133.1, 0)
    else
      kn w133.1
  else
    some (w133.1, 0)
def fL_case16 (xs : Nat → Int32) (L : Nat) (x1 x2 x3 x4 : Option Nat) (x5 : Int32) (kn : Mem → Option (Mem × Int32)) (M : Mem) : Option (Mem × Int32) :=
  (sc xs L (x5 + 1)).bind fun v139 =>
  (sc xs L (x5 + 2)).bind fun v140 =>
  (sc xs L (x5 + 3)).bind fun v141 =>
  (fL_times M x1 v139 v140 v141 x3).bind fun w142 =>
  (sc xs L (x5 + 1)).bind fun v143 =>
  (sc xs L (x5 + 2)).bind fun v144 =>
  (sc xs L (x5 + 3)).bind fun v145 =>
  (ck 3 w142.1 x2).bind fun _ =>
  (fX3_times w142.1 x2 v143 v144 v145).bind fun w146 =>
  (ck 3 w146.1 x2).bind fun _ =>
  (fX3_thrown w146.1 x2).bind fun w147 =>
  if w147 = w142.2 then
    if w142.2 = 0 then
      (aJ w146.1 x3 0).bind fun v150 =>
      if (lg_cmp v150 w146.2.toInt64) = 0 then
        kn w146.1
      else
        some (w146.1, 0)
    else
      kn w146.1
  else
    some (w146.1, 0)
def fL_case17 (xs : Nat → Int32) (L : Nat) (x1 x2 x3 x4 : Option Nat) (x5 : Int32) (kn : Mem → Option (Mem × Int32)) (M : Mem) : Option (Mem × Int32) :=
  (sc xs L (x5 + 1)).bind fun v152 =>
  (sc xs L (x5 + 2)).bind fun v153 =>
  (fL_quotients M x1 v152 v153 x3).bind fun w154 =>
  (sc xs L (x5 + 1)).bind fun v155 =>
  (sc xs L (x5 + 2)).bind fun v156 =>
  (ck 3 w154.1 x2).bind fun _ =>
  (fX3_quotients w154.1 x2 v155 v156).bind fun w157 =>
  (ck 3 w157.1 x2).bind fun _ =>
  (fX3_thrown w157.1 x2).bind fun w158 =>
  if w158 = w154.2 then
    if w154.2 = 0 then
      (aJ w157.1 x3 0).bind fun v161 =>
      if (lg_cmp v161 w157.2.toInt64) = 0 then
        kn w157.1
      else
        some (w157.1, 0)
    else
      kn w157.1
  else
    some (w157.1, 0)
def fL_case18 (xs : Nat → Int32) (L : Nat) (x1 x2 x3 x4 : Option Nat) (x5 : Int32) (kn : Mem → Option (Mem × Int32)) (M : Mem) : Option (Mem × Int32) :=
  (sc xs L (x5 + 1)).bind fun v163 =>
  (sc xs L (x5 + 2)).bind fun v164 =>
  (fL_best M x1 v163 v164 x3).bind fun w165 =>
  (sc xs L (x5 + 1)).bind fun v166 =>
  (sc xs L (x5 + 2)).bind fun v167 =>
  (ck 3 w165.1 x2).bind fun _ =>
  (fX3_best w165.1 x2 v166 v167).bind fun w168 =>
  (ck 3 w168.1 x2).bind fun _ =>
  (fX3_thrown w168.1 x2).bind fun w169 =>
  if w169 = w165.2 then
    if w165.2 = 0 then
      (aJ w168.1 x3 0).bind fun v172 =>
      if (lg_cmp v172 w168.2.toInt64) = 0 then
        kn w168.1
      else
        some (w168.1, 0)
    else
      kn w168.1
  else
    some (w168.1, 0)
def fL_case19 (xs : Nat → Int32) (L : Nat) (x1 x2 x3 x4 : Option Nat) (x5 : Int32) (kn : Mem → Option (Mem × Int32)) (M : Mem) : Option (Mem × Int32) :=
  (sc xs L (x5 + 1)).bind fun v174 =>
  (sc xs L (x5 + 2)).bind fun v175 =>
  (sc xs L (x5 + 3)).bind fun v176 =>
  (fL_many M x1 v174 v175 v176 x3).bind fun w177 =>
  (sc xs L (x5 + 1)).bind fun v178 =>
  (sc xs L (x5 + 2)).bind fun v179 =>
  (sc xs L (x5 + 3)).bind fun v180 =>
  (ck 3 w177.1 x2).bind fun _ =>
  (fX3_many w177.1 x2 v178 v179 v180).bind fun w181 =>
  (ck 3 w181.1 x2).bind fun _ =>
  (fX3_thrown w181.1 x2).bind fun w182 =>
  if w182 = w177.2 then
    if w177.2 = 0 then
      (aJ w181.1 x3 0).bind fun v185 =>
      if (lg_cmp v185 w181.2.toInt64) = 0 then
        kn w181.1
      else
        some (w181.1, 0)
    else
      kn w181.1
  else
    some (w181.1, 0)
def fL_case20 (xs : Nat → Int32) (L : Nat) (x1 x2 x3 x4 : Option Nat) (x5 : Int32) (kn : Mem → Option (Mem × Int32)) (M : Mem) : Option (Mem × Int32) :=
  (sc xs L (x5 + 1)).bind fun v187 =>
  (sc xs L (x5 + 2)).bind fun v188 =>
  (sc xs L (x5 + 3)).bind fun v189 =>
  (sc xs L (x5 + 4)).bind fun v190 =>
  (fL_isIn M x1 v187 v188 v189 v190 x3).bind fun w191 =>
  (sc xs L (x5 + 1)).bind fun v192 =>
  (sc xs L (x5 + 2)).bind fun v193 =>
  (sc xs L (x5 + 3)).bind fun v194 =>
  (sc xs L (x5 + 4)).bind fun v195 =>
  (ck 3 w191.1 x2).bind fun _ =>
  (fX3_isIn w191.1 x2 v192 v193 v194 v195).bind fun w196 =>
  (ck 3 w196.1 x2).bind fun _ =>
  (fX3_thrown w196.1 x2).bind fun w197 =>
  if w197 = w191.2 then
    if w191.2 = 0 then
      (aJ w196.1 x3 0).bind fun v200 =>
      if (lg_cmp v200 w196.2.toInt64) = 0 then
        kn w196.1
      else
        some (w196.1, 0)
    else
      kn w196.1
  else
    some (w196.1, 0)
def fL_case21 (xs : Nat → Int32) (L : Nat) (x1 x2 x3 x4 : Option Nat) (x5 : Int32) (kn : Mem → Option (Mem × Int32)) (M : Mem) : Option (Mem × Int32) :=
  (sc xs L (x5 + 1)).bind fun v202 =>
  (fL_coefficient M x1 v202 x3).bind fun w203 =>
  (sc xs L (x5 + 1)).bind fun v204 =>
  (ck 3 w203.1 x2).bind fun _ =>
  (fX3_coefficient w203.1 x2 v204).bind fun w205 =>
  (ck 3 w205.1 x2).bind fun _ =>
  (fX3_thrown w205.1 x2).bind fun w206 =>
  if w206 = w203.2 then
    if w203.2 = 0 then
      (aJ w205.1 x3 0).bind fun v209 =>
      if (lg_cmp v209 w205.2) = 0 then
        kn w205.1
      else
        some (w205.1, 0)
    else
      kn w205.1
  else
    some (w205.1, 0)
def fL_case22 (xs : Nat → Int32) (L : Nat) (x1 x2 x3 x4 : Option Nat) (x5 : Int32) (kn : Mem → Option (Mem × Int32)) (M : Mem) : Option (Mem × Int32) :=
  (sc xs L (x5 + 1)).bind fun v211 =>
  (fL_count M x1 v211 x3).bind fun w212 =>
  (sc xs L (x5 + 1)).bind fun v213 =>
  (ck 3 w212.1 x2).bind fun _ =>
  (fX3_count w212.1 x2 v213).bind fun w214 =>
  (ck 3 w214.1 x2).bind fun _ =>
  (fX3_thrown w214.1 x2).bind fun w215 =>
  if w215 = w212.2 then
    if w212.2 = 0 then
      (aJ w214.1 x3 0).bind fun v218 =>
      if (lg_cmp v218 w214.2.toInt64) = 0 then
        kn w214.1
      else
        some (w214.1, 0)
    else
      kn w214.1
  else
    some (w214.1, 0)
def fL_case23 (xs : Nat → Int32) (L : Nat) (x1 x2 x3 x4 : Option Nat) (x5 : Int32) (kn : Mem → Option (Mem × Int32)) (M : Mem) : Option (Mem × Int32) :=
  (sc xs L (x5 + 1)).bind fun v220 =>
  (fL_takenShare M x1 v220 x4).bind fun w221 =>
  (sc xs L (x5 + 1)).bind fun v222 =>
  (ck 3 w221.1 x2).bind fun _ =>
  (fX3_takenShare w221.1 x2 v222).bind fun w223 =>
  (ck 3 w223.1 x2).bind fun _ =>
  (fX3_thrown w223.1 x2).bind fun w224 =>
  if w224 = w221.2 then
    if w221.2 = 0 then
      (aD w223.1 x4 0).bind fun v227 =>
      if (Op.cmpValue (FP.dcmp v227 w223.2) .l) = 0 then
        kn w223.1
      else
        (aD w223.1 x4 0).bind fun v229 =>
        (aD w223.1 x4 0).bind fun v230 =>
        if (Op.cmpValue (FP.dcmp v229 v230) .l) = 0 then
          some (w223.1, 0)
        else
          if (Op.cmpValue (FP.dcmp w223.2 w223.2) .l) = 0 then
            some (w223.1, 0)
          else
            kn w223.1
    else
      kn w223.1
  else
    some (w223.1, 0)
def fL_case24 (xs : Nat → Int32) (L : Nat) (x1 x2 x3 x4 : Option Nat) (x5 : Int32) (kn : Mem → Option (Mem × Int32)) (M : Mem) : Option (Mem × Int32) :=
  (ck 2 M x1).bind fun _ =>
  (fX2_digest M x1).bind fun w233 =>
  (ck 3 w233.1 x2).bind fun _ =>
  (fX3_digest w233.1 x2).bind fun w234 =>
  if (lg_cmp w233.2 w234.2) = 0 then
    kn w234.1
  else
    some (w234.1, 0)
def fL_loop (xs : Nat → Int32) (L : Nat) (x1 x2 x3 x4 : Option Nat) : Nat → Mem → Int32 → Option (Mem × Int32)
  | 0, _, _ => none
  | n + 1, M, x5 =>
    if Int32.ofNat L - 5 < x5 then some (M, 1) else
    (sc xs L x5).bind fun v =>
    if (v &&& 31) = 0 then fL_case0 xs L x1 x2 x3 x4 x5 (fun M2 => fL_loop xs L x1 x2 x3 x4 n M2 (x5 + 5)) M
    else if (v &&& 31) = 1 then fL_case1 xs L x1 x2 x3 x4 x5 (fun M2 => fL_loop xs L x1 x2 x3 x4 n M2 (x5 + 5)) M
    else if (v &&& 31) = 2 then fL_case2 xs L x1 x2 x3 x4 x5 (fun M2 => fL_loop xs L x1 x2 x3 x4 n M2 (x5 + 5)) M
    else if (v &&& 31) = 3 then fL_case3 xs L x1 x2 x3 x4 x5 (fun M2 => fL_loop xs L x1 x2 x3 x4 n M2 (x5 + 5)) M
    else if (v &&& 31) = 4 then fL_case4 xs L x1 x2 x3 x4 x5 (fun M2 => fL_loop xs L x1 x2 x3 x4 n M2 (x5 + 5)) M
    else if (v &&& 31) = 5 then fL_case5 xs L x1 x2 x3 x4 x5 (fun M2 => fL_loop xs L x1 x2 x3 x4 n M2 (x5 + 5)) M
    else if (v &&& 31) = 6 then fL_case6 xs L x1 x2 x3 x4 x5 (fun M2 => fL_loop xs L x1 x2 x3 x4 n M2 (x5 + 5)) M
    else if (v &&& 31) = 7 then fL_case7 xs L x1 x2 x3 x4 x5 (fun M2 => fL_loop xs L x1 x2 x3 x4 n M2 (x5 + 5)) M
    else if (v &&& 31) = 8 then fL_case8 xs L x1 x2 x3 x4 x5 (fun M2 => fL_loop xs L x1 x2 x3 x4 n M2 (x5 + 5)) M
    else if (v &&& 31) = 9 then fL_case9 xs L x1 x2 x3 x4 x5 (fun M2 => fL_loop xs L x1 x2 x3 x4 n M2 (x5 + 5)) M
    else if (v &&& 31) = 10 then fL_case10 xs L x1 x2 x3 x4 x5 (fun M2 => fL_loop xs L x1 x2 x3 x4 n M2 (x5 + 5)) M
    else if (v &&& 31) = 11 then fL_case11 xs L x1 x2 x3 x4 x5 (fun M2 => fL_loop xs L x1 x2 x3 x4 n M2 (x5 + 5)) M
    else if (v &&& 31) = 12 then fL_case12 xs L x1 x2 x3 x4 x5 (fun M2 => fL_loop xs L x1 x2 x3 x4 n M2 (x5 + 5)) M
    else if (v &&& 31) = 13 then fL_case13 xs L x1 x2 x3 x4 x5 (fun M2 => fL_loop xs L x1 x2 x3 x4 n M2 (x5 + 5)) M
    else if (v &&& 31) = 14 then fL_case14 xs L x1 x2 x3 x4 x5 (fun M2 => fL_loop xs L x1 x2 x3 x4 n M2 (x5 + 5)) M
    else if (v &&& 31) = 15 then fL_case15 xs L x1 x2 x3 x4 x5 (fun M2 => fL_loop xs L x1 x2 x3 x4 n M2 (x5 + 5)) M
    else if (v &&& 31) = 16 then fL_case16 xs L x1 x2 x3 x4 x5 (fun M2 => fL_loop xs L x1 x2 x3 x4 n M2 (x5 + 5)) M
    else if (v &&& 31) = 17 then fL_case17 xs L x1 x2 x3 x4 x5 (fun M2 => fL_loop xs L x1 x2 x3 x4 n M2 (x5 + 5)) M
    else if (v &&& 31) = 18 then fL_case18 xs L x1 x2 x3 x4 x5 (fun M2 => fL_loop xs L x1 x2 x3 x4 n M2 (x5 + 5)) M
    else if (v &&& 31) = 19 then fL_case19 xs L x1 x2 x3 x4 x5 (fun M2 => fL_loop xs L x1 x2 x3 x4 n M2 (x5 + 5)) M
    else if (v &&& 31) = 20 then fL_case20 xs L x1 x2 x3 x4 x5 (fun M2 => fL_loop xs L x1 x2 x3 x4 n M2 (x5 + 5)) M
    else if (v &&& 31) = 21 then fL_case21 xs L x1 x2 x3 x4 x5 (fun M2 => fL_loop xs L x1 x2 x3 x4 n M2 (x5 + 5)) M
    else if (v &&& 31) = 22 then fL_case22 xs L x1 x2 x3 x4 x5 (fun M2 => fL_loop xs L x1 x2 x3 x4 n M2 (x5 + 5)) M
    else if (v &&& 31) = 23 then fL_case23 xs L x1 x2 x3 x4 x5 (fun M2 => fL_loop xs L x1 x2 x3 x4 n M2 (x5 + 5)) M
    else if (v &&& 31) = 24 then fL_case24 xs L x1 x2 x3 x4 x5 (fun M2 => fL_loop xs L x1 x2 x3 x4 n M2 (x5 + 5)) M
    else fL_loop xs L x1 x2 x3 x4 n M (x5 + 5)
