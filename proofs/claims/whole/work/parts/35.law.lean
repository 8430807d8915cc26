def F_L_law_1746 (L : Nat) (X : Nat → Int32) (k23 : Nat → Nat → Nat → Int32 → aH → Option (Int32 × aH)) (a1 : Nat) (a2 : Nat) (a3 : Nat) (x4 : Int32) (h : aH) : Option (Int32 × aH) :=
  bd (x4 + 6) fun v1 =>
  k23 a1 a2 a3 v1 h

def F_L_law_1743 (L : Nat) (X : Nat → Int32) (k23 : Nat → Nat → Nat → Int32 → aH → Option (Int32 × aH)) (a1 : Nat) (a2 : Nat) (a3 : Nat) (x4 : Int32) (h : aH) : Option (Int32 × aH) :=
  F_L_law_1746 L X k23 a1 a2 a3 x4 h

def F_L_law_1691 (L : Nat) (X : Nat → Int32) (k23 : Nat → Nat → Nat → Int32 → aH → Option (Int32 × aH)) (a1 : Nat) (a2 : Nat) (a3 : Nat) (x4 : Int32) (h : aH) : Option (Int32 × aH) :=
  (ck (inR (x4 + 1) L)).bind fun _ =>
  (F_L_sum a1 (X (x4 + 1).toNatClampNeg) a3 h).bind fun q5 =>
  bd q5.1 fun z4 =>
  bd q5.2 fun h3 =>
  (ck (hK h3 a2 = 14)).bind fun _ =>
  (F_X12_sum a2 (X (x4 + 1).toNatClampNeg) h3).bind fun q10 =>
  bd q10.1 fun z9 =>
  bd q10.2 fun h8 =>
  (ck (hK h8 a2 = 14)).bind fun _ =>
  (F_X12_thrown a2 h8).bind fun q15 =>
  bd q15.1 fun z14 =>
  bd q15.2 fun h13 =>
  if z14 = z4 then
    if z4 = 0 then
      (ck (hK h13 a3 = 23 ∧ inR 0 (hN h13 a3))).bind fun _ =>
      if lg_cmp (hJ h13 a3 (0 : Int32).toNatClampNeg) z9 = 0 then
        F_L_law_1743 L X k23 a1 a2 a3 x4 h13
      else
        some (0, h13)
    else
      F_L_law_1743 L X k23 a1 a2 a3 x4 h13
  else
    some (0, h13)

def F_L_law_1688 (L : Nat) (X : Nat → Int32) (k23 : Nat → Nat → Nat → Int32 → aH → Option (Int32 × aH)) (a1 : Nat) (a2 : Nat) (a3 : Nat) (x4 : Int32) (h : aH) : Option (Int32 × aH) :=
  F_L_law_1746 L X k23 a1 a2 a3 x4 h

def F_L_law_1635 (L : Nat) (X : Nat → Int32) (k23 : Nat → Nat → Nat → Int32 → aH → Option (Int32 × aH)) (a1 : Nat) (a2 : Nat) (a3 : Nat) (x4 : Int32) (h : aH) : Option (Int32 × aH) :=
  (ck (inR (x4 + 1) L)).bind fun _ =>
  (F_L_list a1 (X (x4 + 1).toNatClampNeg) a3 h).bind fun q5 =>
  bd q5.1 fun z4 =>
  bd q5.2 fun h3 =>
  (ck (hK h3 a2 = 14)).bind fun _ =>
  (F_X12_list a2 (X (x4 + 1).toNatClampNeg) h3).bind fun q10 =>
  bd q10.1 fun z9 =>
  bd q10.2 fun h8 =>
  (ck (hK h8 a2 = 14)).bind fun _ =>
  (F_X12_thrown a2 h8).bind fun q15 =>
  bd q15.1 fun z14 =>
  bd q15.2 fun h13 =>
  if z14 = z4 then
    if z4 = 0 then
      (ck (hK h13 a3 = 23 ∧ inR 0 (hN h13 a3))).bind fun _ =>
      if lg_cmp (hJ h13 a3 (0 : Int32).toNatClampNeg) z9.toInt64 = 0 then
        F_L_law_1688 L X k23 a1 a2 a3 x4 h13
      else
        some (0, h13)
    else
      F_L_law_1688 L X k23 a1 a2 a3 x4 h13
  else
    some (0, h13)

def F_L_law_1610 (L : Nat) (X : Nat → Int32) (k23 : Nat → Nat → Nat → Int32 → aH → Option (Int32 × aH)) (a1 : Nat) (a2 : Nat) (a3 : Nat) (x4 : Int32) (h : aH) : Option (Int32 × aH) :=
  (ck (inR (x4 + 1) L)).bind fun _ =>
  (ck (hK h a1 = 13)).bind fun _ =>
  (F_X11_take a1 (X (x4 + 1).toNatClampNeg) h).bind fun q6 =>
  bd q6.1 fun z5 =>
  bd q6.2 fun h4 =>
  (ck (hK h4 a2 = 14)).bind fun _ =>
  (F_X12_take a2 (X (x4 + 1).toNatClampNeg) h4).bind fun q11 =>
  bd q11.1 fun z10 =>
  bd q11.2 fun h9 =>
  if z5 = z10 then
    F_L_law_1746 L X k23 a1 a2 a3 x4 h9
  else
    some (0, h9)

def F_L_law_1585 (L : Nat) (X : Nat → Int32) (k23 : Nat → Nat → Nat → Int32 → aH → Option (Int32 × aH)) (a1 : Nat) (a2 : Nat) (a3 : Nat) (x4 : Int32) (h : aH) : Option (Int32 × aH) :=
  (ck (inR (x4 + 1) L)).bind fun _ =>
  (ck (hK h a1 = 13)).bind fun _ =>
  (F_X11_check a1 (X (x4 + 1).toNatClampNeg) h).bind fun q6 =>
  bd q6.1 fun z5 =>
  bd q6.2 fun h4 =>
  (ck (hK h4 a2 = 14)).bind fun _ =>
  (F_X12_check a2 (X (x4 + 1).toNatClampNeg) h4).bind fun q11 =>
  bd q11.1 fun z10 =>
  bd q11.2 fun h9 =>
  if z5 = z10 then
    F_L_law_1746 L X k23 a1 a2 a3 x4 h9
  else
    some (0, h9)

def F_L_law_1582 (L : Nat) (X : Nat → Int32) (k23 : Nat → Nat → Nat → Int32 → aH → Option (Int32 × aH)) (a1 : Nat) (a2 : Nat) (a3 : Nat) (x4 : Int32) (h : aH) : Option (Int32 × aH) :=
  F_L_law_1746 L X k23 a1 a2 a3 x4 h

def F_L_law_1529 (L : Nat) (X : Nat → Int32) (k23 : Nat → Nat → Nat → Int32 → aH → Option (Int32 × aH)) (a1 : Nat) (a2 : Nat) (a3 : Nat) (x4 : Int32) (h : aH) : Option (Int32 × aH) :=
  (ck (inR (x4 + 1) L)).bind fun _ =>
  (F_L_told a1 (X (x4 + 1).toNatClampNeg) a3 h).bind fun q5 =>
  bd q5.1 fun z4 =>
  bd q5.2 fun h3 =>
  (ck (hK h3 a2 = 14)).bind fun _ =>
  (F_X12_told a2 (X (x4 + 1).toNatClampNeg) h3).bind fun q10 =>
  bd q10.1 fun z9 =>
  bd q10.2 fun h8 =>
  (ck (hK h8 a2 = 14)).bind fun _ =>
  (F_X12_thrown a2 h8).bind fun q15 =>
  bd q15.1 fun z14 =>
  bd q15.2 fun h13 =>
  if z14 = z4 then
    if z4 = 0 then
      (ck (hK h13 a3 = 23 ∧ inR 0 (hN h13 a3))).bind fun _ =>
      if lg_cmp (hJ h13 a3 (0 : Int32).toNatClampNeg) z9.toInt64 = 0 then
        F_L_law_1582 L X k23 a1 a2 a3 x4 h13
      else
        some (0, h13)
    else
      F_L_law_1582 L X k23 a1 a2 a3 x4 h13
  else
    some (0, h13)

def F_L_law_1504 (L : Nat) (X : Nat → Int32) (k23 : Nat → Nat → Nat → Int32 → aH → Option (Int32 × aH)) (a1 : Nat) (a2 : Nat) (a3 : Nat) (x4 : Int32) (h : aH) : Option (Int32 × aH) :=
  (ck (inR (x4 + 1) L)).bind fun _ =>
  (ck (hK h a1 = 13)).bind fun _ =>
  (F_X11_image a1 (X (x4 + 1).toNatClampNeg) h).bind fun q6 =>
  bd q6.1 fun z5 =>
  bd q6.2 fun h4 =>
  (ck (hK h4 a2 = 14)).bind fun _ =>
  (F_X12_image a2 (X (x4 + 1).toNatClampNeg) h4).bind fun q11 =>
  bd q11.1 fun z10 =>
  bd q11.2 fun h9 =>
  if z5 = z10 then
    F_L_law_1746 L X k23 a1 a2 a3 x4 h9
  else
    some (0, h9)

def F_L_law_1501 (L : Nat) (X : Nat → Int32) (k23 : Nat → Nat → Nat → Int32 → aH → Option (Int32 × aH)) (a1 : Nat) (a2 : Nat) (a3 : Nat) (x4 : Int32) (h : aH) : Option (Int32 × aH) :=
  F_L_law_1746 L X k23 a1 a2 a3 x4 h

def F_L_law_1436 (L : Nat) (X : Nat → Int32) (k23 : Nat → Nat → Nat → Int32 → aH → Option (Int32 × aH)) (a1 : Nat) (a2 : Nat) (a3 : Nat) (x4 : Int32) (h : aH) : Option (Int32 × aH) :=
  (ck (inR (x4 + 1) L)).bind fun _ =>
  (ck (inR (x4 + 2) L)).bind fun _ =>
  (F_L_record a1 (X (x4 + 1).toNatClampNeg) (X (x4 + 2).toNatClampNeg) a3 h).bind fun q6 =>
  bd q6.1 fun z5 =>
  bd q6.2 fun h4 =>
  (ck (hK h4 a2 = 14)).bind fun _ =>
  (F_X12_record a2 (X (x4 + 1).toNatClampNeg) (X (x4 + 2).toNatClampNeg) h4).bind fun q11 =>
  bd q11.1 fun z10 =>
  bd q11.2 fun h9 =>
  (ck (hK h9 a2 = 14)).bind fun _ =>
  (F_X12_thrown a2 h9).bind fun q16 =>
  bd q16.1 fun z15 =>
  bd q16.2 fun h14 =>
  if z15 = z5 then
    if z5 = 0 then
      (ck (hK h14 a3 = 23 ∧ inR 0 (hN h14 a3))).bind fun _ =>
      if lg_cmp (hJ h14 a3 (0 : Int32).toNatClampNeg) z10.toInt64 = 0 then
        F_L_law_1501 L X k23 a1 a2 a3 x4 h14
      else
        some (0, h14)
    else
      F_L_law_1501 L X k23 a1 a2 a3 x4 h14
  else
    some (0, h14)

def F_L_law_1433 (L : Nat) (X : Nat → Int32) (k23 : Nat → Nat → Nat → Int32 → aH → Option (Int32 × aH)) (a1 : Nat) (a2 : Nat) (a3 : Nat) (x4 : Int32) (h : aH) : Option (Int32 × aH) :=
  F_L_law_1746 L X k23 a1 a2 a3 x4 h

def F_L_law_1344 (L : Nat) (X : Nat → Int32) (k23 : Nat → Nat → Nat → Int32 → aH → Option (Int32 × aH)) (a1 : Nat) (a2 : Nat) (a3 : Nat) (x4 : Int32) (h : aH) : Option (Int32 × aH) :=
  (ck (inR (x4 + 1) L)).bind fun _ =>
  (ck (inR (x4 + 2) L)).bind fun _ =>
  (ck (inR (x4 + 3) L)).bind fun _ =>
  (ck (inR (x4 + 4) L)).bind fun _ =>
  (F_L_fields a1 (X (x4 + 1).toNatClampNeg) (X (x4 + 2).toNatClampNeg) (X (x4 + 3).toNatClampNeg) (X (x4 + 4).toNatClampNeg) a3 h).bind fun q8 =>
  bd q8.1 fun z7 =>
  bd q8.2 fun h6 =>
  (ck (hK h6 a2 = 14)).bind fun _ =>
  (F_X12_fields a2 (X (x4 + 1).toNatClampNeg) (X (x4 + 2).toNatClampNeg) (X (x4 + 3).toNatClampNeg) (X (x4 + 4).toNatClampNeg) h6).bind fun q13 =>
  bd q13.1 fun z12 =>
  bd q13.2 fun h11 =>
  (ck (hK h11 a2 = 14)).bind fun _ =>
  (F_X12_thrown a2 h11).bind fun q18 =>
  bd q18.1 fun z17 =>
  bd q18.2 fun h16 =>
  if z17 = z7 then
    if z7 = 0 then
      (ck (hK h16 a3 = 23 ∧ inR 0 (hN h16 a3))).bind fun _ =>
      if lg_cmp (hJ h16 a3 (0 : Int32).toNatClampNeg) z12.toInt64 = 0 then
        F_L_law_1433 L X k23 a1 a2 a3 x4 h16
      else
        some (0, h16)
    else
      F_L_law_1433 L X k23 a1 a2 a3 x4 h16
  else
    some (0, h16)

def F_L_law_1341 (L : Nat) (X : Nat → Int32) (k23 : Nat → Nat → Nat → Int32 → aH → Option (Int32 × aH)) (a1 : Nat) (a2 : Nat) (a3 : Nat) (x4 : Int32) (h : aH) : Option (Int32 × aH) :=
  F_L_law_1746 L X k23 a1 a2 a3 x4 h

def F_L_law_1252 (L : Nat) (X : Nat → Int32) (k23 : Nat → Nat → Nat → Int32 → aH → Option (Int32 × aH)) (a1 : Nat) (a2 : Nat) (a3 : Nat) (x4 : Int32) (h : aH) : Option (Int32 × aH) :=
  (ck (inR (x4 + 1) L)).bind fun _ =>
  (ck (inR (x4 + 2) L)).bind fun _ =>
  (ck (inR (x4 + 3) L)).bind fun _ =>
  (ck (inR (x4 + 4) L)).bind fun _ =>
  (F_L_bats a1 (X (x4 + 1).toNatClampNeg) (X (x4 + 2).toNatClampNeg) (X (x4 + 3).toNatClampNeg) (X (x4 + 4).toNatClampNeg) a3 h).bind fun q8 =>
  bd q8.1 fun z7 =>
  bd q8.2 fun h6 =>
  (ck (hK h6 a2 = 14)).bind fun _ =>
  (F_X12_bats a2 (X (x4 + 1).toNatClampNeg) (X (x4 + 2).toNatClampNeg) (X (x4 + 3).toNatClampNeg) (X (x4 + 4).toNatClampNeg) h6).bind fun q13 =>
  bd q13.1 fun z12 =>
  bd q13.2 fun h11 =>
  (ck (hK h11 a2 = 14)).bind fun _ =>
  (F_X12_thrown a2 h11).bind fun q18 =>
  bd q18.1 fun z17 =>
  bd q18.2 fun h16 =>
  if z17 = z7 then
    if z7 = 0 then
      (ck (hK h16 a3 = 23 ∧ inR 0 (hN h16 a3))).bind fun _ =>
      if lg_cmp (hJ h16 a3 (0 : Int32).toNatClampNeg) z12.toInt64 = 0 then
        F_L_law_1341 L X k23 a1 a2 a3 x4 h16
      else
        some (0, h16)
    else
      F_L_law_1341 L X k23 a1 a2 a3 x4 h16
  else
    some (0, h16)

def F_L_law_1249 (L : Nat) (X : Nat → Int32) (k23 : Nat → Nat → Nat → Int32 → aH → Option (Int32 × aH)) (a1 : Nat) (a2 : Nat) (a3 : Nat) (x4 : Int32) (h : aH) : Option (Int32 × aH) :=
  F_L_law_1746 L X k23 a1 a2 a3 x4 h

def F_L_law_1160 (L : Nat) (X : Nat → Int32) (k23 : Nat → Nat → Nat → Int32 → aH → Option (Int32 × aH)) (a1 : Nat) (a2 : Nat) (a3 : Nat) (x4 : Int32) (h : aH) : Option (Int32 × aH) :=
  (ck (inR (x4 + 1) L)).bind fun _ =>
  (ck (inR (x4 + 2) L)).bind fun _ =>
  (ck (inR (x4 + 3) L)).bind fun _ =>
  (ck (inR (x4 + 4) L)).bind fun _ =>
  (F_L_entry a1 (X (x4 + 1).toNatClampNeg) (X (x4 + 2).toNatClampNeg) (X (x4 + 3).toNatClampNeg) (X (x4 + 4).toNatClampNeg) a3 h).bind fun q8 =>
  bd q8.1 fun z7 =>
  bd q8.2 fun h6 =>
  (ck (hK h6 a2 = 14)).bind fun _ =>
  (F_X12_entry a2 (X (x4 + 1).toNatClampNeg) (X (x4 + 2).toNatClampNeg) (X (x4 + 3).toNatClampNeg) (X (x4 + 4).toNatClampNeg) h6).bind fun q13 =>
  bd q13.1 fun z12 =>
  bd q13.2 fun h11 =>
  (ck (hK h11 a2 = 14)).bind fun _ =>
  (F_X12_thrown a2 h11).bind fun q18 =>
  bd q18.1 fun z17 =>
  bd q18.2 fun h16 =>
  if z17 = z7 then
    if z7 = 0 then
      (ck (hK h16 a3 = 23 ∧ inR 0 (hN h16 a3))).bind fun _ =>
      if lg_cmp (hJ h16 a3 (0 : Int32).toNatClampNeg) z12.toInt64 = 0 then
        F_L_law_1249 L X k23 a1 a2 a3 x4 h16
      else
        some (0, h16)
    else
      F_L_law_1249 L X k23 a1 a2 a3 x4 h16
  else
    some (0, h16)

def F_L_law_1157 (L : Nat) (X : Nat → Int32) (k23 : Nat → Nat → Nat → Int32 → aH → Option (Int32 × aH)) (a1 : Nat) (a2 : Nat) (a3 : Nat) (x4 : Int32) (h : aH) : Option (Int32 × aH) :=
  F_L_law_1746 L X k23 a1 a2 a3 x4 h

def F_L_law_1068 (L : Nat) (X : Nat → Int32) (k23 : Nat → Nat → Nat → Int32 → aH → Option (Int32 × aH)) (a1 : Nat) (a2 : Nat) (a3 : Nat) (x4 : Int32) (h : aH) : Option (Int32 × aH) :=
  (ck (inR (x4 + 1) L)).bind fun _ =>
  (ck (inR (x4 + 2) L)).bind fun _ =>
  (ck (inR (x4 + 3) L)).bind fun _ =>
  (ck (inR (x4 + 4) L)).bind fun _ =>
  (F_L_overs a1 (X (x4 + 1).toNatClampNeg) (X (x4 + 2).toNatClampNeg) (X (x4 + 3).toNatClampNeg) (X (x4 + 4).toNatClampNeg) a3 h).bind fun q8 =>
  bd q8.1 fun z7 =>
  bd q8.2 fun h6 =>
  (ck (hK h6 a2 = 14)).bind fun _ =>
  (F_X12_overs a2 (X (x4 + 1).toNatClampNeg) (X (x4 + 2).toNatClampNeg) (X (x4 + 3).toNatClampNeg) (X (x4 + 4).toNatClampNeg) h6).bind fun q13 =>
  bd q13.1 fun z12 =>
  bd q13.2 fun h11 =>
  (ck (hK h11 a2 = 14)).bind fun _ =>
  (F_X12_thrown a2 h11).bind fun q18 =>
  bd q18.1 fun z17 =>
  bd q18.2 fun h16 =>
  if z17 = z7 then
    if z7 = 0 then
      (ck (hK h16 a3 = 23 ∧ inR 0 (hN h16 a3))).bind fun _ =>
      if lg_cmp (hJ h16 a3 (0 : Int32).toNatClampNeg) z12.toInt64 = 0 then
        F_L_law_1157 L X k23 a1 a2 a3 x4 h16
      else
        some (0, h16)
    else
      F_L_law_1157 L X k23 a1 a2 a3 x4 h16
  else
    some (0, h16)

def F_L_law_1065 (L : Nat) (X : Nat → Int32) (k23 : Nat → Nat → Nat → Int32 → aH → Option (Int32 × aH)) (a1 : Nat) (a2 : Nat) (a3 : Nat) (x4 : Int32) (h : aH) : Option (Int32 × aH) :=
  F_L_law_1746 L X k23 a1 a2 a3 x4 h

def F_L_law_988 (L : Nat) (X : Nat → Int32) (k23 : Nat → Nat → Nat → Int32 → aH → Option (Int32 × aH)) (a1 : Nat) (a2 : Nat) (a3 : Nat) (x4 : Int32) (h : aH) : Option (Int32 × aH) :=
  (ck (inR (x4 + 1) L)).bind fun _ =>
  (ck (inR (x4 + 2) L)).bind fun _ =>
  (ck (inR (x4 + 3) L)).bind fun _ =>
  (F_L_score a1 (X (x4 + 1).toNatClampNeg) (X (x4 + 2).toNatClampNeg) (X (x4 + 3).toNatClampNeg) a3 h).bind fun q7 =>
  bd q7.1 fun z6 =>
  bd q7.2 fun h5 =>
  (ck (hK h5 a2 = 14)).bind fun _ =>
  (F_X12_score a2 (X (x4 + 1).toNatClampNeg) (X (x4 + 2).toNatClampNeg) (X (x4 + 3).toNatClampNeg) h5).bind fun q12 =>
  bd q12.1 fun z11 =>
  bd q12.2 fun h10 =>
  (ck (hK h10 a2 = 14)).bind fun _ =>
  (F_X12_thrown a2 h10).bind fun q17 =>
  bd q17.1 fun z16 =>
  bd q17.2 fun h15 =>
  if z16 = z6 then
    if z6 = 0 then
      (ck (hK h15 a3 = 23 ∧ inR 0 (hN h15 a3))).bind fun _ =>
      if lg_cmp (hJ h15 a3 (0 : Int32).toNatClampNeg) z11.toInt64 = 0 then
        F_L_law_1065 L X k23 a1 a2 a3 x4 h15
      else
        some (0, h15)
    else
      F_L_law_1065 L X k23 a1 a2 a3 x4 h15
  else
    some (0, h15)

def F_L_law_985 (L : Nat) (X : Nat → Int32) (k23 : Nat → Nat → Nat → Int32 → aH → Option (Int32 × aH)) (a1 : Nat) (a2 : Nat) (a3 : Nat) (x4 : Int32) (h : aH) : Option (Int32 × aH) :=
  F_L_law_1746 L X k23 a1 a2 a3 x4 h

def F_L_law_920 (L : Nat) (X : Nat → Int32) (k23 : Nat → Nat → Nat → Int32 → aH → Option (Int32 × aH)) (a1 : Nat) (a2 : Nat) (a3 : Nat) (x4 : Int32) (h : aH) : Option (Int32 × aH) :=
  (ck (inR (x4 + 1) L)).bind fun _ =>
  (ck (inR (x4 + 2) L)).bind fun _ =>
  (F_L_now a1 (X (x4 + 1).toNatClampNeg) (X (x4 + 2).toNatClampNeg) a3 h).bind fun q6 =>
  bd q6.1 fun z5 =>
  bd q6.2 fun h4 =>
  (ck (hK h4 a2 = 14)).bind fun _ =>
  (F_X12_now a2 (X (x4 + 1).toNatClampNeg) (X (x4 + 2).toNatClampNeg) h4).bind fun q11 =>
  bd q11.1 fun z10 =>
  bd q11.2 fun h9 =>
  (ck (hK h9 a2 = 14)).bind fun _ =>
  (F_X12_thrown a2 h9).bind fun q16 =>
  bd q16.1 fun z15 =>
  bd q16.2 fun h14 =>
  if z15 = z5 then
    if z5 = 0 then
      (ck (hK h14 a3 = 23 ∧ inR 0 (hN h14 a3))).bind fun _ =>
      if lg_cmp (hJ h14 a3 (0 : Int32).toNatClampNeg) z10.toInt64 = 0 then
        F_L_law_985 L X k23 a1 a2 a3 x4 h14
      else
        some (0, h14)
    else
      F_L_law_985 L X k23 a1 a2 a3 x4 h14
  else
    some (0, h14)

def F_L_law_907 (L : Nat) (X : Nat → Int32) (k23 : Nat → Nat → Nat → Int32 → aH → Option (Int32 × aH)) (a1 : Nat) (a2 : Nat) (a3 : Nat) (x4 : Int32) (h : aH) : Option (Int32 × aH) :=
  (ck (hK h a1 = 13)).bind fun _ =>
  (F_X11_why a1 h).bind fun q5 =>
  bd q5.1 fun z4 =>
  bd q5.2 fun h3 =>
  (ck (hK h3 a2 = 14)).bind fun _ =>
  (F_X12_why a2 h3).bind fun q10 =>
  bd q10.1 fun z9 =>
  bd q10.2 fun h8 =>
  if z4 = z9 then
    F_L_law_1746 L X k23 a1 a2 a3 x4 h8
  else
    some (0, h8)

def F_L_law_894 (L : Nat) (X : Nat → Int32) (k23 : Nat → Nat → Nat → Int32 → aH → Option (Int32 × aH)) (a1 : Nat) (a2 : Nat) (a3 : Nat) (x4 : Int32) (h : aH) : Option (Int32 × aH) :=
  (ck (hK h a1 = 13)).bind fun _ =>
  (F_X11_undo a1 h).bind fun q5 =>
  bd q5.1 fun z4 =>
  bd q5.2 fun h3 =>
  (ck (hK h3 a2 = 14)).bind fun _ =>
  (F_X12_undo a2 h3).bind fun q10 =>
  bd q10.1 fun z9 =>
  bd q10.2 fun h8 =>
  if z4 = z9 then
    F_L_law_1746 L X k23 a1 a2 a3 x4 h8
  else
    some (0, h8)

def F_L_law_833 (L : Nat) (X : Nat → Int32) (k23 : Nat → Nat → Nat → Int32 → aH → Option (Int32 × aH)) (a1 : Nat) (a2 : Nat) (a3 : Nat) (x4 : Int32) (h : aH) : Option (Int32 × aH) :=
  (ck (inR (x4 + 1) L)).bind fun _ =>
  (ck (inR (x4 + 2) L)).bind fun _ =>
  (ck (inR (x4 + 3) L)).bind fun _ =>
  (ck (inR (x4 + 4) L)).bind fun _ =>
  (ck (hK h a1 = 13)).bind fun _ =>
  (F_X11_bowls a1 (X (x4 + 1).toNatClampNeg) (X (x4 + 2).toNatClampNeg) (X (x4 + 3).toNatClampNeg) (X (x4 + 4).toNatClampNeg) h).bind fun q9 =>
  bd q9.1 fun z8 =>
  bd q9.2 fun h7 =>
  (ck (hK h7 a2 = 14)).bind fun _ =>
  (F_X12_bowls a2 (X (x4 + 1).toNatClampNeg) (X (x4 + 2).toNatClampNeg) (X (x4 + 3).toNatClampNeg) (X (x4 + 4).toNatClampNeg) h7).bind fun q14 =>
  bd q14.1 fun z13 =>
  bd q14.2 fun h12 =>
  if z8 = z13 then
    F_L_law_1746 L X k23 a1 a2 a3 x4 h12
  else
    some (0, h12)

def F_L_law_772 (L : Nat) (X : Nat → Int32) (k23 : Nat → Nat → Nat → Int32 → aH → Option (Int32 × aH)) (a1 : Nat) (a2 : Nat) (a3 : Nat) (x4 : Int32) (h : aH) : Option (Int32 × aH) :=
  (ck (inR (x4 + 1) L)).bind fun _ =>
  (ck (inR (x4 + 2) L)).bind fun _ =>
  (ck (inR (x4 + 3) L)).bind fun _ =>
  (ck (inR (x4 + 4) L)).bind fun _ =>
  (ck (hK h a1 = 13)).bind fun _ =>
  (F_X11_out a1 (X (x4 + 1).toNatClampNeg) (X (x4 + 2).toNatClampNeg) (X (x4 + 3).toNatClampNeg) (X (x4 + 4).toNatClampNeg) h).bind fun q9 =>
  bd q9.1 fun z8 =>
  bd q9.2 fun h7 =>
  (ck (hK h7 a2 = 14)).bind fun _ =>
  (F_X12_out a2 (X (x4 + 1).toNatClampNeg) (X (x4 + 2).toNatClampNeg) (X (x4 + 3).toNatClampNeg) (X (x4 + 4).toNatClampNeg) h7).bind fun q14 =>
  bd q14.1 fun z13 =>
  bd q14.2 fun h12 =>
  if z8 = z13 then
    F_L_law_1746 L X k23 a1 a2 a3 x4 h12
  else
    some (0, h12)

def F_L_law_699 (L : Nat) (X : Nat → Int32) (k23 : Nat → Nat → Nat → Int32 → aH → Option (Int32 × aH)) (a1 : Nat) (a2 : Nat) (a3 : Nat) (x4 : Int32) (h : aH) : Option (Int32 × aH) :=
  (ck (inR (x4 + 1) L)).bind fun _ =>
  (ck (inR (x4 + 2) L)).bind fun _ =>
  (ck (inR (x4 + 3) L)).bind fun _ =>
  (ck (inR (x4 + 4) L)).bind fun _ =>
  (ck (inR (x4 + 5) L)).bind fun _ =>
  (ck (hK h a1 = 13)).bind fun _ =>
  (F_X11_mend a1 (X (x4 + 1).toNatClampNeg) (X (x4 + 2).toNatClampNeg) (X (x4 + 3).toNatClampNeg) (X (x4 + 4).toNatClampNeg) (X (x4 + 5).toNatClampNeg) h).bind fun q10 =>
  bd q10.1 fun z9 =>
  bd q10.2 fun h8 =>
  (ck (hK h8 a2 = 14)).bind fun _ =>
  (F_X12_mend a2 (X (x4 + 1).toNatClampNeg) (X (x4 + 2).toNatClampNeg) (X (x4 + 3).toNatClampNeg) (X (x4 + 4).toNatClampNeg) (X (x4 + 5).toNatClampNeg) h8).bind fun q15 =>
  bd q15.1 fun z14 =>
  bd q15.2 fun h13 =>
  if z9 = z14 then
    F_L_law_1746 L X k23 a1 a2 a3 x4 h13
  else
    some (0, h13)

def F_L_law_626 (L : Nat) (X : Nat → Int32) (k23 : Nat → Nat → Nat → Int32 → aH → Option (Int32 × aH)) (a1 : Nat) (a2 : Nat) (a3 : Nat) (x4 : Int32) (h : aH) : Option (Int32 × aH) :=
  (ck (inR (x4 + 1) L)).bind fun _ =>
  (ck (inR (x4 + 2) L)).bind fun _ =>
  (ck (inR (x4 + 3) L)).bind fun _ =>
  (ck (inR (x4 + 4) L)).bind fun _ =>
  (ck (inR (x4 + 5) L)).bind fun _ =>
  (ck (hK h a1 = 13)).bind fun _ =>
  (F_X11_put a1 (X (x4 + 1).toNatClampNeg) (X (x4 + 2).toNatClampNeg) (X (x4 + 3).toNatClampNeg) (X (x4 + 4).toNatClampNeg) (X (x4 + 5).toNatClampNeg) h).bind fun q10 =>
  bd q10.1 fun z9 =>
  bd q10.2 fun h8 =>
  (ck (hK h8 a2 = 14)).bind fun _ =>
  (F_X12_put a2 (X (x4 + 1).toNatClampNeg) (X (x4 + 2).toNatClampNeg) (X (x4 + 3).toNatClampNeg) (X (x4 + 4).toNatClampNeg) (X (x4 + 5).toNatClampNeg) h8).bind fun q15 =>
  bd q15.1 fun z14 =>
  bd q15.2 fun h13 =>
  if z9 = z14 then
    F_L_law_1746 L X k23 a1 a2 a3 x4 h13
  else
    some (0, h13)

def F_L_law_577 (L : Nat) (X : Nat → Int32) (k23 : Nat → Nat → Nat → Int32 → aH → Option (Int32 × aH)) (a1 : Nat) (a2 : Nat) (a3 : Nat) (x4 : Int32) (h : aH) : Option (Int32 × aH) :=
  (ck (inR (x4 + 1) L)).bind fun _ =>
  (ck (inR (x4 + 2) L)).bind fun _ =>
  (ck (inR (x4 + 3) L)).bind fun _ =>
  (ck (hK h a1 = 13)).bind fun _ =>
  (F_X11_tear a1 (X (x4 + 1).toNatClampNeg) (X (x4 + 2).toNatClampNeg) (X (x4 + 3).toNatClampNeg) h).bind fun q8 =>
  bd q8.1 fun z7 =>
  bd q8.2 fun h6 =>
  (ck (hK h6 a2 = 14)).bind fun _ =>
  (F_X12_tear a2 (X (x4 + 1).toNatClampNeg) (X (x4 + 2).toNatClampNeg) (X (x4 + 3).toNatClampNeg) h6).bind fun q13 =>
  bd q13.1 fun z12 =>
  bd q13.2 fun h11 =>
  if z7 = z12 then
    F_L_law_1746 L X k23 a1 a2 a3 x4 h11
  else
    some (0, h11)

def F_L_law_516 (L : Nat) (X : Nat → Int32) (k23 : Nat → Nat → Nat → Int32 → aH → Option (Int32 × aH)) (a1 : Nat) (a2 : Nat) (a3 : Nat) (x4 : Int32) (h : aH) : Option (Int32 × aH) :=
  (ck (inR (x4 + 1) L)).bind fun _ =>
  (ck (inR (x4 + 2) L)).bind fun _ =>
  (ck (inR (x4 + 3) L)).bind fun _ =>
  (ck (inR (x4 + 4) L)).bind fun _ =>
  (ck (hK h a1 = 13)).bind fun _ =>
  (F_X11_open a1 (X (x4 + 1).toNatClampNeg) (X (x4 + 2).toNatClampNeg) (X (x4 + 3).toNatClampNeg) (X (x4 + 4).toNatClampNeg) h).bind fun q9 =>
  bd q9.1 fun z8 =>
  bd q9.2 fun h7 =>
  (ck (hK h7 a2 = 14)).bind fun _ =>
  (F_X12_open a2 (X (x4 + 1).toNatClampNeg) (X (x4 + 2).toNatClampNeg) (X (x4 + 3).toNatClampNeg) (X (x4 + 4).toNatClampNeg) h7).bind fun q14 =>
  bd q14.1 fun z13 =>
  bd q14.2 fun h12 =>
  if z8 = z13 then
    F_L_law_1746 L X k23 a1 a2 a3 x4 h12
  else
    some (0, h12)

def F_L_law_443 (L : Nat) (X : Nat → Int32) (k23 : Nat → Nat → Nat → Int32 → aH → Option (Int32 × aH)) (a1 : Nat) (a2 : Nat) (a3 : Nat) (x4 : Int32) (h : aH) : Option (Int32 × aH) :=
  (ck (inR (x4 + 1) L)).bind fun _ =>
  (ck (inR (x4 + 2) L)).bind fun _ =>
  (ck (inR (x4 + 3) L)).bind fun _ =>
  (ck (inR (x4 + 4) L)).bind fun _ =>
  (ck (inR (x4 + 5) L)).bind fun _ =>
  (ck (hK h a1 = 13)).bind fun _ =>
  (F_X11_feed a1 (X (x4 + 1).toNatClampNeg) (X (x4 + 2).toNatClampNeg) (X (x4 + 3).toNatClampNeg) (X (x4 + 4).toNatClampNeg) (X (x4 + 5).toNatClampNeg) h).bind fun q10 =>
  bd q10.1 fun z9 =>
  bd q10.2 fun h8 =>
  (ck (hK h8 a2 = 14)).bind fun _ =>
  (F_X12_feed a2 (X (x4 + 1).toNatClampNeg) (X (x4 + 2).toNatClampNeg) (X (x4 + 3).toNatClampNeg) (X (x4 + 4).toNatClampNeg) (X (x4 + 5).toNatClampNeg) h8).bind fun q15 =>
  bd q15.1 fun z14 =>
  bd q15.2 fun h13 =>
  if z9 = z14 then
    F_L_law_1746 L X k23 a1 a2 a3 x4 h13
  else
    some (0, h13)

def F_L_law_406 (L : Nat) (X : Nat → Int32) (k23 : Nat → Nat → Nat → Int32 → aH → Option (Int32 × aH)) (a1 : Nat) (a2 : Nat) (a3 : Nat) (x4 : Int32) (h : aH) : Option (Int32 × aH) :=
  (ck (inR (x4 + 1) L)).bind fun _ =>
  (ck (inR (x4 + 2) L)).bind fun _ =>
  (ck (hK h a1 = 13)).bind fun _ =>
  (F_X11_ball a1 (X (x4 + 1).toNatClampNeg) (X (x4 + 2).toNatClampNeg) h).bind fun q7 =>
  bd q7.1 fun z6 =>
  bd q7.2 fun h5 =>
  (ck (hK h5 a2 = 14)).bind fun _ =>
  (F_X12_ball a2 (X (x4 + 1).toNatClampNeg) (X (x4 + 2).toNatClampNeg) h5).bind fun q12 =>
  bd q12.1 fun z11 =>
  bd q12.2 fun h10 =>
  if z6 = z11 then
    F_L_law_1746 L X k23 a1 a2 a3 x4 h10
  else
    some (0, h10)

def F_L_law_369 (L : Nat) (X : Nat → Int32) (k23 : Nat → Nat → Nat → Int32 → aH → Option (Int32 × aH)) (a1 : Nat) (a2 : Nat) (a3 : Nat) (x4 : Int32) (h : aH) : Option (Int32 × aH) :=
  (ck (inR (x4 + 1) L)).bind fun _ =>
  (ck (inR (x4 + 2) L)).bind fun _ =>
  (ck (hK h a1 = 13)).bind fun _ =>
  (F_X11_over a1 (X (x4 + 1).toNatClampNeg) (X (x4 + 2).toNatClampNeg) h).bind fun q7 =>
  bd q7.1 fun z6 =>
  bd q7.2 fun h5 =>
  (ck (hK h5 a2 = 14)).bind fun _ =>
  (F_X12_over a2 (X (x4 + 1).toNatClampNeg) (X (x4 + 2).toNatClampNeg) h5).bind fun q12 =>
  bd q12.1 fun z11 =>
  bd q12.2 fun h10 =>
  if z6 = z11 then
    F_L_law_1746 L X k23 a1 a2 a3 x4 h10
  else
    some (0, h10)

def F_L_law_344 (L : Nat) (X : Nat → Int32) (k23 : Nat → Nat → Nat → Int32 → aH → Option (Int32 × aH)) (a1 : Nat) (a2 : Nat) (a3 : Nat) (x4 : Int32) (h : aH) : Option (Int32 × aH) :=
  (ck (inR (x4 + 1) L)).bind fun _ =>
  (ck (hK h a1 = 13)).bind fun _ =>
  (F_X11_turn a1 (X (x4 + 1).toNatClampNeg) h).bind fun q6 =>
  bd q6.1 fun z5 =>
  bd q6.2 fun h4 =>
  (ck (hK h4 a2 = 14)).bind fun _ =>
  (F_X12_turn a2 (X (x4 + 1).toNatClampNeg) h4).bind fun q11 =>
  bd q11.1 fun z10 =>
  bd q11.2 fun h9 =>
  if z5 = z10 then
    F_L_law_1746 L X k23 a1 a2 a3 x4 h9
  else
    some (0, h9)

def F_L_law_283 (L : Nat) (X : Nat → Int32) (k23 : Nat → Nat → Nat → Int32 → aH → Option (Int32 × aH)) (a1 : Nat) (a2 : Nat) (a3 : Nat) (x4 : Int32) (h : aH) : Option (Int32 × aH) :=
  (ck (inR (x4 + 1) L)).bind fun _ =>
  (ck (inR (x4 + 2) L)).bind fun _ =>
  (ck (inR (x4 + 3) L)).bind fun _ =>
  (ck (inR (x4 + 4) L)).bind fun _ =>
  (ck (hK h a1 = 13)).bind fun _ =>
  (F_X11_seat a1 (X (x4 + 1).toNatClampNeg) (X (x4 + 2).toNatClampNeg) (X (x4 + 3).toNatClampNeg) (X (x4 + 4).toNatClampNeg) h).bind fun q9 =>
  bd q9.1 fun z8 =>
  bd q9.2 fun h7 =>
  (ck (hK h7 a2 = 14)).bind fun _ =>
  (F_X12_seat a2 (X (x4 + 1).toNatClampNeg) (X (x4 + 2).toNatClampNeg) (X (x4 + 3).toNatClampNeg) (X (x4 + 4).toNatClampNeg) h7).bind fun q14 =>
  bd q14.1 fun z13 =>
  bd q14.2 fun h12 =>
  if z8 = z13 then
    F_L_law_1746 L X k23 a1 a2 a3 x4 h12
  else
    some (0, h12)

def F_L_law_222 (L : Nat) (X : Nat → Int32) (k23 : Nat → Nat → Nat → Int32 → aH → Option (Int32 × aH)) (a1 : Nat) (a2 : Nat) (a3 : Nat) (x4 : Int32) (h : aH) : Option (Int32 × aH) :=
  (ck (inR (x4 + 1) L)).bind fun _ =>
  (ck (inR (x4 + 2) L)).bind fun _ =>
  (ck (inR (x4 + 3) L)).bind fun _ =>
  (ck (inR (x4 + 4) L)).bind fun _ =>
  (ck (hK h a1 = 13)).bind fun _ =>
  (F_X11_toss a1 (X (x4 + 1).toNatClampNeg) (X (x4 + 2).toNatClampNeg) (X (x4 + 3).toNatClampNeg) (X (x4 + 4).toNatClampNeg) h).bind fun q9 =>
  bd q9.1 fun z8 =>
  bd q9.2 fun h7 =>
  (ck (hK h7 a2 = 14)).bind fun _ =>
  (F_X12_toss a2 (X (x4 + 1).toNatClampNeg) (X (x4 + 2).toNatClampNeg) (X (x4 + 3).toNatClampNeg) (X (x4 + 4).toNatClampNeg) h7).bind fun q14 =>
  bd q14.1 fun z13 =>
  bd q14.2 fun h12 =>
  if z8 = z13 then
    F_L_law_1746 L X k23 a1 a2 a3 x4 h12
  else
    some (0, h12)

def F_L_law_197 (L : Nat) (X : Nat → Int32) (k23 : Nat → Nat → Nat → Int32 → aH → Option (Int32 × aH)) (a1 : Nat) (a2 : Nat) (a3 : Nat) (x4 : Int32) (h : aH) : Option (Int32 × aH) :=
  (ck (inR (x4 + 1) L)).bind fun _ =>
  (ck (hK h a1 = 13)).bind fun _ =>
  (F_X11_player a1 (X (x4 + 1).toNatClampNeg) h).bind fun q6 =>
  bd q6.1 fun z5 =>
  bd q6.2 fun h4 =>
  (ck (hK h4 a2 = 14)).bind fun _ =>
  (F_X12_player a2 (X (x4 + 1).toNatClampNeg) h4).bind fun q11 =>
  bd q11.1 fun z10 =>
  bd q11.2 fun h9 =>
  if z5 = z10 then
    F_L_law_1746 L X k23 a1 a2 a3 x4 h9
  else
    some (0, h9)

def F_L_law_172 (L : Nat) (X : Nat → Int32) (k23 : Nat → Nat → Nat → Int32 → aH → Option (Int32 × aH)) (a1 : Nat) (a2 : Nat) (a3 : Nat) (x4 : Int32) (h : aH) : Option (Int32 × aH) :=
  (ck (inR (x4 + 1) L)).bind fun _ =>
  (ck (hK h a1 = 13)).bind fun _ =>
  (F_X11_side a1 (X (x4 + 1).toNatClampNeg) h).bind fun q6 =>
  bd q6.1 fun z5 =>
  bd q6.2 fun h4 =>
  (ck (hK h4 a2 = 14)).bind fun _ =>
  (F_X12_side a2 (X (x4 + 1).toNatClampNeg) h4).bind fun q11 =>
  bd q11.1 fun z10 =>
  bd q11.2 fun h9 =>
  if z5 = z10 then
    F_L_law_1746 L X k23 a1 a2 a3 x4 h9
  else
    some (0, h9)

def F_L_law_23 (L : Nat) (X : Nat → Int32) : Nat → Nat → Nat → Nat → Int32 → aH → Option (Int32 × aH)
  | 0, _, _, _, _, _ => none
  | n + 1, a1, a2, a3, x4, h =>
  if (Int32.ofNat L) - 6 < x4 then
    some (1, h)
  else
    (ck (inR x4 L)).bind fun _ =>
    if (X x4.toNatClampNeg) &&& 31 = 0 then
      F_L_law_172 L X (F_L_law_23 L X n) a1 a2 a3 x4 h
    else
    if (X x4.toNatClampNeg) &&& 31 = 1 then
      F_L_law_197 L X (F_L_law_23 L X n) a1 a2 a3 x4 h
    else
    if (X x4.toNatClampNeg) &&& 31 = 2 then
      F_L_law_222 L X (F_L_law_23 L X n) a1 a2 a3 x4 h
    else
    if (X x4.toNatClampNeg) &&& 31 = 3 then
      F_L_law_283 L X (F_L_law_23 L X n) a1 a2 a3 x4 h
    else
    if (X x4.toNatClampNeg) &&& 31 = 4 then
      F_L_law_344 L X (F_L_law_23 L X n) a1 a2 a3 x4 h
    else
    if (X x4.toNatClampNeg) &&& 31 = 5 then
      F_L_law_369 L X (F_L_law_23 L X n) a1 a2 a3 x4 h
    else
    if (X x4.toNatClampNeg) &&& 31 = 6 then
      F_L_law_406 L X (F_L_law_23 L X n) a1 a2 a3 x4 h
    else
    if (X x4.toNatClampNeg) &&& 31 = 7 then
      F_L_law_443 L X (F_L_law_23 L X n) a1 a2 a3 x4 h
    else
    if (X x4.toNatClampNeg) &&& 31 = 8 then
      F_L_law_516 L X (F_L_law_23 L X n) a1 a2 a3 x4 h
    else
    if (X x4.toNatClampNeg) &&& 31 = 9 then
      F_L_law_577 L X (F_L_law_23 L X n) a1 a2 a3 x4 h
    else
    if (X x4.toNatClampNeg) &&& 31 = 10 then
      F_L_law_626 L X (F_L_law_23 L X n) a1 a2 a3 x4 h
    else
    if (X x4.toNatClampNeg) &&& 31 = 11 then
      F_L_law_699 L X (F_L_law_23 L X n) a1 a2 a3 x4 h
    else
    if (X x4.toNatClampNeg) &&& 31 = 12 then
      F_L_law_772 L X (F_L_law_23 L X n) a1 a2 a3 x4 h
    else
    if (X x4.toNatClampNeg) &&& 31 = 13 then
      F_L_law_833 L X (F_L_law_23 L X n) a1 a2 a3 x4 h
    else
    if (X x4.toNatClampNeg) &&& 31 = 14 then
      F_L_law_894 L X (F_L_law_23 L X n) a1 a2 a3 x4 h
    else
    if (X x4.toNatClampNeg) &&& 31 = 15 then
      F_L_law_907 L X (F_L_law_23 L X n) a1 a2 a3 x4 h
    else
    if (X x4.toNatClampNeg) &&& 31 = 16 then
      F_L_law_920 L X (F_L_law_23 L X n) a1 a2 a3 x4 h
    else
    if (X x4.toNatClampNeg) &&& 31 = 17 then
      F_L_law_988 L X (F_L_law_23 L X n) a1 a2 a3 x4 h
    else
    if (X x4.toNatClampNeg) &&& 31 = 18 then
      F_L_law_1068 L X (F_L_law_23 L X n) a1 a2 a3 x4 h
    else
    if (X x4.toNatClampNeg) &&& 31 = 19 then
      F_L_law_1160 L X (F_L_law_23 L X n) a1 a2 a3 x4 h
    else
    if (X x4.toNatClampNeg) &&& 31 = 20 then
      F_L_law_1252 L X (F_L_law_23 L X n) a1 a2 a3 x4 h
    else
    if (X x4.toNatClampNeg) &&& 31 = 21 then
      F_L_law_1344 L X (F_L_law_23 L X n) a1 a2 a3 x4 h
    else
    if (X x4.toNatClampNeg) &&& 31 = 22 then
      F_L_law_1436 L X (F_L_law_23 L X n) a1 a2 a3 x4 h
    else
    if (X x4.toNatClampNeg) &&& 31 = 23 then
      F_L_law_1504 L X (F_L_law_23 L X n) a1 a2 a3 x4 h
    else
    if (X x4.toNatClampNeg) &&& 31 = 24 then
      F_L_law_1529 L X (F_L_law_23 L X n) a1 a2 a3 x4 h
    else
    if (X x4.toNatClampNeg) &&& 31 = 25 then
      F_L_law_1585 L X (F_L_law_23 L X n) a1 a2 a3 x4 h
    else
    if (X x4.toNatClampNeg) &&& 31 = 26 then
      F_L_law_1610 L X (F_L_law_23 L X n) a1 a2 a3 x4 h
    else
    if (X x4.toNatClampNeg) &&& 31 = 27 then
      F_L_law_1635 L X (F_L_law_23 L X n) a1 a2 a3 x4 h
    else
    if (X x4.toNatClampNeg) &&& 31 = 28 then
      F_L_law_1691 L X (F_L_law_23 L X n) a1 a2 a3 x4 h
    else
    F_L_law_1746 L X (F_L_law_23 L X n) a1 a2 a3 x4 h

def F_L_law_0 (L : Nat) (X : Nat → Int32) (h : aH) : Option (Int32 × aH) :=
  bd (hz h) fun b1 =>
  bd (nO h 13 12) fun h2 =>
  (ck (hK h2 b1 = 13)).bind fun _ =>
  (F_X11_init b1 h2).bind fun h5 =>
  bd (hz h5) fun b7 =>
  bd (nO h5 14 72) fun h8 =>
  (ck (hK h8 b7 = 14)).bind fun _ =>
  (F_X12_init b7 h8).bind fun h11 =>
  bd (hz h11) fun b13 =>
  bd (nA h11 23 1) fun h14 =>
  F_L_law_23 L X fu b1 b7 b13 0 h14

set_option maxRecDepth 20000 in
theorem lk_L_law_1746 {g : aG} {l : Launch} {d : Nat} {h0 : aH} (hdd : 12 ≤ d) (hl : l.stackTraces = false) {L : Nat} {X : Nat → Int32} (eL : gXL g = L) (eX : gXf g = X) {zc zs : Nat} {Z : List Frame → Array Value → State → State → Prop} (hend : ∀ {pc : Nat} {lv : List (Nat × Value)} {h : aH}, hz h ≤ zc → hs h ≤ zs → decode cL_law pc = .ok (.ireturn, 1) → EvG g l cL_law 8 yL_law (some .boolean) d h0 zc zs Z pc lv [.int 1] h) {h1 : aH} (hb : hz h1 ≤ zc ∧ hs h1 ≤ zs) (k23 : Nat → Nat → Nat → Int32 → aH → Option (Int32 × aH)) (hk23 : ∀ (a1 : Nat) (a2 : Nat) (a3 : Nat) (x4 : Int32) (h : aH), k23 a1 a2 a3 x4 h = some (1, h1) → EvG g l cL_law 8 yL_law (some .boolean) d h0 zc zs Z 23 [(0, .ref (gXb g)), (1, .ref a1), (2, .ref a2), (3, .ref a3), (4, .int x4)] [] h) (a1 : Nat) (a2 : Nat) (a3 : Nat) (x4 : Int32) (h : aH) (HF : F_L_law_1746 L X k23 a1 a2 a3 x4 h = some (1, h1)) : EvG g l cL_law 8 yL_law (some .boolean) d h0 zc zs Z 1746 [(0, .ref (gXb g)), (1, .ref a1), (2, .ref a2), (3, .ref a3), (4, .int x4)] [] h := by
  unfold F_L_law_1746 at HF
  replace HF := bd_n HF
  obtain ⟨v1, ev1, HF⟩ := HF
  refine ev_iinc (v := v1) (lv' := [(4, .int v1), (0, .ref (gXb g)), (1, .ref a1), (2, .ref a2), (3, .ref a3)]) 4 dL_law_1746 rfl (by rw [ev1]; rfl) (by decide) (rfl) ?_
  refine ev_goto (tgt := 23) dL_law_1749 (by decide) ?_
  exact Ev.sub [1, 2, 3, 4, 0] rfl (hk23 a1 a2 a3 v1 _ HF)

set_option maxRecDepth 20000 in
theorem lk_L_law_1743 {g : aG} {l : Launch} {d : Nat} {h0 : aH} (hdd : 12 ≤ d) (hl : l.stackTraces = false) {L : Nat} {X : Nat → Int32} (eL : gXL g = L) (eX : gXf g = X) {zc zs : Nat} {Z : List Frame → Array Value → State → State → Prop} (hend : ∀ {pc : Nat} {lv : List (Nat × Value)} {h : aH}, hz h ≤ zc → hs h ≤ zs → decode cL_law pc = .ok (.ireturn, 1) → EvG g l cL_law 8 yL_law (some .boolean) d h0 zc zs Z pc lv [.int 1] h) {h1 : aH} (hb : hz h1 ≤ zc ∧ hs h1 ≤ zs) (k23 : Nat → Nat → Nat → Int32 → aH → Option (Int32 × aH)) (hk23 : ∀ (a1 : Nat) (a2 : Nat) (a3 : Nat) (x4 : Int32) (h : aH), k23 a1 a2 a3 x4 h = some (1, h1) → EvG g l cL_law 8 yL_law (some .boolean) d h0 zc zs Z 23 [(0, .ref (gXb g)), (1, .ref a1), (2, .ref a2), (3, .ref a3), (4, .int x4)] [] h) (a1 : Nat) (a2 : Nat) (a3 : Nat) (x4 : Int32) (h : aH) (HF : F_L_law_1743 L X k23 a1 a2 a3 x4 h = some (1, h1)) : EvG g l cL_law 8 yL_law (some .boolean) d h0 zc zs Z 1743 [(0, .ref (gXb g)), (1, .ref a1), (2, .ref a2), (3, .ref a3), (4, .int x4)] [] h := by
  unfold F_L_law_1743 at HF
  refine ev_goto (tgt := 1746) dL_law_1743 (by decide) ?_
  exact Ev.sub [0, 1, 2, 3, 4] rfl (lk_L_law_1746 hdd hl eL eX hend hb k23 hk23 a1 a2 a3 x4 _ HF)

set_option maxRecDepth 20000 in
theorem lk_L_law_1691 {g : aG} {l : Launch} {d : Nat} {h0 : aH} (hdd : 12 ≤ d) (hl : l.stackTraces = false) {L : Nat} {X : Nat → Int32} (eL : gXL g = L) (eX : gXf g = X) {zc zs : Nat} {Z : List Frame → Array Value → State → State → Prop} (hend : ∀ {pc : Nat} {lv : List (Nat × Value)} {h : aH}, hz h ≤ zc → hs h ≤ zs → decode cL_law pc = .ok (.ireturn, 1) → EvG g l cL_law 8 yL_law (some .boolean) d h0 zc zs Z pc lv [.int 1] h) {h1 : aH} (hb : hz h1 ≤ zc ∧ hs h1 ≤ zs) (k23 : Nat → Nat → Nat → Int32 → aH → Option (Int32 × aH)) (hk23 : ∀ (a1 : Nat) (a2 : Nat) (a3 : Nat) (x4 : Int32) (h : aH), k23 a1 a2 a3 x4 h = some (1, h1) → EvG g l cL_law 8 yL_law (some .boolean) d h0 zc zs Z 23 [(0, .ref (gXb g)), (1, .ref a1), (2, .ref a2), (3, .ref a3), (4, .int x4)] [] h) (a1 : Nat) (a2 : Nat) (a3 : Nat) (x4 : Int32) (h : aH) (HF : F_L_law_1691 L X k23 a1 a2 a3 x4 h = some (1, h1)) : EvG g l cL_law 8 yL_law (some .boolean) d h0 zc zs Z 1691 [(0, .ref (gXb g)), (1, .ref a1), (2, .ref a2), (3, .ref a3), (4, .int x4)] [] h := by
  unfold F_L_law_1691 at HF
  refine ev_aload_n 1 dL_law_1691 rfl ?_
  refine ev_aload_n 0 dL_law_1692 rfl ?_
  refine ev_iload 4 dL_law_1693 rfl ?_
  refine ev_iconst (v := 1) dL_law_1695 (by decide) ?_
  refine ev_iadd dL_law_1696 ?_
  replace HF := bind_ck HF
  obtain ⟨c1, HF⟩ := HF
  refine ev_xld eL eX dL_law_1697 c1 ?_
  refine ev_aload_n 3 dL_law_1698 rfl ?_
  show EvG _ _ _ _ _ _ _ _ _ _ _ 1699 _ _ _
  replace HF := bind_o HF
  obtain ⟨⟨z4, h3⟩, e2, HF⟩ := HF
  replace HF := bd_o (bd_o HF)
  dsimp only at HF
  refine ev_callSW (As := [.ref a1, .int (X (x4 + 1).toNatClampNeg), .ref a3]) (R1 := (some (.int z4), h3)) (lk_L_sum hl (d := 8) (Nat.le_refl _) e2) cw_L_sum in_law nn_L_sum st_L_sum ml_L_169 dL_law_1699 (by omega) (Nat.le_of_ble_eq_true rfl) rfl rfl ?_
  show EvG _ _ _ _ _ _ _ _ _ _ _ 1702 [(0, .ref (gXb g)), (1, .ref a1), (2, .ref a2), (3, .ref a3), (4, .int x4)] [.int z4] h3
  refine ev_istore (lv' := [(5, .int z4), (0, .ref (gXb g)), (1, .ref a1), (2, .ref a2), (3, .ref a3), (4, .int x4)]) dL_law_1702 (by decide) (rfl) ?_
  refine ev_aload_n 3 dL_law_1704 rfl ?_
  refine ev_aload_n 1 dL_law_1705 rfl ?_
  refine ev_iload 5 dL_law_1706 rfl ?_
  refine ev_iconst (v := 1) dL_law_1708 (by decide) ?_
  refine ev_iadd dL_law_1709 ?_
  refine ev_xld eL eX dL_law_1710 c1 ?_
  show EvG _ _ _ _ _ _ _ _ _ _ _ 1711 _ _ _
  replace HF := bind_ck HF
  obtain ⟨c6, HF⟩ := HF
  replace HF := bind_o HF
  obtain ⟨⟨z9, h8⟩, e7, HF⟩ := HF
  replace HF := bd_o (bd_o HF)
  dsimp only at HF
  refine ev_callV (As := [.int (X (x4 + 1).toNatClampNeg)]) (R1 := (some (.long z9), h8)) (lk_X12_sum (d := 6) (Nat.le_refl _) c6 e7) ce_X12_sum im_X12_sum sl_X12_sum ml_L_171 cl_X12 c6 dL_law_1711 (by omega) (Nat.le_of_ble_eq_true rfl) rfl rfl ?_
  show EvG _ _ _ _ _ _ _ _ _ _ _ 1714 [(5, .int z4), (0, .ref (gXb g)), (1, .ref a1), (2, .ref a2), (3, .ref a3), (4, .int x4)] [.long z9] h8
  refine ev_lstore (lv' := [(6, .long z9), (5, .int z4), (0, .ref (gXb g)), (1, .ref a1), (2, .ref a2), (3, .ref a3), (4, .int x4)]) dL_law_1714 (by decide) (rfl) ?_
  refine ev_aload_n 4 dL_law_1716 rfl ?_
  replace HF := bind_ck HF
  obtain ⟨c11, HF⟩ := HF
  replace HF := bind_o HF
  obtain ⟨⟨z14, h13⟩, e12, HF⟩ := HF
  replace HF := bd_o (bd_o HF)
  dsimp only at HF
  refine ev_callV (As := []) (R1 := (some (.int z14), h13)) (lk_X12_thrown (d := 0) (Nat.le_refl _) c11 e12) ce_X12_thrown im_X12_thrown sl_X12_thrown ml_L_127 cl_X12 c11 dL_law_1717 (by omega) (Nat.le_of_ble_eq_true rfl) rfl rfl ?_
  show EvG _ _ _ _ _ _ _ _ _ _ _ 1720 [(6, .long z9), (5, .int z4), (0, .ref (gXb g)), (1, .ref a1), (2, .ref a2), (3, .ref a3), (4, .int x4)] [.int z14] h13
  refine ev_iload 1 dL_law_1720 rfl ?_
  by_cases c16 : z14 = z4
  · replace HF := ite_T c16 HF
    refine ev_icmp_eqT (tgt := 1727) dL_law_1722 (by decide) c16 ?_
    refine ev_iload 1 dL_law_1727 rfl ?_
    by_cases c17 : z4 = 0
    · replace HF := ite_T c17 HF
      refine ev_if_neF (tgt := 1743) dL_law_1729 (by decide) c17 ?_
      refine ev_aload_n 5 dL_law_1732 rfl ?_
      refine ev_iconst (v := 0) dL_law_1733 (by decide) ?_
      replace HF := bind_ck HF
      obtain ⟨c18, HF⟩ := HF
      refine ev_lald dL_law_1734 c18.1 c18.2 ?_
      refine ev_lload 0 dL_law_1735 rfl ?_
      refine ev_lcmp dL_law_1737 ?_
      by_cases c19 : lg_cmp (hJ h13 a3 (0 : Int32).toNatClampNeg) z9 = 0
      · replace HF := ite_T c19 HF
        refine ev_if_eqT (tgt := 1743) dL_law_1738 (by decide) c19 ?_
        exact Ev.sub [2, 3, 4, 5, 6] rfl (lk_L_law_1743 hdd hl eL eX hend hb k23 hk23 a1 a2 a3 x4 _ HF)
      · replace HF := ite_F c19 HF
        refine ev_if_eqF (tgt := 1743) dL_law_1738 (by decide) c19 ?_
        refine ev_iconst (v := 0) dL_law_1741 (by decide) ?_
        exact absurd (show (0 : Int32) = 1 from congrArg Prod.fst (Option.some.inj HF)) (by decide)
    · replace HF := ite_F c17 HF
      refine ev_if_neT (tgt := 1743) dL_law_1729 (by decide) c17 ?_
      exact Ev.sub [2, 3, 4, 5, 6] rfl (lk_L_law_1743 hdd hl eL eX hend hb k23 hk23 a1 a2 a3 x4 _ HF)
  · replace HF := ite_F c16 HF
    refine ev_icmp_eqF (tgt := 1727) dL_law_1722 (by decide) c16 ?_
    refine ev_iconst (v := 0) dL_law_1725 (by decide) ?_
    exact absurd (show (0 : Int32) = 1 from congrArg Prod.fst (Option.some.inj HF)) (by decide)

set_option maxRecDepth 20000 in
theorem lk_L_law_1688 {g : aG} {l : Launch} {d : Nat} {h0 : aH} (hdd : 12 ≤ d) (hl : l.stackTraces = false) {L : Nat} {X : Nat → Int32} (eL : gXL g = L) (eX : gXf g = X) {zc zs : Nat} {Z : List Frame → Array Value → State → State → Prop} (hend : ∀ {pc : Nat} {lv : List (Nat × Value)} {h : aH}, hz h ≤ zc → hs h ≤ zs → decode cL_law pc = .ok (.ireturn, 1) → EvG g l cL_law 8 yL_law (some .boolean) d h0 zc zs Z pc lv [.int 1] h) {h1 : aH} (hb : hz h1 ≤ zc ∧ hs h1 ≤ zs) (k23 : Nat → Nat → Nat → Int32 → aH → Option (Int32 × aH)) (hk23 : ∀ (a1 : Nat) (a2 : Nat) (a3 : Nat) (x4 : Int32) (h : aH), k23 a1 a2 a3 x4 h = some (1, h1) → EvG g l cL_law 8 yL_law (some .boolean) d h0 zc zs Z 23 [(0, .ref (gXb g)), (1, .ref a1), (2, .ref a2), (3, .ref a3), (4, .int x4)] [] h) (a1 : Nat) (a2 : Nat) (a3 : Nat) (x4 : Int32) (h : aH) (HF : F_L_law_1688 L X k23 a1 a2 a3 x4 h = some (1, h1)) : EvG g l cL_law 8 yL_law (some .boolean) d h0 zc zs Z 1688 [(0, .ref (gXb g)), (1, .ref a1), (2, .ref a2), (3, .ref a3), (4, .int x4)] [] h := by
  unfold F_L_law_1688 at HF
  refine ev_goto (tgt := 1746) dL_law_1688 (by decide) ?_
  exact Ev.sub [0, 1, 2, 3, 4] rfl (lk_L_law_1746 hdd hl eL eX hend hb k23 hk23 a1 a2 a3 x4 _ HF)

set_option maxRecDepth 20000 in
theorem lk_L_law_1635 {g : aG} {l : Launch} {d : Nat} {h0 : aH} (hdd : 12 ≤ d) (hl : l.stackTraces = false) {L : Nat} {X : Nat → Int32} (eL : gXL g = L) (eX : gXf g = X) {zc zs : Nat} {Z : List Frame → Array Value → State → State → Prop} (hend : ∀ {pc : Nat} {lv : List (Nat × Value)} {h : aH}, hz h ≤ zc → hs h ≤ zs → decode cL_law pc = .ok (.ireturn, 1) → EvG g l cL_law 8 yL_law (some .boolean) d h0 zc zs Z pc lv [.int 1] h) {h1 : aH} (hb : hz h1 ≤ zc ∧ hs h1 ≤ zs) (k23 : Nat → Nat → Nat → Int32 → aH → Option (Int32 × aH)) (hk23 : ∀ (a1 : Nat) (a2 : Nat) (a3 : Nat) (x4 : Int32) (h : aH), k23 a1 a2 a3 x4 h = some (1, h1) → EvG g l cL_law 8 yL_law (some .boolean) d h0 zc zs Z 23 [(0, .ref (gXb g)), (1, .ref a1), (2, .ref a2), (3, .ref a3), (4, .int x4)] [] h) (a1 : Nat) (a2 : Nat) (a3 : Nat) (x4 : Int32) (h : aH) (HF : F_L_law_1635 L X k23 a1 a2 a3 x4 h = some (1, h1)) : EvG g l cL_law 8 yL_law (some .boolean) d h0 zc zs Z 1635 [(0, .ref (gXb g)), (1, .ref a1), (2, .ref a2), (3, .ref a3), (4, .int x4)] [] h := by
  unfold F_L_law_1635 at HF
  refine ev_aload_n 1 dL_law_1635 rfl ?_
  refine ev_aload_n 0 dL_law_1636 rfl ?_
  refine ev_iload 4 dL_law_1637 rfl ?_
  refine ev_iconst (v := 1) dL_law_1639 (by decide) ?_
  refine ev_iadd dL_law_1640 ?_
  replace HF := bind_ck HF
  obtain ⟨c1, HF⟩ := HF
  refine ev_xld eL eX dL_law_1641 c1 ?_
  refine ev_aload_n 3 dL_law_1642 rfl ?_
  show EvG _ _ _ _ _ _ _ _ _ _ _ 1643 _ _ _
  replace HF := bind_o HF
  obtain ⟨⟨z4, h3⟩, e2, HF⟩ := HF
  replace HF := bd_o (bd_o HF)
  dsimp only at HF
  refine ev_callSW (As := [.ref a1, .int (X (x4 + 1).toNatClampNeg), .ref a3]) (R1 := (some (.int z4), h3)) (lk_L_list hl (d := 7) (Nat.le_refl _) e2) cw_L_list in_law nn_L_list st_L_list ml_L_166 dL_law_1643 (by omega) (Nat.le_of_ble_eq_true rfl) rfl rfl ?_
  show EvG _ _ _ _ _ _ _ _ _ _ _ 1646 [(0, .ref (gXb g)), (1, .ref a1), (2, .ref a2), (3, .ref a3), (4, .int x4)] [.int z4] h3
  refine ev_istore (lv' := [(5, .int z4), (0, .ref (gXb g)), (1, .ref a1), (2, .ref a2), (3, .ref a3), (4, .int x4)]) dL_law_1646 (by decide) (rfl) ?_
  refine ev_aload_n 3 dL_law_1648 rfl ?_
  refine ev_aload_n 1 dL_law_1649 rfl ?_
  refine ev_iload 5 dL_law_1650 rfl ?_
  refine ev_iconst (v := 1) dL_law_1652 (by decide) ?_
  refine ev_iadd dL_law_1653 ?_
  refine ev_xld eL eX dL_law_1654 c1 ?_
  show EvG _ _ _ _ _ _ _ _ _ _ _ 1655 _ _ _
  replace HF := bind_ck HF
  obtain ⟨c6, HF⟩ := HF
  replace HF := bind_o HF
  obtain ⟨⟨z9, h8⟩, e7, HF⟩ := HF
  replace HF := bd_o (bd_o HF)
  dsimp only at HF
  refine ev_callV (As := [.int (X (x4 + 1).toNatClampNeg)]) (R1 := (some (.int z9), h8)) (lk_X12_list (d := 1) (Nat.le_refl _) c6 e7) ce_X12_list im_X12_list sl_X12_list ml_L_168 cl_X12 c6 dL_law_1655 (by omega) (Nat.le_of_ble_eq_true rfl) rfl rfl ?_
  show EvG _ _ _ _ _ _ _ _ _ _ _ 1658 [(5, .int z4), (0, .ref (gXb g)), (1, .ref a1), (2, .ref a2), (3, .ref a3), (4, .int x4)] [.int z9] h8
  refine ev_istore (lv' := [(6, .int z9), (5, .int z4), (0, .ref (gXb g)), (1, .ref a1), (2, .ref a2), (3, .ref a3), (4, .int x4)]) dL_law_1658 (by decide) (rfl) ?_
  refine ev_aload_n 4 dL_law_1660 rfl ?_
  replace HF := bind_ck HF
  obtain ⟨c11, HF⟩ := HF
  replace HF := bind_o HF
  obtain ⟨⟨z14, h13⟩, e12, HF⟩ := HF
  replace HF := bd_o (bd_o HF)
  dsimp only at HF
  refine ev_callV (As := []) (R1 := (some (.int z14), h13)) (lk_X12_thrown (d := 0) (Nat.le_refl _) c11 e12) ce_X12_thrown im_X12_thrown sl_X12_thrown ml_L_127 cl_X12 c11 dL_law_1661 (by omega) (Nat.le_of_ble_eq_true rfl) rfl rfl ?_
  show EvG _ _ _ _ _ _ _ _ _ _ _ 1664 [(6, .int z9), (5, .int z4), (0, .ref (gXb g)), (1, .ref a1), (2, .ref a2), (3, .ref a3), (4, .int x4)] [.int z14] h13
  refine ev_iload 1 dL_law_1664 rfl ?_
  by_cases c16 : z14 = z4
  · replace HF := ite_T c16 HF
    refine ev_icmp_eqT (tgt := 1671) dL_law_1666 (by decide) c16 ?_
    refine ev_iload 1 dL_law_1671 rfl ?_
    by_cases c17 : z4 = 0
    · replace HF := ite_T c17 HF
      refine ev_if_neF (tgt := 1688) dL_law_1673 (by decide) c17 ?_
      refine ev_aload_n 5 dL_law_1676 rfl ?_
      refine ev_iconst (v := 0) dL_law_1677 (by decide) ?_
      replace HF := bind_ck HF
      obtain ⟨c18, HF⟩ := HF
      refine ev_lald dL_law_1678 c18.1 c18.2 ?_
      refine ev_iload 0 dL_law_1679 rfl ?_
      refine ev_i2l dL_law_1681 ?_
      refine ev_lcmp dL_law_1682 ?_
      by_cases c19 : lg_cmp (hJ h13 a3 (0 : Int32).toNatClampNeg) z9.toInt64 = 0
      · replace HF := ite_T c19 HF
        refine ev_if_eqT (tgt := 1688) dL_law_1683 (by decide) c19 ?_
        exact Ev.sub [2, 3, 4, 5, 6] rfl (lk_L_law_1688 hdd hl eL eX hend hb k23 hk23 a1 a2 a3 x4 _ HF)
      · replace HF := ite_F c19 HF
        refine ev_if_eqF (tgt := 1688) dL_law_1683 (by decide) c19 ?_
        refine ev_iconst (v := 0) dL_law_1686 (by decide) ?_
        exact absurd (show (0 : Int32) = 1 from congrArg Prod.fst (Option.some.inj HF)) (by decide)
    · replace HF := ite_F c17 HF
      refine ev_if_neT (tgt := 1688) dL_law_1673 (by decide) c17 ?_
      exact Ev.sub [2, 3, 4, 5, 6] rfl (lk_L_law_1688 hdd hl eL eX hend hb k23 hk23 a1 a2 a3 x4 _ HF)
  · replace HF := ite_F c16 HF
    refine ev_icmp_eqF (tgt := 1671) dL_law_1666 (by decide) c16 ?_
    refine ev_iconst (v := 0) dL_law_1669 (by decide) ?_
    exact absurd (show (0 : Int32) = 1 from congrArg Prod.fst (Option.some.inj HF)) (by decide)

set_option maxRecDepth 20000 in
theorem lk_L_law_1610 {g : aG} {l : Launch} {d : Nat} {h0 : aH} (hdd : 12 ≤ d) (hl : l.stackTraces = false) {L : Nat} {X : Nat → Int32} (eL : gXL g = L) (eX : gXf g = X) {zc zs : Nat} {Z : List Frame → Array Value → State → State → Prop} (hend : ∀ {pc : Nat} {lv : List (Nat × Value)} {h : aH}, hz h ≤ zc → hs h ≤ zs → decode cL_law pc = .ok (.ireturn, 1) → EvG g l cL_law 8 yL_law (some .boolean) d h0 zc zs Z pc lv [.int 1] h) {h1 : aH} (hb : hz h1 ≤ zc ∧ hs h1 ≤ zs) (k23 : Nat → Nat → Nat → Int32 → aH → Option (Int32 × aH)) (hk23 : ∀ (a1 : Nat) (a2 : Nat) (a3 : Nat) (x4 : Int32) (h : aH), k23 a1 a2 a3 x4 h = some (1, h1) → EvG g l cL_law 8 yL_law (some .boolean) d h0 zc zs Z 23 [(0, .ref (gXb g)), (1, .ref a1), (2, .ref a2), (3, .ref a3), (4, .int x4)] [] h) (a1 : Nat) (a2 : Nat) (a3 : Nat) (x4 : Int32) (h : aH) (HF : F_L_law_1610 L X k23 a1 a2 a3 x4 h = some (1, h1)) : EvG g l cL_law 8 yL_law (some .boolean) d h0 zc zs Z 1610 [(0, .ref (gXb g)), (1, .ref a1), (2, .ref a2), (3, .ref a3), (4, .int x4)] [] h := by
  unfold F_L_law_1610 at HF
  refine ev_aload_n 1 dL_law_1610 rfl ?_
  refine ev_aload_n 0 dL_law_1611 rfl ?_
  refine ev_iload 4 dL_law_1612 rfl ?_
  refine ev_iconst (v := 1) dL_law_1614 (by decide) ?_
  refine ev_iadd dL_law_1615 ?_
  replace HF := bind_ck HF
  obtain ⟨c1, HF⟩ := HF
  refine ev_xld eL eX dL_law_1616 c1 ?_
  replace HF := bind_ck HF
  obtain ⟨c2, HF⟩ := HF
  replace HF := bind_o HF
  obtain ⟨⟨z5, h4⟩, e3, HF⟩ := HF
  replace HF := bd_o (bd_o HF)
  dsimp only at HF
  refine ev_callV (As := [.int (X (x4 + 1).toNatClampNeg)]) (R1 := (some (.int z5), h4)) (lk_X11_take (d := 11) (Nat.le_refl _) c2 e3) ce_X11_take im_X11_take sl_X11_take ml_L_162 cl_X11 c2 dL_law_1617 (by omega) (Nat.le_of_ble_eq_true rfl) rfl rfl ?_
  show EvG _ _ _ _ _ _ _ _ _ _ _ 1620 [(0, .ref (gXb g)), (1, .ref a1), (2, .ref a2), (3, .ref a3), (4, .int x4)] [.int z5] h4
  show EvG _ _ _ _ _ _ _ _ _ _ _ 1620 _ _ _
  refine ev_aload_n 2 dL_law_1620 rfl ?_
  refine ev_aload_n 0 dL_law_1621 rfl ?_
  refine ev_iload 4 dL_law_1622 rfl ?_
  refine ev_iconst (v := 1) dL_law_1624 (by decide) ?_
  refine ev_iadd dL_law_1625 ?_
  refine ev_xld eL eX dL_law_1626 c1 ?_
  replace HF := bind_ck HF
  obtain ⟨c7, HF⟩ := HF
  replace HF := bind_o HF
  obtain ⟨⟨z10, h9⟩, e8, HF⟩ := HF
  replace HF := bd_o (bd_o HF)
  dsimp only at HF
  refine ev_callV (As := [.int (X (x4 + 1).toNatClampNeg)]) (R1 := (some (.int z10), h9)) (lk_X12_take (d := 7) (Nat.le_refl _) c7 e8) ce_X12_take im_X12_take sl_X12_take ml_L_165 cl_X12 c7 dL_law_1627 (by omega) (Nat.le_of_ble_eq_true rfl) rfl rfl ?_
  show EvG _ _ _ _ _ _ _ _ _ _ _ 1630 [(0, .ref (gXb g)), (1, .ref a1), (2, .ref a2), (3, .ref a3), (4, .int x4)] [.int z10, .int z5] h9
  by_cases c12 : z5 = z10
  · replace HF := ite_T c12 HF
    refine ev_icmp_eqT (tgt := 1746) dL_law_1630 (by decide) c12 ?_
    exact Ev.sub [0, 1, 2, 3, 4] rfl (lk_L_law_1746 hdd hl eL eX hend hb k23 hk23 a1 a2 a3 x4 _ HF)
  · replace HF := ite_F c12 HF
    refine ev_icmp_eqF (tgt := 1746) dL_law_1630 (by decide) c12 ?_
    refine ev_iconst (v := 0) dL_law_1633 (by decide) ?_
    exact absurd (show (0 : Int32) = 1 from congrArg Prod.fst (Option.some.inj HF)) (by decide)

set_option maxRecDepth 20000 in
theorem lk_L_law_1585 {g : aG} {l : Launch} {d : Nat} {h0 : aH} (hdd : 12 ≤ d) (hl : l.stackTraces = false) {L : Nat} {X : Nat → Int32} (eL : gXL g = L) (eX : gXf g = X) {zc zs : Nat} {Z : List Frame → Array Value → State → State → Prop} (hend : ∀ {pc : Nat} {lv : List (Nat × Value)} {h : aH}, hz h ≤ zc → hs h ≤ zs → decode cL_law pc = .ok (.ireturn, 1) → EvG g l cL_law 8 yL_law (some .boolean) d h0 zc zs Z pc lv [.int 1] h) {h1 : aH} (hb : hz h1 ≤ zc ∧ hs h1 ≤ zs) (k23 : Nat → Nat → Nat → Int32 → aH → Option (Int32 × aH)) (hk23 : ∀ (a1 : Nat) (a2 : Nat) (a3 : Nat) (x4 : Int32) (h : aH), k23 a1 a2 a3 x4 h = some (1, h1) → EvG g l cL_law 8 yL_law (some .boolean) d h0 zc zs Z 23 [(0, .ref (gXb g)), (1, .ref a1), (2, .ref a2), (3, .ref a3), (4, .int x4)] [] h) (a1 : Nat) (a2 : Nat) (a3 : Nat) (x4 : Int32) (h : aH) (HF : F_L_law_1585 L X k23 a1 a2 a3 x4 h = some (1, h1)) : EvG g l cL_law 8 yL_law (some .boolean) d h0 zc zs Z 1585 [(0, .ref (gXb g)), (1, .ref a1), (2, .ref a2), (3, .ref a3), (4, .int x4)] [] h := by
  unfold F_L_law_1585 at HF
  refine ev_aload_n 1 dL_law_1585 rfl ?_
  refine ev_aload_n 0 dL_law_1586 rfl ?_
  refine ev_iload 4 dL_law_1587 rfl ?_
  refine ev_iconst (v := 1) dL_law_1589 (by decide) ?_
  refine ev_iadd dL_law_1590 ?_
  replace HF := bind_ck HF
  obtain ⟨c1, HF⟩ := HF
  refine ev_xld eL eX dL_law_1591 c1 ?_
  replace HF := bind_ck HF
  obtain ⟨c2, HF⟩ := HF
  replace HF := bind_o HF
  obtain ⟨⟨z5, h4⟩, e3, HF⟩ := HF
  replace HF := bd_o (bd_o HF)
  dsimp only at HF
  refine ev_callV (As := [.int (X (x4 + 1).toNatClampNeg)]) (R1 := (some (.int z5), h4)) (lk_X11_check (d := 11) (Nat.le_refl _) c2 e3) ce_X11_check im_X11_check sl_X11_check ml_L_158 cl_X11 c2 dL_law_1592 (by omega) (Nat.le_of_ble_eq_true rfl) rfl rfl ?_
  show EvG _ _ _ _ _ _ _ _ _ _ _ 1595 [(0, .ref (gXb g)), (1, .ref a1), (2, .ref a2), (3, .ref a3), (4, .int x4)] [.int z5] h4
  show EvG _ _ _ _ _ _ _ _ _ _ _ 1595 _ _ _
  refine ev_aload_n 2 dL_law_1595 rfl ?_
  refine ev_aload_n 0 dL_law_1596 rfl ?_
  refine ev_iload 4 dL_law_1597 rfl ?_
  refine ev_iconst (v := 1) dL_law_1599 (by decide) ?_
  refine ev_iadd dL_law_1600 ?_
  refine ev_xld eL eX dL_law_1601 c1 ?_
  replace HF := bind_ck HF
  obtain ⟨c7, HF⟩ := HF
  replace HF := bind_o HF
  obtain ⟨⟨z10, h9⟩, e8, HF⟩ := HF
  replace HF := bd_o (bd_o HF)
  dsimp only at HF
  refine ev_callV (As := [.int (X (x4 + 1).toNatClampNeg)]) (R1 := (some (.int z10), h9)) (lk_X12_check (d := 8) (Nat.le_refl _) c7 e8) ce_X12_check im_X12_check sl_X12_check ml_L_161 cl_X12 c7 dL_law_1602 (by omega) (Nat.le_of_ble_eq_true rfl) rfl rfl ?_
  show EvG _ _ _ _ _ _ _ _ _ _ _ 1605 [(0, .ref (gXb g)), (1, .ref a1), (2, .ref a2), (3, .ref a3), (4, .int x4)] [.int z10, .int z5] h9
  by_cases c12 : z5 = z10
  · replace HF := ite_T c12 HF
    refine ev_icmp_eqT (tgt := 1746) dL_law_1605 (by decide) c12 ?_
    exact Ev.sub [0, 1, 2, 3, 4] rfl (lk_L_law_1746 hdd hl eL eX hend hb k23 hk23 a1 a2 a3 x4 _ HF)
  · replace HF := ite_F c12 HF
    refine ev_icmp_eqF (tgt := 1746) dL_law_1605 (by decide) c12 ?_
    refine ev_iconst (v := 0) dL_law_1608 (by decide) ?_
    exact absurd (show (0 : Int32) = 1 from congrArg Prod.fst (Option.some.inj HF)) (by decide)

set_option maxRecDepth 20000 in
theorem lk_L_law_1582 {g : aG} {l : Launch} {d : Nat} {h0 : aH} (hdd : 12 ≤ d) (hl : l.stackTraces = false) {L : Nat} {X : Nat → Int32} (eL : gXL g = L) (eX : gXf g = X) {zc zs : Nat} {Z : List Frame → Array Value → State → State → Prop} (hend : ∀ {pc : Nat} {lv : List (Nat × Value)} {h : aH}, hz h ≤ zc → hs h ≤ zs → decode cL_law pc = .ok (.ireturn, 1) → EvG g l cL_law 8 yL_law (some .boolean) d h0 zc zs Z pc lv [.int 1] h) {h1 : aH} (hb : hz h1 ≤ zc ∧ hs h1 ≤ zs) (k23 : Nat → Nat → Nat → Int32 → aH → Option (Int32 × aH)) (hk23 : ∀ (a1 : Nat) (a2 : Nat) (a3 : Nat) (x4 : Int32) (h : aH), k23 a1 a2 a3 x4 h = some (1, h1) → EvG g l cL_law 8 yL_law (some .boolean) d h0 zc zs Z 23 [(0, .ref (gXb g)), (1, .ref a1), (2, .ref a2), (3, .ref a3), (4, .int x4)] [] h) (a1 : Nat) (a2 : Nat) (a3 : Nat) (x4 : Int32) (h : aH) (HF : F_L_law_1582 L X k23 a1 a2 a3 x4 h = some (1, h1)) : EvG g l cL_law 8 yL_law (some .boolean) d h0 zc zs Z 1582 [(0, .ref (gXb g)), (1, .ref a1), (2, .ref a2), (3, .ref a3), (4, .int x4)] [] h := by
  unfold F_L_law_1582 at HF
  refine ev_goto (tgt := 1746) dL_law_1582 (by decide) ?_
  exact Ev.sub [0, 1, 2, 3, 4] rfl (lk_L_law_1746 hdd hl eL eX hend hb k23 hk23 a1 a2 a3 x4 _ HF)

set_option maxRecDepth 20000 in
theorem lk_L_law_1529 {g : aG} {l : Launch} {d : Nat} {h0 : aH} (hdd : 12 ≤ d) (hl : l.stackTraces = false) {L : Nat} {X : Nat → Int32} (eL : gXL g = L) (eX : gXf g = X) {zc zs : Nat} {Z : List Frame → Array Value → State → State → Prop} (hend : ∀ {pc : Nat} {lv : List (Nat × Value)} {h : aH}, hz h ≤ zc → hs h ≤ zs → decode cL_law pc = .ok (.ireturn, 1) → EvG g l cL_law 8 yL_law (some .boolean) d h0 zc zs Z pc lv [.int 1] h) {h1 : aH} (hb : hz h1 ≤ zc ∧ hs h1 ≤ zs) (k23 : Nat → Nat → Nat → Int32 → aH → Option (Int32 × aH)) (hk23 : ∀ (a1 : Nat) (a2 : Nat) (a3 : Nat) (x4 : Int32) (h : aH), k23 a1 a2 a3 x4 h = some (1, h1) → EvG g l cL_law 8 yL_law (some .boolean) d h0 zc zs Z 23 [(0, .ref (gXb g)), (1, .ref a1), (2, .ref a2), (3, .ref a3), (4, .int x4)] [] h) (a1 : Nat) (a2 : Nat) (a3 : Nat) (x4 : Int32) (h : aH) (HF : F_L_law_1529 L X k23 a1 a2 a3 x4 h = some (1, h1)) : EvG g l cL_law 8 yL_law (some .boolean) d h0 zc zs Z 1529 [(0, .ref (gXb g)), (1, .ref a1), (2, .ref a2), (3, .ref a3), (4, .int x4)] [] h := by
  unfold F_L_law_1529 at HF
  refine ev_aload_n 1 dL_law_1529 rfl ?_
  refine ev_aload_n 0 dL_law_1530 rfl ?_
  refine ev_iload 4 dL_law_1531 rfl ?_
  refine ev_iconst (v := 1) dL_law_1533 (by decide) ?_
  refine ev_iadd dL_law_1534 ?_
  replace HF := bind_ck HF
  obtain ⟨c1, HF⟩ := HF
  refine ev_xld eL eX dL_law_1535 c1 ?_
  refine ev_aload_n 3 dL_law_1536 rfl ?_
  show EvG _ _ _ _ _ _ _ _ _ _ _ 1537 _ _ _
  replace HF := bind_o HF
  obtain ⟨⟨z4, h3⟩, e2, HF⟩ := HF
  replace HF := bd_o (bd_o HF)
  dsimp only at HF
  refine ev_callSW (As := [.ref a1, .int (X (x4 + 1).toNatClampNeg), .ref a3]) (R1 := (some (.int z4), h3)) (lk_L_told hl (d := 7) (Nat.le_refl _) e2) cw_L_told in_law nn_L_told st_L_told ml_L_154 dL_law_1537 (by omega) (Nat.le_of_ble_eq_true rfl) rfl rfl ?_
  show EvG _ _ _ _ _ _ _ _ _ _ _ 1540 [(0, .ref (gXb g)), (1, .ref a1), (2, .ref a2), (3, .ref a3), (4, .int x4)] [.int z4] h3
  refine ev_istore (lv' := [(5, .int z4), (0, .ref (gXb g)), (1, .ref a1), (2, .ref a2), (3, .ref a3), (4, .int x4)]) dL_law_1540 (by decide) (rfl) ?_
  refine ev_aload_n 3 dL_law_1542 rfl ?_
  refine ev_aload_n 1 dL_law_1543 rfl ?_
  refine ev_iload 5 dL_law_1544 rfl ?_
  refine ev_iconst (v := 1) dL_law_1546 (by decide) ?_
  refine ev_iadd dL_law_1547 ?_
  refine ev_xld eL eX dL_law_1548 c1 ?_
  show EvG _ _ _ _ _ _ _ _ _ _ _ 1549 _ _ _
  replace HF := bind_ck HF
  obtain ⟨c6, HF⟩ := HF
  replace HF := bind_o HF
  obtain ⟨⟨z9, h8⟩, e7, HF⟩ := HF
  replace HF := bd_o (bd_o HF)
  dsimp only at HF
  refine ev_callV (As := [.int (X (x4 + 1).toNatClampNeg)]) (R1 := (some (.int z9), h8)) (lk_X12_told (d := 1) (Nat.le_refl _) c6 e7) ce_X12_told im_X12_told sl_X12_told ml_L_157 cl_X12 c6 dL_law_1549 (by omega) (Nat.le_of_ble_eq_true rfl) rfl rfl ?_
  show EvG _ _ _ _ _ _ _ _ _ _ _ 1552 [(5, .int z4), (0, .ref (gXb g)), (1, .ref a1), (2, .ref a2), (3, .ref a3), (4, .int x4)] [.int z9] h8
  refine ev_istore (lv' := [(6, .int z9), (5, .int z4), (0, .ref (gXb g)), (1, .ref a1), (2, .ref a2), (3, .ref a3), (4, .int x4)]) dL_law_1552 (by decide) (rfl) ?_
  refine ev_aload_n 4 dL_law_1554 rfl ?_
  replace HF := bind_ck HF
  obtain ⟨c11, HF⟩ := HF
  replace HF := bind_o HF
  obtain ⟨⟨z14, h13⟩, e12, HF⟩ := HF
  replace HF := bd_o (bd_o HF)
  dsimp only at HF
  refine ev_callV (As := []) (R1 := (some (.int z14), h13)) (lk_X12_thrown (d := 0) (Nat.le_refl _) c11 e12) ce_X12_thrown im_X12_thrown sl_X12_thrown ml_L_127 cl_X12 c11 dL_law_1555 (by omega) (Nat.le_of_ble_eq_true rfl) rfl rfl ?_
  show EvG _ _ _ _ _ _ _ _ _ _ _ 1558 [(6, .int z9), (5, .int z4), (0, .ref (gXb g)), (1, .ref a1), (2, .ref a2), (3, .ref a3), (4, .int x4)] [.int z14] h13
  refine ev_iload 1 dL_law_1558 rfl ?_
  by_cases c16 : z14 = z4
  · replace HF := ite_T c16 HF
    refine ev_icmp_eqT (tgt := 1565) dL_law_1560 (by decide) c16 ?_
    refine ev_iload 1 dL_law_1565 rfl ?_
    by_cases c17 : z4 = 0
    · replace HF := ite_T c17 HF
      refine ev_if_neF (tgt := 1582) dL_law_1567 (by decide) c17 ?_
      refine ev_aload_n 5 dL_law_1570 rfl ?_
      refine ev_iconst (v := 0) dL_law_1571 (by decide) ?_
      replace HF := bind_ck HF
      obtain ⟨c18, HF⟩ := HF
      refine ev_lald dL_law_1572 c18.1 c18.2 ?_
      refine ev_iload 0 dL_law_1573 rfl ?_
      refine ev_i2l dL_law_1575 ?_
      refine ev_lcmp dL_law_1576 ?_
      by_cases c19 : lg_cmp (hJ h13 a3 (0 : Int32).toNatClampNeg) z9.toInt64 = 0
      · replace HF := ite_T c19 HF
        refine ev_if_eqT (tgt := 1582) dL_law_1577 (by decide) c19 ?_
        exact Ev.sub [2, 3, 4, 5, 6] rfl (lk_L_law_1582 hdd hl eL eX hend hb k23 hk23 a1 a2 a3 x4 _ HF)
      · replace HF := ite_F c19 HF
        refine ev_if_eqF (tgt := 1582) dL_law_1577 (by decide) c19 ?_
        refine ev_iconst (v := 0) dL_law_1580 (by decide) ?_
        exact absurd (show (0 : Int32) = 1 from congrArg Prod.fst (Option.some.inj HF)) (by decide)
    · replace HF := ite_F c17 HF
      refine ev_if_neT (tgt := 1582) dL_law_1567 (by decide) c17 ?_
      exact Ev.sub [2, 3, 4, 5, 6] rfl (lk_L_law_1582 hdd hl eL eX hend hb k23 hk23 a1 a2 a3 x4 _ HF)
  · replace HF := ite_F c16 HF
    refine ev_icmp_eqF (tgt := 1565) dL_law_1560 (by decide) c16 ?_
    refine ev_iconst (v := 0) dL_law_1563 (by decide) ?_
    exact absurd (show (0 : Int32) = 1 from congrArg Prod.fst (Option.some.inj HF)) (by decide)

set_option maxRecDepth 20000 in
theorem lk_L_law_1504 {g : aG} {l : Launch} {d : Nat} {h0 : aH} (hdd : 12 ≤ d) (hl : l.stackTraces = false) {L : Nat} {X : Nat → Int32} (eL : gXL g = L) (eX : gXf g = X) {zc zs : Nat} {Z : List Frame → Array Value → State → State → Prop} (hend : ∀ {pc : Nat} {lv : List (Nat × Value)} {h : aH}, hz h ≤ zc → hs h ≤ zs → decode cL_law pc = .ok (.ireturn, 1) → EvG g l cL_law 8 yL_law (some .boolean) d h0 zc zs Z pc lv [.int 1] h) {h1 : aH} (hb : hz h1 ≤ zc ∧ hs h1 ≤ zs) (k23 : Nat → Nat → Nat → Int32 → aH → Option (Int32 × aH)) (hk23 : ∀ (a1 : Nat) (a2 : Nat) (a3 : Nat) (x4 : Int32) (h : aH), k23 a1 a2 a3 x4 h = some (1, h1) → EvG g l cL_law 8 yL_law (some .boolean) d h0 zc zs Z 23 [(0, .ref (gXb g)), (1, .ref a1), (2, .ref a2), (3, .ref a3), (4, .int x4)] [] h) (a1 : Nat) (a2 : Nat) (a3 : Nat) (x4 : Int32) (h : aH) (HF : F_L_law_1504 L X k23 a1 a2 a3 x4 h = some (1, h1)) : EvG g l cL_law 8 yL_law (some .boolean) d h0 zc zs Z 1504 [(0, .ref (gXb g)), (1, .ref a1), (2, .ref a2), (3, .ref a3), (4, .int x4)] [] h := by
  unfold F_L_law_1504 at HF
  refine ev_aload_n 1 dL_law_1504 rfl ?_
  refine ev_aload_n 0 dL_law_1505 rfl ?_
  refine ev_iload 4 dL_law_1506 rfl ?_
  refine ev_iconst (v := 1) dL_law_1508 (by decide) ?_
  refine ev_iadd dL_law_1509 ?_
  replace HF := bind_ck HF
  obtain ⟨c1, HF⟩ := HF
  refine ev_xld eL eX dL_law_1510 c1 ?_
  replace HF := bind_ck HF
  obtain ⟨c2, HF⟩ := HF
  replace HF := bind_o HF
  obtain ⟨⟨z5, h4⟩, e3, HF⟩ := HF
  replace HF := bd_o (bd_o HF)
  dsimp only at HF
  refine ev_callV (As := [.int (X (x4 + 1).toNatClampNeg)]) (R1 := (some (.int z5), h4)) (lk_X11_image (d := 7) (Nat.le_refl _) c2 e3) ce_X11_image im_X11_image sl_X11_image ml_L_150 cl_X11 c2 dL_law_1511 (by omega) (Nat.le_of_ble_eq_true rfl) rfl rfl ?_
  show EvG _ _ _ _ _ _ _ _ _ _ _ 1514 [(0, .ref (gXb g)), (1, .ref a1), (2, .ref a2), (3, .ref a3), (4, .int x4)] [.int z5] h4
  show EvG _ _ _ _ _ _ _ _ _ _ _ 1514 _ _ _
  refine ev_aload_n 2 dL_law_1514 rfl ?_
  refine ev_aload_n 0 dL_law_1515 rfl ?_
  refine ev_iload 4 dL_law_1516 rfl ?_
  refine ev_iconst (v := 1) dL_law_1518 (by decide) ?_
  refine ev_iadd dL_law_1519 ?_
  refine ev_xld eL eX dL_law_1520 c1 ?_
  replace HF := bind_ck HF
  obtain ⟨c7, HF⟩ := HF
  replace HF := bind_o HF
  obtain ⟨⟨z10, h9⟩, e8, HF⟩ := HF
  replace HF := bd_o (bd_o HF)
  dsimp only at HF
  refine ev_callV (As := [.int (X (x4 + 1).toNatClampNeg)]) (R1 := (some (.int z10), h9)) (lk_X12_image (d := 6) (Nat.le_refl _) c7 e8) ce_X12_image im_X12_image sl_X12_image ml_L_153 cl_X12 c7 dL_law_1521 (by omega) (Nat.le_of_ble_eq_true rfl) rfl rfl ?_
  show EvG _ _ _ _ _ _ _ _ _ _ _ 1524 [(0, .ref (gXb g)), (1, .ref a1), (2, .ref a2), (3, .ref a3), (4, .int x4)] [.int z10, .int z5] h9
  by_cases c12 : z5 = z10
  · replace HF := ite_T c12 HF
    refine ev_icmp_eqT (tgt := 1746) dL_law_1524 (by decide) c12 ?_
    exact Ev.sub [0, 1, 2, 3, 4] rfl (lk_L_law_1746 hdd hl eL eX hend hb k23 hk23 a1 a2 a3 x4 _ HF)
  · replace HF := ite_F c12 HF
    refine ev_icmp_eqF (tgt := 1746) dL_law_1524 (by decide) c12 ?_
    refine ev_iconst (v := 0) dL_law_1527 (by decide) ?_
    exact absurd (show (0 : Int32) = 1 from congrArg Prod.fst (Option.some.inj HF)) (by decide)

set_option maxRecDepth 20000 in
theorem lk_L_law_1501 {g : aG} {l : Launch} {d : Nat} {h0 : aH} (hdd : 12 ≤ d) (hl : l.stackTraces = false) {L : Nat} {X : Nat → Int32} (eL : gXL g = L) (eX : gXf g = X) {zc zs : Nat} {Z : List Frame → Array Value → State → State → Prop} (hend : ∀ {pc : Nat} {lv : List (Nat × Value)} {h : aH}, hz h ≤ zc → hs h ≤ zs → decode cL_law pc = .ok (.ireturn, 1) → EvG g l cL_law 8 yL_law (some .boolean) d h0 zc zs Z pc lv [.int 1] h) {h1 : aH} (hb : hz h1 ≤ zc ∧ hs h1 ≤ zs) (k23 : Nat → Nat → Nat → Int32 → aH → Option (Int32 × aH)) (hk23 : ∀ (a1 : Nat) (a2 : Nat) (a3 : Nat) (x4 : Int32) (h : aH), k23 a1 a2 a3 x4 h = some (1, h1) → EvG g l cL_law 8 yL_law (some .boolean) d h0 zc zs Z 23 [(0, .ref (gXb g)), (1, .ref a1), (2, .ref a2), (3, .ref a3), (4, .int x4)] [] h) (a1 : Nat) (a2 : Nat) (a3 : Nat) (x4 : Int32) (h : aH) (HF : F_L_law_1501 L X k23 a1 a2 a3 x4 h = some (1, h1)) : EvG g l cL_law 8 yL_law (some .boolean) d h0 zc zs Z 1501 [(0, .ref (gXb g)), (1, .ref a1), (2, .ref a2), (3, .ref a3), (4, .int x4)] [] h := by
  unfold F_L_law_1501 at HF
  refine ev_goto (tgt := 1746) dL_law_1501 (by decide) ?_
  exact Ev.sub [0, 1, 2, 3, 4] rfl (lk_L_law_1746 hdd hl eL eX hend hb k23 hk23 a1 a2 a3 x4 _ HF)

set_option maxRecDepth 20000 in
theorem lk_L_law_1436 {g : aG} {l : Launch} {d : Nat} {h0 : aH} (hdd : 12 ≤ d) (hl : l.stackTraces = false) {L : Nat} {X : Nat → Int32} (eL : gXL g = L) (eX : gXf g = X) {zc zs : Nat} {Z : List Frame → Array Value → State → State → Prop} (hend : ∀ {pc : Nat} {lv : List (Nat × Value)} {h : aH}, hz h ≤ zc → hs h ≤ zs → decode cL_law pc = .ok (.ireturn, 1) → EvG g l cL_law 8 yL_law (some .boolean) d h0 zc zs Z pc lv [.int 1] h) {h1 : aH} (hb : hz h1 ≤ zc ∧ hs h1 ≤ zs) (k23 : Nat → Nat → Nat → Int32 → aH → Option (Int32 × aH)) (hk23 : ∀ (a1 : Nat) (a2 : Nat) (a3 : Nat) (x4 : Int32) (h : aH), k23 a1 a2 a3 x4 h = some (1, h1) → EvG g l cL_law 8 yL_law (some .boolean) d h0 zc zs Z 23 [(0, .ref (gXb g)), (1, .ref a1), (2, .ref a2), (3, .ref a3), (4, .int x4)] [] h) (a1 : Nat) (a2 : Nat) (a3 : Nat) (x4 : Int32) (h : aH) (HF : F_L_law_1436 L X k23 a1 a2 a3 x4 h = some (1, h1)) : EvG g l cL_law 8 yL_law (some .boolean) d h0 zc zs Z 1436 [(0, .ref (gXb g)), (1, .ref a1), (2, .ref a2), (3, .ref a3), (4, .int x4)] [] h := by
  unfold F_L_law_1436 at HF
  refine ev_aload_n 1 dL_law_1436 rfl ?_
  refine ev_aload_n 0 dL_law_1437 rfl ?_
  refine ev_iload 4 dL_law_1438 rfl ?_
  refine ev_iconst (v := 1) dL_law_1440 (by decide) ?_
  refine ev_iadd dL_law_1441 ?_
  replace HF := bind_ck HF
  obtain ⟨c1, HF⟩ := HF
  refine ev_xld eL eX dL_law_1442 c1 ?_
  refine ev_aload_n 0 dL_law_1443 rfl ?_
  show EvG _ _ _ _ _ _ _ _ _ _ _ 1444 _ _ _
  refine ev_iload 4 dL_law_1444 rfl ?_
  refine ev_iconst (v := 2) dL_law_1446 (by decide) ?_
  refine ev_iadd dL_law_1447 ?_
  replace HF := bind_ck HF
  obtain ⟨c2, HF⟩ := HF
  refine ev_xld eL eX dL_law_1448 c2 ?_
  refine ev_aload_n 3 dL_law_1449 rfl ?_
  replace HF := bind_o HF
  obtain ⟨⟨z5, h4⟩, e3, HF⟩ := HF
  replace HF := bd_o (bd_o HF)
  dsimp only at HF
  refine ev_callSW (As := [.ref a1, .int (X (x4 + 1).toNatClampNeg), .int (X (x4 + 2).toNatClampNeg), .ref a3]) (R1 := (some (.int z5), h4)) (lk_L_record hl (d := 8) (Nat.le_refl _) e3) cw_L_record in_law nn_L_record st_L_record ml_L_147 dL_law_1450 (by omega) (Nat.le_of_ble_eq_true rfl) rfl rfl ?_
  show EvG _ _ _ _ _ _ _ _ _ _ _ 1453 [(0, .ref (gXb g)), (1, .ref a1), (2, .ref a2), (3, .ref a3), (4, .int x4)] [.int z5] h4
  refine ev_istore (lv' := [(5, .int z5), (0, .ref (gXb g)), (1, .ref a1), (2, .ref a2), (3, .ref a3), (4, .int x4)]) dL_law_1453 (by decide) (rfl) ?_
  refine ev_aload_n 3 dL_law_1455 rfl ?_
  show EvG _ _ _ _ _ _ _ _ _ _ _ 1456 _ _ _
  refine ev_aload_n 1 dL_law_1456 rfl ?_
  refine ev_iload 5 dL_law_1457 rfl ?_
  refine ev_iconst (v := 1) dL_law_1459 (by decide) ?_
  refine ev_iadd dL_law_1460 ?_
  refine ev_xld eL eX dL_law_1461 c1 ?_
  refine ev_aload_n 1 dL_law_1462 rfl ?_
  refine ev_iload 5 dL_law_1463 rfl ?_
  refine ev_iconst (v := 2) dL_law_1465 (by decide) ?_
  show EvG _ _ _ _ _ _ _ _ _ _ _ 1466 _ _ _
  refine ev_iadd dL_law_1466 ?_
  refine ev_xld eL eX dL_law_1467 c2 ?_
  replace HF := bind_ck HF
  obtain ⟨c7, HF⟩ := HF
  replace HF := bind_o HF
  obtain ⟨⟨z10, h9⟩, e8, HF⟩ := HF
  replace HF := bd_o (bd_o HF)
  dsimp only at HF
  refine ev_callV (As := [.int (X (x4 + 1).toNatClampNeg), .int (X (x4 + 2).toNatClampNeg)]) (R1 := (some (.int z10), h9)) (lk_X12_record (d := 7) (Nat.le_refl _) c7 e8) ce_X12_record im_X12_record sl_X12_record ml_L_149 cl_X12 c7 dL_law_1468 (by omega) (Nat.le_of_ble_eq_true rfl) rfl rfl ?_
  show EvG _ _ _ _ _ _ _ _ _ _ _ 1471 [(5, .int z5), (0, .ref (gXb g)), (1, .ref a1), (2, .ref a2), (3, .ref a3), (4, .int x4)] [.int z10] h9
  refine ev_istore (lv' := [(6, .int z10), (5, .int z5), (0, .ref (gXb g)), (1, .ref a1), (2, .ref a2), (3, .ref a3), (4, .int x4)]) dL_law_1471 (by decide) (rfl) ?_
  refine ev_aload_n 4 dL_law_1473 rfl ?_
  replace HF := bind_ck HF
  obtain ⟨c12, HF⟩ := HF
  replace HF := bind_o HF
  obtain ⟨⟨z15, h14⟩, e13, HF⟩ := HF
  replace HF := bd_o (bd_o HF)
  dsimp only at HF
  refine ev_callV (As := []) (R1 := (some (.int z15), h14)) (lk_X12_thrown (d := 0) (Nat.le_refl _) c12 e13) ce_X12_thrown im_X12_thrown sl_X12_thrown ml_L_127 cl_X12 c12 dL_law_1474 (by omega) (Nat.le_of_ble_eq_true rfl) rfl rfl ?_
  show EvG _ _ _ _ _ _ _ _ _ _ _ 1477 [(6, .int z10), (5, .int z5), (0, .ref (gXb g)), (1, .ref a1), (2, .ref a2), (3, .ref a3), (4, .int x4)] [.int z15] h14
  refine ev_iload 1 dL_law_1477 rfl ?_
  by_cases c17 : z15 = z5
  · replace HF := ite_T c17 HF
    refine ev_icmp_eqT (tgt := 1484) dL_law_1479 (by decide) c17 ?_
    refine ev_iload 1 dL_law_1484 rfl ?_
    by_cases c18 : z5 = 0
    · replace HF := ite_T c18 HF
      refine ev_if_neF (tgt := 1501) dL_law_1486 (by decide) c18 ?_
      refine ev_aload_n 5 dL_law_1489 rfl ?_
      refine ev_iconst (v := 0) dL_law_1490 (by decide) ?_
      replace HF := bind_ck HF
      obtain ⟨c19, HF⟩ := HF
      refine ev_lald dL_law_1491 c19.1 c19.2 ?_
      refine ev_iload 0 dL_law_1492 rfl ?_
      refine ev_i2l dL_law_1494 ?_
      refine ev_lcmp dL_law_1495 ?_
      by_cases c20 : lg_cmp (hJ h14 a3 (0 : Int32).toNatClampNeg) z10.toInt64 = 0
      · replace HF := ite_T c20 HF
        refine ev_if_eqT (tgt := 1501) dL_law_1496 (by decide) c20 ?_
        exact Ev.sub [2, 3, 4, 5, 6] rfl (lk_L_law_1501 hdd hl eL eX hend hb k23 hk23 a1 a2 a3 x4 _ HF)
      · replace HF := ite_F c20 HF
        refine ev_if_eqF (tgt := 1501) dL_law_1496 (by decide) c20 ?_
        refine ev_iconst (v := 0) dL_law_1499 (by decide) ?_
        exact absurd (show (0 : Int32) = 1 from congrArg Prod.fst (Option.some.inj HF)) (by decide)
    · replace HF := ite_F c18 HF
      refine ev_if_neT (tgt := 1501) dL_law_1486 (by decide) c18 ?_
      exact Ev.sub [2, 3, 4, 5, 6] rfl (lk_L_law_1501 hdd hl eL eX hend hb k23 hk23 a1 a2 a3 x4 _ HF)
  · replace HF := ite_F c17 HF
    refine ev_icmp_eqF (tgt := 1484) dL_law_1479 (by decide) c17 ?_
    refine ev_iconst (v := 0) dL_law_1482 (by decide) ?_
    exact absurd (show (0 : Int32) = 1 from congrArg Prod.fst (Option.some.inj HF)) (by decide)

set_option maxRecDepth 20000 in
theorem lk_L_law_1433 {g : aG} {l : Launch} {d : Nat} {h0 : aH} (hdd : 12 ≤ d) (hl : l.stackTraces = false) {L : Nat} {X : Nat → Int32} (eL : gXL g = L) (eX : gXf g = X) {zc zs : Nat} {Z : List Frame → Array Value → State → State → Prop} (hend : ∀ {pc : Nat} {lv : List (Nat × Value)} {h : aH}, hz h ≤ zc → hs h ≤ zs → decode cL_law pc = .ok (.ireturn, 1) → EvG g l cL_law 8 yL_law (some .boolean) d h0 zc zs Z pc lv [.int 1] h) {h1 : aH} (hb : hz h1 ≤ zc ∧ hs h1 ≤ zs) (k23 : Nat → Nat → Nat → Int32 → aH → Option (Int32 × aH)) (hk23 : ∀ (a1 : Nat) (a2 : Nat) (a3 : Nat) (x4 : Int32) (h : aH), k23 a1 a2 a3 x4 h = some (1, h1) → EvG g l cL_law 8 yL_law (some .boolean) d h0 zc zs Z 23 [(0, .ref (gXb g)), (1, .ref a1), (2, .ref a2), (3, .ref a3), (4, .int x4)] [] h) (a1 : Nat) (a2 : Nat) (a3 : Nat) (x4 : Int32) (h : aH) (HF : F_L_law_1433 L X k23 a1 a2 a3 x4 h = some (1, h1)) : EvG g l cL_law 8 yL_law (some .boolean) d h0 zc zs Z 1433 [(0, .ref (gXb g)), (1, .ref a1), (2, .ref a2), (3, .ref a3), (4, .int x4)] [] h := by
  unfold F_L_law_1433 at HF
  refine ev_goto (tgt := 1746) dL_law_1433 (by decide) ?_
  exact Ev.sub [0, 1, 2, 3, 4] rfl (lk_L_law_1746 hdd hl eL eX hend hb k23 hk23 a1 a2 a3 x4 _ HF)

set_option maxRecDepth 20000 in
theorem lk_L_law_1344 {g : aG} {l : Launch} {d : Nat} {h0 : aH} (hdd : 12 ≤ d) (hl : l.stackTraces = false) {L : Nat} {X : Nat → Int32} (eL : gXL g = L) (eX : gXf g = X) {zc zs : Nat} {Z : List Frame → Array Value → State → State → Prop} (hend : ∀ {pc : Nat} {lv : List (Nat × Value)} {h : aH}, hz h ≤ zc → hs h ≤ zs → decode cL_law pc = .ok (.ireturn, 1) → EvG g l cL_law 8 yL_law (some .boolean) d h0 zc zs Z pc lv [.int 1] h) {h1 : aH} (hb : hz h1 ≤ zc ∧ hs h1 ≤ zs) (k23 : Nat → Nat → Nat → Int32 → aH → Option (Int32 × aH)) (hk23 : ∀ (a1 : Nat) (a2 : Nat) (a3 : Nat) (x4 : Int32) (h : aH), k23 a1 a2 a3 x4 h = some (1, h1) → EvG g l cL_law 8 yL_law (some .boolean) d h0 zc zs Z 23 [(0, .ref (gXb g)), (1, .ref a1), (2, .ref a2), (3, .ref a3), (4, .int x4)] [] h) (a1 : Nat) (a2 : Nat) (a3 : Nat) (x4 : Int32) (h : aH) (HF : F_L_law_1344 L X k23 a1 a2 a3 x4 h = some (1, h1)) : EvG g l cL_law 8 yL_law (some .boolean) d h0 zc zs Z 1344 [(0, .ref (gXb g)), (1, .ref a1), (2, .ref a2), (3, .ref a3), (4, .int x4)] [] h := by
  unfold F_L_law_1344 at HF
  refine ev_aload_n 1 dL_law_1344 rfl ?_
  refine ev_aload_n 0 dL_law_1345 rfl ?_
  refine ev_iload 4 dL_law_1346 rfl ?_
  refine ev_iconst (v := 1) dL_law_1348 (by decide) ?_
  refine ev_iadd dL_law_1349 ?_
  replace HF := bind_ck HF
  obtain ⟨c1, HF⟩ := HF
  refine ev_xld eL eX dL_law_1350 c1 ?_
  refine ev_aload_n 0 dL_law_1351 rfl ?_
  show EvG _ _ _ _ _ _ _ _ _ _ _ 1352 _ _ _
  refine ev_iload 4 dL_law_1352 rfl ?_
  refine ev_iconst (v := 2) dL_law_1354 (by decide) ?_
  refine ev_iadd dL_law_1355 ?_
  replace HF := bind_ck HF
  obtain ⟨c2, HF⟩ := HF
  refine ev_xld eL eX dL_law_1356 c2 ?_
  refine ev_aload_n 0 dL_law_1357 rfl ?_
  refine ev_iload 4 dL_law_1358 rfl ?_
  refine ev_iconst (v := 3) dL_law_1360 (by decide) ?_
  refine ev_iadd dL_law_1361 ?_
  show EvG _ _ _ _ _ _ _ _ _ _ _ 1362 _ _ _
  replace HF := bind_ck HF
  obtain ⟨c3, HF⟩ := HF
  refine ev_xld eL eX dL_law_1362 c3 ?_
  refine ev_aload_n 0 dL_law_1363 rfl ?_
  refine ev_iload 4 dL_law_1364 rfl ?_
  refine ev_iconst (v := 4) dL_law_1366 (by decide) ?_
  refine ev_iadd dL_law_1367 ?_
  replace HF := bind_ck HF
  obtain ⟨c4, HF⟩ := HF
  refine ev_xld eL eX dL_law_1368 c4 ?_
  refine ev_aload_n 3 dL_law_1369 rfl ?_
  replace HF := bind_o HF
  obtain ⟨⟨z7, h6⟩, e5, HF⟩ := HF
  replace HF := bd_o (bd_o HF)
  dsimp only at HF
  refine ev_callSW (As := [.ref a1, .int (X (x4 + 1).toNatClampNeg), .int (X (x4 + 2).toNatClampNeg), .int (X (x4 + 3).toNatClampNeg), .int (X (x4 + 4).toNatClampNeg), .ref a3]) (R1 := (some (.int z7), h6)) (lk_L_fields hl (d := 8) (Nat.le_refl _) e5) cw_L_fields in_law nn_L_fields st_L_fields ml_L_144 dL_law_1370 (by omega) (Nat.le_of_ble_eq_true rfl) rfl rfl ?_
  show EvG _ _ _ _ _ _ _ _ _ _ _ 1373 [(0, .ref (gXb g)), (1, .ref a1), (2, .ref a2), (3, .ref a3), (4, .int x4)] [.int z7] h6
  show EvG _ _ _ _ _ _ _ _ _ _ _ 1373 _ _ _
  refine ev_istore (lv' := [(5, .int z7), (0, .ref (gXb g)), (1, .ref a1), (2, .ref a2), (3, .ref a3), (4, .int x4)]) dL_law_1373 (by decide) (rfl) ?_
  refine ev_aload_n 3 dL_law_1375 rfl ?_
  refine ev_aload_n 1 dL_law_1376 rfl ?_
  refine ev_iload 5 dL_law_1377 rfl ?_
  refine ev_iconst (v := 1) dL_law_1379 (by decide) ?_
  refine ev_iadd dL_law_1380 ?_
  refine ev_xld eL eX dL_law_1381 c1 ?_
  refine ev_aload_n 1 dL_law_1382 rfl ?_
  show EvG _ _ _ _ _ _ _ _ _ _ _ 1383 _ _ _
  refine ev_iload 5 dL_law_1383 rfl ?_
  refine ev_iconst (v := 2) dL_law_1385 (by decide) ?_
  refine ev_iadd dL_law_1386 ?_
  refine ev_xld eL eX dL_law_1387 c2 ?_
  refine ev_aload_n 1 dL_law_1388 rfl ?_
  refine ev_iload 5 dL_law_1389 rfl ?_
  refine ev_iconst (v := 3) dL_law_1391 (by decide) ?_
  refine ev_iadd dL_law_1392 ?_
  show EvG _ _ _ _ _ _ _ _ _ _ _ 1393 _ _ _
  refine ev_xld eL eX dL_law_1393 c3 ?_
  refine ev_aload_n 1 dL_law_1394 rfl ?_
  refine ev_iload 5 dL_law_1395 rfl ?_
  refine ev_iconst (v := 4) dL_law_1397 (by decide) ?_
  refine ev_iadd dL_law_1398 ?_
  refine ev_xld eL eX dL_law_1399 c4 ?_
  replace HF := bind_ck HF
  obtain ⟨c9, HF⟩ := HF
  replace HF := bind_o HF
  obtain ⟨⟨z12, h11⟩, e10, HF⟩ := HF
  replace HF := bd_o (bd_o HF)
  dsimp only at HF
  refine ev_callV (As := [.int (X (x4 + 1).toNatClampNeg), .int (X (x4 + 2).toNatClampNeg), .int (X (x4 + 3).toNatClampNeg), .int (X (x4 + 4).toNatClampNeg)]) (R1 := (some (.int z12), h11)) (lk_X12_fields (d := 6) (Nat.le_refl _) c9 e10) ce_X12_fields im_X12_fields sl_X12_fields ml_L_146 cl_X12 c9 dL_law_1400 (by omega) (Nat.le_of_ble_eq_true rfl) rfl rfl ?_
  show EvG _ _ _ _ _ _ _ _ _ _ _ 1403 [(5, .int z7), (0, .ref (gXb g)), (1, .ref a1), (2, .ref a2), (3, .ref a3), (4, .int x4)] [.int z12] h11
  refine ev_istore (lv' := [(6, .int z12), (5, .int z7), (0, .ref (gXb g)), (1, .ref a1), (2, .ref a2), (3, .ref a3), (4, .int x4)]) dL_law_1403 (by decide) (rfl) ?_
  show EvG _ _ _ _ _ _ _ _ _ _ _ 1405 _ _ _
  refine ev_aload_n 4 dL_law_1405 rfl ?_
  replace HF := bind_ck HF
  obtain ⟨c14, HF⟩ := HF
  replace HF := bind_o HF
  obtain ⟨⟨z17, h16⟩, e15, HF⟩ := HF
  replace HF := bd_o (bd_o HF)
  dsimp only at HF
  refine ev_callV (As := []) (R1 := (some (.int z17), h16)) (lk_X12_thrown (d := 0) (Nat.le_refl _) c14 e15) ce_X12_thrown im_X12_thrown sl_X12_thrown ml_L_127 cl_X12 c14 dL_law_1406 (by omega) (Nat.le_of_ble_eq_true rfl) rfl rfl ?_
  show EvG _ _ _ _ _ _ _ _ _ _ _ 1409 [(6, .int z12), (5, .int z7), (0, .ref (gXb g)), (1, .ref a1), (2, .ref a2), (3, .ref a3), (4, .int x4)] [.int z17] h16
  refine ev_iload 1 dL_law_1409 rfl ?_
  by_cases c19 : z17 = z7
  · replace HF := ite_T c19 HF
    refine ev_icmp_eqT (tgt := 1416) dL_law_1411 (by decide) c19 ?_
    refine ev_iload 1 dL_law_1416 rfl ?_
    by_cases c20 : z7 = 0
    · replace HF := ite_T c20 HF
      refine ev_if_neF (tgt := 1433) dL_law_1418 (by decide) c20 ?_
      refine ev_aload_n 5 dL_law_1421 rfl ?_
      refine ev_iconst (v := 0) dL_law_1422 (by decide) ?_
      replace HF := bind_ck HF
      obtain ⟨c21, HF⟩ := HF
      refine ev_lald dL_law_1423 c21.1 c21.2 ?_
      refine ev_iload 0 dL_law_1424 rfl ?_
      refine ev_i2l dL_law_1426 ?_
      refine ev_lcmp dL_law_1427 ?_
      by_cases c22 : lg_cmp (hJ h16 a3 (0 : Int32).toNatClampNeg) z12.toInt64 = 0
      · replace HF := ite_T c22 HF
        refine ev_if_eqT (tgt := 1433) dL_law_1428 (by decide) c22 ?_
        exact Ev.sub [2, 3, 4, 5, 6] rfl (lk_L_law_1433 hdd hl eL eX hend hb k23 hk23 a1 a2 a3 x4 _ HF)
      · replace HF := ite_F c22 HF
        refine ev_if_eqF (tgt := 1433) dL_law_1428 (by decide) c22 ?_
        refine ev_iconst (v := 0) dL_law_1431 (by decide) ?_
        exact absurd (show (0 : Int32) = 1 from congrArg Prod.fst (Option.some.inj HF)) (by decide)
    · replace HF := ite_F c20 HF
      refine ev_if_neT (tgt := 1433) dL_law_1418 (by decide) c20 ?_
      exact Ev.sub [2, 3, 4, 5, 6] rfl (lk_L_law_1433 hdd hl eL eX hend hb k23 hk23 a1 a2 a3 x4 _ HF)
  · replace HF := ite_F c19 HF
    refine ev_icmp_eqF (tgt := 1416) dL_law_1411 (by decide) c19 ?_
    refine ev_iconst (v := 0) dL_law_1414 (by decide) ?_
    exact absurd (show (0 : Int32) = 1 from congrArg Prod.fst (Option.some.inj HF)) (by decide)

set_option maxRecDepth 20000 in
theorem lk_L_law_1341 {g : aG} {l : Launch} {d : Nat} {h0 : aH} (hdd : 12 ≤ d) (hl : l.stackTraces = false) {L : Nat} {X : Nat → Int32} (eL : gXL g = L) (eX : gXf g = X) {zc zs : Nat} {Z : List Frame → Array Value → State → State → Prop} (hend : ∀ {pc : Nat} {lv : List (Nat × Value)} {h : aH}, hz h ≤ zc → hs h ≤ zs → decode cL_law pc = .ok (.ireturn, 1) → EvG g l cL_law 8 yL_law (some .boolean) d h0 zc zs Z pc lv [.int 1] h) {h1 : aH} (hb : hz h1 ≤ zc ∧ hs h1 ≤ zs) (k23 : Nat → Nat → Nat → Int32 → aH → Option (Int32 × aH)) (hk23 : ∀ (a1 : Nat) (a2 : Nat) (a3 : Nat) (x4 : Int32) (h : aH), k23 a1 a2 a3 x4 h = some (1, h1) → EvG g l cL_law 8 yL_law (some .boolean) d h0 zc zs Z 23 [(0, .ref (gXb g)), (1, .ref a1), (2, .ref a2), (3, .ref a3), (4, .int x4)] [] h) (a1 : Nat) (a2 : Nat) (a3 : Nat) (x4 : Int32) (h : aH) (HF : F_L_law_1341 L X k23 a1 a2 a3 x4 h = some (1, h1)) : EvG g l cL_law 8 yL_law (some .boolean) d h0 zc zs Z 1341 [(0, .ref (gXb g)), (1, .ref a1), (2, .ref a2), (3, .ref a3), (4, .int x4)] [] h := by
  unfold F_L_law_1341 at HF
  refine ev_goto (tgt := 1746) dL_law_1341 (by decide) ?_
  exact Ev.sub [0, 1, 2, 3, 4] rfl (lk_L_law_1746 hdd hl eL eX hend hb k23 hk23 a1 a2 a3 x4 _ HF)

set_option maxRecDepth 20000 in
theorem lk_L_law_1252 {g : aG} {l : Launch} {d : Nat} {h0 : aH} (hdd : 12 ≤ d) (hl : l.stackTraces = false) {L : Nat} {X : Nat → Int32} (eL : gXL g = L) (eX : gXf g = X) {zc zs : Nat} {Z : List Frame → Array Value → State → State → Prop} (hend : ∀ {pc : Nat} {lv : List (Nat × Value)} {h : aH}, hz h ≤ zc → hs h ≤ zs → decode cL_law pc = .ok (.ireturn, 1) → EvG g l cL_law 8 yL_law (some .boolean) d h0 zc zs Z pc lv [.int 1] h) {h1 : aH} (hb : hz h1 ≤ zc ∧ hs h1 ≤ zs) (k23 : Nat → Nat → Nat → Int32 → aH → Option (Int32 × aH)) (hk23 : ∀ (a1 : Nat) (a2 : Nat) (a3 : Nat) (x4 : Int32) (h : aH), k23 a1 a2 a3 x4 h = some (1, h1) → EvG g l cL_law 8 yL_law (some .boolean) d h0 zc zs Z 23 [(0, .ref (gXb g)), (1, .ref a1), (2, .ref a2), (3, .ref a3), (4, .int x4)] [] h) (a1 : Nat) (a2 : Nat) (a3 : Nat) (x4 : Int32) (h : aH) (HF : F_L_law_1252 L X k23 a1 a2 a3 x4 h = some (1, h1)) : EvG g l cL_law 8 yL_law (some .boolean) d h0 zc zs Z 1252 [(0, .ref (gXb g)), (1, .ref a1), (2, .ref a2), (3, .ref a3), (4, .int x4)] [] h := by
  unfold F_L_law_1252 at HF
  refine ev_aload_n 1 dL_law_1252 rfl ?_
  refine ev_aload_n 0 dL_law_1253 rfl ?_
  refine ev_iload 4 dL_law_1254 rfl ?_
  refine ev_iconst (v := 1) dL_law_1256 (by decide) ?_
  refine ev_iadd dL_law_1257 ?_
  replace HF := bind_ck HF
  obtain ⟨c1, HF⟩ := HF
  refine ev_xld eL eX dL_law_1258 c1 ?_
  refine ev_aload_n 0 dL_law_1259 rfl ?_
  show EvG _ _ _ _ _ _ _ _ _ _ _ 1260 _ _ _
  refine ev_iload 4 dL_law_1260 rfl ?_
  refine ev_iconst (v := 2) dL_law_1262 (by decide) ?_
  refine ev_iadd dL_law_1263 ?_
  replace HF := bind_ck HF
  obtain ⟨c2, HF⟩ := HF
  refine ev_xld eL eX dL_law_1264 c2 ?_
  refine ev_aload_n 0 dL_law_1265 rfl ?_
  refine ev_iload 4 dL_law_1266 rfl ?_
  refine ev_iconst (v := 3) dL_law_1268 (by decide) ?_
  refine ev_iadd dL_law_1269 ?_
  show EvG _ _ _ _ _ _ _ _ _ _ _ 1270 _ _ _
  replace HF := bind_ck HF
  obtain ⟨c3, HF⟩ := HF
  refine ev_xld eL eX dL_law_1270 c3 ?_
  refine ev_aload_n 0 dL_law_1271 rfl ?_
  refine ev_iload 4 dL_law_1272 rfl ?_
  refine ev_iconst (v := 4) dL_law_1274 (by decide) ?_
  refine ev_iadd dL_law_1275 ?_
  replace HF := bind_ck HF
  obtain ⟨c4, HF⟩ := HF
  refine ev_xld eL eX dL_law_1276 c4 ?_
  refine ev_aload_n 3 dL_law_1277 rfl ?_
  replace HF := bind_o HF
  obtain ⟨⟨z7, h6⟩, e5, HF⟩ := HF
  replace HF := bd_o (bd_o HF)
  dsimp only at HF
  refine ev_callSW (As := [.ref a1, .int (X (x4 + 1).toNatClampNeg), .int (X (x4 + 2).toNatClampNeg), .int (X (x4 + 3).toNatClampNeg), .int (X (x4 + 4).toNatClampNeg), .ref a3]) (R1 := (some (.int z7), h6)) (lk_L_bats hl (d := 8) (Nat.le_refl _) e5) cw_L_bats in_law nn_L_bats st_L_bats ml_L_141 dL_law_1278 (by omega) (Nat.le_of_ble_eq_true rfl) rfl rfl ?_
  show EvG _ _ _ _ _ _ _ _ _ _ _ 1281 [(0, .ref (gXb g)), (1, .ref a1), (2, .ref a2), (3, .ref a3), (4, .int x4)] [.int z7] h6
  show EvG _ _ _ _ _ _ _ _ _ _ _ 1281 _ _ _
  refine ev_istore (lv' := [(5, .int z7), (0, .ref (gXb g)), (1, .ref a1), (2, .ref a2), (3, .ref a3), (4, .int x4)]) dL_law_1281 (by decide) (rfl) ?_
  refine ev_aload_n 3 dL_law_1283 rfl ?_
  refine ev_aload_n 1 dL_law_1284 rfl ?_
  refine ev_iload 5 dL_law_1285 rfl ?_
  refine ev_iconst (v := 1) dL_law_1287 (by decide) ?_
  refine ev_iadd dL_law_1288 ?_
  refine ev_xld eL eX dL_law_1289 c1 ?_
  refine ev_aload_n 1 dL_law_1290 rfl ?_
  show EvG _ _ _ _ _ _ _ _ _ _ _ 1291 _ _ _
  refine ev_iload 5 dL_law_1291 rfl ?_
  refine ev_iconst (v := 2) dL_law_1293 (by decide) ?_
  refine ev_iadd dL_law_1294 ?_
  refine ev_xld eL eX dL_law_1295 c2 ?_
  refine ev_aload_n 1 dL_law_1296 rfl ?_
  refine ev_iload 5 dL_law_1297 rfl ?_
  refine ev_iconst (v := 3) dL_law_1299 (by decide) ?_
  refine ev_iadd dL_law_1300 ?_
  show EvG _ _ _ _ _ _ _ _ _ _ _ 1301 _ _ _
  refine ev_xld eL eX dL_law_1301 c3 ?_
  refine ev_aload_n 1 dL_law_1302 rfl ?_
  refine ev_iload 5 dL_law_1303 rfl ?_
  refine ev_iconst (v := 4) dL_law_1305 (by decide) ?_
  refine ev_iadd dL_law_1306 ?_
  refine ev_xld eL eX dL_law_1307 c4 ?_
  replace HF := bind_ck HF
  obtain ⟨c9, HF⟩ := HF
  replace HF := bind_o HF
  obtain ⟨⟨z12, h11⟩, e10, HF⟩ := HF
  replace HF := bd_o (bd_o HF)
  dsimp only at HF
  refine ev_callV (As := [.int (X (x4 + 1).toNatClampNeg), .int (X (x4 + 2).toNatClampNeg), .int (X (x4 + 3).toNatClampNeg), .int (X (x4 + 4).toNatClampNeg)]) (R1 := (some (.int z12), h11)) (lk_X12_bats (d := 6) (Nat.le_refl _) c9 e10) ce_X12_bats im_X12_bats sl_X12_bats ml_L_143 cl_X12 c9 dL_law_1308 (by omega) (Nat.le_of_ble_eq_true rfl) rfl rfl ?_
  show EvG _ _ _ _ _ _ _ _ _ _ _ 1311 [(5, .int z7), (0, .ref (gXb g)), (1, .ref a1), (2, .ref a2), (3, .ref a3), (4, .int x4)] [.int z12] h11
  refine ev_istore (lv' := [(6, .int z12), (5, .int z7), (0, .ref (gXb g)), (1, .ref a1), (2, .ref a2), (3, .ref a3), (4, .int x4)]) dL_law_1311 (by decide) (rfl) ?_
  show EvG _ _ _ _ _ _ _ _ _ _ _ 1313 _ _ _
  refine ev_aload_n 4 dL_law_1313 rfl ?_
  replace HF := bind_ck HF
  obtain ⟨c14, HF⟩ := HF
  replace HF := bind_o HF
  obtain ⟨⟨z17, h16⟩, e15, HF⟩ := HF
  replace HF := bd_o (bd_o HF)
  dsimp only at HF
  refine ev_callV (As := []) (R1 := (some (.int z17), h16)) (lk_X12_thrown (d := 0) (Nat.le_refl _) c14 e15) ce_X12_thrown im_X12_thrown sl_X12_thrown ml_L_127 cl_X12 c14 dL_law_1314 (by omega) (Nat.le_of_ble_eq_true rfl) rfl rfl ?_
  show EvG _ _ _ _ _ _ _ _ _ _ _ 1317 [(6, .int z12), (5, .int z7), (0, .ref (gXb g)), (1, .ref a1), (2, .ref a2), (3, .ref a3), (4, .int x4)] [.int z17] h16
  refine ev_iload 1 dL_law_1317 rfl ?_
  by_cases c19 : z17 = z7
  · replace HF := ite_T c19 HF
    refine ev_icmp_eqT (tgt := 1324) dL_law_1319 (by decide) c19 ?_
    refine ev_iload 1 dL_law_1324 rfl ?_
    by_cases c20 : z7 = 0
    · replace HF := ite_T c20 HF
      refine ev_if_neF (tgt := 1341) dL_law_1326 (by decide) c20 ?_
      refine ev_aload_n 5 dL_law_1329 rfl ?_
      refine ev_iconst (v := 0) dL_law_1330 (by decide) ?_
      replace HF := bind_ck HF
      obtain ⟨c21, HF⟩ := HF
      refine ev_lald dL_law_1331 c21.1 c21.2 ?_
      refine ev_iload 0 dL_law_1332 rfl ?_
      refine ev_i2l dL_law_1334 ?_
      refine ev_lcmp dL_law_1335 ?_
      by_cases c22 : lg_cmp (hJ h16 a3 (0 : Int32).toNatClampNeg) z12.toInt64 = 0
      · replace HF := ite_T c22 HF
        refine ev_if_eqT (tgt := 1341) dL_law_1336 (by decide) c22 ?_
        exact Ev.sub [2, 3, 4, 5, 6] rfl (lk_L_law_1341 hdd hl eL eX hend hb k23 hk23 a1 a2 a3 x4 _ HF)
      · replace HF := ite_F c22 HF
        refine ev_if_eqF (tgt := 1341) dL_law_1336 (by decide) c22 ?_
        refine ev_iconst (v := 0) dL_law_1339 (by decide) ?_
        exact absurd (show (0 : Int32) = 1 from congrArg Prod.fst (Option.some.inj HF)) (by decide)
    · replace HF := ite_F c20 HF
      refine ev_if_neT (tgt := 1341) dL_law_1326 (by decide) c20 ?_
      exact Ev.sub [2, 3, 4, 5, 6] rfl (lk_L_law_1341 hdd hl eL eX hend hb k23 hk23 a1 a2 a3 x4 _ HF)
  · replace HF := ite_F c19 HF
    refine ev_icmp_eqF (tgt := 1324) dL_law_1319 (by decide) c19 ?_
    refine ev_iconst (v := 0) dL_law_1322 (by decide) ?_
    exact absurd (show (0 : Int32) = 1 from congrArg Prod.fst (Option.some.inj HF)) (by decide)

set_option maxRecDepth 20000 in
theorem lk_L_law_1249 {g : aG} {l : Launch} {d : Nat} {h0 : aH} (hdd : 12 ≤ d) (hl : l.stackTraces = false) {L : Nat} {X : Nat → Int32} (eL : gXL g = L) (eX : gXf g = X) {zc zs : Nat} {Z : List Frame → Array Value → State → State → Prop} (hend : ∀ {pc : Nat} {lv : List (Nat × Value)} {h : aH}, hz h ≤ zc → hs h ≤ zs → decode cL_law pc = .ok (.ireturn, 1) → EvG g l cL_law 8 yL_law (some .boolean) d h0 zc zs Z pc lv [.int 1] h) {h1 : aH} (hb : hz h1 ≤ zc ∧ hs h1 ≤ zs) (k23 : Nat → Nat → Nat → Int32 → aH → Option (Int32 × aH)) (hk23 : ∀ (a1 : Nat) (a2 : Nat) (a3 : Nat) (x4 : Int32) (h : aH), k23 a1 a2 a3 x4 h = some (1, h1) → EvG g l cL_law 8 yL_law (some .boolean) d h0 zc zs Z 23 [(0, .ref (gXb g)), (1, .ref a1), (2, .ref a2), (3, .ref a3), (4, .int x4)] [] h) (a1 : Nat) (a2 : Nat) (a3 : Nat) (x4 : Int32) (h : aH) (HF : F_L_law_1249 L X k23 a1 a2 a3 x4 h = some (1, h1)) : EvG g l cL_law 8 yL_law (some .boolean) d h0 zc zs Z 1249 [(0, .ref (gXb g)), (1, .ref a1), (2, .ref a2), (3, .ref a3), (4, .int x4)] [] h := by
  unfold F_L_law_1249 at HF
  refine ev_goto (tgt := 1746) dL_law_1249 (by decide) ?_
  exact Ev.sub [0, 1, 2, 3, 4] rfl (lk_L_law_1746 hdd hl eL eX hend hb k23 hk23 a1 a2 a3 x4 _ HF)

set_option maxRecDepth 20000 in
theorem lk_L_law_1160 {g : aG} {l : Launch} {d : Nat} {h0 : aH} (hdd : 12 ≤ d) (hl : l.stackTraces = false) {L : Nat} {X : Nat → Int32} (eL : gXL g = L) (eX : gXf g = X) {zc zs : Nat} {Z : List Frame → Array Value → State → State → Prop} (hend : ∀ {pc : Nat} {lv : List (Nat × Value)} {h : aH}, hz h ≤ zc → hs h ≤ zs → decode cL_law pc = .ok (.ireturn, 1) → EvG g l cL_law 8 yL_law (some .boolean) d h0 zc zs Z pc lv [.int 1] h) {h1 : aH} (hb : hz h1 ≤ zc ∧ hs h1 ≤ zs) (k23 : Nat → Nat → Nat → Int32 → aH → Option (Int32 × aH)) (hk23 : ∀ (a1 : Nat) (a2 : Nat) (a3 : Nat) (x4 : Int32) (h : aH), k23 a1 a2 a3 x4 h = some (1, h1) → EvG g l cL_law 8 yL_law (some .boolean) d h0 zc zs Z 23 [(0, .ref (gXb g)), (1, .ref a1), (2, .ref a2), (3, .ref a3), (4, .int x4)] [] h) (a1 : Nat) (a2 : Nat) (a3 : Nat) (x4 : Int32) (h : aH) (HF : F_L_law_1160 L X k23 a1 a2 a3 x4 h = some (1, h1)) : EvG g l cL_law 8 yL_law (some .boolean) d h0 zc zs Z 1160 [(0, .ref (gXb g)), (1, .ref a1), (2, .ref a2), (3, .ref a3), (4, .int x4)] [] h := by
  unfold F_L_law_1160 at HF
  refine ev_aload_n 1 dL_law_1160 rfl ?_
  refine ev_aload_n 0 dL_law_1161 rfl ?_
  refine ev_iload 4 dL_law_1162 rfl ?_
  refine ev_iconst (v := 1) dL_law_1164 (by decide) ?_
  refine ev_iadd dL_law_1165 ?_
  replace HF := bind_ck HF
  obtain ⟨c1, HF⟩ := HF
  refine ev_xld eL eX dL_law_1166 c1 ?_
  refine ev_aload_n 0 dL_law_1167 rfl ?_
  show EvG _ _ _ _ _ _ _ _ _ _ _ 1168 _ _ _
  refine ev_iload 4 dL_law_1168 rfl ?_
  refine ev_iconst (v := 2) dL_law_1170 (by decide) ?_
  refine ev_iadd dL_law_1171 ?_
  replace HF := bind_ck HF
  obtain ⟨c2, HF⟩ := HF
  refine ev_xld eL eX dL_law_1172 c2 ?_
  refine ev_aload_n 0 dL_law_1173 rfl ?_
  refine ev_iload 4 dL_law_1174 rfl ?_
  refine ev_iconst (v := 3) dL_law_1176 (by decide) ?_
  refine ev_iadd dL_law_1177 ?_
  show EvG _ _ _ _ _ _ _ _ _ _ _ 1178 _ _ _
  replace HF := bind_ck HF
  obtain ⟨c3, HF⟩ := HF
  refine ev_xld eL eX dL_law_1178 c3 ?_
  refine ev_aload_n 0 dL_law_1179 rfl ?_
  refine ev_iload 4 dL_law_1180 rfl ?_
  refine ev_iconst (v := 4) dL_law_1182 (by decide) ?_
  refine ev_iadd dL_law_1183 ?_
  replace HF := bind_ck HF
  obtain ⟨c4, HF⟩ := HF
  refine ev_xld eL eX dL_law_1184 c4 ?_
  refine ev_aload_n 3 dL_law_1185 rfl ?_
  replace HF := bind_o HF
  obtain ⟨⟨z7, h6⟩, e5, HF⟩ := HF
  replace HF := bd_o (bd_o HF)
  dsimp only at HF
  refine ev_callSW (As := [.ref a1, .int (X (x4 + 1).toNatClampNeg), .int (X (x4 + 2).toNatClampNeg), .int (X (x4 + 3).toNatClampNeg), .int (X (x4 + 4).toNatClampNeg), .ref a3]) (R1 := (some (.int z7), h6)) (lk_L_entry hl (d := 7) (Nat.le_refl _) e5) cw_L_entry in_law nn_L_entry st_L_entry ml_L_138 dL_law_1186 (by omega) (Nat.le_of_ble_eq_true rfl) rfl rfl ?_
  show EvG _ _ _ _ _ _ _ _ _ _ _ 1189 [(0, .ref (gXb g)), (1, .ref a1), (2, .ref a2), (3, .ref a3), (4, .int x4)] [.int z7] h6
  show EvG _ _ _ _ _ _ _ _ _ _ _ 1189 _ _ _
  refine ev_istore (lv' := [(5, .int z7), (0, .ref (gXb g)), (1, .ref a1), (2, .ref a2), (3, .ref a3), (4, .int x4)]) dL_law_1189 (by decide) (rfl) ?_
  refine ev_aload_n 3 dL_law_1191 rfl ?_
  refine ev_aload_n 1 dL_law_1192 rfl ?_
  refine ev_iload 5 dL_law_1193 rfl ?_
  refine ev_iconst (v := 1) dL_law_1195 (by decide) ?_
  refine ev_iadd dL_law_1196 ?_
  refine ev_xld eL eX dL_law_1197 c1 ?_
  refine ev_aload_n 1 dL_law_1198 rfl ?_
  show EvG _ _ _ _ _ _ _ _ _ _ _ 1199 _ _ _
  refine ev_iload 5 dL_law_1199 rfl ?_
  refine ev_iconst (v := 2) dL_law_1201 (by decide) ?_
  refine ev_iadd dL_law_1202 ?_
  refine ev_xld eL eX dL_law_1203 c2 ?_
  refine ev_aload_n 1 dL_law_1204 rfl ?_
  refine ev_iload 5 dL_law_1205 rfl ?_
  refine ev_iconst (v := 3) dL_law_1207 (by decide) ?_
  refine ev_iadd dL_law_1208 ?_
  show EvG _ _ _ _ _ _ _ _ _ _ _ 1209 _ _ _
  refine ev_xld eL eX dL_law_1209 c3 ?_
  refine ev_aload_n 1 dL_law_1210 rfl ?_
  refine ev_iload 5 dL_law_1211 rfl ?_
  refine ev_iconst (v := 4) dL_law_1213 (by decide) ?_
  refine ev_iadd dL_law_1214 ?_
  refine ev_xld eL eX dL_law_1215 c4 ?_
  replace HF := bind_ck HF
  obtain ⟨c9, HF⟩ := HF
  replace HF := bind_o HF
  obtain ⟨⟨z12, h11⟩, e10, HF⟩ := HF
  replace HF := bd_o (bd_o HF)
  dsimp only at HF
  refine ev_callV (As := [.int (X (x4 + 1).toNatClampNeg), .int (X (x4 + 2).toNatClampNeg), .int (X (x4 + 3).toNatClampNeg), .int (X (x4 + 4).toNatClampNeg)]) (R1 := (some (.int z12), h11)) (lk_X12_entry (d := 2) (Nat.le_refl _) c9 e10) ce_X12_entry im_X12_entry sl_X12_entry ml_L_140 cl_X12 c9 dL_law_1216 (by omega) (Nat.le_of_ble_eq_true rfl) rfl rfl ?_
  show EvG _ _ _ _ _ _ _ _ _ _ _ 1219 [(5, .int z7), (0, .ref (gXb g)), (1, .ref a1), (2, .ref a2), (3, .ref a3), (4, .int x4)] [.int z12] h11
  refine ev_istore (lv' := [(6, .int z12), (5, .int z7), (0, .ref (gXb g)), (1, .ref a1), (2, .ref a2), (3, .ref a3), (4, .int x4)]) dL_law_1219 (by decide) (rfl) ?_
  show EvG _ _ _ _ _ _ _ _ _ _ _ 1221 _ _ _
  refine ev_aload_n 4 dL_law_1221 rfl ?_
  replace HF := bind_ck HF
  obtain ⟨c14, HF⟩ := HF
  replace HF := bind_o HF
  obtain ⟨⟨z17, h16⟩, e15, HF⟩ := HF
  replace HF := bd_o (bd_o HF)
  dsimp only at HF
  refine ev_callV (As := []) (R1 := (some (.int z17), h16)) (lk_X12_thrown (d := 0) (Nat.le_refl _) c14 e15) ce_X12_thrown im_X12_thrown sl_X12_thrown ml_L_127 cl_X12 c14 dL_law_1222 (by omega) (Nat.le_of_ble_eq_true rfl) rfl rfl ?_
  show EvG _ _ _ _ _ _ _ _ _ _ _ 1225 [(6, .int z12), (5, .int z7), (0, .ref (gXb g)), (1, .ref a1), (2, .ref a2), (3, .ref a3), (4, .int x4)] [.int z17] h16
  refine ev_iload 1 dL_law_1225 rfl ?_
  by_cases c19 : z17 = z7
  · replace HF := ite_T c19 HF
    refine ev_icmp_eqT (tgt := 1232) dL_law_1227 (by decide) c19 ?_
    refine ev_iload 1 dL_law_1232 rfl ?_
    by_cases c20 : z7 = 0
    · replace HF := ite_T c20 HF
      refine ev_if_neF (tgt := 1249) dL_law_1234 (by decide) c20 ?_
      refine ev_aload_n 5 dL_law_1237 rfl ?_
      refine ev_iconst (v := 0) dL_law_1238 (by decide) ?_
      replace HF := bind_ck HF
      obtain ⟨c21, HF⟩ := HF
      refine ev_lald dL_law_1239 c21.1 c21.2 ?_
      refine ev_iload 0 dL_law_1240 rfl ?_
      refine ev_i2l dL_law_1242 ?_
      refine ev_lcmp dL_law_1243 ?_
      by_cases c22 : lg_cmp (hJ h16 a3 (0 : Int32).toNatClampNeg) z12.toInt64 = 0
      · replace HF := ite_T c22 HF
        refine ev_if_eqT (tgt := 1249) dL_law_1244 (by decide) c22 ?_
        exact Ev.sub [2, 3, 4, 5, 6] rfl (lk_L_law_1249 hdd hl eL eX hend hb k23 hk23 a1 a2 a3 x4 _ HF)
      · replace HF := ite_F c22 HF
        refine ev_if_eqF (tgt := 1249) dL_law_1244 (by decide) c22 ?_
        refine ev_iconst (v := 0) dL_law_1247 (by decide) ?_
        exact absurd (show (0 : Int32) = 1 from congrArg Prod.fst (Option.some.inj HF)) (by decide)
    · replace HF := ite_F c20 HF
      refine ev_if_neT (tgt := 1249) dL_law_1234 (by decide) c20 ?_
      exact Ev.sub [2, 3, 4, 5, 6] rfl (lk_L_law_1249 hdd hl eL eX hend hb k23 hk23 a1 a2 a3 x4 _ HF)
  · replace HF := ite_F c19 HF
    refine ev_icmp_eqF (tgt := 1232) dL_law_1227 (by decide) c19 ?_
    refine ev_iconst (v := 0) dL_law_1230 (by decide) ?_
    exact absurd (show (0 : Int32) = 1 from congrArg Prod.fst (Option.some.inj HF)) (by decide)

set_option maxRecDepth 20000 in
theorem lk_L_law_1157 {g : aG} {l : Launch} {d : Nat} {h0 : aH} (hdd : 12 ≤ d) (hl : l.stackTraces = false) {L : Nat} {X : Nat → Int32} (eL : gXL g = L) (eX : gXf g = X) {zc zs : Nat} {Z : List Frame → Array Value → State → State → Prop} (hend : ∀ {pc : Nat} {lv : List (Nat × Value)} {h : aH}, hz h ≤ zc → hs h ≤ zs → decode cL_law pc = .ok (.ireturn, 1) → EvG g l cL_law 8 yL_law (some .boolean) d h0 zc zs Z pc lv [.int 1] h) {h1 : aH} (hb : hz h1 ≤ zc ∧ hs h1 ≤ zs) (k23 : Nat → Nat → Nat → Int32 → aH → Option (Int32 × aH)) (hk23 : ∀ (a1 : Nat) (a2 : Nat) (a3 : Nat) (x4 : Int32) (h : aH), k23 a1 a2 a3 x4 h = some (1, h1) → EvG g l cL_law 8 yL_law (some .boolean) d h0 zc zs Z 23 [(0, .ref (gXb g)), (1, .ref a1), (2, .ref a2), (3, .ref a3), (4, .int x4)] [] h) (a1 : Nat) (a2 : Nat) (a3 : Nat) (x4 : Int32) (h : aH) (HF : F_L_law_1157 L X k23 a1 a2 a3 x4 h = some (1, h1)) : EvG g l cL_law 8 yL_law (some .boolean) d h0 zc zs Z 1157 [(0, .ref (gXb g)), (1, .ref a1), (2, .ref a2), (3, .ref a3), (4, .int x4)] [] h := by
  unfold F_L_law_1157 at HF
  refine ev_goto (tgt := 1746) dL_law_1157 (by decide) ?_
  exact Ev.sub [0, 1, 2, 3, 4] rfl (lk_L_law_1746 hdd hl eL eX hend hb k23 hk23 a1 a2 a3 x4 _ HF)

set_option maxRecDepth 20000 in
theorem lk_L_law_1068 {g : aG} {l : Launch} {d : Nat} {h0 : aH} (hdd : 12 ≤ d) (hl : l.stackTraces = false) {L : Nat} {X : Nat → Int32} (eL : gXL g = L) (eX : gXf g = X) {zc zs : Nat} {Z : List Frame → Array Value → State → State → Prop} (hend : ∀ {pc : Nat} {lv : List (Nat × Value)} {h : aH}, hz h ≤ zc → hs h ≤ zs → decode cL_law pc = .ok (.ireturn, 1) → EvG g l cL_law 8 yL_law (some .boolean) d h0 zc zs Z pc lv [.int 1] h) {h1 : aH} (hb : hz h1 ≤ zc ∧ hs h1 ≤ zs) (k23 : Nat → Nat → Nat → Int32 → aH → Option (Int32 × aH)) (hk23 : ∀ (a1 : Nat) (a2 : Nat) (a3 : Nat) (x4 : Int32) (h : aH), k23 a1 a2 a3 x4 h = some (1, h1) → EvG g l cL_law 8 yL_law (some .boolean) d h0 zc zs Z 23 [(0, .ref (gXb g)), (1, .ref a1), (2, .ref a2), (3, .ref a3), (4, .int x4)] [] h) (a1 : Nat) (a2 : Nat) (a3 : Nat) (x4 : Int32) (h : aH) (HF : F_L_law_1068 L X k23 a1 a2 a3 x4 h = some (1, h1)) : EvG g l cL_law 8 yL_law (some .boolean) d h0 zc zs Z 1068 [(0, .ref (gXb g)), (1, .ref a1), (2, .ref a2), (3, .ref a3), (4, .int x4)] [] h := by
  unfold F_L_law_1068 at HF
  refine ev_aload_n 1 dL_law_1068 rfl ?_
  refine ev_aload_n 0 dL_law_1069 rfl ?_
  refine ev_iload 4 dL_law_1070 rfl ?_
  refine ev_iconst (v := 1) dL_law_1072 (by decide) ?_
  refine ev_iadd dL_law_1073 ?_
  replace HF := bind_ck HF
  obtain ⟨c1, HF⟩ := HF
  refine ev_xld eL eX dL_law_1074 c1 ?_
  refine ev_aload_n 0 dL_law_1075 rfl ?_
  show EvG _ _ _ _ _ _ _ _ _ _ _ 1076 _ _ _
  refine ev_iload 4 dL_law_1076 rfl ?_
  refine ev_iconst (v := 2) dL_law_1078 (by decide) ?_
  refine ev_iadd dL_law_1079 ?_
  replace HF := bind_ck HF
  obtain ⟨c2, HF⟩ := HF
  refine ev_xld eL eX dL_law_1080 c2 ?_
  refine ev_aload_n 0 dL_law_1081 rfl ?_
  refine ev_iload 4 dL_law_1082 rfl ?_
  refine ev_iconst (v := 3) dL_law_1084 (by decide) ?_
  refine ev_iadd dL_law_1085 ?_
  show EvG _ _ _ _ _ _ _ _ _ _ _ 1086 _ _ _
  replace HF := bind_ck HF
  obtain ⟨c3, HF⟩ := HF
  refine ev_xld eL eX dL_law_1086 c3 ?_
  refine ev_aload_n 0 dL_law_1087 rfl ?_
  refine ev_iload 4 dL_law_1088 rfl ?_
  refine ev_iconst (v := 4) dL_law_1090 (by decide) ?_
  refine ev_iadd dL_law_1091 ?_
  replace HF := bind_ck HF
  obtain ⟨c4, HF⟩ := HF
  refine ev_xld eL eX dL_law_1092 c4 ?_
  refine ev_aload_n 3 dL_law_1093 rfl ?_
  replace HF := bind_o HF
  obtain ⟨⟨z7, h6⟩, e5, HF⟩ := HF
  replace HF := bd_o (bd_o HF)
  dsimp only at HF
  refine ev_callSW (As := [.ref a1, .int (X (x4 + 1).toNatClampNeg), .int (X (x4 + 2).toNatClampNeg), .int (X (x4 + 3).toNatClampNeg), .int (X (x4 + 4).toNatClampNeg), .ref a3]) (R1 := (some (.int z7), h6)) (lk_L_overs hl (d := 8) (Nat.le_refl _) e5) cw_L_overs in_law nn_L_overs st_L_overs ml_L_134 dL_law_1094 (by omega) (Nat.le_of_ble_eq_true rfl) rfl rfl ?_
  show EvG _ _ _ _ _ _ _ _ _ _ _ 1097 [(0, .ref (gXb g)), (1, .ref a1), (2, .ref a2), (3, .ref a3), (4, .int x4)] [.int z7] h6
  show EvG _ _ _ _ _ _ _ _ _ _ _ 1097 _ _ _
  refine ev_istore (lv' := [(5, .int z7), (0, .ref (gXb g)), (1, .ref a1), (2, .ref a2), (3, .ref a3), (4, .int x4)]) dL_law_1097 (by decide) (rfl) ?_
  refine ev_aload_n 3 dL_law_1099 rfl ?_
  refine ev_aload_n 1 dL_law_1100 rfl ?_
  refine ev_iload 5 dL_law_1101 rfl ?_
  refine ev_iconst (v := 1) dL_law_1103 (by decide) ?_
  refine ev_iadd dL_law_1104 ?_
  refine ev_xld eL eX dL_law_1105 c1 ?_
  refine ev_aload_n 1 dL_law_1106 rfl ?_
  show EvG _ _ _ _ _ _ _ _ _ _ _ 1107 _ _ _
  refine ev_iload 5 dL_law_1107 rfl ?_
  refine ev_iconst (v := 2) dL_law_1109 (by decide) ?_
  refine ev_iadd dL_law_1110 ?_
  refine ev_xld eL eX dL_law_1111 c2 ?_
  refine ev_aload_n 1 dL_law_1112 rfl ?_
  refine ev_iload 5 dL_law_1113 rfl ?_
  refine ev_iconst (v := 3) dL_law_1115 (by decide) ?_
  refine ev_iadd dL_law_1116 ?_
  show EvG _ _ _ _ _ _ _ _ _ _ _ 1117 _ _ _
  refine ev_xld eL eX dL_law_1117 c3 ?_
  refine ev_aload_n 1 dL_law_1118 rfl ?_
  refine ev_iload 5 dL_law_1119 rfl ?_
  refine ev_iconst (v := 4) dL_law_1121 (by decide) ?_
  refine ev_iadd dL_law_1122 ?_
  refine ev_xld eL eX dL_law_1123 c4 ?_
  replace HF := bind_ck HF
  obtain ⟨c9, HF⟩ := HF
  replace HF := bind_o HF
  obtain ⟨⟨z12, h11⟩, e10, HF⟩ := HF
  replace HF := bd_o (bd_o HF)
  dsimp only at HF
  refine ev_callV (As := [.int (X (x4 + 1).toNatClampNeg), .int (X (x4 + 2).toNatClampNeg), .int (X (x4 + 3).toNatClampNeg), .int (X (x4 + 4).toNatClampNeg)]) (R1 := (some (.int z12), h11)) (lk_X12_overs (d := 6) (Nat.le_refl _) c9 e10) ce_X12_overs im_X12_overs sl_X12_overs ml_L_137 cl_X12 c9 dL_law_1124 (by omega) (Nat.le_of_ble_eq_true rfl) rfl rfl ?_
  show EvG _ _ _ _ _ _ _ _ _ _ _ 1127 [(5, .int z7), (0, .ref (gXb g)), (1, .ref a1), (2, .ref a2), (3, .ref a3), (4, .int x4)] [.int z12] h11
  refine ev_istore (lv' := [(6, .int z12), (5, .int z7), (0, .ref (gXb g)), (1, .ref a1), (2, .ref a2), (3, .ref a3), (4, .int x4)]) dL_law_1127 (by decide) (rfl) ?_
  show EvG _ _ _ _ _ _ _ _ _ _ _ 1129 _ _ _
  refine ev_aload_n 4 dL_law_1129 rfl ?_
  replace HF := bind_ck HF
  obtain ⟨c14, HF⟩ := HF
  replace HF := bind_o HF
  obtain ⟨⟨z17, h16⟩, e15, HF⟩ := HF
  replace HF := bd_o (bd_o HF)
  dsimp only at HF
  refine ev_callV (As := []) (R1 := (some (.int z17), h16)) (lk_X12_thrown (d := 0) (Nat.le_refl _) c14 e15) ce_X12_thrown im_X12_thrown sl_X12_thrown ml_L_127 cl_X12 c14 dL_law_1130 (by omega) (Nat.le_of_ble_eq_true rfl) rfl rfl ?_
  show EvG _ _ _ _ _ _ _ _ _ _ _ 1133 [(6, .int z12), (5, .int z7), (0, .ref (gXb g)), (1, .ref a1), (2, .ref a2), (3, .ref a3), (4, .int x4)] [.int z17] h16
  refine ev_iload 1 dL_law_1133 rfl ?_
  by_cases c19 : z17 = z7
  · replace HF := ite_T c19 HF
    refine ev_icmp_eqT (tgt := 1140) dL_law_1135 (by decide) c19 ?_
    refine ev_iload 1 dL_law_1140 rfl ?_
    by_cases c20 : z7 = 0
    · replace HF := ite_T c20 HF
      refine ev_if_neF (tgt := 1157) dL_law_1142 (by decide) c20 ?_
      refine ev_aload_n 5 dL_law_1145 rfl ?_
      refine ev_iconst (v := 0) dL_law_1146 (by decide) ?_
      replace HF := bind_ck HF
      obtain ⟨c21, HF⟩ := HF
      refine ev_lald dL_law_1147 c21.1 c21.2 ?_
      refine ev_iload 0 dL_law_1148 rfl ?_
      refine ev_i2l dL_law_1150 ?_
      refine ev_lcmp dL_law_1151 ?_
      by_cases c22 : lg_cmp (hJ h16 a3 (0 : Int32).toNatClampNeg) z12.toInt64 = 0
      · replace HF := ite_T c22 HF
        refine ev_if_eqT (tgt := 1157) dL_law_1152 (by decide) c22 ?_
        exact Ev.sub [2, 3, 4, 5, 6] rfl (lk_L_law_1157 hdd hl eL eX hend hb k23 hk23 a1 a2 a3 x4 _ HF)
      · replace HF := ite_F c22 HF
        refine ev_if_eqF (tgt := 1157) dL_law_1152 (by decide) c22 ?_
        refine ev_iconst (v := 0) dL_law_1155 (by decide) ?_
        exact absurd (show (0 : Int32) = 1 from congrArg Prod.fst (Option.some.inj HF)) (by decide)
    · replace HF := ite_F c20 HF
      refine ev_if_neT (tgt := 1157) dL_law_1142 (by decide) c20 ?_
      exact Ev.sub [2, 3, 4, 5, 6] rfl (lk_L_law_1157 hdd hl eL eX hend hb k23 hk23 a1 a2 a3 x4 _ HF)
  · replace HF := ite_F c19 HF
    refine ev_icmp_eqF (tgt := 1140) dL_law_1135 (by decide) c19 ?_
    refine ev_iconst (v := 0) dL_law_1138 (by decide) ?_
    exact absurd (show (0 : Int32) = 1 from congrArg Prod.fst (Option.some.inj HF)) (by decide)

set_option maxRecDepth 20000 in
theorem lk_L_law_1065 {g : aG} {l : Launch} {d : Nat} {h0 : aH} (hdd : 12 ≤ d) (hl : l.stackTraces = false) {L : Nat} {X : Nat → Int32} (eL : gXL g = L) (eX : gXf g = X) {zc zs : Nat} {Z : List Frame → Array Value → State → State → Prop} (hend : ∀ {pc : Nat} {lv : List (Nat × Value)} {h : aH}, hz h ≤ zc → hs h ≤ zs → decode cL_law pc = .ok (.ireturn, 1) → EvG g l cL_law 8 yL_law (some .boolean) d h0 zc zs Z pc lv [.int 1] h) {h1 : aH} (hb : hz h1 ≤ zc ∧ hs h1 ≤ zs) (k23 : Nat → Nat → Nat → Int32 → aH → Option (Int32 × aH)) (hk23 : ∀ (a1 : Nat) (a2 : Nat) (a3 : Nat) (x4 : Int32) (h : aH), k23 a1 a2 a3 x4 h = some (1, h1) → EvG g l cL_law 8 yL_law (some .boolean) d h0 zc zs Z 23 [(0, .ref (gXb g)), (1, .ref a1), (2, .ref a2), (3, .ref a3), (4, .int x4)] [] h) (a1 : Nat) (a2 : Nat) (a3 : Nat) (x4 : Int32) (h : aH) (HF : F_L_law_1065 L X k23 a1 a2 a3 x4 h = some (1, h1)) : EvG g l cL_law 8 yL_law (some .boolean) d h0 zc zs Z 1065 [(0, .ref (gXb g)), (1, .ref a1), (2, .ref a2), (3, .ref a3), (4, .int x4)] [] h := by
  unfold F_L_law_1065 at HF
  refine ev_goto (tgt := 1746) dL_law_1065 (by decide) ?_
  exact Ev.sub [0, 1, 2, 3, 4] rfl (lk_L_law_1746 hdd hl eL eX hend hb k23 hk23 a1 a2 a3 x4 _ HF)

set_option maxRecDepth 20000 in
theorem lk_L_law_988 {g : aG} {l : Launch} {d : Nat} {h0 : aH} (hdd : 12 ≤ d) (hl : l.stackTraces = false) {L : Nat} {X : Nat → Int32} (eL : gXL g = L) (eX : gXf g = X) {zc zs : Nat} {Z : List Frame → Array Value → State → State → Prop} (hend : ∀ {pc : Nat} {lv : List (Nat × Value)} {h : aH}, hz h ≤ zc → hs h ≤ zs → decode cL_law pc = .ok (.ireturn, 1) → EvG g l cL_law 8 yL_law (some .boolean) d h0 zc zs Z pc lv [.int 1] h) {h1 : aH} (hb : hz h1 ≤ zc ∧ hs h1 ≤ zs) (k23 : Nat → Nat → Nat → Int32 → aH → Option (Int32 × aH)) (hk23 : ∀ (a1 : Nat) (a2 : Nat) (a3 : Nat) (x4 : Int32) (h : aH), k23 a1 a2 a3 x4 h = some (1, h1) → EvG g l cL_law 8 yL_law (some .boolean) d h0 zc zs Z 23 [(0, .ref (gXb g)), (1, .ref a1), (2, .ref a2), (3, .ref a3), (4, .int x4)] [] h) (a1 : Nat) (a2 : Nat) (a3 : Nat) (x4 : Int32) (h : aH) (HF : F_L_law_988 L X k23 a1 a2 a3 x4 h = some (1, h1)) : EvG g l cL_law 8 yL_law (some .boolean) d h0 zc zs Z 988 [(0, .ref (gXb g)), (1, .ref a1), (2, .ref a2), (3, .ref a3), (4, .int x4)] [] h := by
  unfold F_L_law_988 at HF
  refine ev_aload_n 1 dL_law_988 rfl ?_
  refine ev_aload_n 0 dL_law_989 rfl ?_
  refine ev_iload 4 dL_law_990 rfl ?_
  refine ev_iconst (v := 1) dL_law_992 (by decide) ?_
  refine ev_iadd dL_law_993 ?_
  replace HF := bind_ck HF
  obtain ⟨c1, HF⟩ := HF
  refine ev_xld eL eX dL_law_994 c1 ?_
  refine ev_aload_n 0 dL_law_995 rfl ?_
  show EvG _ _ _ _ _ _ _ _ _ _ _ 996 _ _ _
  refine ev_iload 4 dL_law_996 rfl ?_
  refine ev_iconst (v := 2) dL_law_998 (by decide) ?_
  refine ev_iadd dL_law_999 ?_
  replace HF := bind_ck HF
  obtain ⟨c2, HF⟩ := HF
  refine ev_xld eL eX dL_law_1000 c2 ?_
  refine ev_aload_n 0 dL_law_1001 rfl ?_
  refine ev_iload 4 dL_law_1002 rfl ?_
  refine ev_iconst (v := 3) dL_law_1004 (by decide) ?_
  refine ev_iadd dL_law_1005 ?_
  show EvG _ _ _ _ _ _ _ _ _ _ _ 1006 _ _ _
  replace HF := bind_ck HF
  obtain ⟨c3, HF⟩ := HF
  refine ev_xld eL eX dL_law_1006 c3 ?_
  refine ev_aload_n 3 dL_law_1007 rfl ?_
  replace HF := bind_o HF
  obtain ⟨⟨z6, h5⟩, e4, HF⟩ := HF
  replace HF := bd_o (bd_o HF)
  dsimp only at HF
  refine ev_callSW (As := [.ref a1, .int (X (x4 + 1).toNatClampNeg), .int (X (x4 + 2).toNatClampNeg), .int (X (x4 + 3).toNatClampNeg), .ref a3]) (R1 := (some (.int z6), h5)) (lk_L_score hl (d := 8) (Nat.le_refl _) e4) cw_L_score in_law nn_L_score st_L_score ml_L_130 dL_law_1008 (by omega) (Nat.le_of_ble_eq_true rfl) rfl rfl ?_
  show EvG _ _ _ _ _ _ _ _ _ _ _ 1011 [(0, .ref (gXb g)), (1, .ref a1), (2, .ref a2), (3, .ref a3), (4, .int x4)] [.int z6] h5
  refine ev_istore (lv' := [(5, .int z6), (0, .ref (gXb g)), (1, .ref a1), (2, .ref a2), (3, .ref a3), (4, .int x4)]) dL_law_1011 (by decide) (rfl) ?_
  refine ev_aload_n 3 dL_law_1013 rfl ?_
  refine ev_aload_n 1 dL_law_1014 rfl ?_
  refine ev_iload 5 dL_law_1015 rfl ?_
  refine ev_iconst (v := 1) dL_law_1017 (by decide) ?_
  show EvG _ _ _ _ _ _ _ _ _ _ _ 1018 _ _ _
  refine ev_iadd dL_law_1018 ?_
  refine ev_xld eL eX dL_law_1019 c1 ?_
  refine ev_aload_n 1 dL_law_1020 rfl ?_
  refine ev_iload 5 dL_law_1021 rfl ?_
  refine ev_iconst (v := 2) dL_law_1023 (by decide) ?_
  refine ev_iadd dL_law_1024 ?_
  refine ev_xld eL eX dL_law_1025 c2 ?_
  refine ev_aload_n 1 dL_law_1026 rfl ?_
  show EvG _ _ _ _ _ _ _ _ _ _ _ 1027 _ _ _
  refine ev_iload 5 dL_law_1027 rfl ?_
  refine ev_iconst (v := 3) dL_law_1029 (by decide) ?_
  refine ev_iadd dL_law_1030 ?_
  refine ev_xld eL eX dL_law_1031 c3 ?_
  replace HF := bind_ck HF
  obtain ⟨c8, HF⟩ := HF
  replace HF := bind_o HF
  obtain ⟨⟨z11, h10⟩, e9, HF⟩ := HF
  replace HF := bd_o (bd_o HF)
  dsimp only at HF
  refine ev_callV (As := [.int (X (x4 + 1).toNatClampNeg), .int (X (x4 + 2).toNatClampNeg), .int (X (x4 + 3).toNatClampNeg)]) (R1 := (some (.int z11), h10)) (lk_X12_score (d := 6) (Nat.le_refl _) c8 e9) ce_X12_score im_X12_score sl_X12_score ml_L_133 cl_X12 c8 dL_law_1032 (by omega) (Nat.le_of_ble_eq_true rfl) rfl rfl ?_
  show EvG _ _ _ _ _ _ _ _ _ _ _ 1035 [(5, .int z6), (0, .ref (gXb g)), (1, .ref a1), (2, .ref a2), (3, .ref a3), (4, .int x4)] [.int z11] h10
  refine ev_istore (lv' := [(6, .int z11), (5, .int z6), (0, .ref (gXb g)), (1, .ref a1), (2, .ref a2), (3, .ref a3), (4, .int x4)]) dL_law_1035 (by decide) (rfl) ?_
  refine ev_aload_n 4 dL_law_1037 rfl ?_
  replace HF := bind_ck HF
  obtain ⟨c13, HF⟩ := HF
  replace HF := bind_o HF
  obtain ⟨⟨z16, h15⟩, e14, HF⟩ := HF
  replace HF := bd_o (bd_o HF)
  dsimp only at HF
  refine ev_callV (As := []) (R1 := (some (.int z16), h15)) (lk_X12_thrown (d := 0) (Nat.le_refl _) c13 e14) ce_X12_thrown im_X12_thrown sl_X12_thrown ml_L_127 cl_X12 c13 dL_law_1038 (by omega) (Nat.le_of_ble_eq_true rfl) rfl rfl ?_
  show EvG _ _ _ _ _ _ _ _ _ _ _ 1041 [(6, .int z11), (5, .int z6), (0, .ref (gXb g)), (1, .ref a1), (2, .ref a2), (3, .ref a3), (4, .int x4)] [.int z16] h15
  show EvG _ _ _ _ _ _ _ _ _ _ _ 1041 _ _ _
  refine ev_iload 1 dL_law_1041 rfl ?_
  by_cases c18 : z16 = z6
  · replace HF := ite_T c18 HF
    refine ev_icmp_eqT (tgt := 1048) dL_law_1043 (by decide) c18 ?_
    refine ev_iload 1 dL_law_1048 rfl ?_
    by_cases c19 : z6 = 0
    · replace HF := ite_T c19 HF
      refine ev_if_neF (tgt := 1065) dL_law_1050 (by decide) c19 ?_
      refine ev_aload_n 5 dL_law_1053 rfl ?_
      refine ev_iconst (v := 0) dL_law_1054 (by decide) ?_
      replace HF := bind_ck HF
      obtain ⟨c20, HF⟩ := HF
      refine ev_lald dL_law_1055 c20.1 c20.2 ?_
      refine ev_iload 0 dL_law_1056 rfl ?_
      refine ev_i2l dL_law_1058 ?_
      refine ev_lcmp dL_law_1059 ?_
      by_cases c21 : lg_cmp (hJ h15 a3 (0 : Int32).toNatClampNeg) z11.toInt64 = 0
      · replace HF := ite_T c21 HF
        refine ev_if_eqT (tgt := 1065) dL_law_1060 (by decide) c21 ?_
        exact Ev.sub [2, 3, 4, 5, 6] rfl (lk_L_law_1065 hdd hl eL eX hend hb k23 hk23 a1 a2 a3 x4 _ HF)
      · replace HF := ite_F c21 HF
        refine ev_if_eqF (tgt := 1065) dL_law_1060 (by decide) c21 ?_
        refine ev_iconst (v := 0) dL_law_1063 (by decide) ?_
        exact absurd (show (0 : Int32) = 1 from congrArg Prod.fst (Option.some.inj HF)) (by decide)
    · replace HF := ite_F c19 HF
      refine ev_if_neT (tgt := 1065) dL_law_1050 (by decide) c19 ?_
      exact Ev.sub [2, 3, 4, 5, 6] rfl (lk_L_law_1065 hdd hl eL eX hend hb k23 hk23 a1 a2 a3 x4 _ HF)
  · replace HF := ite_F c18 HF
    refine ev_icmp_eqF (tgt := 1048) dL_law_1043 (by decide) c18 ?_
    refine ev_iconst (v := 0) dL_law_1046 (by decide) ?_
    exact absurd (show (0 : Int32) = 1 from congrArg Prod.fst (Option.some.inj HF)) (by decide)

set_option maxRecDepth 20000 in
theorem lk_L_law_985 {g : aG} {l : Launch} {d : Nat} {h0 : aH} (hdd : 12 ≤ d) (hl : l.stackTraces = false) {L : Nat} {X : Nat → Int32} (eL : gXL g = L) (eX : gXf g = X) {zc zs : Nat} {Z : List Frame → Array Value → State → State → Prop} (hend : ∀ {pc : Nat} {lv : List (Nat × Value)} {h : aH}, hz h ≤ zc → hs h ≤ zs → decode cL_law pc = .ok (.ireturn, 1) → EvG g l cL_law 8 yL_law (some .boolean) d h0 zc zs Z pc lv [.int 1] h) {h1 : aH} (hb : hz h1 ≤ zc ∧ hs h1 ≤ zs) (k23 : Nat → Nat → Nat → Int32 → aH → Option (Int32 × aH)) (hk23 : ∀ (a1 : Nat) (a2 : Nat) (a3 : Nat) (x4 : Int32) (h : aH), k23 a1 a2 a3 x4 h = some (1, h1) → EvG g l cL_law 8 yL_law (some .boolean) d h0 zc zs Z 23 [(0, .ref (gXb g)), (1, .ref a1), (2, .ref a2), (3, .ref a3), (4, .int x4)] [] h) (a1 : Nat) (a2 : Nat) (a3 : Nat) (x4 : Int32) (h : aH) (HF : F_L_law_985 L X k23 a1 a2 a3 x4 h = some (1, h1)) : EvG g l cL_law 8 yL_law (some .boolean) d h0 zc zs Z 985 [(0, .ref (gXb g)), (1, .ref a1), (2, .ref a2), (3, .ref a3), (4, .int x4)] [] h := by
  unfold F_L_law_985 at HF
  refine ev_goto (tgt := 1746) dL_law_985 (by decide) ?_
  exact Ev.sub [0, 1, 2, 3, 4] rfl (lk_L_law_1746 hdd hl eL eX hend hb k23 hk23 a1 a2 a3 x4 _ HF)

set_option maxRecDepth 20000 in
theorem lk_L_law_920 {g : aG} {l : Launch} {d : Nat} {h0 : aH} (hdd : 12 ≤ d) (hl : l.stackTraces = false) {L : Nat} {X : Nat → Int32} (eL : gXL g = L) (eX : gXf g = X) {zc zs : Nat} {Z : List Frame → Array Value → State → State → Prop} (hend : ∀ {pc : Nat} {lv : List (Nat × Value)} {h : aH}, hz h ≤ zc → hs h ≤ zs → decode cL_law pc = .ok (.ireturn, 1) → EvG g l cL_law 8 yL_law (some .boolean) d h0 zc zs Z pc lv [.int 1] h) {h1 : aH} (hb : hz h1 ≤ zc ∧ hs h1 ≤ zs) (k23 : Nat → Nat → Nat → Int32 → aH → Option (Int32 × aH)) (hk23 : ∀ (a1 : Nat) (a2 : Nat) (a3 : Nat) (x4 : Int32) (h : aH), k23 a1 a2 a3 x4 h = some (1, h1) → EvG g l cL_law 8 yL_law (some .boolean) d h0 zc zs Z 23 [(0, .ref (gXb g)), (1, .ref a1), (2, .ref a2), (3, .ref a3), (4, .int x4)] [] h) (a1 : Nat) (a2 : Nat) (a3 : Nat) (x4 : Int32) (h : aH) (HF : F_L_law_920 L X k23 a1 a2 a3 x4 h = some (1, h1)) : EvG g l cL_law 8 yL_law (some .boolean) d h0 zc zs Z 920 [(0, .ref (gXb g)), (1, .ref a1), (2, .ref a2), (3, .ref a3), (4, .int x4)] [] h := by
  unfold F_L_law_920 at HF
  refine ev_aload_n 1 dL_law_920 rfl ?_
  refine ev_aload_n 0 dL_law_921 rfl ?_
  refine ev_iload 4 dL_law_922 rfl ?_
  refine ev_iconst (v := 1) dL_law_924 (by decide) ?_
  refine ev_iadd dL_law_925 ?_
  replace HF := bind_ck HF
  obtain ⟨c1, HF⟩ := HF
  refine ev_xld eL eX dL_law_926 c1 ?_
  refine ev_aload_n 0 dL_law_927 rfl ?_
  show EvG _ _ _ _ _ _ _ _ _ _ _ 928 _ _ _
  refine ev_iload 4 dL_law_928 rfl ?_
  refine ev_iconst (v := 2) dL_law_930 (by decide) ?_
  refine ev_iadd dL_law_931 ?_
  replace HF := bind_ck HF
  obtain ⟨c2, HF⟩ := HF
  refine ev_xld eL eX dL_law_932 c2 ?_
  refine ev_aload_n 3 dL_law_933 rfl ?_
  replace HF := bind_o HF
  obtain ⟨⟨z5, h4⟩, e3, HF⟩ := HF
  replace HF := bd_o (bd_o HF)
  dsimp only at HF
  refine ev_callSW (As := [.ref a1, .int (X (x4 + 1).toNatClampNeg), .int (X (x4 + 2).toNatClampNeg), .ref a3]) (R1 := (some (.int z5), h4)) (lk_L_now hl (d := 8) (Nat.le_refl _) e3) cw_L_now in_law nn_L_now st_L_now ml_L_121 dL_law_934 (by omega) (Nat.le_of_ble_eq_true rfl) rfl rfl ?_
  show EvG _ _ _ _ _ _ _ _ _ _ _ 937 [(0, .ref (gXb g)), (1, .ref a1), (2, .ref a2), (3, .ref a3), (4, .int x4)] [.int z5] h4
  refine ev_istore (lv' := [(5, .int z5), (0, .ref (gXb g)), (1, .ref a1), (2, .ref a2), (3, .ref a3), (4, .int x4)]) dL_law_937 (by decide) (rfl) ?_
  refine ev_aload_n 3 dL_law_939 rfl ?_
  show EvG _ _ _ _ _ _ _ _ _ _ _ 940 _ _ _
  refine ev_aload_n 1 dL_law_940 rfl ?_
  refine ev_iload 5 dL_law_941 rfl ?_
  refine ev_iconst (v := 1) dL_law_943 (by decide) ?_
  refine ev_iadd dL_law_944 ?_
  refine ev_xld eL eX dL_law_945 c1 ?_
  refine ev_aload_n 1 dL_law_946 rfl ?_
  refine ev_iload 5 dL_law_947 rfl ?_
  refine ev_iconst (v := 2) dL_law_949 (by decide) ?_
  show EvG _ _ _ _ _ _ _ _ _ _ _ 950 _ _ _
  refine ev_iadd dL_law_950 ?_
  refine ev_xld eL eX dL_law_951 c2 ?_
  replace HF := bind_ck HF
  obtain ⟨c7, HF⟩ := HF
  replace HF := bind_o HF
  obtain ⟨⟨z10, h9⟩, e8, HF⟩ := HF
  replace HF := bd_o (bd_o HF)
  dsimp only at HF
  refine ev_callV (As := [.int (X (x4 + 1).toNatClampNeg), .int (X (x4 + 2).toNatClampNeg)]) (R1 := (some (.int z10), h9)) (lk_X12_now (d := 6) (Nat.le_refl _) c7 e8) ce_X12_now im_X12_now sl_X12_now ml_L_126 cl_X12 c7 dL_law_952 (by omega) (Nat.le_of_ble_eq_true rfl) rfl rfl ?_
  show EvG _ _ _ _ _ _ _ _ _ _ _ 955 [(5, .int z5), (0, .ref (gXb g)), (1, .ref a1), (2, .ref a2), (3, .ref a3), (4, .int x4)] [.int z10] h9
  refine ev_istore (lv' := [(6, .int z10), (5, .int z5), (0, .ref (gXb g)), (1, .ref a1), (2, .ref a2), (3, .ref a3), (4, .int x4)]) dL_law_955 (by decide) (rfl) ?_
  refine ev_aload_n 4 dL_law_957 rfl ?_
  replace HF := bind_ck HF
  obtain ⟨c12, HF⟩ := HF
  replace HF := bind_o HF
  obtain ⟨⟨z15, h14⟩, e13, HF⟩ := HF
  replace HF := bd_o (bd_o HF)
  dsimp only at HF
  refine ev_callV (As := []) (R1 := (some (.int z15), h14)) (lk_X12_thrown (d := 0) (Nat.le_refl _) c12 e13) ce_X12_thrown im_X12_thrown sl_X12_thrown ml_L_127 cl_X12 c12 dL_law_958 (by omega) (Nat.le_of_ble_eq_true rfl) rfl rfl ?_
  show EvG _ _ _ _ _ _ _ _ _ _ _ 961 [(6, .int z10), (5, .int z5), (0, .ref (gXb g)), (1, .ref a1), (2, .ref a2), (3, .ref a3), (4, .int x4)] [.int z15] h14
  refine ev_iload 1 dL_law_961 rfl ?_
  by_cases c17 : z15 = z5
  · replace HF := ite_T c17 HF
    refine ev_icmp_eqT (tgt := 968) dL_law_963 (by decide) c17 ?_
    refine ev_iload 1 dL_law_968 rfl ?_
    by_cases c18 : z5 = 0
    · replace HF := ite_T c18 HF
      refine ev_if_neF (tgt := 985) dL_law_970 (by decide) c18 ?_
      refine ev_aload_n 5 dL_law_973 rfl ?_
      refine ev_iconst (v := 0) dL_law_974 (by decide) ?_
      replace HF := bind_ck HF
      obtain ⟨c19, HF⟩ := HF
      refine ev_lald dL_law_975 c19.1 c19.2 ?_
      refine ev_iload 0 dL_law_976 rfl ?_
      refine ev_i2l dL_law_978 ?_
      refine ev_lcmp dL_law_979 ?_
      by_cases c20 : lg_cmp (hJ h14 a3 (0 : Int32).toNatClampNeg) z10.toInt64 = 0
      · replace HF := ite_T c20 HF
        refine ev_if_eqT (tgt := 985) dL_law_980 (by decide) c20 ?_
        exact Ev.sub [2, 3, 4, 5, 6] rfl (lk_L_law_985 hdd hl eL eX hend hb k23 hk23 a1 a2 a3 x4 _ HF)
      · replace HF := ite_F c20 HF
        refine ev_if_eqF (tgt := 985) dL_law_980 (by decide) c20 ?_
        refine ev_iconst (v := 0) dL_law_983 (by decide) ?_
        exact absurd (show (0 : Int32) = 1 from congrArg Prod.fst (Option.some.inj HF)) (by decide)
    · replace HF := ite_F c18 HF
      refine ev_if_neT (tgt := 985) dL_law_970 (by decide) c18 ?_
      exact Ev.sub [2, 3, 4, 5, 6] rfl (lk_L_law_985 hdd hl eL eX hend hb k23 hk23 a1 a2 a3 x4 _ HF)
  · replace HF := ite_F c17 HF
    refine ev_icmp_eqF (tgt := 968) dL_law_963 (by decide) c17 ?_
    refine ev_iconst (v := 0) dL_law_966 (by decide) ?_
    exact absurd (show (0 : Int32) = 1 from congrArg Prod.fst (Option.some.inj HF)) (by decide)

set_option maxRecDepth 20000 in
theorem lk_L_law_907 {g : aG} {l : Launch} {d : Nat} {h0 : aH} (hdd : 12 ≤ d) (hl : l.stackTraces = false) {L : Nat} {X : Nat → Int32} (eL : gXL g = L) (eX : gXf g = X) {zc zs : Nat} {Z : List Frame → Array Value → State → State → Prop} (hend : ∀ {pc : Nat} {lv : List (Nat × Value)} {h : aH}, hz h ≤ zc → hs h ≤ zs → decode cL_law pc = .ok (.ireturn, 1) → EvG g l cL_law 8 yL_law (some .boolean) d h0 zc zs Z pc lv [.int 1] h) {h1 : aH} (hb : hz h1 ≤ zc ∧ hs h1 ≤ zs) (k23 : Nat → Nat → Nat → Int32 → aH → Option (Int32 × aH)) (hk23 : ∀ (a1 : Nat) (a2 : Nat) (a3 : Nat) (x4 : Int32) (h : aH), k23 a1 a2 a3 x4 h = some (1, h1) → EvG g l cL_law 8 yL_law (some .boolean) d h0 zc zs Z 23 [(0, .ref (gXb g)), (1, .ref a1), (2, .ref a2), (3, .ref a3), (4, .int x4)] [] h) (a1 : Nat) (a2 : Nat) (a3 : Nat) (x4 : Int32) (h : aH) (HF : F_L_law_907 L X k23 a1 a2 a3 x4 h = some (1, h1)) : EvG g l cL_law 8 yL_law (some .boolean) d h0 zc zs Z 907 [(0, .ref (gXb g)), (1, .ref a1), (2, .ref a2), (3, .ref a3), (4, .int x4)] [] h := by
  unfold F_L_law_907 at HF
  refine ev_aload_n 1 dL_law_907 rfl ?_
  replace HF := bind_ck HF
  obtain ⟨c1, HF⟩ := HF
  replace HF := bind_o HF
  obtain ⟨⟨z4, h3⟩, e2, HF⟩ := HF
  replace HF := bd_o (bd_o HF)
  dsimp only at HF
  refine ev_callV (As := []) (R1 := (some (.int z4), h3)) (lk_X11_why (d := 0) (Nat.le_refl _) c1 e2) ce_X11_why im_X11_why sl_X11_why ml_L_117 cl_X11 c1 dL_law_908 (by omega) (Nat.le_of_ble_eq_true rfl) rfl rfl ?_
  show EvG _ _ _ _ _ _ _ _ _ _ _ 911 [(0, .ref (gXb g)), (1, .ref a1), (2, .ref a2), (3, .ref a3), (4, .int x4)] [.int z4] h3
  refine ev_aload_n 2 dL_law_911 rfl ?_
  replace HF := bind_ck HF
  obtain ⟨c6, HF⟩ := HF
  replace HF := bind_o HF
  obtain ⟨⟨z9, h8⟩, e7, HF⟩ := HF
  replace HF := bd_o (bd_o HF)
  dsimp only at HF
  refine ev_callV (As := []) (R1 := (some (.int z9), h8)) (lk_X12_why (d := 0) (Nat.le_refl _) c6 e7) ce_X12_why im_X12_why sl_X12_why ml_L_120 cl_X12 c6 dL_law_912 (by omega) (Nat.le_of_ble_eq_true rfl) rfl rfl ?_
  show EvG _ _ _ _ _ _ _ _ _ _ _ 915 [(0, .ref (gXb g)), (1, .ref a1), (2, .ref a2), (3, .ref a3), (4, .int x4)] [.int z9, .int z4] h8
  by_cases c11 : z4 = z9
  · replace HF := ite_T c11 HF
    refine ev_icmp_eqT (tgt := 1746) dL_law_915 (by decide) c11 ?_
    exact Ev.sub [0, 1, 2, 3, 4] rfl (lk_L_law_1746 hdd hl eL eX hend hb k23 hk23 a1 a2 a3 x4 _ HF)
  · replace HF := ite_F c11 HF
    refine ev_icmp_eqF (tgt := 1746) dL_law_915 (by decide) c11 ?_
    refine ev_iconst (v := 0) dL_law_918 (by decide) ?_
    exact absurd (show (0 : Int32) = 1 from congrArg Prod.fst (Option.some.inj HF)) (by decide)

set_option maxRecDepth 20000 in
theorem lk_L_law_894 {g : aG} {l : Launch} {d : Nat} {h0 : aH} (hdd : 12 ≤ d) (hl : l.stackTraces = false) {L : Nat} {X : Nat → Int32} (eL : gXL g = L) (eX : gXf g = X) {zc zs : Nat} {Z : List Frame → Array Value → State → State → Prop} (hend : ∀ {pc : Nat} {lv : List (Nat × Value)} {h : aH}, hz h ≤ zc → hs h ≤ zs → decode cL_law pc = .ok (.ireturn, 1) → EvG g l cL_law 8 yL_law (some .boolean) d h0 zc zs Z pc lv [.int 1] h) {h1 : aH} (hb : hz h1 ≤ zc ∧ hs h1 ≤ zs) (k23 : Nat → Nat → Nat → Int32 → aH → Option (Int32 × aH)) (hk23 : ∀ (a1 : Nat) (a2 : Nat) (a3 : Nat) (x4 : Int32) (h : aH), k23 a1 a2 a3 x4 h = some (1, h1) → EvG g l cL_law 8 yL_law (some .boolean) d h0 zc zs Z 23 [(0, .ref (gXb g)), (1, .ref a1), (2, .ref a2), (3, .ref a3), (4, .int x4)] [] h) (a1 : Nat) (a2 : Nat) (a3 : Nat) (x4 : Int32) (h : aH) (HF : F_L_law_894 L X k23 a1 a2 a3 x4 h = some (1, h1)) : EvG g l cL_law 8 yL_law (some .boolean) d h0 zc zs Z 894 [(0, .ref (gXb g)), (1, .ref a1), (2, .ref a2), (3, .ref a3), (4, .int x4)] [] h := by
  unfold F_L_law_894 at HF
  refine ev_aload_n 1 dL_law_894 rfl ?_
  replace HF := bind_ck HF
  obtain ⟨c1, HF⟩ := HF
  replace HF := bind_o HF
  obtain ⟨⟨z4, h3⟩, e2, HF⟩ := HF
  replace HF := bd_o (bd_o HF)
  dsimp only at HF
  refine ev_callV (As := []) (R1 := (some (.int z4), h3)) (lk_X11_undo (d := 5) (Nat.le_refl _) c1 e2) ce_X11_undo im_X11_undo sl_X11_undo ml_L_112 cl_X11 c1 dL_law_895 (by omega) (Nat.le_of_ble_eq_true rfl) rfl rfl ?_
  show EvG _ _ _ _ _ _ _ _ _ _ _ 898 [(0, .ref (gXb g)), (1, .ref a1), (2, .ref a2), (3, .ref a3), (4, .int x4)] [.int z4] h3
  refine ev_aload_n 2 dL_law_898 rfl ?_
  replace HF := bind_ck HF
  obtain ⟨c6, HF⟩ := HF
  replace HF := bind_o HF
  obtain ⟨⟨z9, h8⟩, e7, HF⟩ := HF
  replace HF := bd_o (bd_o HF)
  dsimp only at HF
  refine ev_callV (As := []) (R1 := (some (.int z9), h8)) (lk_X12_undo (d := 1) (Nat.le_refl _) c6 e7) ce_X12_undo im_X12_undo sl_X12_undo ml_L_116 cl_X12 c6 dL_law_899 (by omega) (Nat.le_of_ble_eq_true rfl) rfl rfl ?_
  show EvG _ _ _ _ _ _ _ _ _ _ _ 902 [(0, .ref (gXb g)), (1, .ref a1), (2, .ref a2), (3, .ref a3), (4, .int x4)] [.int z9, .int z4] h8
  by_cases c11 : z4 = z9
  · replace HF := ite_T c11 HF
    refine ev_icmp_eqT (tgt := 1746) dL_law_902 (by decide) c11 ?_
    exact Ev.sub [0, 1, 2, 3, 4] rfl (lk_L_law_1746 hdd hl eL eX hend hb k23 hk23 a1 a2 a3 x4 _ HF)
  · replace HF := ite_F c11 HF
    refine ev_icmp_eqF (tgt := 1746) dL_law_902 (by decide) c11 ?_
    refine ev_iconst (v := 0) dL_law_905 (by decide) ?_
    exact absurd (show (0 : Int32) = 1 from congrArg Prod.fst (Option.some.inj HF)) (by decide)

set_option maxRecDepth 20000 in
theorem lk_L_law_833 {g : aG} {l : Launch} {d : Nat} {h0 : aH} (hdd : 12 ≤ d) (hl : l.stackTraces = false) {L : Nat} {X : Nat → Int32} (eL : gXL g = L) (eX : gXf g = X) {zc zs : Nat} {Z : List Frame → Array Value → State → State → Prop} (hend : ∀ {pc : Nat} {lv : List (Nat × Value)} {h : aH}, hz h ≤ zc → hs h ≤ zs → decode cL_law pc = .ok (.ireturn, 1) → EvG g l cL_law 8 yL_law (some .boolean) d h0 zc zs Z pc lv [.int 1] h) {h1 : aH} (hb : hz h1 ≤ zc ∧ hs h1 ≤ zs) (k23 : Nat → Nat → Nat → Int32 → aH → Option (Int32 × aH)) (hk23 : ∀ (a1 : Nat) (a2 : Nat) (a3 : Nat) (x4 : Int32) (h : aH), k23 a1 a2 a3 x4 h = some (1, h1) → EvG g l cL_law 8 yL_law (some .boolean) d h0 zc zs Z 23 [(0, .ref (gXb g)), (1, .ref a1), (2, .ref a2), (3, .ref a3), (4, .int x4)] [] h) (a1 : Nat) (a2 : Nat) (a3 : Nat) (x4 : Int32) (h : aH) (HF : F_L_law_833 L X k23 a1 a2 a3 x4 h = some (1, h1)) : EvG g l cL_law 8 yL_law (some .boolean) d h0 zc zs Z 833 [(0, .ref (gXb g)), (1, .ref a1), (2, .ref a2), (3, .ref a3), (4, .int x4)] [] h := by
  unfold F_L_law_833 at HF
  refine ev_aload_n 1 dL_law_833 rfl ?_
  refine ev_aload_n 0 dL_law_834 rfl ?_
  refine ev_iload 4 dL_law_835 rfl ?_
  refine ev_iconst (v := 1) dL_law_837 (by decide) ?_
  refine ev_iadd dL_law_838 ?_
  replace HF := bind_ck HF
  obtain ⟨c1, HF⟩ := HF
  refine ev_xld eL eX dL_law_839 c1 ?_
  refine ev_aload_n 0 dL_law_840 rfl ?_
  show EvG _ _ _ _ _ _ _ _ _ _ _ 841 _ _ _
  refine ev_iload 4 dL_law_841 rfl ?_
  refine ev_iconst (v := 2) dL_law_843 (by decide) ?_
  refine ev_iadd dL_law_844 ?_
  replace HF := bind_ck HF
  obtain ⟨c2, HF⟩ := HF
  refine ev_xld eL eX dL_law_845 c2 ?_
  refine ev_aload_n 0 dL_law_846 rfl ?_
  refine ev_iload 4 dL_law_847 rfl ?_
  refine ev_iconst (v := 3) dL_law_849 (by decide) ?_
  refine ev_iadd dL_law_850 ?_
  show EvG _ _ _ _ _ _ _ _ _ _ _ 851 _ _ _
  replace HF := bind_ck HF
  obtain ⟨c3, HF⟩ := HF
  refine ev_xld eL eX dL_law_851 c3 ?_
  refine ev_aload_n 0 dL_law_852 rfl ?_
  refine ev_iload 4 dL_law_853 rfl ?_
  refine ev_iconst (v := 4) dL_law_855 (by decide) ?_
  refine ev_iadd dL_law_856 ?_
  replace HF := bind_ck HF
  obtain ⟨c4, HF⟩ := HF
  refine ev_xld eL eX dL_law_857 c4 ?_
  replace HF := bind_ck HF
  obtain ⟨c5, HF⟩ := HF
  replace HF := bind_o HF
  obtain ⟨⟨z8, h7⟩, e6, HF⟩ := HF
  replace HF := bd_o (bd_o HF)
  dsimp only at HF
  refine ev_callV (As := [.int (X (x4 + 1).toNatClampNeg), .int (X (x4 + 2).toNatClampNeg), .int (X (x4 + 3).toNatClampNeg), .int (X (x4 + 4).toNatClampNeg)]) (R1 := (some (.int z8), h7)) (lk_X11_bowls (d := 6) (Nat.le_refl _) c5 e6) ce_X11_bowls im_X11_bowls sl_X11_bowls ml_L_108 cl_X11 c5 dL_law_858 (by omega) (Nat.le_of_ble_eq_true rfl) rfl rfl ?_
  show EvG _ _ _ _ _ _ _ _ _ _ _ 861 [(0, .ref (gXb g)), (1, .ref a1), (2, .ref a2), (3, .ref a3), (4, .int x4)] [.int z8] h7
  refine ev_aload_n 2 dL_law_861 rfl ?_
  show EvG _ _ _ _ _ _ _ _ _ _ _ 862 _ _ _
  refine ev_aload_n 0 dL_law_862 rfl ?_
  refine ev_iload 4 dL_law_863 rfl ?_
  refine ev_iconst (v := 1) dL_law_865 (by decide) ?_
  refine ev_iadd dL_law_866 ?_
  refine ev_xld eL eX dL_law_867 c1 ?_
  refine ev_aload_n 0 dL_law_868 rfl ?_
  refine ev_iload 4 dL_law_869 rfl ?_
  refine ev_iconst (v := 2) dL_law_871 (by decide) ?_
  show EvG _ _ _ _ _ _ _ _ _ _ _ 872 _ _ _
  refine ev_iadd dL_law_872 ?_
  refine ev_xld eL eX dL_law_873 c2 ?_
  refine ev_aload_n 0 dL_law_874 rfl ?_
  refine ev_iload 4 dL_law_875 rfl ?_
  refine ev_iconst (v := 3) dL_law_877 (by decide) ?_
  refine ev_iadd dL_law_878 ?_
  refine ev_xld eL eX dL_law_879 c3 ?_
  refine ev_aload_n 0 dL_law_880 rfl ?_
  show EvG _ _ _ _ _ _ _ _ _ _ _ 881 _ _ _
  refine ev_iload 4 dL_law_881 rfl ?_
  refine ev_iconst (v := 4) dL_law_883 (by decide) ?_
  refine ev_iadd dL_law_884 ?_
  refine ev_xld eL eX dL_law_885 c4 ?_
  replace HF := bind_ck HF
  obtain ⟨c10, HF⟩ := HF
  replace HF := bind_o HF
  obtain ⟨⟨z13, h12⟩, e11, HF⟩ := HF
  replace HF := bd_o (bd_o HF)
  dsimp only at HF
  refine ev_callV (As := [.int (X (x4 + 1).toNatClampNeg), .int (X (x4 + 2).toNatClampNeg), .int (X (x4 + 3).toNatClampNeg), .int (X (x4 + 4).toNatClampNeg)]) (R1 := (some (.int z13), h12)) (lk_X12_bowls (d := 2) (Nat.le_refl _) c10 e11) ce_X12_bowls im_X12_bowls sl_X12_bowls ml_L_111 cl_X12 c10 dL_law_886 (by omega) (Nat.le_of_ble_eq_true rfl) rfl rfl ?_
  show EvG _ _ _ _ _ _ _ _ _ _ _ 889 [(0, .ref (gXb g)), (1, .ref a1), (2, .ref a2), (3, .ref a3), (4, .int x4)] [.int z13, .int z8] h12
  by_cases c15 : z8 = z13
  · replace HF := ite_T c15 HF
    refine ev_icmp_eqT (tgt := 1746) dL_law_889 (by decide) c15 ?_
    exact Ev.sub [0, 1, 2, 3, 4] rfl (lk_L_law_1746 hdd hl eL eX hend hb k23 hk23 a1 a2 a3 x4 _ HF)
  · replace HF := ite_F c15 HF
    refine ev_icmp_eqF (tgt := 1746) dL_law_889 (by decide) c15 ?_
    refine ev_iconst (v := 0) dL_law_892 (by decide) ?_
    exact absurd (show (0 : Int32) = 1 from congrArg Prod.fst (Option.some.inj HF)) (by decide)

set_option maxRecDepth 20000 in
theorem lk_L_law_772 {g : aG} {l : Launch} {d : Nat} {h0 : aH} (hdd : 12 ≤ d) (hl : l.stackTraces = false) {L : Nat} {X : Nat → Int32} (eL : gXL g = L) (eX : gXf g = X) {zc zs : Nat} {Z : List Frame → Array Value → State → State → Prop} (hend : ∀ {pc : Nat} {lv : List (Nat × Value)} {h : aH}, hz h ≤ zc → hs h ≤ zs → decode cL_law pc = .ok (.ireturn, 1) → EvG g l cL_law 8 yL_law (some .boolean) d h0 zc zs Z pc lv [.int 1] h) {h1 : aH} (hb : hz h1 ≤ zc ∧ hs h1 ≤ zs) (k23 : Nat → Nat → Nat → Int32 → aH → Option (Int32 × aH)) (hk23 : ∀ (a1 : Nat) (a2 : Nat) (a3 : Nat) (x4 : Int32) (h : aH), k23 a1 a2 a3 x4 h = some (1, h1) → EvG g l cL_law 8 yL_law (some .boolean) d h0 zc zs Z 23 [(0, .ref (gXb g)), (1, .ref a1), (2, .ref a2), (3, .ref a3), (4, .int x4)] [] h) (a1 : Nat) (a2 : Nat) (a3 : Nat) (x4 : Int32) (h : aH) (HF : F_L_law_772 L X k23 a1 a2 a3 x4 h = some (1, h1)) : EvG g l cL_law 8 yL_law (some .boolean) d h0 zc zs Z 772 [(0, .ref (gXb g)), (1, .ref a1), (2, .ref a2), (3, .ref a3), (4, .int x4)] [] h := by
  unfold F_L_law_772 at HF
  refine ev_aload_n 1 dL_law_772 rfl ?_
  refine ev_aload_n 0 dL_law_773 rfl ?_
  refine ev_iload 4 dL_law_774 rfl ?_
  refine ev_iconst (v := 1) dL_law_776 (by decide) ?_
  refine ev_iadd dL_law_777 ?_
  replace HF := bind_ck HF
  obtain ⟨c1, HF⟩ := HF
  refine ev_xld eL eX dL_law_778 c1 ?_
  refine ev_aload_n 0 dL_law_779 rfl ?_
  show EvG _ _ _ _ _ _ _ _ _ _ _ 780 _ _ _
  refine ev_iload 4 dL_law_780 rfl ?_
  refine ev_iconst (v := 2) dL_law_782 (by decide) ?_
  refine ev_iadd dL_law_783 ?_
  replace HF := bind_ck HF
  obtain ⟨c2, HF⟩ := HF
  refine ev_xld eL eX dL_law_784 c2 ?_
  refine ev_aload_n 0 dL_law_785 rfl ?_
  refine ev_iload 4 dL_law_786 rfl ?_
  refine ev_iconst (v := 3) dL_law_788 (by decide) ?_
  refine ev_iadd dL_law_789 ?_
  show EvG _ _ _ _ _ _ _ _ _ _ _ 790 _ _ _
  replace HF := bind_ck HF
  obtain ⟨c3, HF⟩ := HF
  refine ev_xld eL eX dL_law_790 c3 ?_
  refine ev_aload_n 0 dL_law_791 rfl ?_
  refine ev_iload 4 dL_law_792 rfl ?_
  refine ev_iconst (v := 4) dL_law_794 (by decide) ?_
  refine ev_iadd dL_law_795 ?_
  replace HF := bind_ck HF
  obtain ⟨c4, HF⟩ := HF
  refine ev_xld eL eX dL_law_796 c4 ?_
  replace HF := bind_ck HF
  obtain ⟨c5, HF⟩ := HF
  replace HF := bind_o HF
  obtain ⟨⟨z8, h7⟩, e6, HF⟩ := HF
  replace HF := bd_o (bd_o HF)
  dsimp only at HF
  refine ev_callV (As := [.int (X (x4 + 1).toNatClampNeg), .int (X (x4 + 2).toNatClampNeg), .int (X (x4 + 3).toNatClampNeg), .int (X (x4 + 4).toNatClampNeg)]) (R1 := (some (.int z8), h7)) (lk_X11_out (d := 6) (Nat.le_refl _) c5 e6) ce_X11_out im_X11_out sl_X11_out ml_L_104 cl_X11 c5 dL_law_797 (by omega) (Nat.le_of_ble_eq_true rfl) rfl rfl ?_
  show EvG _ _ _ _ _ _ _ _ _ _ _ 800 [(0, .ref (gXb g)), (1, .ref a1), (2, .ref a2), (3, .ref a3), (4, .int x4)] [.int z8] h7
  refine ev_aload_n 2 dL_law_800 rfl ?_
  show EvG _ _ _ _ _ _ _ _ _ _ _ 801 _ _ _
  refine ev_aload_n 0 dL_law_801 rfl ?_
  refine ev_iload 4 dL_law_802 rfl ?_
  refine ev_iconst (v := 1) dL_law_804 (by decide) ?_
  refine ev_iadd dL_law_805 ?_
  refine ev_xld eL eX dL_law_806 c1 ?_
  refine ev_aload_n 0 dL_law_807 rfl ?_
  refine ev_iload 4 dL_law_808 rfl ?_
  refine ev_iconst (v := 2) dL_law_810 (by decide) ?_
  show EvG _ _ _ _ _ _ _ _ _ _ _ 811 _ _ _
  refine ev_iadd dL_law_811 ?_
  refine ev_xld eL eX dL_law_812 c2 ?_
  refine ev_aload_n 0 dL_law_813 rfl ?_
  refine ev_iload 4 dL_law_814 rfl ?_
  refine ev_iconst (v := 3) dL_law_816 (by decide) ?_
  refine ev_iadd dL_law_817 ?_
  refine ev_xld eL eX dL_law_818 c3 ?_
  refine ev_aload_n 0 dL_law_819 rfl ?_
  show EvG _ _ _ _ _ _ _ _ _ _ _ 820 _ _ _
  refine ev_iload 4 dL_law_820 rfl ?_
  refine ev_iconst (v := 4) dL_law_822 (by decide) ?_
  refine ev_iadd dL_law_823 ?_
  refine ev_xld eL eX dL_law_824 c4 ?_
  replace HF := bind_ck HF
  obtain ⟨c10, HF⟩ := HF
  replace HF := bind_o HF
  obtain ⟨⟨z13, h12⟩, e11, HF⟩ := HF
  replace HF := bd_o (bd_o HF)
  dsimp only at HF
  refine ev_callV (As := [.int (X (x4 + 1).toNatClampNeg), .int (X (x4 + 2).toNatClampNeg), .int (X (x4 + 3).toNatClampNeg), .int (X (x4 + 4).toNatClampNeg)]) (R1 := (some (.int z13), h12)) (lk_X12_out (d := 2) (Nat.le_refl _) c10 e11) ce_X12_out im_X12_out sl_X12_out ml_L_107 cl_X12 c10 dL_law_825 (by omega) (Nat.le_of_ble_eq_true rfl) rfl rfl ?_
  show EvG _ _ _ _ _ _ _ _ _ _ _ 828 [(0, .ref (gXb g)), (1, .ref a1), (2, .ref a2), (3, .ref a3), (4, .int x4)] [.int z13, .int z8] h12
  by_cases c15 : z8 = z13
  · replace HF := ite_T c15 HF
    refine ev_icmp_eqT (tgt := 1746) dL_law_828 (by decide) c15 ?_
    exact Ev.sub [0, 1, 2, 3, 4] rfl (lk_L_law_1746 hdd hl eL eX hend hb k23 hk23 a1 a2 a3 x4 _ HF)
  · replace HF := ite_F c15 HF
    refine ev_icmp_eqF (tgt := 1746) dL_law_828 (by decide) c15 ?_
    refine ev_iconst (v := 0) dL_law_831 (by decide) ?_
    exact absurd (show (0 : Int32) = 1 from congrArg Prod.fst (Option.some.inj HF)) (by decide)

set_option maxRecDepth 20000 in
theorem lk_L_law_699 {g : aG} {l : Launch} {d : Nat} {h0 : aH} (hdd : 12 ≤ d) (hl : l.stackTraces = false) {L : Nat} {X : Nat → Int32} (eL : gXL g = L) (eX : gXf g = X) {zc zs : Nat} {Z : List Frame → Array Value → State → State → Prop} (hend : ∀ {pc : Nat} {lv : List (Nat × Value)} {h : aH}, hz h ≤ zc → hs h ≤ zs → decode cL_law pc = .ok (.ireturn, 1) → EvG g l cL_law 8 yL_law (some .boolean) d h0 zc zs Z pc lv [.int 1] h) {h1 : aH} (hb : hz h1 ≤ zc ∧ hs h1 ≤ zs) (k23 : Nat → Nat → Nat → Int32 → aH → Option (Int32 × aH)) (hk23 : ∀ (a1 : Nat) (a2 : Nat) (a3 : Nat) (x4 : Int32) (h : aH), k23 a1 a2 a3 x4 h = some (1, h1) → EvG g l cL_law 8 yL_law (some .boolean) d h0 zc zs Z 23 [(0, .ref (gXb g)), (1, .ref a1), (2, .ref a2), (3, .ref a3), (4, .int x4)] [] h) (a1 : Nat) (a2 : Nat) (a3 : Nat) (x4 : Int32) (h : aH) (HF : F_L_law_699 L X k23 a1 a2 a3 x4 h = some (1, h1)) : EvG g l cL_law 8 yL_law (some .boolean) d h0 zc zs Z 699 [(0, .ref (gXb g)), (1, .ref a1), (2, .ref a2), (3, .ref a3), (4, .int x4)] [] h := by
  unfold F_L_law_699 at HF
  refine ev_aload_n 1 dL_law_699 rfl ?_
  refine ev_aload_n 0 dL_law_700 rfl ?_
  refine ev_iload 4 dL_law_701 rfl ?_
  refine ev_iconst (v := 1) dL_law_703 (by decide) ?_
  refine ev_iadd dL_law_704 ?_
  replace HF := bind_ck HF
  obtain ⟨c1, HF⟩ := HF
  refine ev_xld eL eX dL_law_705 c1 ?_
  refine ev_aload_n 0 dL_law_706 rfl ?_
  show EvG _ _ _ _ _ _ _ _ _ _ _ 707 _ _ _
  refine ev_iload 4 dL_law_707 rfl ?_
  refine ev_iconst (v := 2) dL_law_709 (by decide) ?_
  refine ev_iadd dL_law_710 ?_
  replace HF := bind_ck HF
  obtain ⟨c2, HF⟩ := HF
  refine ev_xld eL eX dL_law_711 c2 ?_
  refine ev_aload_n 0 dL_law_712 rfl ?_
  refine ev_iload 4 dL_law_713 rfl ?_
  refine ev_iconst (v := 3) dL_law_715 (by decide) ?_
  refine ev_iadd dL_law_716 ?_
  show EvG _ _ _ _ _ _ _ _ _ _ _ 717 _ _ _
  replace HF := bind_ck HF
  obtain ⟨c3, HF⟩ := HF
  refine ev_xld eL eX dL_law_717 c3 ?_
  refine ev_aload_n 0 dL_law_718 rfl ?_
  refine ev_iload 4 dL_law_719 rfl ?_
  refine ev_iconst (v := 4) dL_law_721 (by decide) ?_
  refine ev_iadd dL_law_722 ?_
  replace HF := bind_ck HF
  obtain ⟨c4, HF⟩ := HF
  refine ev_xld eL eX dL_law_723 c4 ?_
  refine ev_aload_n 0 dL_law_724 rfl ?_
  refine ev_iload 4 dL_law_725 rfl ?_
  show EvG _ _ _ _ _ _ _ _ _ _ _ 727 _ _ _
  refine ev_iconst (v := 5) dL_law_727 (by decide) ?_
  refine ev_iadd dL_law_728 ?_
  replace HF := bind_ck HF
  obtain ⟨c5, HF⟩ := HF
  refine ev_xld eL eX dL_law_729 c5 ?_
  replace HF := bind_ck HF
  obtain ⟨c6, HF⟩ := HF
  replace HF := bind_o HF
  obtain ⟨⟨z9, h8⟩, e7, HF⟩ := HF
  replace HF := bd_o (bd_o HF)
  dsimp only at HF
  refine ev_callV (As := [.int (X (x4 + 1).toNatClampNeg), .int (X (x4 + 2).toNatClampNeg), .int (X (x4 + 3).toNatClampNeg), .int (X (x4 + 4).toNatClampNeg), .int (X (x4 + 5).toNatClampNeg)]) (R1 := (some (.int z9), h8)) (lk_X11_mend (d := 6) (Nat.le_refl _) c6 e7) ce_X11_mend im_X11_mend sl_X11_mend ml_L_100 cl_X11 c6 dL_law_730 (by omega) (Nat.le_of_ble_eq_true rfl) rfl rfl ?_
  show EvG _ _ _ _ _ _ _ _ _ _ _ 733 [(0, .ref (gXb g)), (1, .ref a1), (2, .ref a2), (3, .ref a3), (4, .int x4)] [.int z9] h8
  refine ev_aload_n 2 dL_law_733 rfl ?_
  refine ev_aload_n 0 dL_law_734 rfl ?_
  refine ev_iload 4 dL_law_735 rfl ?_
  refine ev_iconst (v := 1) dL_law_737 (by decide) ?_
  show EvG _ _ _ _ _ _ _ _ _ _ _ 738 _ _ _
  refine ev_iadd dL_law_738 ?_
  refine ev_xld eL eX dL_law_739 c1 ?_
  refine ev_aload_n 0 dL_law_740 rfl ?_
  refine ev_iload 4 dL_law_741 rfl ?_
  refine ev_iconst (v := 2) dL_law_743 (by decide) ?_
  refine ev_iadd dL_law_744 ?_
  refine ev_xld eL eX dL_law_745 c2 ?_
  refine ev_aload_n 0 dL_law_746 rfl ?_
  show EvG _ _ _ _ _ _ _ _ _ _ _ 747 _ _ _
  refine ev_iload 4 dL_law_747 rfl ?_
  refine ev_iconst (v := 3) dL_law_749 (by decide) ?_
  refine ev_iadd dL_law_750 ?_
  refine ev_xld eL eX dL_law_751 c3 ?_
  refine ev_aload_n 0 dL_law_752 rfl ?_
  refine ev_iload 4 dL_law_753 rfl ?_
  refine ev_iconst (v := 4) dL_law_755 (by decide) ?_
  refine ev_iadd dL_law_756 ?_
  show EvG _ _ _ _ _ _ _ _ _ _ _ 757 _ _ _
  refine ev_xld eL eX dL_law_757 c4 ?_
  refine ev_aload_n 0 dL_law_758 rfl ?_
  refine ev_iload 4 dL_law_759 rfl ?_
  refine ev_iconst (v := 5) dL_law_761 (by decide) ?_
  refine ev_iadd dL_law_762 ?_
  refine ev_xld eL eX dL_law_763 c5 ?_
  replace HF := bind_ck HF
  obtain ⟨c11, HF⟩ := HF
  replace HF := bind_o HF
  obtain ⟨⟨z14, h13⟩, e12, HF⟩ := HF
  replace HF := bd_o (bd_o HF)
  dsimp only at HF
  refine ev_callV (As := [.int (X (x4 + 1).toNatClampNeg), .int (X (x4 + 2).toNatClampNeg), .int (X (x4 + 3).toNatClampNeg), .int (X (x4 + 4).toNatClampNeg), .int (X (x4 + 5).toNatClampNeg)]) (R1 := (some (.int z14), h13)) (lk_X12_mend (d := 2) (Nat.le_refl _) c11 e12) ce_X12_mend im_X12_mend sl_X12_mend ml_L_103 cl_X12 c11 dL_law_764 (by omega) (Nat.le_of_ble_eq_true rfl) rfl rfl ?_
  show EvG _ _ _ _ _ _ _ _ _ _ _ 767 [(0, .ref (gXb g)), (1, .ref a1), (2, .ref a2), (3, .ref a3), (4, .int x4)] [.int z14, .int z9] h13
  by_cases c16 : z9 = z14
  · replace HF := ite_T c16 HF
    refine ev_icmp_eqT (tgt := 1746) dL_law_767 (by decide) c16 ?_
    exact Ev.sub [0, 1, 2, 3, 4] rfl (lk_L_law_1746 hdd hl eL eX hend hb k23 hk23 a1 a2 a3 x4 _ HF)
  · replace HF := ite_F c16 HF
    refine ev_icmp_eqF (tgt := 1746) dL_law_767 (by decide) c16 ?_
    refine ev_iconst (v := 0) dL_law_770 (by decide) ?_
    exact absurd (show (0 : Int32) = 1 from congrArg Prod.fst (Option.some.inj HF)) (by decide)

set_option maxRecDepth 20000 in
theorem lk_L_law_626 {g : aG} {l : Launch} {d : Nat} {h0 : aH} (hdd : 12 ≤ d) (hl : l.stackTraces = false) {L : Nat} {X : Nat → Int32} (eL : gXL g = L) (eX : gXf g = X) {zc zs : Nat} {Z : List Frame → Array Value → State → State → Prop} (hend : ∀ {pc : Nat} {lv : List (Nat × Value)} {h : aH}, hz h ≤ zc → hs h ≤ zs → decode cL_law pc = .ok (.ireturn, 1) → EvG g l cL_law 8 yL_law (some .boolean) d h0 zc zs Z pc lv [.int 1] h) {h1 : aH} (hb : hz h1 ≤ zc ∧ hs h1 ≤ zs) (k23 : Nat → Nat → Nat → Int32 → aH → Option (Int32 × aH)) (hk23 : ∀ (a1 : Nat) (a2 : Nat) (a3 : Nat) (x4 : Int32) (h : aH), k23 a1 a2 a3 x4 h = some (1, h1) → EvG g l cL_law 8 yL_law (some .boolean) d h0 zc zs Z 23 [(0, .ref (gXb g)), (1, .ref a1), (2, .ref a2), (3, .ref a3), (4, .int x4)] [] h) (a1 : Nat) (a2 : Nat) (a3 : Nat) (x4 : Int32) (h : aH) (HF : F_L_law_626 L X k23 a1 a2 a3 x4 h = some (1, h1)) : EvG g l cL_law 8 yL_law (some .boolean) d h0 zc zs Z 626 [(0, .ref (gXb g)), (1, .ref a1), (2, .ref a2), (3, .ref a3), (4, .int x4)] [] h := by
  unfold F_L_law_626 at HF
  refine ev_aload_n 1 dL_law_626 rfl ?_
  refine ev_aload_n 0 dL_law_627 rfl ?_
  refine ev_iload 4 dL_law_628 rfl ?_
  refine ev_iconst (v := 1) dL_law_630 (by decide) ?_
  refine ev_iadd dL_law_631 ?_
  replace HF := bind_ck HF
  obtain ⟨c1, HF⟩ := HF
  refine ev_xld eL eX dL_law_632 c1 ?_
  refine ev_aload_n 0 dL_law_633 rfl ?_
  show EvG _ _ _ _ _ _ _ _ _ _ _ 634 _ _ _
  refine ev_iload 4 dL_law_634 rfl ?_
  refine ev_iconst (v := 2) dL_law_636 (by decide) ?_
  refine ev_iadd dL_law_637 ?_
  replace HF := bind_ck HF
  obtain ⟨c2, HF⟩ := HF
  refine ev_xld eL eX dL_law_638 c2 ?_
  refine ev_aload_n 0 dL_law_639 rfl ?_
  refine ev_iload 4 dL_law_640 rfl ?_
  refine ev_iconst (v := 3) dL_law_642 (by decide) ?_
  refine ev_iadd dL_law_643 ?_
  show EvG _ _ _ _ _ _ _ _ _ _ _ 644 _ _ _
  replace HF := bind_ck HF
  obtain ⟨c3, HF⟩ := HF
  refine ev_xld eL eX dL_law_644 c3 ?_
  refine ev_aload_n 0 dL_law_645 rfl ?_
  refine ev_iload 4 dL_law_646 rfl ?_
  refine ev_iconst (v := 4) dL_law_648 (by decide) ?_
  refine ev_iadd dL_law_649 ?_
  replace HF := bind_ck HF
  obtain ⟨c4, HF⟩ := HF
  refine ev_xld eL eX dL_law_650 c4 ?_
  refine ev_aload_n 0 dL_law_651 rfl ?_
  refine ev_iload 4 dL_law_652 rfl ?_
  show EvG _ _ _ _ _ _ _ _ _ _ _ 654 _ _ _
  refine ev_iconst (v := 5) dL_law_654 (by decide) ?_
  refine ev_iadd dL_law_655 ?_
  replace HF := bind_ck HF
  obtain ⟨c5, HF⟩ := HF
  refine ev_xld eL eX dL_law_656 c5 ?_
  replace HF := bind_ck HF
  obtain ⟨c6, HF⟩ := HF
  replace HF := bind_o HF
  obtain ⟨⟨z9, h8⟩, e7, HF⟩ := HF
  replace HF := bd_o (bd_o HF)
  dsimp only at HF
  refine ev_callV (As := [.int (X (x4 + 1).toNatClampNeg), .int (X (x4 + 2).toNatClampNeg), .int (X (x4 + 3).toNatClampNeg), .int (X (x4 + 4).toNatClampNeg), .int (X (x4 + 5).toNatClampNeg)]) (R1 := (some (.int z9), h8)) (lk_X11_put (d := 6) (Nat.le_refl _) c6 e7) ce_X11_put im_X11_put sl_X11_put ml_L_95 cl_X11 c6 dL_law_657 (by omega) (Nat.le_of_ble_eq_true rfl) rfl rfl ?_
  show EvG _ _ _ _ _ _ _ _ _ _ _ 660 [(0, .ref (gXb g)), (1, .ref a1), (2, .ref a2), (3, .ref a3), (4, .int x4)] [.int z9] h8
  refine ev_aload_n 2 dL_law_660 rfl ?_
  refine ev_aload_n 0 dL_law_661 rfl ?_
  refine ev_iload 4 dL_law_662 rfl ?_
  refine ev_iconst (v := 1) dL_law_664 (by decide) ?_
  show EvG _ _ _ _ _ _ _ _ _ _ _ 665 _ _ _
  refine ev_iadd dL_law_665 ?_
  refine ev_xld eL eX dL_law_666 c1 ?_
  refine ev_aload_n 0 dL_law_667 rfl ?_
  refine ev_iload 4 dL_law_668 rfl ?_
  refine ev_iconst (v := 2) dL_law_670 (by decide) ?_
  refine ev_iadd dL_law_671 ?_
  refine ev_xld eL eX dL_law_672 c2 ?_
  refine ev_aload_n 0 dL_law_673 rfl ?_
  show EvG _ _ _ _ _ _ _ _ _ _ _ 674 _ _ _
  refine ev_iload 4 dL_law_674 rfl ?_
  refine ev_iconst (v := 3) dL_law_676 (by decide) ?_
  refine ev_iadd dL_law_677 ?_
  refine ev_xld eL eX dL_law_678 c3 ?_
  refine ev_aload_n 0 dL_law_679 rfl ?_
  refine ev_iload 4 dL_law_680 rfl ?_
  refine ev_iconst (v := 4) dL_law_682 (by decide) ?_
  refine ev_iadd dL_law_683 ?_
  show EvG _ _ _ _ _ _ _ _ _ _ _ 684 _ _ _
  refine ev_xld eL eX dL_law_684 c4 ?_
  refine ev_aload_n 0 dL_law_685 rfl ?_
  refine ev_iload 4 dL_law_686 rfl ?_
  refine ev_iconst (v := 5) dL_law_688 (by decide) ?_
  refine ev_iadd dL_law_689 ?_
  refine ev_xld eL eX dL_law_690 c5 ?_
  replace HF := bind_ck HF
  obtain ⟨c11, HF⟩ := HF
  replace HF := bind_o HF
  obtain ⟨⟨z14, h13⟩, e12, HF⟩ := HF
  replace HF := bd_o (bd_o HF)
  dsimp only at HF
  refine ev_callV (As := [.int (X (x4 + 1).toNatClampNeg), .int (X (x4 + 2).toNatClampNeg), .int (X (x4 + 3).toNatClampNeg), .int (X (x4 + 4).toNatClampNeg), .int (X (x4 + 5).toNatClampNeg)]) (R1 := (some (.int z14), h13)) (lk_X12_put (d := 2) (Nat.le_refl _) c11 e12) ce_X12_put im_X12_put sl_X12_put ml_L_99 cl_X12 c11 dL_law_691 (by omega) (Nat.le_of_ble_eq_true rfl) rfl rfl ?_
  show EvG _ _ _ _ _ _ _ _ _ _ _ 694 [(0, .ref (gXb g)), (1, .ref a1), (2, .ref a2), (3, .ref a3), (4, .int x4)] [.int z14, .int z9] h13
  by_cases c16 : z9 = z14
  · replace HF := ite_T c16 HF
    refine ev_icmp_eqT (tgt := 1746) dL_law_694 (by decide) c16 ?_
    exact Ev.sub [0, 1, 2, 3, 4] rfl (lk_L_law_1746 hdd hl eL eX hend hb k23 hk23 a1 a2 a3 x4 _ HF)
  · replace HF := ite_F c16 HF
    refine ev_icmp_eqF (tgt := 1746) dL_law_694 (by decide) c16 ?_
    refine ev_iconst (v := 0) dL_law_697 (by decide) ?_
    exact absurd (show (0 : Int32) = 1 from congrArg Prod.fst (Option.some.inj HF)) (by decide)

set_option maxRecDepth 20000 in
theorem lk_L_law_577 {g : aG} {l : Launch} {d : Nat} {h0 : aH} (hdd : 12 ≤ d) (hl : l.stackTraces = false) {L : Nat} {X : Nat → Int32} (eL : gXL g = L) (eX : gXf g = X) {zc zs : Nat} {Z : List Frame → Array Value → State → State → Prop} (hend : ∀ {pc : Nat} {lv : List (Nat × Value)} {h : aH}, hz h ≤ zc → hs h ≤ zs → decode cL_law pc = .ok (.ireturn, 1) → EvG g l cL_law 8 yL_law (some .boolean) d h0 zc zs Z pc lv [.int 1] h) {h1 : aH} (hb : hz h1 ≤ zc ∧ hs h1 ≤ zs) (k23 : Nat → Nat → Nat → Int32 → aH → Option (Int32 × aH)) (hk23 : ∀ (a1 : Nat) (a2 : Nat) (a3 : Nat) (x4 : Int32) (h : aH), k23 a1 a2 a3 x4 h = some (1, h1) → EvG g l cL_law 8 yL_law (some .boolean) d h0 zc zs Z 23 [(0, .ref (gXb g)), (1, .ref a1), (2, .ref a2), (3, .ref a3), (4, .int x4)] [] h) (a1 : Nat) (a2 : Nat) (a3 : Nat) (x4 : Int32) (h : aH) (HF : F_L_law_577 L X k23 a1 a2 a3 x4 h = some (1, h1)) : EvG g l cL_law 8 yL_law (some .boolean) d h0 zc zs Z 577 [(0, .ref (gXb g)), (1, .ref a1), (2, .ref a2), (3, .ref a3), (4, .int x4)] [] h := by
  unfold F_L_law_577 at HF
  refine ev_aload_n 1 dL_law_577 rfl ?_
  refine ev_aload_n 0 dL_law_578 rfl ?_
  refine ev_iload 4 dL_law_579 rfl ?_
  refine ev_iconst (v := 1) dL_law_581 (by decide) ?_
  refine ev_iadd dL_law_582 ?_
  replace HF := bind_ck HF
  obtain ⟨c1, HF⟩ := HF
  refine ev_xld eL eX dL_law_583 c1 ?_
  refine ev_aload_n 0 dL_law_584 rfl ?_
  show EvG _ _ _ _ _ _ _ _ _ _ _ 585 _ _ _
  refine ev_iload 4 dL_law_585 rfl ?_
  refine ev_iconst (v := 2) dL_law_587 (by decide) ?_
  refine ev_iadd dL_law_588 ?_
  replace HF := bind_ck HF
  obtain ⟨c2, HF⟩ := HF
  refine ev_xld eL eX dL_law_589 c2 ?_
  refine ev_aload_n 0 dL_law_590 rfl ?_
  refine ev_iload 4 dL_law_591 rfl ?_
  refine ev_iconst (v := 3) dL_law_593 (by decide) ?_
  refine ev_iadd dL_law_594 ?_
  show EvG _ _ _ _ _ _ _ _ _ _ _ 595 _ _ _
  replace HF := bind_ck HF
  obtain ⟨c3, HF⟩ := HF
  refine ev_xld eL eX dL_law_595 c3 ?_
  replace HF := bind_ck HF
  obtain ⟨c4, HF⟩ := HF
  replace HF := bind_o HF
  obtain ⟨⟨z7, h6⟩, e5, HF⟩ := HF
  replace HF := bd_o (bd_o HF)
  dsimp only at HF
  refine ev_callV (As := [.int (X (x4 + 1).toNatClampNeg), .int (X (x4 + 2).toNatClampNeg), .int (X (x4 + 3).toNatClampNeg)]) (R1 := (some (.int z7), h6)) (lk_X11_tear (d := 6) (Nat.le_refl _) c4 e5) ce_X11_tear im_X11_tear sl_X11_tear ml_L_90 cl_X11 c4 dL_law_596 (by omega) (Nat.le_of_ble_eq_true rfl) rfl rfl ?_
  show EvG _ _ _ _ _ _ _ _ _ _ _ 599 [(0, .ref (gXb g)), (1, .ref a1), (2, .ref a2), (3, .ref a3), (4, .int x4)] [.int z7] h6
  refine ev_aload_n 2 dL_law_599 rfl ?_
  refine ev_aload_n 0 dL_law_600 rfl ?_
  refine ev_iload 4 dL_law_601 rfl ?_
  refine ev_iconst (v := 1) dL_law_603 (by decide) ?_
  refine ev_iadd dL_law_604 ?_
  refine ev_xld eL eX dL_law_605 c1 ?_
  show EvG _ _ _ _ _ _ _ _ _ _ _ 606 _ _ _
  refine ev_aload_n 0 dL_law_606 rfl ?_
  refine ev_iload 4 dL_law_607 rfl ?_
  refine ev_iconst (v := 2) dL_law_609 (by decide) ?_
  refine ev_iadd dL_law_610 ?_
  refine ev_xld eL eX dL_law_611 c2 ?_
  refine ev_aload_n 0 dL_law_612 rfl ?_
  refine ev_iload 4 dL_law_613 rfl ?_
  refine ev_iconst (v := 3) dL_law_615 (by decide) ?_
  show EvG _ _ _ _ _ _ _ _ _ _ _ 616 _ _ _
  refine ev_iadd dL_law_616 ?_
  refine ev_xld eL eX dL_law_617 c3 ?_
  replace HF := bind_ck HF
  obtain ⟨c9, HF⟩ := HF
  replace HF := bind_o HF
  obtain ⟨⟨z12, h11⟩, e10, HF⟩ := HF
  replace HF := bd_o (bd_o HF)
  dsimp only at HF
  refine ev_callV (As := [.int (X (x4 + 1).toNatClampNeg), .int (X (x4 + 2).toNatClampNeg), .int (X (x4 + 3).toNatClampNeg)]) (R1 := (some (.int z12), h11)) (lk_X12_tear (d := 2) (Nat.le_refl _) c9 e10) ce_X12_tear im_X12_tear sl_X12_tear ml_L_94 cl_X12 c9 dL_law_618 (by omega) (Nat.le_of_ble_eq_true rfl) rfl rfl ?_
  show EvG _ _ _ _ _ _ _ _ _ _ _ 621 [(0, .ref (gXb g)), (1, .ref a1), (2, .ref a2), (3, .ref a3), (4, .int x4)] [.int z12, .int z7] h11
  by_cases c14 : z7 = z12
  · replace HF := ite_T c14 HF
    refine ev_icmp_eqT (tgt := 1746) dL_law_621 (by decide) c14 ?_
    exact Ev.sub [0, 1, 2, 3, 4] rfl (lk_L_law_1746 hdd hl eL eX hend hb k23 hk23 a1 a2 a3 x4 _ HF)
  · replace HF := ite_F c14 HF
    refine ev_icmp_eqF (tgt := 1746) dL_law_621 (by decide) c14 ?_
    refine ev_iconst (v := 0) dL_law_624 (by decide) ?_
    exact absurd (show (0 : Int32) = 1 from congrArg Prod.fst (Option.some.inj HF)) (by decide)

set_option maxRecDepth 20000 in
theorem lk_L_law_516 {g : aG} {l : Launch} {d : Nat} {h0 : aH} (hdd : 12 ≤ d) (hl : l.stackTraces = false) {L : Nat} {X : Nat → Int32} (eL : gXL g = L) (eX : gXf g = X) {zc zs : Nat} {Z : List Frame → Array Value → State → State → Prop} (hend : ∀ {pc : Nat} {lv : List (Nat × Value)} {h : aH}, hz h ≤ zc → hs h ≤ zs → decode cL_law pc = .ok (.ireturn, 1) → EvG g l cL_law 8 yL_law (some .boolean) d h0 zc zs Z pc lv [.int 1] h) {h1 : aH} (hb : hz h1 ≤ zc ∧ hs h1 ≤ zs) (k23 : Nat → Nat → Nat → Int32 → aH → Option (Int32 × aH)) (hk23 : ∀ (a1 : Nat) (a2 : Nat) (a3 : Nat) (x4 : Int32) (h : aH), k23 a1 a2 a3 x4 h = some (1, h1) → EvG g l cL_law 8 yL_law (some .boolean) d h0 zc zs Z 23 [(0, .ref (gXb g)), (1, .ref a1), (2, .ref a2), (3, .ref a3), (4, .int x4)] [] h) (a1 : Nat) (a2 : Nat) (a3 : Nat) (x4 : Int32) (h : aH) (HF : F_L_law_516 L X k23 a1 a2 a3 x4 h = some (1, h1)) : EvG g l cL_law 8 yL_law (some .boolean) d h0 zc zs Z 516 [(0, .ref (gXb g)), (1, .ref a1), (2, .ref a2), (3, .ref a3), (4, .int x4)] [] h := by
  unfold F_L_law_516 at HF
  refine ev_aload_n 1 dL_law_516 rfl ?_
  refine ev_aload_n 0 dL_law_517 rfl ?_
  refine ev_iload 4 dL_law_518 rfl ?_
  refine ev_iconst (v := 1) dL_law_520 (by decide) ?_
  refine ev_iadd dL_law_521 ?_
  replace HF := bind_ck HF
  obtain ⟨c1, HF⟩ := HF
  refine ev_xld eL eX dL_law_522 c1 ?_
  refine ev_aload_n 0 dL_law_523 rfl ?_
  show EvG _ _ _ _ _ _ _ _ _ _ _ 524 _ _ _
  refine ev_iload 4 dL_law_524 rfl ?_
  refine ev_iconst (v := 2) dL_law_526 (by decide) ?_
  refine ev_iadd dL_law_527 ?_
  replace HF := bind_ck HF
  obtain ⟨c2, HF⟩ := HF
  refine ev_xld eL eX dL_law_528 c2 ?_
  refine ev_aload_n 0 dL_law_529 rfl ?_
  refine ev_iload 4 dL_law_530 rfl ?_
  refine ev_iconst (v := 3) dL_law_532 (by decide) ?_
  refine ev_iadd dL_law_533 ?_
  show EvG _ _ _ _ _ _ _ _ _ _ _ 534 _ _ _
  replace HF := bind_ck HF
  obtain ⟨c3, HF⟩ := HF
  refine ev_xld eL eX dL_law_534 c3 ?_
  refine ev_aload_n 0 dL_law_535 rfl ?_
  refine ev_iload 4 dL_law_536 rfl ?_
  refine ev_iconst (v := 4) dL_law_538 (by decide) ?_
  refine ev_iadd dL_law_539 ?_
  replace HF := bind_ck HF
  obtain ⟨c4, HF⟩ := HF
  refine ev_xld eL eX dL_law_540 c4 ?_
  replace HF := bind_ck HF
  obtain ⟨c5, HF⟩ := HF
  replace HF := bind_o HF
  obtain ⟨⟨z8, h7⟩, e6, HF⟩ := HF
  replace HF := bd_o (bd_o HF)
  dsimp only at HF
  refine ev_callV (As := [.int (X (x4 + 1).toNatClampNeg), .int (X (x4 + 2).toNatClampNeg), .int (X (x4 + 3).toNatClampNeg), .int (X (x4 + 4).toNatClampNeg)]) (R1 := (some (.int z8), h7)) (lk_X11_open (d := 6) (Nat.le_refl _) c5 e6) ce_X11_open im_X11_open sl_X11_open ml_L_86 cl_X11 c5 dL_law_541 (by omega) (Nat.le_of_ble_eq_true rfl) rfl rfl ?_
  show EvG _ _ _ _ _ _ _ _ _ _ _ 544 [(0, .ref (gXb g)), (1, .ref a1), (2, .ref a2), (3, .ref a3), (4, .int x4)] [.int z8] h7
  refine ev_aload_n 2 dL_law_544 rfl ?_
  show EvG _ _ _ _ _ _ _ _ _ _ _ 545 _ _ _
  refine ev_aload_n 0 dL_law_545 rfl ?_
  refine ev_iload 4 dL_law_546 rfl ?_
  refine ev_iconst (v := 1) dL_law_548 (by decide) ?_
  refine ev_iadd dL_law_549 ?_
  refine ev_xld eL eX dL_law_550 c1 ?_
  refine ev_aload_n 0 dL_law_551 rfl ?_
  refine ev_iload 4 dL_law_552 rfl ?_
  refine ev_iconst (v := 2) dL_law_554 (by decide) ?_
  show EvG _ _ _ _ _ _ _ _ _ _ _ 555 _ _ _
  refine ev_iadd dL_law_555 ?_
  refine ev_xld eL eX dL_law_556 c2 ?_
  refine ev_aload_n 0 dL_law_557 rfl ?_
  refine ev_iload 4 dL_law_558 rfl ?_
  refine ev_iconst (v := 3) dL_law_560 (by decide) ?_
  refine ev_iadd dL_law_561 ?_
  refine ev_xld eL eX dL_law_562 c3 ?_
  refine ev_aload_n 0 dL_law_563 rfl ?_
  show EvG _ _ _ _ _ _ _ _ _ _ _ 564 _ _ _
  refine ev_iload 4 dL_law_564 rfl ?_
  refine ev_iconst (v := 4) dL_law_566 (by decide) ?_
  refine ev_iadd dL_law_567 ?_
  refine ev_xld eL eX dL_law_568 c4 ?_
  replace HF := bind_ck HF
  obtain ⟨c10, HF⟩ := HF
  replace HF := bind_o HF
  obtain ⟨⟨z13, h12⟩, e11, HF⟩ := HF
  replace HF := bd_o (bd_o HF)
  dsimp only at HF
  refine ev_callV (As := [.int (X (x4 + 1).toNatClampNeg), .int (X (x4 + 2).toNatClampNeg), .int (X (x4 + 3).toNatClampNeg), .int (X (x4 + 4).toNatClampNeg)]) (R1 := (some (.int z13), h12)) (lk_X12_open (d := 2) (Nat.le_refl _) c10 e11) ce_X12_open im_X12_open sl_X12_open ml_L_89 cl_X12 c10 dL_law_569 (by omega) (Nat.le_of_ble_eq_true rfl) rfl rfl ?_
  show EvG _ _ _ _ _ _ _ _ _ _ _ 572 [(0, .ref (gXb g)), (1, .ref a1), (2, .ref a2), (3, .ref a3), (4, .int x4)] [.int z13, .int z8] h12
  by_cases c15 : z8 = z13
  · replace HF := ite_T c15 HF
    refine ev_icmp_eqT (tgt := 1746) dL_law_572 (by decide) c15 ?_
    exact Ev.sub [0, 1, 2, 3, 4] rfl (lk_L_law_1746 hdd hl eL eX hend hb k23 hk23 a1 a2 a3 x4 _ HF)
  · replace HF := ite_F c15 HF
    refine ev_icmp_eqF (tgt := 1746) dL_law_572 (by decide) c15 ?_
    refine ev_iconst (v := 0) dL_law_575 (by decide) ?_
    exact absurd (show (0 : Int32) = 1 from congrArg Prod.fst (Option.some.inj HF)) (by decide)

set_option maxRecDepth 20000 in
theorem lk_L_law_443 {g : aG} {l : Launch} {d : Nat} {h0 : aH} (hdd : 12 ≤ d) (hl : l.stackTraces = false) {L : Nat} {X : Nat → Int32} (eL : gXL g = L) (eX : gXf g = X) {zc zs : Nat} {Z : List Frame → Array Value → State → State → Prop} (hend : ∀ {pc : Nat} {lv : List (Nat × Value)} {h : aH}, hz h ≤ zc → hs h ≤ zs → decode cL_law pc = .ok (.ireturn, 1) → EvG g l cL_law 8 yL_law (some .boolean) d h0 zc zs Z pc lv [.int 1] h) {h1 : aH} (hb : hz h1 ≤ zc ∧ hs h1 ≤ zs) (k23 : Nat → Nat → Nat → Int32 → aH → Option (Int32 × aH)) (hk23 : ∀ (a1 : Nat) (a2 : Nat) (a3 : Nat) (x4 : Int32) (h : aH), k23 a1 a2 a3 x4 h = some (1, h1) → EvG g l cL_law 8 yL_law (some .boolean) d h0 zc zs Z 23 [(0, .ref (gXb g)), (1, .ref a1), (2, .ref a2), (3, .ref a3), (4, .int x4)] [] h) (a1 : Nat) (a2 : Nat) (a3 : Nat) (x4 : Int32) (h : aH) (HF : F_L_law_443 L X k23 a1 a2 a3 x4 h = some (1, h1)) : EvG g l cL_law 8 yL_law (some .boolean) d h0 zc zs Z 443 [(0, .ref (gXb g)), (1, .ref a1), (2, .ref a2), (3, .ref a3), (4, .int x4)] [] h := by
  unfold F_L_law_443 at HF
  refine ev_aload_n 1 dL_law_443 rfl ?_
  refine ev_aload_n 0 dL_law_444 rfl ?_
  refine ev_iload 4 dL_law_445 rfl ?_
  refine ev_iconst (v := 1) dL_law_447 (by decide) ?_
  refine ev_iadd dL_law_448 ?_
  replace HF := bind_ck HF
  obtain ⟨c1, HF⟩ := HF
  refine ev_xld eL eX dL_law_449 c1 ?_
  refine ev_aload_n 0 dL_law_450 rfl ?_
  show EvG _ _ _ _ _ _ _ _ _ _ _ 451 _ _ _
  refine ev_iload 4 dL_law_451 rfl ?_
  refine ev_iconst (v := 2) dL_law_453 (by decide) ?_
  refine ev_iadd dL_law_454 ?_
  replace HF := bind_ck HF
  obtain ⟨c2, HF⟩ := HF
  refine ev_xld eL eX dL_law_455 c2 ?_
  refine ev_aload_n 0 dL_law_456 rfl ?_
  refine ev_iload 4 dL_law_457 rfl ?_
  refine ev_iconst (v := 3) dL_law_459 (by decide) ?_
  refine ev_iadd dL_law_460 ?_
  show EvG _ _ _ _ _ _ _ _ _ _ _ 461 _ _ _
  replace HF := bind_ck HF
  obtain ⟨c3, HF⟩ := HF
  refine ev_xld eL eX dL_law_461 c3 ?_
  refine ev_aload_n 0 dL_law_462 rfl ?_
  refine ev_iload 4 dL_law_463 rfl ?_
  refine ev_iconst (v := 4) dL_law_465 (by decide) ?_
  refine ev_iadd dL_law_466 ?_
  replace HF := bind_ck HF
  obtain ⟨c4, HF⟩ := HF
  refine ev_xld eL eX dL_law_467 c4 ?_
  refine ev_aload_n 0 dL_law_468 rfl ?_
  refine ev_iload 4 dL_law_469 rfl ?_
  show EvG _ _ _ _ _ _ _ _ _ _ _ 471 _ _ _
  refine ev_iconst (v := 5) dL_law_471 (by decide) ?_
  refine ev_iadd dL_law_472 ?_
  replace HF := bind_ck HF
  obtain ⟨c5, HF⟩ := HF
  refine ev_xld eL eX dL_law_473 c5 ?_
  replace HF := bind_ck HF
  obtain ⟨c6, HF⟩ := HF
  replace HF := bind_o HF
  obtain ⟨⟨z9, h8⟩, e7, HF⟩ := HF
  replace HF := bd_o (bd_o HF)
  dsimp only at HF
  refine ev_callV (As := [.int (X (x4 + 1).toNatClampNeg), .int (X (x4 + 2).toNatClampNeg), .int (X (x4 + 3).toNatClampNeg), .int (X (x4 + 4).toNatClampNeg), .int (X (x4 + 5).toNatClampNeg)]) (R1 := (some (.int z9), h8)) (lk_X11_feed (d := 2) (Nat.le_refl _) c6 e7) ce_X11_feed im_X11_feed sl_X11_feed ml_L_81 cl_X11 c6 dL_law_474 (by omega) (Nat.le_of_ble_eq_true rfl) rfl rfl ?_
  show EvG _ _ _ _ _ _ _ _ _ _ _ 477 [(0, .ref (gXb g)), (1, .ref a1), (2, .ref a2), (3, .ref a3), (4, .int x4)] [.int z9] h8
  refine ev_aload_n 2 dL_law_477 rfl ?_
  refine ev_aload_n 0 dL_law_478 rfl ?_
  refine ev_iload 4 dL_law_479 rfl ?_
  refine ev_iconst (v := 1) dL_law_481 (by decide) ?_
  show EvG _ _ _ _ _ _ _ _ _ _ _ 482 _ _ _
  refine ev_iadd dL_law_482 ?_
  refine ev_xld eL eX dL_law_483 c1 ?_
  refine ev_aload_n 0 dL_law_484 rfl ?_
  refine ev_iload 4 dL_law_485 rfl ?_
  refine ev_iconst (v := 2) dL_law_487 (by decide) ?_
  refine ev_iadd dL_law_488 ?_
  refine ev_xld eL eX dL_law_489 c2 ?_
  refine ev_aload_n 0 dL_law_490 rfl ?_
  show EvG _ _ _ _ _ _ _ _ _ _ _ 491 _ _ _
  refine ev_iload 4 dL_law_491 rfl ?_
  refine ev_iconst (v := 3) dL_law_493 (by decide) ?_
  refine ev_iadd dL_law_494 ?_
  refine ev_xld eL eX dL_law_495 c3 ?_
  refine ev_aload_n 0 dL_law_496 rfl ?_
  refine ev_iload 4 dL_law_497 rfl ?_
  refine ev_iconst (v := 4) dL_law_499 (by decide) ?_
  refine ev_iadd dL_law_500 ?_
  show EvG _ _ _ _ _ _ _ _ _ _ _ 501 _ _ _
  refine ev_xld eL eX dL_law_501 c4 ?_
  refine ev_aload_n 0 dL_law_502 rfl ?_
  refine ev_iload 4 dL_law_503 rfl ?_
  refine ev_iconst (v := 5) dL_law_505 (by decide) ?_
  refine ev_iadd dL_law_506 ?_
  refine ev_xld eL eX dL_law_507 c5 ?_
  replace HF := bind_ck HF
  obtain ⟨c11, HF⟩ := HF
  replace HF := bind_o HF
  obtain ⟨⟨z14, h13⟩, e12, HF⟩ := HF
  replace HF := bd_o (bd_o HF)
  dsimp only at HF
  refine ev_callV (As := [.int (X (x4 + 1).toNatClampNeg), .int (X (x4 + 2).toNatClampNeg), .int (X (x4 + 3).toNatClampNeg), .int (X (x4 + 4).toNatClampNeg), .int (X (x4 + 5).toNatClampNeg)]) (R1 := (some (.int z14), h13)) (lk_X12_feed (d := 0) (Nat.le_refl _) c11 e12) ce_X12_feed im_X12_feed sl_X12_feed ml_L_85 cl_X12 c11 dL_law_508 (by omega) (Nat.le_of_ble_eq_true rfl) rfl rfl ?_
  show EvG _ _ _ _ _ _ _ _ _ _ _ 511 [(0, .ref (gXb g)), (1, .ref a1), (2, .ref a2), (3, .ref a3), (4, .int x4)] [.int z14, .int z9] h13
  by_cases c16 : z9 = z14
  · replace HF := ite_T c16 HF
    refine ev_icmp_eqT (tgt := 1746) dL_law_511 (by decide) c16 ?_
    exact Ev.sub [0, 1, 2, 3, 4] rfl (lk_L_law_1746 hdd hl eL eX hend hb k23 hk23 a1 a2 a3 x4 _ HF)
  · replace HF := ite_F c16 HF
    refine ev_icmp_eqF (tgt := 1746) dL_law_511 (by decide) c16 ?_
    refine ev_iconst (v := 0) dL_law_514 (by decide) ?_
    exact absurd (show (0 : Int32) = 1 from congrArg Prod.fst (Option.some.inj HF)) (by decide)

set_option maxRecDepth 20000 in
theorem lk_L_law_406 {g : aG} {l : Launch} {d : Nat} {h0 : aH} (hdd : 12 ≤ d) (hl : l.stackTraces = false) {L : Nat} {X : Nat → Int32} (eL : gXL g = L) (eX : gXf g = X) {zc zs : Nat} {Z : List Frame → Array Value → State → State → Prop} (hend : ∀ {pc : Nat} {lv : List (Nat × Value)} {h : aH}, hz h ≤ zc → hs h ≤ zs → decode cL_law pc = .ok (.ireturn, 1) → EvG g l cL_law 8 yL_law (some .boolean) d h0 zc zs Z pc lv [.int 1] h) {h1 : aH} (hb : hz h1 ≤ zc ∧ hs h1 ≤ zs) (k23 : Nat → Nat → Nat → Int32 → aH → Option (Int32 × aH)) (hk23 : ∀ (a1 : Nat) (a2 : Nat) (a3 : Nat) (x4 : Int32) (h : aH), k23 a1 a2 a3 x4 h = some (1, h1) → EvG g l cL_law 8 yL_law (some .boolean) d h0 zc zs Z 23 [(0, .ref (gXb g)), (1, .ref a1), (2, .ref a2), (3, .ref a3), (4, .int x4)] [] h) (a1 : Nat) (a2 : Nat) (a3 : Nat) (x4 : Int32) (h : aH) (HF : F_L_law_406 L X k23 a1 a2 a3 x4 h = some (1, h1)) : EvG g l cL_law 8 yL_law (some .boolean) d h0 zc zs Z 406 [(0, .ref (gXb g)), (1, .ref a1), (2, .ref a2), (3, .ref a3), (4, .int x4)] [] h := by
  unfold F_L_law_406 at HF
  refine ev_aload_n 1 dL_law_406 rfl ?_
  refine ev_aload_n 0 dL_law_407 rfl ?_
  refine ev_iload 4 dL_law_408 rfl ?_
  refine ev_iconst (v := 1) dL_law_410 (by decide) ?_
  refine ev_iadd dL_law_411 ?_
  replace HF := bind_ck HF
  obtain ⟨c1, HF⟩ := HF
  refine ev_xld eL eX dL_law_412 c1 ?_
  refine ev_aload_n 0 dL_law_413 rfl ?_
  show EvG _ _ _ _ _ _ _ _ _ _ _ 414 _ _ _
  refine ev_iload 4 dL_law_414 rfl ?_
  refine ev_iconst (v := 2) dL_law_416 (by decide) ?_
  refine ev_iadd dL_law_417 ?_
  replace HF := bind_ck HF
  obtain ⟨c2, HF⟩ := HF
  refine ev_xld eL eX dL_law_418 c2 ?_
  replace HF := bind_ck HF
  obtain ⟨c3, HF⟩ := HF
  replace HF := bind_o HF
  obtain ⟨⟨z6, h5⟩, e4, HF⟩ := HF
  replace HF := bd_o (bd_o HF)
  dsimp only at HF
  refine ev_callV (As := [.int (X (x4 + 1).toNatClampNeg), .int (X (x4 + 2).toNatClampNeg)]) (R1 := (some (.int z6), h5)) (lk_X11_ball (d := 7) (Nat.le_refl _) c3 e4) ce_X11_ball im_X11_ball sl_X11_ball ml_L_77 cl_X11 c3 dL_law_419 (by omega) (Nat.le_of_ble_eq_true rfl) rfl rfl ?_
  show EvG _ _ _ _ _ _ _ _ _ _ _ 422 [(0, .ref (gXb g)), (1, .ref a1), (2, .ref a2), (3, .ref a3), (4, .int x4)] [.int z6] h5
  refine ev_aload_n 2 dL_law_422 rfl ?_
  refine ev_aload_n 0 dL_law_423 rfl ?_
  refine ev_iload 4 dL_law_424 rfl ?_
  show EvG _ _ _ _ _ _ _ _ _ _ _ 426 _ _ _
  refine ev_iconst (v := 1) dL_law_426 (by decide) ?_
  refine ev_iadd dL_law_427 ?_
  refine ev_xld eL eX dL_law_428 c1 ?_
  refine ev_aload_n 0 dL_law_429 rfl ?_
  refine ev_iload 4 dL_law_430 rfl ?_
  refine ev_iconst (v := 2) dL_law_432 (by decide) ?_
  refine ev_iadd dL_law_433 ?_
  refine ev_xld eL eX dL_law_434 c2 ?_
  show EvG _ _ _ _ _ _ _ _ _ _ _ 435 _ _ _
  replace HF := bind_ck HF
  obtain ⟨c8, HF⟩ := HF
  replace HF := bind_o HF
  obtain ⟨⟨z11, h10⟩, e9, HF⟩ := HF
  replace HF := bd_o (bd_o HF)
  dsimp only at HF
  refine ev_callV (As := [.int (X (x4 + 1).toNatClampNeg), .int (X (x4 + 2).toNatClampNeg)]) (R1 := (some (.int z11), h10)) (lk_X12_ball (d := 6) (Nat.le_refl _) c8 e9) ce_X12_ball im_X12_ball sl_X12_ball ml_L_80 cl_X12 c8 dL_law_435 (by omega) (Nat.le_of_ble_eq_true rfl) rfl rfl ?_
  show EvG _ _ _ _ _ _ _ _ _ _ _ 438 [(0, .ref (gXb g)), (1, .ref a1), (2, .ref a2), (3, .ref a3), (4, .int x4)] [.int z11, .int z6] h10
  by_cases c13 : z6 = z11
  · replace HF := ite_T c13 HF
    refine ev_icmp_eqT (tgt := 1746) dL_law_438 (by decide) c13 ?_
    exact Ev.sub [0, 1, 2, 3, 4] rfl (lk_L_law_1746 hdd hl eL eX hend hb k23 hk23 a1 a2 a3 x4 _ HF)
  · replace HF := ite_F c13 HF
    refine ev_icmp_eqF (tgt := 1746) dL_law_438 (by decide) c13 ?_
    refine ev_iconst (v := 0) dL_law_441 (by decide) ?_
    exact absurd (show (0 : Int32) = 1 from congrArg Prod.fst (Option.some.inj HF)) (by decide)

set_option maxRecDepth 20000 in
theorem lk_L_law_369 {g : aG} {l : Launch} {d : Nat} {h0 : aH} (hdd : 12 ≤ d) (hl : l.stackTraces = false) {L : Nat} {X : Nat → Int32} (eL : gXL g = L) (eX : gXf g = X) {zc zs : Nat} {Z : List Frame → Array Value → State → State → Prop} (hend : ∀ {pc : Nat} {lv : List (Nat × Value)} {h : aH}, hz h ≤ zc → hs h ≤ zs → decode cL_law pc = .ok (.ireturn, 1) → EvG g l cL_law 8 yL_law (some .boolean) d h0 zc zs Z pc lv [.int 1] h) {h1 : aH} (hb : hz h1 ≤ zc ∧ hs h1 ≤ zs) (k23 : Nat → Nat → Nat → Int32 → aH → Option (Int32 × aH)) (hk23 : ∀ (a1 : Nat) (a2 : Nat) (a3 : Nat) (x4 : Int32) (h : aH), k23 a1 a2 a3 x4 h = some (1, h1) → EvG g l cL_law 8 yL_law (some .boolean) d h0 zc zs Z 23 [(0, .ref (gXb g)), (1, .ref a1), (2, .ref a2), (3, .ref a3), (4, .int x4)] [] h) (a1 : Nat) (a2 : Nat) (a3 : Nat) (x4 : Int32) (h : aH) (HF : F_L_law_369 L X k23 a1 a2 a3 x4 h = some (1, h1)) : EvG g l cL_law 8 yL_law (some .boolean) d h0 zc zs Z 369 [(0, .ref (gXb g)), (1, .ref a1), (2, .ref a2), (3, .ref a3), (4, .int x4)] [] h := by
  unfold F_L_law_369 at HF
  refine ev_aload_n 1 dL_law_369 rfl ?_
  refine ev_aload_n 0 dL_law_370 rfl ?_
  refine ev_iload 4 dL_law_371 rfl ?_
  refine ev_iconst (v := 1) dL_law_373 (by decide) ?_
  refine ev_iadd dL_law_374 ?_
  replace HF := bind_ck HF
  obtain ⟨c1, HF⟩ := HF
  refine ev_xld eL eX dL_law_375 c1 ?_
  refine ev_aload_n 0 dL_law_376 rfl ?_
  show EvG _ _ _ _ _ _ _ _ _ _ _ 377 _ _ _
  refine ev_iload 4 dL_law_377 rfl ?_
  refine ev_iconst (v := 2) dL_law_379 (by decide) ?_
  refine ev_iadd dL_law_380 ?_
  replace HF := bind_ck HF
  obtain ⟨c2, HF⟩ := HF
  refine ev_xld eL eX dL_law_381 c2 ?_
  replace HF := bind_ck HF
  obtain ⟨c3, HF⟩ := HF
  replace HF := bind_o HF
  obtain ⟨⟨z6, h5⟩, e4, HF⟩ := HF
  replace HF := bd_o (bd_o HF)
  dsimp only at HF
  refine ev_callV (As := [.int (X (x4 + 1).toNatClampNeg), .int (X (x4 + 2).toNatClampNeg)]) (R1 := (some (.int z6), h5)) (lk_X11_over (d := 8) (Nat.le_refl _) c3 e4) ce_X11_over im_X11_over sl_X11_over ml_L_72 cl_X11 c3 dL_law_382 (by omega) (Nat.le_of_ble_eq_true rfl) rfl rfl ?_
  show EvG _ _ _ _ _ _ _ _ _ _ _ 385 [(0, .ref (gXb g)), (1, .ref a1), (2, .ref a2), (3, .ref a3), (4, .int x4)] [.int z6] h5
  refine ev_aload_n 2 dL_law_385 rfl ?_
  refine ev_aload_n 0 dL_law_386 rfl ?_
  refine ev_iload 4 dL_law_387 rfl ?_
  show EvG _ _ _ _ _ _ _ _ _ _ _ 389 _ _ _
  refine ev_iconst (v := 1) dL_law_389 (by decide) ?_
  refine ev_iadd dL_law_390 ?_
  refine ev_xld eL eX dL_law_391 c1 ?_
  refine ev_aload_n 0 dL_law_392 rfl ?_
  refine ev_iload 4 dL_law_393 rfl ?_
  refine ev_iconst (v := 2) dL_law_395 (by decide) ?_
  refine ev_iadd dL_law_396 ?_
  refine ev_xld eL eX dL_law_397 c2 ?_
  show EvG _ _ _ _ _ _ _ _ _ _ _ 398 _ _ _
  replace HF := bind_ck HF
  obtain ⟨c8, HF⟩ := HF
  replace HF := bind_o HF
  obtain ⟨⟨z11, h10⟩, e9, HF⟩ := HF
  replace HF := bd_o (bd_o HF)
  dsimp only at HF
  refine ev_callV (As := [.int (X (x4 + 1).toNatClampNeg), .int (X (x4 + 2).toNatClampNeg)]) (R1 := (some (.int z11), h10)) (lk_X12_over (d := 6) (Nat.le_refl _) c8 e9) ce_X12_over im_X12_over sl_X12_over ml_L_76 cl_X12 c8 dL_law_398 (by omega) (Nat.le_of_ble_eq_true rfl) rfl rfl ?_
  show EvG _ _ _ _ _ _ _ _ _ _ _ 401 [(0, .ref (gXb g)), (1, .ref a1), (2, .ref a2), (3, .ref a3), (4, .int x4)] [.int z11, .int z6] h10
  by_cases c13 : z6 = z11
  · replace HF := ite_T c13 HF
    refine ev_icmp_eqT (tgt := 1746) dL_law_401 (by decide) c13 ?_
    exact Ev.sub [0, 1, 2, 3, 4] rfl (lk_L_law_1746 hdd hl eL eX hend hb k23 hk23 a1 a2 a3 x4 _ HF)
  · replace HF := ite_F c13 HF
    refine ev_icmp_eqF (tgt := 1746) dL_law_401 (by decide) c13 ?_
    refine ev_iconst (v := 0) dL_law_404 (by decide) ?_
    exact absurd (show (0 : Int32) = 1 from congrArg Prod.fst (Option.some.inj HF)) (by decide)

set_option maxRecDepth 20000 in
theorem lk_L_law_344 {g : aG} {l : Launch} {d : Nat} {h0 : aH} (hdd : 12 ≤ d) (hl : l.stackTraces = false) {L : Nat} {X : Nat → Int32} (eL : gXL g = L) (eX : gXf g = X) {zc zs : Nat} {Z : List Frame → Array Value → State → State → Prop} (hend : ∀ {pc : Nat} {lv : List (Nat × Value)} {h : aH}, hz h ≤ zc → hs h ≤ zs → decode cL_law pc = .ok (.ireturn, 1) → EvG g l cL_law 8 yL_law (some .boolean) d h0 zc zs Z pc lv [.int 1] h) {h1 : aH} (hb : hz h1 ≤ zc ∧ hs h1 ≤ zs) (k23 : Nat → Nat → Nat → Int32 → aH → Option (Int32 × aH)) (hk23 : ∀ (a1 : Nat) (a2 : Nat) (a3 : Nat) (x4 : Int32) (h : aH), k23 a1 a2 a3 x4 h = some (1, h1) → EvG g l cL_law 8 yL_law (some .boolean) d h0 zc zs Z 23 [(0, .ref (gXb g)), (1, .ref a1), (2, .ref a2), (3, .ref a3), (4, .int x4)] [] h) (a1 : Nat) (a2 : Nat) (a3 : Nat) (x4 : Int32) (h : aH) (HF : F_L_law_344 L X k23 a1 a2 a3 x4 h = some (1, h1)) : EvG g l cL_law 8 yL_law (some .boolean) d h0 zc zs Z 344 [(0, .ref (gXb g)), (1, .ref a1), (2, .ref a2), (3, .ref a3), (4, .int x4)] [] h := by
  unfold F_L_law_344 at HF
  refine ev_aload_n 1 dL_law_344 rfl ?_
  refine ev_aload_n 0 dL_law_345 rfl ?_
  refine ev_iload 4 dL_law_346 rfl ?_
  refine ev_iconst (v := 1) dL_law_348 (by decide) ?_
  refine ev_iadd dL_law_349 ?_
  replace HF := bind_ck HF
  obtain ⟨c1, HF⟩ := HF
  refine ev_xld eL eX dL_law_350 c1 ?_
  replace HF := bind_ck HF
  obtain ⟨c2, HF⟩ := HF
  replace HF := bind_o HF
  obtain ⟨⟨z5, h4⟩, e3, HF⟩ := HF
  replace HF := bd_o (bd_o HF)
  dsimp only at HF
  refine ev_callV (As := [.int (X (x4 + 1).toNatClampNeg)]) (R1 := (some (.int z5), h4)) (lk_X11_turn (d := 8) (Nat.le_refl _) c2 e3) ce_X11_turn im_X11_turn sl_X11_turn ml_L_67 cl_X11 c2 dL_law_351 (by omega) (Nat.le_of_ble_eq_true rfl) rfl rfl ?_
  show EvG _ _ _ _ _ _ _ _ _ _ _ 354 [(0, .ref (gXb g)), (1, .ref a1), (2, .ref a2), (3, .ref a3), (4, .int x4)] [.int z5] h4
  show EvG _ _ _ _ _ _ _ _ _ _ _ 354 _ _ _
  refine ev_aload_n 2 dL_law_354 rfl ?_
  refine ev_aload_n 0 dL_law_355 rfl ?_
  refine ev_iload 4 dL_law_356 rfl ?_
  refine ev_iconst (v := 1) dL_law_358 (by decide) ?_
  refine ev_iadd dL_law_359 ?_
  refine ev_xld eL eX dL_law_360 c1 ?_
  replace HF := bind_ck HF
  obtain ⟨c7, HF⟩ := HF
  replace HF := bind_o HF
  obtain ⟨⟨z10, h9⟩, e8, HF⟩ := HF
  replace HF := bd_o (bd_o HF)
  dsimp only at HF
  refine ev_callV (As := [.int (X (x4 + 1).toNatClampNeg)]) (R1 := (some (.int z10), h9)) (lk_X12_turn (d := 6) (Nat.le_refl _) c7 e8) ce_X12_turn im_X12_turn sl_X12_turn ml_L_71 cl_X12 c7 dL_law_361 (by omega) (Nat.le_of_ble_eq_true rfl) rfl rfl ?_
  show EvG _ _ _ _ _ _ _ _ _ _ _ 364 [(0, .ref (gXb g)), (1, .ref a1), (2, .ref a2), (3, .ref a3), (4, .int x4)] [.int z10, .int z5] h9
  by_cases c12 : z5 = z10
  · replace HF := ite_T c12 HF
    refine ev_icmp_eqT (tgt := 1746) dL_law_364 (by decide) c12 ?_
    exact Ev.sub [0, 1, 2, 3, 4] rfl (lk_L_law_1746 hdd hl eL eX hend hb k23 hk23 a1 a2 a3 x4 _ HF)
  · replace HF := ite_F c12 HF
    refine ev_icmp_eqF (tgt := 1746) dL_law_364 (by decide) c12 ?_
    refine ev_iconst (v := 0) dL_law_367 (by decide) ?_
    exact absurd (show (0 : Int32) = 1 from congrArg Prod.fst (Option.some.inj HF)) (by decide)

set_option maxRecDepth 20000 in
theorem lk_L_law_283 {g : aG} {l : Launch} {d : Nat} {h0 : aH} (hdd : 12 ≤ d) (hl : l.stackTraces = false) {L : Nat} {X : Nat → Int32} (eL : gXL g = L) (eX : gXf g = X) {zc zs : Nat} {Z : List Frame → Array Value → State → State → Prop} (hend : ∀ {pc : Nat} {lv : List (Nat × Value)} {h : aH}, hz h ≤ zc → hs h ≤ zs → decode cL_law pc = .ok (.ireturn, 1) → EvG g l cL_law 8 yL_law (some .boolean) d h0 zc zs Z pc lv [.int 1] h) {h1 : aH} (hb : hz h1 ≤ zc ∧ hs h1 ≤ zs) (k23 : Nat → Nat → Nat → Int32 → aH → Option (Int32 × aH)) (hk23 : ∀ (a1 : Nat) (a2 : Nat) (a3 : Nat) (x4 : Int32) (h : aH), k23 a1 a2 a3 x4 h = some (1, h1) → EvG g l cL_law 8 yL_law (some .boolean) d h0 zc zs Z 23 [(0, .ref (gXb g)), (1, .ref a1), (2, .ref a2), (3, .ref a3), (4, .int x4)] [] h) (a1 : Nat) (a2 : Nat) (a3 : Nat) (x4 : Int32) (h : aH) (HF : F_L_law_283 L X k23 a1 a2 a3 x4 h = some (1, h1)) : EvG g l cL_law 8 yL_law (some .boolean) d h0 zc zs Z 283 [(0, .ref (gXb g)), (1, .ref a1), (2, .ref a2), (3, .ref a3), (4, .int x4)] [] h := by
  unfold F_L_law_283 at HF
  refine ev_aload_n 1 dL_law_283 rfl ?_
  refine ev_aload_n 0 dL_law_284 rfl ?_
  refine ev_iload 4 dL_law_285 rfl ?_
  refine ev_iconst (v := 1) dL_law_287 (by decide) ?_
  refine ev_iadd dL_law_288 ?_
  replace HF := bind_ck HF
  obtain ⟨c1, HF⟩ := HF
  refine ev_xld eL eX dL_law_289 c1 ?_
  refine ev_aload_n 0 dL_law_290 rfl ?_
  show EvG _ _ _ _ _ _ _ _ _ _ _ 291 _ _ _
  refine ev_iload 4 dL_law_291 rfl ?_
  refine ev_iconst (v := 2) dL_law_293 (by decide) ?_
  refine ev_iadd dL_law_294 ?_
  replace HF := bind_ck HF
  obtain ⟨c2, HF⟩ := HF
  refine ev_xld eL eX dL_law_295 c2 ?_
  refine ev_aload_n 0 dL_law_296 rfl ?_
  refine ev_iload 4 dL_law_297 rfl ?_
  refine ev_iconst (v := 3) dL_law_299 (by decide) ?_
  refine ev_iadd dL_law_300 ?_
  show EvG _ _ _ _ _ _ _ _ _ _ _ 301 _ _ _
  replace HF := bind_ck HF
  obtain ⟨c3, HF⟩ := HF
  refine ev_xld eL eX dL_law_301 c3 ?_
  refine ev_aload_n 0 dL_law_302 rfl ?_
  refine ev_iload 4 dL_law_303 rfl ?_
  refine ev_iconst (v := 4) dL_law_305 (by decide) ?_
  refine ev_iadd dL_law_306 ?_
  replace HF := bind_ck HF
  obtain ⟨c4, HF⟩ := HF
  refine ev_xld eL eX dL_law_307 c4 ?_
  replace HF := bind_ck HF
  obtain ⟨c5, HF⟩ := HF
  replace HF := bind_o HF
  obtain ⟨⟨z8, h7⟩, e6, HF⟩ := HF
  replace HF := bd_o (bd_o HF)
  dsimp only at HF
  refine ev_callV (As := [.int (X (x4 + 1).toNatClampNeg), .int (X (x4 + 2).toNatClampNeg), .int (X (x4 + 3).toNatClampNeg), .int (X (x4 + 4).toNatClampNeg)]) (R1 := (some (.int z8), h7)) (lk_X11_seat (d := 4) (Nat.le_refl _) c5 e6) ce_X11_seat im_X11_seat sl_X11_seat ml_L_62 cl_X11 c5 dL_law_308 (by omega) (Nat.le_of_ble_eq_true rfl) rfl rfl ?_
  show EvG _ _ _ _ _ _ _ _ _ _ _ 311 [(0, .ref (gXb g)), (1, .ref a1), (2, .ref a2), (3, .ref a3), (4, .int x4)] [.int z8] h7
  refine ev_aload_n 2 dL_law_311 rfl ?_
  show EvG _ _ _ _ _ _ _ _ _ _ _ 312 _ _ _
  refine ev_aload_n 0 dL_law_312 rfl ?_
  refine ev_iload 4 dL_law_313 rfl ?_
  refine ev_iconst (v := 1) dL_law_315 (by decide) ?_
  refine ev_iadd dL_law_316 ?_
  refine ev_xld eL eX dL_law_317 c1 ?_
  refine ev_aload_n 0 dL_law_318 rfl ?_
  refine ev_iload 4 dL_law_319 rfl ?_
  refine ev_iconst (v := 2) dL_law_321 (by decide) ?_
  show EvG _ _ _ _ _ _ _ _ _ _ _ 322 _ _ _
  refine ev_iadd dL_law_322 ?_
  refine ev_xld eL eX dL_law_323 c2 ?_
  refine ev_aload_n 0 dL_law_324 rfl ?_
  refine ev_iload 4 dL_law_325 rfl ?_
  refine ev_iconst (v := 3) dL_law_327 (by decide) ?_
  refine ev_iadd dL_law_328 ?_
  refine ev_xld eL eX dL_law_329 c3 ?_
  refine ev_aload_n 0 dL_law_330 rfl ?_
  show EvG _ _ _ _ _ _ _ _ _ _ _ 331 _ _ _
  refine ev_iload 4 dL_law_331 rfl ?_
  refine ev_iconst (v := 4) dL_law_333 (by decide) ?_
  refine ev_iadd dL_law_334 ?_
  refine ev_xld eL eX dL_law_335 c4 ?_
  replace HF := bind_ck HF
  obtain ⟨c10, HF⟩ := HF
  replace HF := bind_o HF
  obtain ⟨⟨z13, h12⟩, e11, HF⟩ := HF
  replace HF := bd_o (bd_o HF)
  dsimp only at HF
  refine ev_callV (As := [.int (X (x4 + 1).toNatClampNeg), .int (X (x4 + 2).toNatClampNeg), .int (X (x4 + 3).toNatClampNeg), .int (X (x4 + 4).toNatClampNeg)]) (R1 := (some (.int z13), h12)) (lk_X12_seat (d := 1) (Nat.le_refl _) c10 e11) ce_X12_seat im_X12_seat sl_X12_seat ml_L_66 cl_X12 c10 dL_law_336 (by omega) (Nat.le_of_ble_eq_true rfl) rfl rfl ?_
  show EvG _ _ _ _ _ _ _ _ _ _ _ 339 [(0, .ref (gXb g)), (1, .ref a1), (2, .ref a2), (3, .ref a3), (4, .int x4)] [.int z13, .int z8] h12
  by_cases c15 : z8 = z13
  · replace HF := ite_T c15 HF
    refine ev_icmp_eqT (tgt := 1746) dL_law_339 (by decide) c15 ?_
    exact Ev.sub [0, 1, 2, 3, 4] rfl (lk_L_law_1746 hdd hl eL eX hend hb k23 hk23 a1 a2 a3 x4 _ HF)
  · replace HF := ite_F c15 HF
    refine ev_icmp_eqF (tgt := 1746) dL_law_339 (by decide) c15 ?_
    refine ev_iconst (v := 0) dL_law_342 (by decide) ?_
    exact absurd (show (0 : Int32) = 1 from congrArg Prod.fst (Option.some.inj HF)) (by decide)

set_option maxRecDepth 20000 in
theorem lk_L_law_222 {g : aG} {l : Launch} {d : Nat} {h0 : aH} (hdd : 12 ≤ d) (hl : l.stackTraces = false) {L : Nat} {X : Nat → Int32} (eL : gXL g = L) (eX : gXf g = X) {zc zs : Nat} {Z : List Frame → Array Value → State → State → Prop} (hend : ∀ {pc : Nat} {lv : List (Nat × Value)} {h : aH}, hz h ≤ zc → hs h ≤ zs → decode cL_law pc = .ok (.ireturn, 1) → EvG g l cL_law 8 yL_law (some .boolean) d h0 zc zs Z pc lv [.int 1] h) {h1 : aH} (hb : hz h1 ≤ zc ∧ hs h1 ≤ zs) (k23 : Nat → Nat → Nat → Int32 → aH → Option (Int32 × aH)) (hk23 : ∀ (a1 : Nat) (a2 : Nat) (a3 : Nat) (x4 : Int32) (h : aH), k23 a1 a2 a3 x4 h = some (1, h1) → EvG g l cL_law 8 yL_law (some .boolean) d h0 zc zs Z 23 [(0, .ref (gXb g)), (1, .ref a1), (2, .ref a2), (3, .ref a3), (4, .int x4)] [] h) (a1 : Nat) (a2 : Nat) (a3 : Nat) (x4 : Int32) (h : aH) (HF : F_L_law_222 L X k23 a1 a2 a3 x4 h = some (1, h1)) : EvG g l cL_law 8 yL_law (some .boolean) d h0 zc zs Z 222 [(0, .ref (gXb g)), (1, .ref a1), (2, .ref a2), (3, .ref a3), (4, .int x4)] [] h := by
  unfold F_L_law_222 at HF
  refine ev_aload_n 1 dL_law_222 rfl ?_
  refine ev_aload_n 0 dL_law_223 rfl ?_
  refine ev_iload 4 dL_law_224 rfl ?_
  refine ev_iconst (v := 1) dL_law_226 (by decide) ?_
  refine ev_iadd dL_law_227 ?_
  replace HF := bind_ck HF
  obtain ⟨c1, HF⟩ := HF
  refine ev_xld eL eX dL_law_228 c1 ?_
  refine ev_aload_n 0 dL_law_229 rfl ?_
  show EvG _ _ _ _ _ _ _ _ _ _ _ 230 _ _ _
  refine ev_iload 4 dL_law_230 rfl ?_
  refine ev_iconst (v := 2) dL_law_232 (by decide) ?_
  refine ev_iadd dL_law_233 ?_
  replace HF := bind_ck HF
  obtain ⟨c2, HF⟩ := HF
  refine ev_xld eL eX dL_law_234 c2 ?_
  refine ev_aload_n 0 dL_law_235 rfl ?_
  refine ev_iload 4 dL_law_236 rfl ?_
  refine ev_iconst (v := 3) dL_law_238 (by decide) ?_
  refine ev_iadd dL_law_239 ?_
  show EvG _ _ _ _ _ _ _ _ _ _ _ 240 _ _ _
  replace HF := bind_ck HF
  obtain ⟨c3, HF⟩ := HF
  refine ev_xld eL eX dL_law_240 c3 ?_
  refine ev_aload_n 0 dL_law_241 rfl ?_
  refine ev_iload 4 dL_law_242 rfl ?_
  refine ev_iconst (v := 4) dL_law_244 (by decide) ?_
  refine ev_iadd dL_law_245 ?_
  replace HF := bind_ck HF
  obtain ⟨c4, HF⟩ := HF
  refine ev_xld eL eX dL_law_246 c4 ?_
  replace HF := bind_ck HF
  obtain ⟨c5, HF⟩ := HF
  replace HF := bind_o HF
  obtain ⟨⟨z8, h7⟩, e6, HF⟩ := HF
  replace HF := bd_o (bd_o HF)
  dsimp only at HF
  refine ev_callV (As := [.int (X (x4 + 1).toNatClampNeg), .int (X (x4 + 2).toNatClampNeg), .int (X (x4 + 3).toNatClampNeg), .int (X (x4 + 4).toNatClampNeg)]) (R1 := (some (.int z8), h7)) (lk_X11_toss (d := 8) (Nat.le_refl _) c5 e6) ce_X11_toss im_X11_toss sl_X11_toss ml_L_58 cl_X11 c5 dL_law_247 (by omega) (Nat.le_of_ble_eq_true rfl) rfl rfl ?_
  show EvG _ _ _ _ _ _ _ _ _ _ _ 250 [(0, .ref (gXb g)), (1, .ref a1), (2, .ref a2), (3, .ref a3), (4, .int x4)] [.int z8] h7
  refine ev_aload_n 2 dL_law_250 rfl ?_
  show EvG _ _ _ _ _ _ _ _ _ _ _ 251 _ _ _
  refine ev_aload_n 0 dL_law_251 rfl ?_
  refine ev_iload 4 dL_law_252 rfl ?_
  refine ev_iconst (v := 1) dL_law_254 (by decide) ?_
  refine ev_iadd dL_law_255 ?_
  refine ev_xld eL eX dL_law_256 c1 ?_
  refine ev_aload_n 0 dL_law_257 rfl ?_
  refine ev_iload 4 dL_law_258 rfl ?_
  refine ev_iconst (v := 2) dL_law_260 (by decide) ?_
  show EvG _ _ _ _ _ _ _ _ _ _ _ 261 _ _ _
  refine ev_iadd dL_law_261 ?_
  refine ev_xld eL eX dL_law_262 c2 ?_
  refine ev_aload_n 0 dL_law_263 rfl ?_
  refine ev_iload 4 dL_law_264 rfl ?_
  refine ev_iconst (v := 3) dL_law_266 (by decide) ?_
  refine ev_iadd dL_law_267 ?_
  refine ev_xld eL eX dL_law_268 c3 ?_
  refine ev_aload_n 0 dL_law_269 rfl ?_
  show EvG _ _ _ _ _ _ _ _ _ _ _ 270 _ _ _
  refine ev_iload 4 dL_law_270 rfl ?_
  refine ev_iconst (v := 4) dL_law_272 (by decide) ?_
  refine ev_iadd dL_law_273 ?_
  refine ev_xld eL eX dL_law_274 c4 ?_
  replace HF := bind_ck HF
  obtain ⟨c10, HF⟩ := HF
  replace HF := bind_o HF
  obtain ⟨⟨z13, h12⟩, e11, HF⟩ := HF
  replace HF := bd_o (bd_o HF)
  dsimp only at HF
  refine ev_callV (As := [.int (X (x4 + 1).toNatClampNeg), .int (X (x4 + 2).toNatClampNeg), .int (X (x4 + 3).toNatClampNeg), .int (X (x4 + 4).toNatClampNeg)]) (R1 := (some (.int z13), h12)) (lk_X12_toss (d := 1) (Nat.le_refl _) c10 e11) ce_X12_toss im_X12_toss sl_X12_toss ml_L_61 cl_X12 c10 dL_law_275 (by omega) (Nat.le_of_ble_eq_true rfl) rfl rfl ?_
  show EvG _ _ _ _ _ _ _ _ _ _ _ 278 [(0, .ref (gXb g)), (1, .ref a1), (2, .ref a2), (3, .ref a3), (4, .int x4)] [.int z13, .int z8] h12
  by_cases c15 : z8 = z13
  · replace HF := ite_T c15 HF
    refine ev_icmp_eqT (tgt := 1746) dL_law_278 (by decide) c15 ?_
    exact Ev.sub [0, 1, 2, 3, 4] rfl (lk_L_law_1746 hdd hl eL eX hend hb k23 hk23 a1 a2 a3 x4 _ HF)
  · replace HF := ite_F c15 HF
    refine ev_icmp_eqF (tgt := 1746) dL_law_278 (by decide) c15 ?_
    refine ev_iconst (v := 0) dL_law_281 (by decide) ?_
    exact absurd (show (0 : Int32) = 1 from congrArg Prod.fst (Option.some.inj HF)) (by decide)

set_option maxRecDepth 20000 in
theorem lk_L_law_197 {g : aG} {l : Launch} {d : Nat} {h0 : aH} (hdd : 12 ≤ d) (hl : l.stackTraces = false) {L : Nat} {X : Nat → Int32} (eL : gXL g = L) (eX : gXf g = X) {zc zs : Nat} {Z : List Frame → Array Value → State → State → Prop} (hend : ∀ {pc : Nat} {lv : List (Nat × Value)} {h : aH}, hz h ≤ zc → hs h ≤ zs → decode cL_law pc = .ok (.ireturn, 1) → EvG g l cL_law 8 yL_law (some .boolean) d h0 zc zs Z pc lv [.int 1] h) {h1 : aH} (hb : hz h1 ≤ zc ∧ hs h1 ≤ zs) (k23 : Nat → Nat → Nat → Int32 → aH → Option (Int32 × aH)) (hk23 : ∀ (a1 : Nat) (a2 : Nat) (a3 : Nat) (x4 : Int32) (h : aH), k23 a1 a2 a3 x4 h = some (1, h1) → EvG g l cL_law 8 yL_law (some .boolean) d h0 zc zs Z 23 [(0, .ref (gXb g)), (1, .ref a1), (2, .ref a2), (3, .ref a3), (4, .int x4)] [] h) (a1 : Nat) (a2 : Nat) (a3 : Nat) (x4 : Int32) (h : aH) (HF : F_L_law_197 L X k23 a1 a2 a3 x4 h = some (1, h1)) : EvG g l cL_law 8 yL_law (some .boolean) d h0 zc zs Z 197 [(0, .ref (gXb g)), (1, .ref a1), (2, .ref a2), (3, .ref a3), (4, .int x4)] [] h := by
  unfold F_L_law_197 at HF
  refine ev_aload_n 1 dL_law_197 rfl ?_
  refine ev_aload_n 0 dL_law_198 rfl ?_
  refine ev_iload 4 dL_law_199 rfl ?_
  refine ev_iconst (v := 1) dL_law_201 (by decide) ?_
  refine ev_iadd dL_law_202 ?_
  replace HF := bind_ck HF
  obtain ⟨c1, HF⟩ := HF
  refine ev_xld eL eX dL_law_203 c1 ?_
  replace HF := bind_ck HF
  obtain ⟨c2, HF⟩ := HF
  replace HF := bind_o HF
  obtain ⟨⟨z5, h4⟩, e3, HF⟩ := HF
  replace HF := bd_o (bd_o HF)
  dsimp only at HF
  refine ev_callV (As := [.int (X (x4 + 1).toNatClampNeg)]) (R1 := (some (.int z5), h4)) (lk_X11_player (d := 1) (Nat.le_refl _) c2 e3) ce_X11_player im_X11_player sl_X11_player ml_L_54 cl_X11 c2 dL_law_204 (by omega) (Nat.le_of_ble_eq_true rfl) rfl rfl ?_
  show EvG _ _ _ _ _ _ _ _ _ _ _ 207 [(0, .ref (gXb g)), (1, .ref a1), (2, .ref a2), (3, .ref a3), (4, .int x4)] [.int z5] h4
  show EvG _ _ _ _ _ _ _ _ _ _ _ 207 _ _ _
  refine ev_aload_n 2 dL_law_207 rfl ?_
  refine ev_aload_n 0 dL_law_208 rfl ?_
  refine ev_iload 4 dL_law_209 rfl ?_
  refine ev_iconst (v := 1) dL_law_211 (by decide) ?_
  refine ev_iadd dL_law_212 ?_
  refine ev_xld eL eX dL_law_213 c1 ?_
  replace HF := bind_ck HF
  obtain ⟨c7, HF⟩ := HF
  replace HF := bind_o HF
  obtain ⟨⟨z10, h9⟩, e8, HF⟩ := HF
  replace HF := bd_o (bd_o HF)
  dsimp only at HF
  refine ev_callV (As := [.int (X (x4 + 1).toNatClampNeg)]) (R1 := (some (.int z10), h9)) (lk_X12_player (d := 1) (Nat.le_refl _) c7 e8) ce_X12_player im_X12_player sl_X12_player ml_L_57 cl_X12 c7 dL_law_214 (by omega) (Nat.le_of_ble_eq_true rfl) rfl rfl ?_
  show EvG _ _ _ _ _ _ _ _ _ _ _ 217 [(0, .ref (gXb g)), (1, .ref a1), (2, .ref a2), (3, .ref a3), (4, .int x4)] [.int z10, .int z5] h9
  by_cases c12 : z5 = z10
  · replace HF := ite_T c12 HF
    refine ev_icmp_eqT (tgt := 1746) dL_law_217 (by decide) c12 ?_
    exact Ev.sub [0, 1, 2, 3, 4] rfl (lk_L_law_1746 hdd hl eL eX hend hb k23 hk23 a1 a2 a3 x4 _ HF)
  · replace HF := ite_F c12 HF
    refine ev_icmp_eqF (tgt := 1746) dL_law_217 (by decide) c12 ?_
    refine ev_iconst (v := 0) dL_law_220 (by decide) ?_
    exact absurd (show (0 : Int32) = 1 from congrArg Prod.fst (Option.some.inj HF)) (by decide)

set_option maxRecDepth 20000 in
theorem lk_L_law_172 {g : aG} {l : Launch} {d : Nat} {h0 : aH} (hdd : 12 ≤ d) (hl : l.stackTraces = false) {L : Nat} {X : Nat → Int32} (eL : gXL g = L) (eX : gXf g = X) {zc zs : Nat} {Z : List Frame → Array Value → State → State → Prop} (hend : ∀ {pc : Nat} {lv : List (Nat × Value)} {h : aH}, hz h ≤ zc → hs h ≤ zs → decode cL_law pc = .ok (.ireturn, 1) → EvG g l cL_law 8 yL_law (some .boolean) d h0 zc zs Z pc lv [.int 1] h) {h1 : aH} (hb : hz h1 ≤ zc ∧ hs h1 ≤ zs) (k23 : Nat → Nat → Nat → Int32 → aH → Option (Int32 × aH)) (hk23 : ∀ (a1 : Nat) (a2 : Nat) (a3 : Nat) (x4 : Int32) (h : aH), k23 a1 a2 a3 x4 h = some (1, h1) → EvG g l cL_law 8 yL_law (some .boolean) d h0 zc zs Z 23 [(0, .ref (gXb g)), (1, .ref a1), (2, .ref a2), (3, .ref a3), (4, .int x4)] [] h) (a1 : Nat) (a2 : Nat) (a3 : Nat) (x4 : Int32) (h : aH) (HF : F_L_law_172 L X k23 a1 a2 a3 x4 h = some (1, h1)) : EvG g l cL_law 8 yL_law (some .boolean) d h0 zc zs Z 172 [(0, .ref (gXb g)), (1, .ref a1), (2, .ref a2), (3, .ref a3), (4, .int x4)] [] h := by
  unfold F_L_law_172 at HF
  refine ev_aload_n 1 dL_law_172 rfl ?_
  refine ev_aload_n 0 dL_law_173 rfl ?_
  refine ev_iload 4 dL_law_174 rfl ?_
  refine ev_iconst (v := 1) dL_law_176 (by decide) ?_
  refine ev_iadd dL_law_177 ?_
  replace HF := bind_ck HF
  obtain ⟨c1, HF⟩ := HF
  refine ev_xld eL eX dL_law_178 c1 ?_
  replace HF := bind_ck HF
  obtain ⟨c2, HF⟩ := HF
  replace HF := bind_o HF
  obtain ⟨⟨z5, h4⟩, e3, HF⟩ := HF
  replace HF := bd_o (bd_o HF)
  dsimp only at HF
  refine ev_callV (As := [.int (X (x4 + 1).toNatClampNeg)]) (R1 := (some (.int z5), h4)) (lk_X11_side (d := 0) (Nat.le_refl _) c2 e3) ce_X11_side im_X11_side sl_X11_side ml_L_50 cl_X11 c2 dL_law_179 (by omega) (Nat.le_of_ble_eq_true rfl) rfl rfl ?_
  show EvG _ _ _ _ _ _ _ _ _ _ _ 182 [(0, .ref (gXb g)), (1, .ref a1), (2, .ref a2), (3, .ref a3), (4, .int x4)] [.int z5] h4
  show EvG _ _ _ _ _ _ _ _ _ _ _ 182 _ _ _
  refine ev_aload_n 2 dL_law_182 rfl ?_
  refine ev_aload_n 0 dL_law_183 rfl ?_
  refine ev_iload 4 dL_law_184 rfl ?_
  refine ev_iconst (v := 1) dL_law_186 (by decide) ?_
  refine ev_iadd dL_law_187 ?_
  refine ev_xld eL eX dL_law_188 c1 ?_
  replace HF := bind_ck HF
  obtain ⟨c7, HF⟩ := HF
  replace HF := bind_o HF
  obtain ⟨⟨z10, h9⟩, e8, HF⟩ := HF
  replace HF := bd_o (bd_o HF)
  dsimp only at HF
  refine ev_callV (As := [.int (X (x4 + 1).toNatClampNeg)]) (R1 := (some (.int z10), h9)) (lk_X12_side (d := 0) (Nat.le_refl _) c7 e8) ce_X12_side im_X12_side sl_X12_side ml_L_53 cl_X12 c7 dL_law_189 (by omega) (Nat.le_of_ble_eq_true rfl) rfl rfl ?_
  show EvG _ _ _ _ _ _ _ _ _ _ _ 192 [(0, .ref (gXb g)), (1, .ref a1), (2, .ref a2), (3, .ref a3), (4, .int x4)] [.int z10, .int z5] h9
  by_cases c12 : z5 = z10
  · replace HF := ite_T c12 HF
    refine ev_icmp_eqT (tgt := 1746) dL_law_192 (by decide) c12 ?_
    exact Ev.sub [0, 1, 2, 3, 4] rfl (lk_L_law_1746 hdd hl eL eX hend hb k23 hk23 a1 a2 a3 x4 _ HF)
  · replace HF := ite_F c12 HF
    refine ev_icmp_eqF (tgt := 1746) dL_law_192 (by decide) c12 ?_
    refine ev_iconst (v := 0) dL_law_195 (by decide) ?_
    exact absurd (show (0 : Int32) = 1 from congrArg Prod.fst (Option.some.inj HF)) (by decide)

set_option maxRecDepth 20000 in
theorem lk_L_law_23 {g : aG} {l : Launch} {d : Nat} {h0 : aH} (hdd : 12 ≤ d) (hl : l.stackTraces = false) {L : Nat} {X : Nat → Int32} (eL : gXL g = L) (eX : gXf g = X) {zc zs : Nat} {Z : List Frame → Array Value → State → State → Prop} (hend : ∀ {pc : Nat} {lv : List (Nat × Value)} {h : aH}, hz h ≤ zc → hs h ≤ zs → decode cL_law pc = .ok (.ireturn, 1) → EvG g l cL_law 8 yL_law (some .boolean) d h0 zc zs Z pc lv [.int 1] h) {h1 : aH} (hb : hz h1 ≤ zc ∧ hs h1 ≤ zs) : ∀ (n : Nat) (a1 : Nat) (a2 : Nat) (a3 : Nat) (x4 : Int32) (h : aH), F_L_law_23 L X  n a1 a2 a3 x4 h = some (1, h1) → EvG g l cL_law 8 yL_law (some .boolean) d h0 zc zs Z 23 [(0, .ref (gXb g)), (1, .ref a1), (2, .ref a2), (3, .ref a3), (4, .int x4)] [] h := by
  intro n
  induction n with
  | zero => intro a1 a2 a3 x4 h HF; cases HF
  | succ n ih =>
  intro a1 a2 a3 x4 h HF
  unfold F_L_law_23 at HF
  refine ev_iload 4 dL_law_23 rfl ?_
  refine ev_aload_n 0 dL_law_25 rfl ?_
  refine ev_xlen eL dL_law_26 ?_
  refine ev_bipush (v := 6) dL_law_27 (by decide) ?_
  refine ev_isub dL_law_29 ?_
  by_cases c1 : (Int32.ofNat L) - 6 < x4
  · replace HF := ite_T c1 HF
    refine ev_icmp_gtT (tgt := 1752) dL_law_30 (by decide) c1 ?_
    refine ev_iconst (v := 1) dL_law_1752 (by decide) ?_
    obtain rfl : h = h1 := congrArg Prod.snd (Option.some.inj HF)
    exact hend hb.1 hb.2 dL_law_1753
  · replace HF := ite_F c1 HF
    refine ev_icmp_gtF (tgt := 1752) dL_law_30 (by decide) c1 ?_
    refine ev_aload_n 0 dL_law_33 rfl ?_
    refine ev_iload 4 dL_law_34 rfl ?_
    replace HF := bind_ck HF
    obtain ⟨c2, HF⟩ := HF
    refine ev_xld eL eX dL_law_36 c2 ?_
    refine ev_bipush (v := 31) dL_law_37 (by decide) ?_
    refine ev_iand dL_law_39 ?_
    by_cases c3 : (X x4.toNatClampNeg) &&& 31 = 0
    · replace HF := ite_T c3 HF
      refine ev_swT (kk := 0) (tgt := 172) dL_law_40 c3 (by decide +kernel) (by decide +kernel) ?_
      exact Ev.sub [0, 1, 2, 3, 4] rfl (lk_L_law_172 hdd hl eL eX hend hb (F_L_law_23 L X n) ih a1 a2 a3 x4 _ HF)
    replace HF := ite_F c3 HF
    by_cases c4 : (X x4.toNatClampNeg) &&& 31 = 1
    · replace HF := ite_T c4 HF
      refine ev_swT (kk := 1) (tgt := 197) dL_law_40 c4 (by decide +kernel) (by decide +kernel) ?_
      exact Ev.sub [0, 1, 2, 3, 4] rfl (lk_L_law_197 hdd hl eL eX hend hb (F_L_law_23 L X n) ih a1 a2 a3 x4 _ HF)
    replace HF := ite_F c4 HF
    by_cases c5 : (X x4.toNatClampNeg) &&& 31 = 2
    · replace HF := ite_T c5 HF
      refine ev_swT (kk := 2) (tgt := 222) dL_law_40 c5 (by decide +kernel) (by decide +kernel) ?_
      exact Ev.sub [0, 1, 2, 3, 4] rfl (lk_L_law_222 hdd hl eL eX hend hb (F_L_law_23 L X n) ih a1 a2 a3 x4 _ HF)
    replace HF := ite_F c5 HF
    by_cases c6 : (X x4.toNatClampNeg) &&& 31 = 3
    · replace HF := ite_T c6 HF
      refine ev_swT (kk := 3) (tgt := 283) dL_law_40 c6 (by decide +kernel) (by decide +kernel) ?_
      exact Ev.sub [0, 1, 2, 3, 4] rfl (lk_L_law_283 hdd hl eL eX hend hb (F_L_law_23 L X n) ih a1 a2 a3 x4 _ HF)
    replace HF := ite_F c6 HF
    by_cases c7 : (X x4.toNatClampNeg) &&& 31 = 4
    · replace HF := ite_T c7 HF
      refine ev_swT (kk := 4) (tgt := 344) dL_law_40 c7 (by decide +kernel) (by decide +kernel) ?_
      exact Ev.sub [0, 1, 2, 3, 4] rfl (lk_L_law_344 hdd hl eL eX hend hb (F_L_law_23 L X n) ih a1 a2 a3 x4 _ HF)
    replace HF := ite_F c7 HF
    by_cases c8 : (X x4.toNatClampNeg) &&& 31 = 5
    · replace HF := ite_T c8 HF
      refine ev_swT (kk := 5) (tgt := 369) dL_law_40 c8 (by decide +kernel) (by decide +kernel) ?_
      exact Ev.sub [0, 1, 2, 3, 4] rfl (lk_L_law_369 hdd hl eL eX hend hb (F_L_law_23 L X n) ih a1 a2 a3 x4 _ HF)
    replace HF := ite_F c8 HF
    by_cases c9 : (X x4.toNatClampNeg) &&& 31 = 6
    · replace HF := ite_T c9 HF
      refine ev_swT (kk := 6) (tgt := 406) dL_law_40 c9 (by decide +kernel) (by decide +kernel) ?_
      exact Ev.sub [0, 1, 2, 3, 4] rfl (lk_L_law_406 hdd hl eL eX hend hb (F_L_law_23 L X n) ih a1 a2 a3 x4 _ HF)
    replace HF := ite_F c9 HF
    by_cases c10 : (X x4.toNatClampNeg) &&& 31 = 7
    · replace HF := ite_T c10 HF
      refine ev_swT (kk := 7) (tgt := 443) dL_law_40 c10 (by decide +kernel) (by decide +kernel) ?_
      exact Ev.sub [0, 1, 2, 3, 4] rfl (lk_L_law_443 hdd hl eL eX hend hb (F_L_law_23 L X n) ih a1 a2 a3 x4 _ HF)
    replace HF := ite_F c10 HF
    by_cases c11 : (X x4.toNatClampNeg) &&& 31 = 8
    · replace HF := ite_T c11 HF
      refine ev_swT (kk := 8) (tgt := 516) dL_law_40 c11 (by decide +kernel) (by decide +kernel) ?_
      exact Ev.sub [0, 1, 2, 3, 4] rfl (lk_L_law_516 hdd hl eL eX hend hb (F_L_law_23 L X n) ih a1 a2 a3 x4 _ HF)
    replace HF := ite_F c11 HF
    by_cases c12 : (X x4.toNatClampNeg) &&& 31 = 9
    · replace HF := ite_T c12 HF
      refine ev_swT (kk := 9) (tgt := 577) dL_law_40 c12 (by decide +kernel) (by decide +kernel) ?_
      exact Ev.sub [0, 1, 2, 3, 4] rfl (lk_L_law_577 hdd hl eL eX hend hb (F_L_law_23 L X n) ih a1 a2 a3 x4 _ HF)
    replace HF := ite_F c12 HF
    by_cases c13 : (X x4.toNatClampNeg) &&& 31 = 10
    · replace HF := ite_T c13 HF
      refine ev_swT (kk := 10) (tgt := 626) dL_law_40 c13 (by decide +kernel) (by decide +kernel) ?_
      exact Ev.sub [0, 1, 2, 3, 4] rfl (lk_L_law_626 hdd hl eL eX hend hb (F_L_law_23 L X n) ih a1 a2 a3 x4 _ HF)
    replace HF := ite_F c13 HF
    by_cases c14 : (X x4.toNatClampNeg) &&& 31 = 11
    · replace HF := ite_T c14 HF
      refine ev_swT (kk := 11) (tgt := 699) dL_law_40 c14 (by decide +kernel) (by decide +kernel) ?_
      exact Ev.sub [0, 1, 2, 3, 4] rfl (lk_L_law_699 hdd hl eL eX hend hb (F_L_law_23 L X n) ih a1 a2 a3 x4 _ HF)
    replace HF := ite_F c14 HF
    by_cases c15 : (X x4.toNatClampNeg) &&& 31 = 12
    · replace HF := ite_T c15 HF
      refine ev_swT (kk := 12) (tgt := 772) dL_law_40 c15 (by decide +kernel) (by decide +kernel) ?_
      exact Ev.sub [0, 1, 2, 3, 4] rfl (lk_L_law_772 hdd hl eL eX hend hb (F_L_law_23 L X n) ih a1 a2 a3 x4 _ HF)
    replace HF := ite_F c15 HF
    by_cases c16 : (X x4.toNatClampNeg) &&& 31 = 13
    · replace HF := ite_T c16 HF
      refine ev_swT (kk := 13) (tgt := 833) dL_law_40 c16 (by decide +kernel) (by decide +kernel) ?_
      exact Ev.sub [0, 1, 2, 3, 4] rfl (lk_L_law_833 hdd hl eL eX hend hb (F_L_law_23 L X n) ih a1 a2 a3 x4 _ HF)
    replace HF := ite_F c16 HF
    by_cases c17 : (X x4.toNatClampNeg) &&& 31 = 14
    · replace HF := ite_T c17 HF
      refine ev_swT (kk := 14) (tgt := 894) dL_law_40 c17 (by decide +kernel) (by decide +kernel) ?_
      exact Ev.sub [0, 1, 2, 3, 4] rfl (lk_L_law_894 hdd hl eL eX hend hb (F_L_law_23 L X n) ih a1 a2 a3 x4 _ HF)
    replace HF := ite_F c17 HF
    by_cases c18 : (X x4.toNatClampNeg) &&& 31 = 15
    · replace HF := ite_T c18 HF
      refine ev_swT (kk := 15) (tgt := 907) dL_law_40 c18 (by decide +kernel) (by decide +kernel) ?_
      exact Ev.sub [0, 1, 2, 3, 4] rfl (lk_L_law_907 hdd hl eL eX hend hb (F_L_law_23 L X n) ih a1 a2 a3 x4 _ HF)
    replace HF := ite_F c18 HF
    by_cases c19 : (X x4.toNatClampNeg) &&& 31 = 16
    · replace HF := ite_T c19 HF
      refine ev_swT (kk := 16) (tgt := 920) dL_law_40 c19 (by decide +kernel) (by decide +kernel) ?_
      exact Ev.sub [0, 1, 2, 3, 4] rfl (lk_L_law_920 hdd hl eL eX hend hb (F_L_law_23 L X n) ih a1 a2 a3 x4 _ HF)
    replace HF := ite_F c19 HF
    by_cases c20 : (X x4.toNatClampNeg) &&& 31 = 17
    · replace HF := ite_T c20 HF
      refine ev_swT (kk := 17) (tgt := 988) dL_law_40 c20 (by decide +kernel) (by decide +kernel) ?_
      exact Ev.sub [0, 1, 2, 3, 4] rfl (lk_L_law_988 hdd hl eL eX hend hb (F_L_law_23 L X n) ih a1 a2 a3 x4 _ HF)
    replace HF := ite_F c20 HF
    by_cases c21 : (X x4.toNatClampNeg) &&& 31 = 18
    · replace HF := ite_T c21 HF
      refine ev_swT (kk := 18) (tgt := 1068) dL_law_40 c21 (by decide +kernel) (by decide +kernel) ?_
      exact Ev.sub [0, 1, 2, 3, 4] rfl (lk_L_law_1068 hdd hl eL eX hend hb (F_L_law_23 L X n) ih a1 a2 a3 x4 _ HF)
    replace HF := ite_F c21 HF
    by_cases c22 : (X x4.toNatClampNeg) &&& 31 = 19
    · replace HF := ite_T c22 HF
      refine ev_swT (kk := 19) (tgt := 1160) dL_law_40 c22 (by decide +kernel) (by decide +kernel) ?_
      exact Ev.sub [0, 1, 2, 3, 4] rfl (lk_L_law_1160 hdd hl eL eX hend hb (F_L_law_23 L X n) ih a1 a2 a3 x4 _ HF)
    replace HF := ite_F c22 HF
    by_cases c23 : (X x4.toNatClampNeg) &&& 31 = 20
    · replace HF := ite_T c23 HF
      refine ev_swT (kk := 20) (tgt := 1252) dL_law_40 c23 (by decide +kernel) (by decide +kernel) ?_
      exact Ev.sub [0, 1, 2, 3, 4] rfl (lk_L_law_1252 hdd hl eL eX hend hb (F_L_law_23 L X n) ih a1 a2 a3 x4 _ HF)
    replace HF := ite_F c23 HF
    by_cases c24 : (X x4.toNatClampNeg) &&& 31 = 21
    · replace HF := ite_T c24 HF
      refine ev_swT (kk := 21) (tgt := 1344) dL_law_40 c24 (by decide +kernel) (by decide +kernel) ?_
      exact Ev.sub [0, 1, 2, 3, 4] rfl (lk_L_law_1344 hdd hl eL eX hend hb (F_L_law_23 L X n) ih a1 a2 a3 x4 _ HF)
    replace HF := ite_F c24 HF
    by_cases c25 : (X x4.toNatClampNeg) &&& 31 = 22
    · replace HF := ite_T c25 HF
      refine ev_swT (kk := 22) (tgt := 1436) dL_law_40 c25 (by decide +kernel) (by decide +kernel) ?_
      exact Ev.sub [0, 1, 2, 3, 4] rfl (lk_L_law_1436 hdd hl eL eX hend hb (F_L_law_23 L X n) ih a1 a2 a3 x4 _ HF)
    replace HF := ite_F c25 HF
    by_cases c26 : (X x4.toNatClampNeg) &&& 31 = 23
    · replace HF := ite_T c26 HF
      refine ev_swT (kk := 23) (tgt := 1504) dL_law_40 c26 (by decide +kernel) (by decide +kernel) ?_
      exact Ev.sub [0, 1, 2, 3, 4] rfl (lk_L_law_1504 hdd hl eL eX hend hb (F_L_law_23 L X n) ih a1 a2 a3 x4 _ HF)
    replace HF := ite_F c26 HF
    by_cases c27 : (X x4.toNatClampNeg) &&& 31 = 24
    · replace HF := ite_T c27 HF
      refine ev_swT (kk := 24) (tgt := 1529) dL_law_40 c27 (by decide +kernel) (by decide +kernel) ?_
      exact Ev.sub [0, 1, 2, 3, 4] rfl (lk_L_law_1529 hdd hl eL eX hend hb (F_L_law_23 L X n) ih a1 a2 a3 x4 _ HF)
    replace HF := ite_F c27 HF
    by_cases c28 : (X x4.toNatClampNeg) &&& 31 = 25
    · replace HF := ite_T c28 HF
      refine ev_swT (kk := 25) (tgt := 1585) dL_law_40 c28 (by decide +kernel) (by decide +kernel) ?_
      exact Ev.sub [0, 1, 2, 3, 4] rfl (lk_L_law_1585 hdd hl eL eX hend hb (F_L_law_23 L X n) ih a1 a2 a3 x4 _ HF)
    replace HF := ite_F c28 HF
    by_cases c29 : (X x4.toNatClampNeg) &&& 31 = 26
    · replace HF := ite_T c29 HF
      refine ev_swT (kk := 26) (tgt := 1610) dL_law_40 c29 (by decide +kernel) (by decide +kernel) ?_
      exact Ev.sub [0, 1, 2, 3, 4] rfl (lk_L_law_1610 hdd hl eL eX hend hb (F_L_law_23 L X n) ih a1 a2 a3 x4 _ HF)
    replace HF := ite_F c29 HF
    by_cases c30 : (X x4.toNatClampNeg) &&& 31 = 27
    · replace HF := ite_T c30 HF
      refine ev_swT (kk := 27) (tgt := 1635) dL_law_40 c30 (by decide +kernel) (by decide +kernel) ?_
      exact Ev.sub [0, 1, 2, 3, 4] rfl (lk_L_law_1635 hdd hl eL eX hend hb (F_L_law_23 L X n) ih a1 a2 a3 x4 _ HF)
    replace HF := ite_F c30 HF
    by_cases c31 : (X x4.toNatClampNeg) &&& 31 = 28
    · replace HF := ite_T c31 HF
      refine ev_swT (kk := 28) (tgt := 1691) dL_law_40 c31 (by decide +kernel) (by decide +kernel) ?_
      exact Ev.sub [0, 1, 2, 3, 4] rfl (lk_L_law_1691 hdd hl eL eX hend hb (F_L_law_23 L X n) ih a1 a2 a3 x4 _ HF)
    replace HF := ite_F c31 HF
    refine ev_swTd (ks := [0, 1, 2, 3, 4, 5, 6, 7, 8, 9, 10, 11, 12, 13, 14, 15, 16, 17, 18, 19, 20, 21, 22, 23, 24, 25, 26, 27, 28]) (tgt := 1746) dL_law_40 (by simp only [List.mem_cons, List.not_mem_nil, or_false, forall_eq_or_imp, forall_eq]; exact ⟨c3, c4, c5, c6, c7, c8, c9, c10, c11, c12, c13, c14, c15, c16, c17, c18, c19, c20, c21, c22, c23, c24, c25, c26, c27, c28, c29, c30, c31⟩) (by decide +kernel) (by decide) ?_
    exact Ev.sub [0, 1, 2, 3, 4] rfl (lk_L_law_1746 hdd hl eL eX hend hb (F_L_law_23 L X n) ih a1 a2 a3 x4 _ HF)

set_option maxRecDepth 20000 in
theorem lk_L_law_0 {g : aG} {l : Launch} {d : Nat} {h0 : aH} (hdd : 12 ≤ d) (hl : l.stackTraces = false) {L : Nat} {X : Nat → Int32} (eL : gXL g = L) (eX : gXf g = X) {zc zs : Nat} {Z : List Frame → Array Value → State → State → Prop} (hend : ∀ {pc : Nat} {lv : List (Nat × Value)} {h : aH}, hz h ≤ zc → hs h ≤ zs → decode cL_law pc = .ok (.ireturn, 1) → EvG g l cL_law 8 yL_law (some .boolean) d h0 zc zs Z pc lv [.int 1] h) {h1 : aH} (hb : hz h1 ≤ zc ∧ hs h1 ≤ zs) (h : aH) (HF : F_L_law_0 L X   h = some (1, h1)) : EvG g l cL_law 8 yL_law (some .boolean) d h0 zc zs Z 0 [(0, .ref (gXb g))] [] h := by
  unfold F_L_law_0 at HF
  refine ev_new cl_X11 kl_L_8 ins_X11 ini_X11 df_X11 dL_law_0 ?_
  replace HF := bd_n HF
  obtain ⟨b1, eb1, HF⟩ := HF
  refine ev_topR eb1 ?_
  replace HF := bd_n HF
  obtain ⟨h2, eh2, HF⟩ := HF
  refine ev_heap eh2 ?_
  refine ev_dup dL_law_3 rfl ?_
  replace HF := bind_ck HF
  obtain ⟨c3, HF⟩ := HF
  replace HF := bind_o HF
  obtain ⟨h5, e4, HF⟩ := HF
  refine ev_callI (As := []) (R1 := (none, h5)) (lk_X11_init (d := 4) (Nat.le_refl _) c3 e4) ce_X11_init rfl im_X11_init ml_L_46 dL_law_4 (by omega) (Nat.le_of_ble_eq_true rfl) rfl rfl ?_
  show EvG _ _ _ _ _ _ _ _ _ _ _ 7 [(0, .ref (gXb g))] [.ref b1] h5
  refine ev_astore_n (lv' := [(1, .ref b1), (0, .ref (gXb g))]) dL_law_7 (by decide) (rfl) ?_
  refine ev_new cl_X12 kl_L_47 ins_X12 ini_X12 df_X12 dL_law_8 ?_
  replace HF := bd_n HF
  obtain ⟨b7, eb7, HF⟩ := HF
  refine ev_topR eb7 ?_
  replace HF := bd_n HF
  obtain ⟨h8, eh8, HF⟩ := HF
  refine ev_heap eh8 ?_
  refine ev_dup dL_law_11 rfl ?_
  replace HF := bind_ck HF
  obtain ⟨c9, HF⟩ := HF
  replace HF := bind_o HF
  obtain ⟨h11, e10, HF⟩ := HF
  refine ev_callI (As := []) (R1 := (none, h11)) (lk_X12_init (d := 1) (Nat.le_refl _) c9 e10) ce_X12_init rfl im_X12_init ml_L_49 dL_law_12 (by omega) (Nat.le_of_ble_eq_true rfl) rfl rfl ?_
  show EvG _ _ _ _ _ _ _ _ _ _ _ 15 [(1, .ref b1), (0, .ref (gXb g))] [.ref b7] h11
  show EvG _ _ _ _ _ _ _ _ _ _ _ 15 _ _ _
  refine ev_astore_n (lv' := [(2, .ref b7), (1, .ref b1), (0, .ref (gXb g))]) dL_law_15 (by decide) (rfl) ?_
  refine ev_iconst (v := 1) dL_law_16 (by decide) ?_
  refine ev_newJ (n' := 1) ar_long dL_law_17 (by decide) (by decide) (by decide) ?_
  replace HF := bd_n HF
  obtain ⟨b13, eb13, HF⟩ := HF
  refine ev_topR eb13 ?_
  replace HF := bd_n HF
  obtain ⟨h14, eh14, HF⟩ := HF
  refine ev_heap eh14 ?_
  refine ev_astore_n (lv' := [(3, .ref b13), (2, .ref b7), (1, .ref b1), (0, .ref (gXb g))]) dL_law_19 (by decide) (rfl) ?_
  refine ev_iconst (v := 0) dL_law_20 (by decide) ?_
  refine ev_istore (lv' := [(4, .int 0), (3, .ref b13), (2, .ref b7), (1, .ref b1), (0, .ref (gXb g))]) dL_law_21 (by decide) (rfl) ?_
  exact Ev.sub [4, 3, 2, 1, 0] rfl (lk_L_law_23 hdd hl eL eX hend hb  fu b1 b7 b13 0 _ HF)

