def F_X0_init (t : Nat) (x1 : Int32) (h : aH) : Option (aH) :=
  bd (if x1 < 0 then 0 else x1) fun z1 =>
  (ck (¬ z1 < 0 ∧ z1.toNatClampNeg ≤ 10000000)).bind fun _ =>
  bd (hz h) fun b3 =>
  bd (nA h 21 z1.toNatClampNeg) fun h4 =>
  (ck (hK h4 t = 2)).bind fun _ =>
  bd (sG h4 100 t (some b3)) fun h6 =>
  bd (sF h6 101 t 0) fun h8 =>
  some h8

def F_X0_add (t : Nat) (x1 : Int32) (h : aH) : Option (aH) :=
  (hG h 100 t).bind fun b1 =>
  (ck (hK h b1 = 21)).bind fun _ =>
  if Int32.ofNat (hN h b1) ≤ hF h 101 t then
    some h
  else
    (hG h 100 t).bind fun b5 =>
    (ck (hK h b5 = 21 ∧ inR (hF h 101 t) (hN h b5))).bind fun _ =>
    bd (sI h b5 (hF h 101 t).toNatClampNeg (x1 &&& 255)) fun h8 =>
    bd (sF h8 101 t ((hF h8 101 t) + 1)) fun h11 =>
    some h11

def F_X0_addNumber (t : Nat) (x1 : Int32) (h : aH) : Option (aH) :=
  (F_X0_add t (x1 >>> (24 &&& 31)) h).bind fun h2 =>
  (ck (hK h2 t = 2)).bind fun _ =>
  (F_X0_add t (x1 >>> (16 &&& 31)) h2).bind fun h6 =>
  (ck (hK h6 t = 2)).bind fun _ =>
  (F_X0_add t (x1 >>> (8 &&& 31)) h6).bind fun h10 =>
  (ck (hK h10 t = 2)).bind fun _ =>
  (F_X0_add t x1 h10).bind fun h14 =>
  some h14

def F_X0_at (t : Nat) (x1 : Int32) (h : aH) : Option (Int32 × aH) :=
  if x1 < 0 then
    some ((-1), h)
  else
    if hF h 101 t ≤ x1 then
      some ((-1), h)
    else
      (hG h 100 t).bind fun b3 =>
      (ck (hK h b3 = 21 ∧ inR x1 (hN h b3))).bind fun _ =>
      some (hI h b3 x1.toNatClampNeg, h)

def F_X0_clear (t : Nat) (h : aH) : Option (aH) :=
  bd (sF h 101 t 0) fun h1 =>
  some h1

def F_X5_init (t : Nat) (x1 : Int32) (x2 : Int32) (h : aH) : Option (aH) :=
  bd (hz h) fun b1 =>
  bd (nA h 21 40) fun h2 =>
  (ck (hK h2 t = 7)).bind fun _ =>
  bd (sG h2 600 t (some b1)) fun h4 =>
  bd (sF h4 601 t x1) fun h6 =>
  bd (sF h6 602 t x2) fun h8 =>
  some h8

def F_X1_init (t : Nat) (h : aH) : Option (aH) :=
  bd (hz h) fun b1 =>
  bd (nO h 7 3) fun h2 =>
  (ck (hK h2 b1 = 7)).bind fun _ =>
  (F_X5_init b1 0 ((-1)) h2).bind fun h5 =>
  (ck (hK h5 t = 3)).bind fun _ =>
  bd (sG h5 200 t (some b1)) fun h8 =>
  bd (sF h8 201 t ((-1))) fun h10 =>
  bd (sF h10 202 t 0) fun h12 =>
  bd (sF h12 203 t ((-1))) fun h14 =>
  bd (sF h14 204 t ((-1))) fun h16 =>
  some h16

def F_X2_init_25 : Nat → Nat → Int32 → aH → Option (aH)
  | 0, _, _, _ => none
  | n + 1, t, x1, h =>
  (ck (hK h t = 4)).bind fun _ =>
  (hG h 300 t).bind fun b2 =>
  (ck (hK h b2 = 24)).bind fun _ =>
  if Int32.ofNat (hN h b2) ≤ x1 then
    some h
  else
    (hG h 300 t).bind fun b6 =>
    bd (hz h) fun b8 =>
    bd (nO h 3 5) fun h9 =>
    (ck (hK h9 b8 = 3)).bind fun _ =>
    (F_X1_init b8 h9).bind fun h12 =>
    (ck (hK h12 b6 = 24 ∧ inR x1 (hN h12 b6))).bind fun _ =>
    (ck (hK h12 b8 = 3)).bind fun _ =>
    bd (sO h12 b6 x1.toNatClampNeg (some b8)) fun h16 =>
    bd (x1 + 1) fun v18 =>
    F_X2_init_25 n t v18 h16

def F_X2_init (t : Nat) (h : aH) : Option (aH) :=
  bd (hz h) fun b1 =>
  bd (nA h 24 40) fun h2 =>
  (ck (hK h2 t = 4)).bind fun _ =>
  bd (sG h2 300 t (some b1)) fun h4 =>
  bd (sF h4 301 t 0) fun h6 =>
  bd (sF h6 302 t 0) fun h8 =>
  F_X2_init_25 fu t 0 h8

def F_X2_changeAt (t : Nat) (x1 : Int32) (h : aH) : Option (Option Nat × aH) :=
  if x1 < 0 then
    some (none, h)
  else
    (hG h 300 t).bind fun b2 =>
    (ck (hK h b2 = 24)).bind fun _ =>
    if Int32.ofNat (hN h b2) ≤ x1 then
      some (none, h)
    else
      (hG h 300 t).bind fun b6 =>
      (ck (hK h b6 = 24 ∧ inR x1 (hN h b6))).bind fun _ =>
      (hO h b6 x1.toNatClampNeg).bind fun b9 =>
      some (some b9, h)

def F_X5_has (t : Nat) (x1 : Int32) (h : aH) : Option (Int32 × aH) :=
  if x1 < 0 then
    some (0, h)
  else
    if hF h 602 t ≤ x1 then
      some (0, h)
    else
      if 40 ≤ x1 then
        some (0, h)
      else
        some (1, h)

def F_X5_at (t : Nat) (x1 : Int32) (h : aH) : Option (Int32 × aH) :=
  (F_X5_has t x1 h).bind fun q4 =>
  bd q4.1 fun z3 =>
  bd q4.2 fun h2 =>
  if z3 = 0 then
    some ((-1), h2)
  else
    (ck (hK h2 t = 7)).bind fun _ =>
    (hG h2 600 t).bind fun b7 =>
    (ck (hK h2 b7 = 21 ∧ inR x1 (hN h2 b7))).bind fun _ =>
    some (hI h2 b7 x1.toNatClampNeg, h2)

def F_X5_set (t : Nat) (x1 : Int32) (x2 : Int32) (h : aH) : Option (aH) :=
  (F_X5_has t x1 h).bind fun q4 =>
  bd q4.1 fun z3 =>
  bd q4.2 fun h2 =>
  if z3 = 0 then
    some h2
  else
    (ck (hK h2 t = 7)).bind fun _ =>
    (hG h2 600 t).bind fun b7 =>
    (ck (hK h2 b7 = 21 ∧ inR x1 (hN h2 b7))).bind fun _ =>
    bd (sI h2 b7 x1.toNatClampNeg x2) fun h10 =>
    some h10

def F_X5_copy_18 : Nat → Nat → Nat → Int32 → aH → Option (aH)
  | 0, _, _, _, _ => none
  | n + 1, t, a1, x2, h =>
  (ck (hK h t = 7)).bind fun _ =>
  if hF h 602 t ≤ x2 then
    some h
  else
    (ck (hK h a1 = 7)).bind fun _ =>
    (F_X5_at a1 x2 h).bind fun q7 =>
    bd q7.1 fun z6 =>
    bd q7.2 fun h5 =>
    (ck (hK h5 t = 7)).bind fun _ =>
    (F_X5_set t x2 z6 h5).bind fun h10 =>
    bd (x2 + 1) fun v12 =>
    F_X5_copy_18 n t a1 v12 h10

def F_X5_copy (t : Nat) (a1 : Nat) (h : aH) : Option (aH) :=
  (ck (hK h a1 = 7)).bind fun _ =>
  bd (sF h 601 t (hF h 601 a1)) fun h2 =>
  bd (sF h2 602 t (hF h2 602 a1)) fun h5 =>
  F_X5_copy_18 fu t a1 0 h5

def F_X2_push_78 (t : Nat) (y0 : Nat) (y1 : Int32) (h : aH) : Option (aH) :=
  (ck (hK h y0 = 4)).bind fun _ =>
  bd (sF h 301 y0 y1) fun h2 =>
  (ck (hK h2 t = 4)).bind fun _ =>
  bd (if 40 < (hF h2 302 t) + 1 then 40 else (hF h2 302 t) + 1) fun z5 =>
  bd (sF h2 302 t z5) fun h6 =>
  some h6

def F_X2_push_56 (t : Nat) (h : aH) : Option (aH) :=
  (ck (hK h t = 4)).bind fun _ =>
  if 40 ≤ (hF h 301 t) + 1 then
    F_X2_push_78 t t 0 h
  else
    F_X2_push_78 t t ((hF h 301 t) + 1) h

def F_X2_push (t : Nat) (x1 : Int32) (x2 : Int32) (x3 : Int32) (x4 : Int32) (x5 : Option Nat) (h : aH) : Option (aH) :=
  (F_X2_changeAt t (hF h 301 t) h).bind fun q4 =>
  bd q4.1 fun o3 =>
  bd q4.2 fun h2 =>
  match o3 with
  | none =>
    some h2
  | some b5 =>
    (ck (hK h2 b5 = 3)).bind fun _ =>
    bd (sF h2 201 b5 x1) fun h7 =>
    bd (sF h7 202 b5 x2) fun h9 =>
    bd (sF h9 203 b5 x3) fun h11 =>
    bd (sF h11 204 b5 x4) fun h13 =>
    match x5 with
    | none =>
      F_X2_push_56 t h13
    | some b15 =>
      (hG h13 200 b5).bind fun b16 =>
      (ck (hK h13 b16 = 7)).bind fun _ =>
      (F_X5_copy b16 b15 h13).bind fun h20 =>
      F_X2_push_56 t h20

def F_X2_pop_28 (t : Nat) (y0 : Nat) (y1 : Int32) (h : aH) : Option (Option Nat × aH) :=
  (ck (hK h y0 = 4)).bind fun _ =>
  bd (sF h 301 y0 y1) fun h2 =>
  (ck (hK h2 t = 4)).bind fun _ =>
  bd (sF h2 302 t ((hF h2 302 t) - 1)) fun h5 =>
  (F_X2_changeAt t (hF h5 301 t) h5).bind fun q11 =>
  bd q11.1 fun o10 =>
  bd q11.2 fun h9 =>
  some (o10, h9)

def F_X2_pop (t : Nat) (h : aH) : Option (Option Nat × aH) :=
  if 0 < hF h 302 t then
    if hF h 301 t ≤ 0 then
      F_X2_pop_28 t t 39 h
    else
      F_X2_pop_28 t t ((hF h 301 t) - 1) h
  else
    some (none, h)

def F_X4_init (t : Nat) (x1 : Int32) (x2 : Int32) (h : aH) : Option (aH) :=
  bd (if x1 < 0 then 0 else x1) fun z1 =>
  bd (sF h 500 t z1) fun h2 =>
  bd (if x2 < 0 then 0 else x2) fun z4 =>
  bd (sF h2 501 t z4) fun h5 =>
  (ck (¬ (hF h5 500 t) * (hF h5 501 t) < 0 ∧ ((hF h5 500 t) * (hF h5 501 t)).toNatClampNeg ≤ 10000000)).bind fun _ =>
  bd (hz h5) fun b8 =>
  bd (nA h5 21 (((hF h5 500 t) * (hF h5 501 t)).toNatClampNeg)) fun h9 =>
  (ck (hK h9 t = 6)).bind fun _ =>
  bd (sG h9 502 t (some b8)) fun h11 =>
  some h11

def F_X4_has (t : Nat) (x1 : Int32) (x2 : Int32) (h : aH) : Option (Int32 × aH) :=
  if x1 < 0 then
    some (0, h)
  else
    if hF h 500 t ≤ x1 then
      some (0, h)
    else
      if x2 < 0 then
        some (0, h)
      else
        if hF h 501 t ≤ x2 then
          some (0, h)
        else
          some (1, h)

def F_X4_set (t : Nat) (x1 : Int32) (x2 : Int32) (x3 : Int32) (h : aH) : Option (aH) :=
  (F_X4_has t x1 x2 h).bind fun q4 =>
  bd q4.1 fun z3 =>
  bd q4.2 fun h2 =>
  if z3 = 0 then
    some h2
  else
    (ck (hK h2 t = 6)).bind fun _ =>
    (hG h2 502 t).bind fun b7 =>
    (ck (hK h2 b7 = 21 ∧ inR ((x1 * (hF h2 501 t)) + x2) (hN h2 b7))).bind fun _ =>
    bd (sI h2 b7 ((x1 * (hF h2 501 t)) + x2).toNatClampNeg x3) fun h10 =>
    some h10

def F_X3_init_53 : Nat → Nat → Int32 → aH → Option (aH)
  | 0, _, _, _ => none
  | n + 1, t, x5, h =>
  if 11 ≤ x5 then
    some h
  else
    (ck (hK h t = 5)).bind fun _ =>
    (hG h 404 t).bind fun b3 =>
    (ck (hK h b3 = 6)).bind fun _ =>
    (F_X4_set b3 0 x5 x5 h).bind fun h7 =>
    (ck (hK h7 t = 5)).bind fun _ =>
    (hG h7 404 t).bind fun b10 =>
    (ck (hK h7 b10 = 6)).bind fun _ =>
    (F_X4_set b10 1 x5 x5 h7).bind fun h14 =>
    bd (x5 + 1) fun v16 =>
    F_X3_init_53 n t v16 h14

def F_X3_init (t : Nat) (x1 : Int32) (x2 : Int32) (x3 : Int32) (x4 : Int32) (h : aH) : Option (aH) :=
  bd (hz h) fun b1 =>
  bd (nO h 6 3) fun h2 =>
  (ck (hK h2 b1 = 6)).bind fun _ =>
  (F_X4_init b1 2 11 h2).bind fun h5 =>
  (ck (hK h5 t = 5)).bind fun _ =>
  bd (sG h5 404 t (some b1)) fun h8 =>
  bd (hz h8) fun b10 =>
  bd (nO h8 1 3) fun h11 =>
  (ck (hK h11 b10 = 1)).bind fun _ =>
  (F_Jx4a65c_init_da8c8 b10 h11).bind fun h14 =>
  (ck (hK h14 t = 5)).bind fun _ =>
  bd (sG h14 405 t (some b10)) fun h17 =>
  bd (sF h17 400 t x1) fun h19 =>
  bd (sF h19 401 t x2) fun h21 =>
  bd (sF h21 402 t x3) fun h23 =>
  bd (sF h23 403 t x4) fun h25 =>
  F_X3_init_53 fu t 0 h25

def F_X3_sideAt (t : Nat) (x1 : Int32) (h : aH) : Option (Int32 × aH) :=
  if x1 = 0 then
    some (hF h 400 t, h)
  else
    some (hF h 401 t, h)

def F_X4_at (t : Nat) (x1 : Int32) (x2 : Int32) (h : aH) : Option (Int32 × aH) :=
  (F_X4_has t x1 x2 h).bind fun q4 =>
  bd q4.1 fun z3 =>
  bd q4.2 fun h2 =>
  if z3 = 0 then
    some (0, h2)
  else
    (ck (hK h2 t = 6)).bind fun _ =>
    (hG h2 502 t).bind fun b7 =>
    (ck (hK h2 b7 = 21 ∧ inR ((x1 * (hF h2 501 t)) + x2) (hN h2 b7))).bind fun _ =>
    some (hI h2 b7 ((x1 * (hF h2 501 t)) + x2).toNatClampNeg, h2)

def F_X3_playerAt (t : Nat) (x1 : Int32) (x2 : Int32) (h : aH) : Option (Int32 × aH) :=
  (hG h 404 t).bind fun b1 =>
  (ck (hK h b1 = 6)).bind fun _ =>
  (F_X4_at b1 x1 x2 h).bind fun q7 =>
  bd q7.1 fun z6 =>
  bd q7.2 fun h5 =>
  some (z6, h5)

def F_X3_giveSeat_47 (k14 : Nat → Int32 → Int32 → Int32 → Int32 → Int32 → aH → Option (aH)) (t : Nat) (x1 : Int32) (x2 : Int32) (x3 : Int32) (x4 : Int32) (x5 : Int32) (h : aH) : Option (aH) :=
  bd (x5 + 1) fun v1 =>
  k14 t x1 x2 x3 x4 v1 h

def F_X3_giveSeat_14 : Nat → Nat → Int32 → Int32 → Int32 → Int32 → Int32 → aH → Option (aH)
  | 0, _, _, _, _, _, _, _ => none
  | n + 1, t, x1, x2, x3, x4, x5, h =>
  if 11 ≤ x5 then
    (ck (hK h t = 5)).bind fun _ =>
    (hG h 404 t).bind fun b3 =>
    (ck (hK h b3 = 6)).bind fun _ =>
    (F_X4_set b3 x1 x2 x3 h).bind fun h7 =>
    some h7
  else
    (ck (hK h t = 5)).bind fun _ =>
    (hG h 404 t).bind fun b10 =>
    (ck (hK h b10 = 6)).bind fun _ =>
    (F_X4_at b10 x1 x5 h).bind fun q16 =>
    bd q16.1 fun z15 =>
    bd q16.2 fun h14 =>
    if z15 = x3 then
      (ck (hK h14 t = 5)).bind fun _ =>
      (hG h14 404 t).bind fun b19 =>
      (ck (hK h14 b19 = 6)).bind fun _ =>
      (F_X4_set b19 x1 x5 x4 h14).bind fun h23 =>
      F_X3_giveSeat_47 (F_X3_giveSeat_14 n) t x1 x2 x3 x4 x5 h23
    else
      F_X3_giveSeat_47 (F_X3_giveSeat_14 n) t x1 x2 x3 x4 x5 h14

def F_X3_giveSeat (t : Nat) (x1 : Int32) (x2 : Int32) (x3 : Int32) (h : aH) : Option (aH) :=
  (hG h 404 t).bind fun b1 =>
  (ck (hK h b1 = 6)).bind fun _ =>
  (F_X4_at b1 x1 x2 h).bind fun q7 =>
  bd q7.1 fun z6 =>
  bd q7.2 fun h5 =>
  F_X3_giveSeat_14 fu t x1 x2 x3 z6 0 h5

def F_X3_turnCount (t : Nat) (h : aH) : Option (Int32 × aH) :=
  (hG h 405 t).bind fun b1 =>
  (ck (hK h b1 = 1)).bind fun _ =>
  (F_Jx4a65c_size_8abf5 b1 h).bind fun q7 =>
  bd q7.1 fun z6 =>
  bd q7.2 fun h5 =>
  some (z6, h5)

def F_X3_turnAt (t : Nat) (x1 : Int32) (h : aH) : Option (Option Nat × aH) :=
  if x1 < 0 then
    some (none, h)
  else
    (hG h 405 t).bind fun b2 =>
    (ck (hK h b2 = 1)).bind fun _ =>
    (F_Jx4a65c_size_8abf5 b2 h).bind fun q8 =>
    bd q8.1 fun z7 =>
    bd q8.2 fun h6 =>
    if z7 ≤ x1 then
      some (none, h6)
    else
      (ck (hK h6 t = 5)).bind fun _ =>
      (hG h6 405 t).bind fun b11 =>
      (ck (hK h6 b11 = 1)).bind fun _ =>
      (F_Jx4a65c_get_915e3 b11 x1 h6).bind fun q17 =>
      bd q17.1 fun o16 =>
      bd q17.2 fun h15 =>
      o16.bind fun b18 =>
      (ck (hK h15 b18 = 12)).bind fun _ =>
      some (some b18, h15)

def F_X3_addTurn (t : Nat) (a1 : Nat) (h : aH) : Option (aH) :=
  (hG h 405 t).bind fun b1 =>
  (ck (hK h b1 = 1)).bind fun _ =>
  (F_Jx4a65c_add_9ea2d b1 a1 h).bind fun q7 =>
  bd q7.1 fun z6 =>
  bd q7.2 fun h5 =>
  some h5

def F_X10_overCount (t : Nat) (h : aH) : Option (Int32 × aH) :=
  (hG h 1100 t).bind fun b1 =>
  (ck (hK h b1 = 1)).bind fun _ =>
  (F_Jx4a65c_size_8abf5 b1 h).bind fun q7 =>
  bd q7.1 fun z6 =>
  bd q7.2 fun h5 =>
  some (z6, h5)

def F_X3_overCountOf (t : Nat) (x1 : Int32) (h : aH) : Option (Int32 × aH) :=
  (F_X3_turnAt t x1 h).bind fun q4 =>
  bd q4.1 fun o3 =>
  bd q4.2 fun h2 =>
  match o3 with
  | none =>
    some (0, h2)
  | some b5 =>
    (ck (hK h2 b5 = 12)).bind fun _ =>
    (F_X10_overCount b5 h2).bind fun q10 =>
    bd q10.1 fun z9 =>
    bd q10.2 fun h8 =>
    some (z9, h8)

def F_X10_overAt (t : Nat) (x1 : Int32) (h : aH) : Option (Option Nat × aH) :=
  if x1 < 0 then
    some (none, h)
  else
    (hG h 1100 t).bind fun b2 =>
    (ck (hK h b2 = 1)).bind fun _ =>
    (F_Jx4a65c_size_8abf5 b2 h).bind fun q8 =>
    bd q8.1 fun z7 =>
    bd q8.2 fun h6 =>
    if z7 ≤ x1 then
      some (none, h6)
    else
      (ck (hK h6 t = 12)).bind fun _ =>
      (hG h6 1100 t).bind fun b11 =>
      (ck (hK h6 b11 = 1)).bind fun _ =>
      (F_Jx4a65c_get_915e3 b11 x1 h6).bind fun q17 =>
      bd q17.1 fun o16 =>
      bd q17.2 fun h15 =>
      o16.bind fun b18 =>
      (ck (hK h15 b18 = 7)).bind fun _ =>
      some (some b18, h15)

def F_X3_overAt (t : Nat) (x1 : Int32) (x2 : Int32) (h : aH) : Option (Option Nat × aH) :=
  (F_X3_turnAt t x1 h).bind fun q4 =>
  bd q4.1 fun o3 =>
  bd q4.2 fun h2 =>
  match o3 with
  | none =>
    some (none, h2)
  | some b5 =>
    (ck (hK h2 b5 = 12)).bind fun _ =>
    (F_X10_overAt b5 x2 h2).bind fun q10 =>
    bd q10.1 fun o9 =>
    bd q10.2 fun h8 =>
    some (o9, h8)

def F_X10_dropOver (t : Nat) (h : aH) : Option (aH) :=
  (hG h 1100 t).bind fun b1 =>
  (ck (hK h b1 = 1)).bind fun _ =>
  (F_Jx4a65c_isEmpty_aae02 b1 h).bind fun q7 =>
  bd q7.1 fun z6 =>
  bd q7.2 fun h5 =>
  if z6 = 0 then
    (ck (hK h5 t = 12)).bind fun _ =>
    (hG h5 1100 t).bind fun b10 =>
    (hG h5 1100 t).bind fun b12 =>
    (ck (hK h5 b12 = 1)).bind fun _ =>
    (F_Jx4a65c_size_8abf5 b12 h5).bind fun q18 =>
    bd q18.1 fun z17 =>
    bd q18.2 fun h16 =>
    (ck (hK h16 b10 = 1)).bind fun _ =>
    (F_Jx4a65c_remove_915e3 b10 (z17 - 1) h16).bind fun q23 =>
    bd q23.1 fun o22 =>
    bd q23.2 fun h21 =>
    some h21
  else
    some h5

def F_X3_takeBack (t : Nat) (a1 : Nat) (h : aH) : Option (aH) :=
  (ck (hK h a1 = 3)).bind fun _ =>
  (F_X3_turnAt t (hF h 203 a1) h).bind fun q5 =>
  bd q5.1 fun o4 =>
  bd q5.2 fun h3 =>
  match o4 with
  | none =>
    some h3
  | some b6 =>
    (ck (hK h3 a1 = 3)).bind fun _ =>
    if hF h3 202 a1 = 0 then
      (ck (hK h3 t = 5)).bind fun _ =>
      (hG h3 405 t).bind fun b10 =>
      (hG h3 405 t).bind fun b12 =>
      (ck (hK h3 b12 = 1)).bind fun _ =>
      (F_Jx4a65c_size_8abf5 b12 h3).bind fun q18 =>
      bd q18.1 fun z17 =>
      bd q18.2 fun h16 =>
      (ck (hK h16 b10 = 1)).bind fun _ =>
      (F_Jx4a65c_remove_915e3 b10 (z17 - 1) h16).bind fun q23 =>
      bd q23.1 fun o22 =>
      bd q23.2 fun h21 =>
      some h21
    else
      if hF h3 202 a1 = 1 then
        (ck (hK h3 b6 = 12)).bind fun _ =>
        (F_X10_dropOver b6 h3).bind fun h27 =>
        some h27
      else
        (ck (hK h3 b6 = 12)).bind fun _ =>
        (F_X10_overAt b6 (hF h3 204 a1) h3).bind fun q33 =>
        bd q33.1 fun o32 =>
        bd q33.2 fun h31 =>
        match o32 with
        | none =>
          some h31
        | some b34 =>
          (ck (hK h31 a1 = 3)).bind fun _ =>
          (hG h31 200 a1).bind fun b36 =>
          (ck (hK h31 b34 = 7)).bind fun _ =>
          (F_X5_copy b34 b36 h31).bind fun h40 =>
          some h40

def F_X10_imageSize_4 : Nat → Nat → Int32 → Int32 → Int32 → aH → Option (Int32 × aH)
  | 0, _, _, _, _, _ => none
  | n + 1, t, x1, x2, x3, h =>
  if x1 ≤ x3 then
    some (x2, h)
  else
    (ck (hK h t = 12)).bind fun _ =>
    (hG h 1100 t).bind fun b3 =>
    (ck (hK h b3 = 1)).bind fun _ =>
    (F_Jx4a65c_size_8abf5 b3 h).bind fun q9 =>
    bd q9.1 fun z8 =>
    bd q9.2 fun h7 =>
    if z8 ≤ x3 then
      some (x2, h7)
    else
      (ck (hK h7 t = 12)).bind fun _ =>
      (hG h7 1100 t).bind fun b12 =>
      (ck (hK h7 b12 = 1)).bind fun _ =>
      (F_Jx4a65c_get_915e3 b12 x3 h7).bind fun q18 =>
      bd q18.1 fun o17 =>
      bd q18.2 fun h16 =>
      o17.bind fun b19 =>
      (ck (hK h16 b19 = 7)).bind fun _ =>
      bd (if hF h16 602 b19 < 0 then 0 else hF h16 602 b19) fun z22 =>
      bd (x2 + (2 + z22)) fun v23 =>
      bd (x3 + 1) fun v24 =>
      F_X10_imageSize_4 n t x1 v23 v24 h16

def F_X10_imageSize (t : Nat) (x1 : Int32) (h : aH) : Option (Int32 × aH) :=
  F_X10_imageSize_4 fu t x1 0 0 h

def F_X3_placeOf_70 (t : Nat) (x1 : Int32) (x2 : Int32) (x3 : Int32) (x4 : Int32) (h : aH) : Option (Int32 × aH) :=
  (ck (hK h t = 5)).bind fun _ =>
  (F_X3_turnAt t x1 h).bind fun q5 =>
  bd q5.1 fun o4 =>
  bd q5.2 fun h3 =>
  match o4 with
  | none =>
    some (x4, h3)
  | some b6 =>
    if 0 ≤ x2 then
      (ck (hK h3 b6 = 12)).bind fun _ =>
      (F_X10_imageSize b6 x2 h3).bind fun q12 =>
      bd q12.1 fun z11 =>
      bd q12.2 fun h10 =>
      bd (x4 + (1 + z11)) fun v13 =>
      if 0 ≤ x3 then
        some ((v13 + 2) + x3, h10)
      else
        some (v13, h10)
    else
      some (x4, h3)

def F_X3_placeOf_7 : Nat → Nat → Int32 → Int32 → Int32 → Int32 → Int32 → aH → Option (Int32 × aH)
  | 0, _, _, _, _, _, _, _ => none
  | n + 1, t, x1, x2, x3, x4, x5, h =>
  if x1 ≤ x5 then
    F_X3_placeOf_70 t x1 x2 x3 x4 h
  else
    (ck (hK h t = 5)).bind fun _ =>
    (hG h 405 t).bind fun b3 =>
    (ck (hK h b3 = 1)).bind fun _ =>
    (F_Jx4a65c_size_8abf5 b3 h).bind fun q9 =>
    bd q9.1 fun z8 =>
    bd q9.2 fun h7 =>
    if z8 ≤ x5 then
      F_X3_placeOf_70 t x1 x2 x3 x4 h7
    else
      (ck (hK h7 t = 5)).bind fun _ =>
      (hG h7 405 t).bind fun b12 =>
      (ck (hK h7 b12 = 1)).bind fun _ =>
      (F_Jx4a65c_get_915e3 b12 x5 h7).bind fun q18 =>
      bd q18.1 fun o17 =>
      bd q18.2 fun h16 =>
      o17.bind fun b19 =>
      (ck (hK h16 b19 = 12)).bind fun _ =>
      (ck (hK h16 t = 5)).bind fun _ =>
      (hG h16 405 t).bind fun b23 =>
      (ck (hK h16 b23 = 1)).bind fun _ =>
      (F_Jx4a65c_get_915e3 b23 x5 h16).bind fun q29 =>
      bd q29.1 fun o28 =>
      bd q29.2 fun h27 =>
      o28.bind fun b30 =>
      (ck (hK h27 b30 = 12)).bind fun _ =>
      (F_X10_overCount b30 h27).bind fun q36 =>
      bd q36.1 fun z35 =>
      bd q36.2 fun h34 =>
      (ck (hK h34 b19 = 12)).bind fun _ =>
      (F_X10_imageSize b19 z35 h34).bind fun q41 =>
      bd q41.1 fun z40 =>
      bd q41.2 fun h39 =>
      bd (x4 + ((1 + z40) + 2)) fun v42 =>
      bd (x5 + 1) fun v43 =>
      F_X3_placeOf_7 n t x1 x2 x3 v42 v43 h39

def F_X3_placeOf (t : Nat) (x1 : Int32) (x2 : Int32) (x3 : Int32) (h : aH) : Option (Int32 × aH) :=
  F_X3_placeOf_7 fu t x1 x2 x3 28 0 h

def F_X3_imageSize (t : Nat) (h : aH) : Option (Int32 × aH) :=
  (F_X3_turnCount t h).bind fun q4 =>
  bd q4.1 fun z3 =>
  bd q4.2 fun h2 =>
  (ck (hK h2 t = 5)).bind fun _ =>
  (F_X3_placeOf t z3 ((-1)) ((-1)) h2).bind fun q9 =>
  bd q9.1 fun z8 =>
  bd q9.2 fun h7 =>
  some (z8, h7)

def F_X4_add (t : Nat) (x1 : Int32) (x2 : Int32) (x3 : Int32) (h : aH) : Option (aH) :=
  (F_X4_has t x1 x2 h).bind fun q4 =>
  bd q4.1 fun z3 =>
  bd q4.2 fun h2 =>
  if z3 = 0 then
    some h2
  else
    (ck (hK h2 t = 6)).bind fun _ =>
    (hG h2 502 t).bind fun b7 =>
    (ck (hK h2 b7 = 21 ∧ inR ((x1 * (hF h2 501 t)) + x2) (hN h2 b7))).bind fun _ =>
    bd (sI h2 b7 ((x1 * (hF h2 501 t)) + x2).toNatClampNeg ((hI h2 b7 ((x1 * (hF h2 501 t)) + x2).toNatClampNeg) + x3)) fun h10 =>
    some h10

def F_X4_fill_2 : Nat → Nat → Int32 → Int32 → aH → Option (aH)
  | 0, _, _, _, _ => none
  | n + 1, t, x1, x2, h =>
  (ck (hK h t = 6)).bind fun _ =>
  (hG h 502 t).bind fun b2 =>
  (ck (hK h b2 = 21)).bind fun _ =>
  if Int32.ofNat (hN h b2) ≤ x2 then
    some h
  else
    (hG h 502 t).bind fun b6 =>
    (ck (hK h b6 = 21 ∧ inR x2 (hN h b6))).bind fun _ =>
    bd (sI h b6 x2.toNatClampNeg x1) fun h9 =>
    bd (x2 + 1) fun v12 =>
    F_X4_fill_2 n t x1 v12 h9

def F_X4_fill (t : Nat) (x1 : Int32) (h : aH) : Option (aH) :=
  F_X4_fill_2 fu t x1 0 h

def F_X4_fillRow_2 : Nat → Nat → Int32 → Int32 → Int32 → aH → Option (aH)
  | 0, _, _, _, _, _ => none
  | n + 1, t, x1, x2, x3, h =>
  (ck (hK h t = 6)).bind fun _ =>
  if hF h 501 t ≤ x3 then
    some h
  else
    (F_X4_set t x1 x3 x2 h).bind fun h4 =>
    bd (x3 + 1) fun v6 =>
    F_X4_fillRow_2 n t x1 x2 v6 h4

def F_X4_fillRow (t : Nat) (x1 : Int32) (x2 : Int32) (h : aH) : Option (aH) :=
  F_X4_fillRow_2 fu t x1 x2 0 h

def F_X4_sumOf_5 : Nat → Nat → Int32 → Int32 → Int32 → Int32 → aH → Option (Int32 × aH)
  | 0, _, _, _, _, _, _ => none
  | n + 1, t, x1, x2, x3, x4, h =>
  if x2 ≤ x4 then
    some (x3, h)
  else
    (ck (hK h t = 6)).bind fun _ =>
    if hF h 500 t ≤ x4 then
      some (x3, h)
    else
      (F_X4_at t x4 x1 h).bind fun q7 =>
      bd q7.1 fun z6 =>
      bd q7.2 fun h5 =>
      bd (x3 + z6) fun v8 =>
      bd (x4 + 1) fun v9 =>
      F_X4_sumOf_5 n t x1 x2 v8 v9 h5

def F_X4_sumOf (t : Nat) (x1 : Int32) (x2 : Int32) (h : aH) : Option (Int32 × aH) :=
  F_X4_sumOf_5 fu t x1 x2 0 0 h

def F_X4_howMany_31 (k5 : Nat → Int32 → Int32 → Int32 → Int32 → aH → Option (Int32 × aH)) (t : Nat) (x1 : Int32) (x2 : Int32) (x4 : Int32) (y0 : Int32) (y1 : Int32) (h : aH) : Option (Int32 × aH) :=
  bd (y0 + y1) fun v1 =>
  bd (x4 + 1) fun v2 =>
  k5 t x1 x2 v1 v2 h

def F_X4_howMany_5 : Nat → Nat → Int32 → Int32 → Int32 → Int32 → aH → Option (Int32 × aH)
  | 0, _, _, _, _, _, _ => none
  | n + 1, t, x1, x2, x3, x4, h =>
  (ck (hK h t = 6)).bind fun _ =>
  if hF h 500 t ≤ x4 then
    some (x3, h)
  else
    (F_X4_at t x4 x1 h).bind fun q6 =>
    bd q6.1 fun z5 =>
    bd q6.2 fun h4 =>
    if z5 = x2 then
      F_X4_howMany_31 (F_X4_howMany_5 n) t x1 x2 x4 x3 1 h4
    else
      F_X4_howMany_31 (F_X4_howMany_5 n) t x1 x2 x4 x3 0 h4

def F_X4_howMany (t : Nat) (x1 : Int32) (x2 : Int32) (h : aH) : Option (Int32 × aH) :=
  F_X4_howMany_5 fu t x1 x2 0 0 h

def F_X5_isMissing (t : Nat) (h : aH) : Option (Int32 × aH) :=
  if 0 ≤ hF h 602 t then
    some (0, h)
  else
    some (1, h)

def F_X5_isFull (t : Nat) (h : aH) : Option (Int32 × aH) :=
  if hF h 602 t < 40 then
    some (0, h)
  else
    some (1, h)

def F_X5_insert_44 : Nat → Nat → Int32 → Int32 → Int32 → aH → Option (aH)
  | 0, _, _, _, _, _ => none
  | n + 1, t, x1, x2, x3, h =>
  if x3 ≤ x1 then
    (ck (hK h t = 7)).bind fun _ =>
    (F_X5_set t x1 x2 h).bind fun h4 =>
    some h4
  else
    (ck (hK h t = 7)).bind fun _ =>
    (F_X5_at t (x3 - 1) h).bind fun q10 =>
    bd q10.1 fun z9 =>
    bd q10.2 fun h8 =>
    (ck (hK h8 t = 7)).bind fun _ =>
    (F_X5_set t x3 z9 h8).bind fun h13 =>
    bd (x3 + (-1)) fun v15 =>
    F_X5_insert_44 n t x1 x2 v15 h13

def F_X5_insert (t : Nat) (x1 : Int32) (x2 : Int32) (h : aH) : Option (aH) :=
  (F_X5_isMissing t h).bind fun q4 =>
  bd q4.1 fun z3 =>
  bd q4.2 fun h2 =>
  if z3 = 0 then
    (ck (hK h2 t = 7)).bind fun _ =>
    (F_X5_isFull t h2).bind fun q10 =>
    bd q10.1 fun z9 =>
    bd q10.2 fun h8 =>
    if z9 = 0 then
      if x1 < 0 then
        some h8
      else
        (ck (hK h8 t = 7)).bind fun _ =>
        if x1 ≤ hF h8 602 t then
          bd (sF h8 602 t ((hF h8 602 t) + 1)) fun h15 =>
          bd ((hF h15 602 t) - 1) fun v17 =>
          F_X5_insert_44 fu t x1 x2 v17 h15
        else
          some h8
    else
      some h8
  else
    some h2

def F_X5_remove_11 : Nat → Nat → Int32 → aH → Option (aH)
  | 0, _, _, _ => none
  | n + 1, t, x2, h =>
  (ck (hK h t = 7)).bind fun _ =>
  if (hF h 602 t) - 1 ≤ x2 then
    bd (sF h 602 t ((hF h 602 t) - 1)) fun h3 =>
    some h3
  else
    (F_X5_at t (x2 + 1) h).bind fun q8 =>
    bd q8.1 fun z7 =>
    bd q8.2 fun h6 =>
    (ck (hK h6 t = 7)).bind fun _ =>
    (F_X5_set t x2 z7 h6).bind fun h11 =>
    bd (x2 + 1) fun v13 =>
    F_X5_remove_11 n t v13 h11

def F_X5_remove (t : Nat) (x1 : Int32) (h : aH) : Option (aH) :=
  (F_X5_has t x1 h).bind fun q4 =>
  bd q4.1 fun z3 =>
  bd q4.2 fun h2 =>
  if z3 = 0 then
    some h2
  else
    F_X5_remove_11 fu t x1 h2

def F_X9_init (t : Nat) (h : aH) : Option (aH) :=
  bd (hz h) fun b1 =>
  bd (nO h 6 3) fun h2 =>
  (ck (hK h2 b1 = 6)).bind fun _ =>
  (F_X4_init b1 11 3 h2).bind fun h5 =>
  (ck (hK h5 t = 11)).bind fun _ =>
  bd (sG h5 1000 t (some b1)) fun h8 =>
  bd (hz h8) fun b10 =>
  bd (nO h8 6 3) fun h11 =>
  (ck (hK h11 b10 = 6)).bind fun _ =>
  (F_X4_init b10 11 3 h11).bind fun h14 =>
  (ck (hK h14 t = 11)).bind fun _ =>
  bd (sG h14 1001 t (some b10)) fun h17 =>
  bd (hz h17) fun b19 =>
  bd (nO h17 6 3) fun h20 =>
  (ck (hK h20 b19 = 6)).bind fun _ =>
  (F_X4_init b19 120 5 h20).bind fun h23 =>
  (ck (hK h23 t = 11)).bind fun _ =>
  bd (sG h23 1002 t (some b19)) fun h26 =>
  bd (sF h26 1003 t 0) fun h28 =>
  bd (sF h28 1015 t ((-1))) fun h30 =>
  bd (sF h30 1016 t ((-1))) fun h32 =>
  bd (sF h32 1017 t ((-1))) fun h34 =>
  some h34

def F_X6_init_25 : Nat → Nat → Int32 → aH → Option (aH)
  | 0, _, _, _ => none
  | n + 1, t, x1, h =>
  (ck (hK h t = 8)).bind fun _ =>
  (hG h 700 t).bind fun b2 =>
  (ck (hK h b2 = 25)).bind fun _ =>
  if Int32.ofNat (hN h b2) ≤ x1 then
    bd (sF h 704 t ((-1))) fun h6 =>
    some h6
  else
    (hG h 700 t).bind fun b9 =>
    bd (hz h) fun b11 =>
    bd (nO h 11 19) fun h12 =>
    (ck (hK h12 b11 = 11)).bind fun _ =>
    (F_X9_init b11 h12).bind fun h15 =>
    (ck (hK h15 b9 = 25 ∧ inR x1 (hN h15 b9))).bind fun _ =>
    (ck (hK h15 b11 = 11)).bind fun _ =>
    bd (sO h15 b9 x1.toNatClampNeg (some b11)) fun h19 =>
    bd (x1 + 1) fun v21 =>
    F_X6_init_25 n t v21 h19

def F_X6_init (t : Nat) (h : aH) : Option (aH) :=
  bd (hz h) fun b1 =>
  bd (nA h 25 4) fun h2 =>
  (ck (hK h2 t = 8)).bind fun _ =>
  bd (sG h2 700 t (some b1)) fun h4 =>
  bd (hz h4) fun b6 =>
  bd (nO h4 11 19) fun h7 =>
  (ck (hK h7 b6 = 11)).bind fun _ =>
  (F_X9_init b6 h7).bind fun h10 =>
  (ck (hK h10 t = 8)).bind fun _ =>
  bd (sG h10 701 t (some b6)) fun h13 =>
  F_X6_init_25 fu t 0 h13

def F_X6_tallyAt (t : Nat) (x1 : Int32) (h : aH) : Option (Option Nat × aH) :=
  if x1 < 0 then
    (hG h 701 t).bind fun b2 =>
    some (some b2, h)
  else
    if 4 ≤ x1 then
      (hG h 701 t).bind fun b5 =>
      some (some b5, h)
    else
      (hG h 700 t).bind fun b7 =>
      (ck (hK h b7 = 25 ∧ inR x1 (hN h b7))).bind fun _ =>
      (hO h b7 x1.toNatClampNeg).bind fun b10 =>
      some (some b10, h)

def F_X9_clear (t : Nat) (h : aH) : Option (aH) :=
  bd (sF h 1003 t 0) fun h1 =>
  (hG h1 1000 t).bind fun b3 =>
  (ck (hK h1 b3 = 6)).bind fun _ =>
  (F_X4_fill b3 0 h1).bind fun h7 =>
  (ck (hK h7 t = 11)).bind fun _ =>
  (hG h7 1001 t).bind fun b10 =>
  (ck (hK h7 b10 = 6)).bind fun _ =>
  (F_X4_fill b10 0 h7).bind fun h14 =>
  (ck (hK h14 t = 11)).bind fun _ =>
  bd (sF h14 1004 t 0) fun h17 =>
  bd (sF h17 1005 t 0) fun h19 =>
  bd (sF h19 1006 t 0) fun h21 =>
  bd (sF h21 1007 t 0) fun h23 =>
  bd (sF h23 1008 t 0) fun h25 =>
  bd (sF h25 1009 t 0) fun h27 =>
  bd (sF h27 1010 t 0) fun h29 =>
  bd (sF h29 1011 t 0) fun h31 =>
  bd (sF h31 1012 t 0) fun h33 =>
  bd (sF h33 1013 t 0) fun h35 =>
  bd (sF h35 1014 t 0) fun h37 =>
  bd (sF h37 1015 t ((-1))) fun h39 =>
  bd (sF h39 1016 t ((-1))) fun h41 =>
  bd (sF h41 1017 t ((-1))) fun h43 =>
  bd (sF h43 1018 t 0) fun h45 =>
  some h45

def F_X6_start_52 : Nat → Nat → Nat → Int32 → aH → Option (aH)
  | 0, _, _, _, _ => none
  | n + 1, t, a1, x2, h =>
  (ck (hK h a1 = 5)).bind fun _ =>
  (F_X3_turnCount a1 h).bind fun q5 =>
  bd q5.1 fun z4 =>
  bd q5.2 fun h3 =>
  if z4 ≤ x2 then
    some h3
  else
    (ck (hK h3 t = 8)).bind fun _ =>
    (F_X6_tallyAt t x2 h3).bind fun q11 =>
    bd q11.1 fun o10 =>
    bd q11.2 fun h9 =>
    o10.bind fun b12 =>
    (ck (hK h9 b12 = 11)).bind fun _ =>
    (F_X9_clear b12 h9).bind fun h16 =>
    bd (x2 + 1) fun v18 =>
    F_X6_start_52 n t a1 v18 h16

def F_X6_start (t : Nat) (a1 : Nat) (h : aH) : Option (aH) :=
  (ck (hK h a1 = 5)).bind fun _ =>
  bd (sF h 702 t (hF h 402 a1)) fun h2 =>
  bd (sF h2 703 t ((2 * (hF h2 403 a1)) - 1)) fun h5 =>
  bd (sF h5 704 t ((-1))) fun h8 =>
  bd (sF h8 705 t 0) fun h11 =>
  bd (sF h11 706 t 0) fun h14 =>
  bd (sF h14 707 t ((-1))) fun h17 =>
  bd (sF h17 708 t ((-1))) fun h20 =>
  bd (sF h20 709 t ((-1))) fun h23 =>
  F_X6_start_52 fu t a1 0 h23

def F_X6_ruleOfTurn_19 (t : Nat) (x1 : Int32) (h : aH) : Option (Int32 × aH) :=
  (ck (hK h t = 8)).bind fun _ =>
  if hF h 705 t = 0 then
    if x1 ≤ hF h 703 t then
      some (0, h)
    else
      some (2, h)
  else
    some (2, h)

def F_X6_ruleOfTurn (t : Nat) (x1 : Int32) (h : aH) : Option (Int32 × aH) :=
  if x1 ≤ 0 then
    F_X6_ruleOfTurn_19 t x1 h
  else
    (F_X6_tallyAt t (x1 - 1) h).bind fun q5 =>
    bd q5.1 fun o4 =>
    bd q5.2 fun h3 =>
    o4.bind fun b6 =>
    (ck (hK h3 b6 = 11)).bind fun _ =>
    if hF h3 1010 b6 = 0 then
      some (1, h3)
    else
      F_X6_ruleOfTurn_19 t x1 h3

def F_X6_stops (t : Nat) (x1 : Int32) (x2 : Int32) (x3 : Int32) (x4 : Int32) (h : aH) : Option (Int32 × aH) :=
  if x1 = 0 then
    some (0, h)
  else
    bd (sF h 706 t x1) fun h2 =>
    bd (sF h2 707 t x2) fun h4 =>
    bd (sF h4 708 t x3) fun h6 =>
    bd (sF h6 709 t x4) fun h8 =>
    some (1, h8)

def F_X11_table (x0 : Int32) (x1 : Int32) (h : aH) : Option (Int32 × aH) :=
  some (((((1000 * ((100 - (x1 * x1)).toInt64)) * x0.toInt64) * ((1440 - x0).toInt64)) / 51840000).toInt32, h)

def F_X9_begin (t : Nat) (x1 : Int32) (h : aH) : Option (aH) :=
  bd (sF h 1003 t 1) fun h1 =>
  bd (sF h1 1008 t x1) fun h3 =>
  (F_X11_table (6 * (hF h3 1008 t)) 0 h3).bind fun q8 =>
  bd q8.1 fun z7 =>
  bd q8.2 fun h6 =>
  (ck (hK h6 t = 11)).bind fun _ =>
  bd (sF h6 1009 t z7) fun h10 =>
  bd (sF h10 1016 t 0) fun h12 =>
  bd (sF h12 1017 t 1) fun h14 =>
  bd (sF h14 1018 t 2) fun h16 =>
  (hG h16 1000 t).bind fun b18 =>
  (ck (hK h16 b18 = 6)).bind fun _ =>
  (F_X4_set b18 (hF h16 1016 t) 2 1 h16).bind fun h22 =>
  (ck (hK h22 t = 11)).bind fun _ =>
  (hG h22 1000 t).bind fun b25 =>
  (ck (hK h22 b25 = 6)).bind fun _ =>
  (F_X4_set b25 (hF h22 1017 t) 2 1 h22).bind fun h29 =>
  some h29

def F_X6_beginTurn_23 (t : Nat) (x1 : Int32) (y0 : Int32) (h : aH) : Option (aH) :=
  (ck (hK h t = 8)).bind fun _ =>
  (F_X6_tallyAt t x1 h).bind fun q5 =>
  bd q5.1 fun o4 =>
  bd q5.2 fun h3 =>
  if y0 = 0 then
    (ck (hK h3 t = 8)).bind fun _ =>
    o4.bind fun b8 =>
    (ck (hK h3 b8 = 11)).bind fun _ =>
    (F_X9_begin b8 (hF h3 702 t) h3).bind fun h12 =>
    some h12
  else
    (ck (hK h3 t = 8)).bind fun _ =>
    (F_X6_tallyAt t 0 h3).bind fun q18 =>
    bd q18.1 fun o17 =>
    bd q18.2 fun h16 =>
    o17.bind fun b19 =>
    (ck (hK h16 b19 = 11)).bind fun _ =>
    o4.bind fun b22 =>
    (ck (hK h16 b22 = 11)).bind fun _ =>
    (F_X9_begin b22 (hF h16 1008 b19) h16).bind fun h26 =>
    some h26

def F_X6_beginTurn_22 (t : Nat) (x1 : Int32) (h : aH) : Option (aH) :=
  F_X6_beginTurn_23 t x1 0 h

def F_X6_beginTurn (t : Nat) (x1 : Int32) (h : aH) : Option (aH) :=
  bd (sF h 704 t x1) fun h1 =>
  if x1 = 1 then
    if hF h1 703 t = 1 then
      F_X6_beginTurn_23 t x1 1 h1
    else
      F_X6_beginTurn_22 t x1 h1
  else
    F_X6_beginTurn_22 t x1 h1

def F_X9_ruleOfOver (t : Nat) (x1 : Int32) (x2 : Int32) (h : aH) : Option (Int32 × aH) :=
  if hF h 1010 t = 0 then
    if hF h 1011 t < hF h 1008 t then
      if x1 < 0 then
        some (4, h)
      else
        if x1 < 11 then
          if x1 = hF h 1015 t then
            some (5, h)
          else
            (hG h 1001 t).bind fun b6 =>
            (ck (hK h b6 = 6)).bind fun _ =>
            (F_X4_at b6 x1 0 h).bind fun q12 =>
            bd q12.1 fun z11 =>
            bd q12.2 fun h10 =>
            if z11 < x2 then
              some (0, h10)
            else
              some (6, h10)
        else
          some (4, h)
    else
      some (3, h)
  else
    some (3, h)

def F_X6_ruleOfOver (t : Nat) (x1 : Int32) (h : aH) : Option (Int32 × aH) :=
  (F_X6_tallyAt t (hF h 704 t) h).bind fun q4 =>
  bd q4.1 fun o3 =>
  bd q4.2 fun h2 =>
  (ck (hK h2 t = 8)).bind fun _ =>
  o3.bind fun b6 =>
  (ck (hK h2 b6 = 11)).bind fun _ =>
  (F_X9_ruleOfOver b6 x1 (((hF h2 702 t) + 4) / 5) h2).bind fun q12 =>
  bd q12.1 fun z11 =>
  bd q12.2 fun h10 =>
  some (z11, h10)

def F_X9_changeEnds (t : Nat) (h : aH) : Option (aH) :=
  bd (hF h 1016 t) fun v1 =>
  bd (sF h 1016 t (hF h 1017 t)) fun h2 =>
  bd (sF h2 1017 t v1) fun h4 =>
  some h4

def F_X9_endOver_44 (t : Nat) (h : aH) : Option (aH) :=
  (ck (hK h t = 11)).bind fun _ =>
  bd (sF h 1012 t ((hF h 1012 t) + 1)) fun h2 =>
  bd (sF h2 1014 t 0) fun h4 =>
  (F_X9_changeEnds t h4).bind fun h7 =>
  some h7

def F_X9_endOver (t : Nat) (x1 : Int32) (h : aH) : Option (aH) :=
  (hG h 1002 t).bind fun b1 =>
  (ck (hK h b1 = 6)).bind fun _ =>
  (F_X4_set b1 ((hF h 1011 t) - 1) 3 1 h).bind fun h5 =>
  if x1 = 0 then
    F_X9_endOver_44 t h5
  else
    (ck (hK h5 t = 11)).bind fun _ =>
    (hG h5 1002 t).bind fun b9 =>
    (ck (hK h5 b9 = 6)).bind fun _ =>
    (F_X4_set b9 ((hF h5 1011 t) - 1) 4 1 h5).bind fun h13 =>
    (ck (hK h13 t = 11)).bind fun _ =>
    bd (sF h13 1013 t ((hF h13 1013 t) + 1)) fun h16 =>
    F_X9_endOver_44 t h16

def F_X9_beginOver_16 (t : Nat) (a1 : Nat) (h : aH) : Option (aH) :=
  (ck (hK h t = 11)).bind fun _ =>
  (hG h 1002 t).bind fun b2 =>
  (ck (hK h b2 = 6)).bind fun _ =>
  (F_X4_fillRow b2 (hF h 1011 t) 0 h).bind fun h6 =>
  (ck (hK h6 t = 11)).bind fun _ =>
  bd (sF h6 1011 t ((hF h6 1011 t) + 1)) fun h9 =>
  (ck (hK h9 a1 = 7)).bind fun _ =>
  bd (sF h9 1015 t (hF h9 601 a1)) fun h12 =>
  (hG h12 1001 t).bind fun b15 =>
  (ck (hK h12 b15 = 6)).bind fun _ =>
  (F_X4_add b15 (hF h12 1015 t) 0 1 h12).bind fun h19 =>
  (ck (hK h19 a1 = 7)).bind fun _ =>
  (F_X5_isMissing a1 h19).bind fun q25 =>
  bd q25.1 fun z24 =>
  bd q25.2 fun h23 =>
  if z24 = 0 then
    some h23
  else
    (ck (hK h23 t = 11)).bind fun _ =>
    (F_X9_endOver t 1 h23).bind fun h29 =>
    some h29

def F_X9_beginOver (t : Nat) (a1 : Nat) (h : aH) : Option (aH) :=
  if hF h 1011 t ≤ hF h 1012 t then
    F_X9_beginOver_16 t a1 h
  else
    (F_X9_endOver t 1 h).bind fun h3 =>
    F_X9_beginOver_16 t a1 h3

def F_X6_target (t : Nat) (h : aH) : Option (Int32 × aH) :=
  if hF h 703 t ≤ 1 then
    (F_X6_tallyAt t 0 h).bind fun q5 =>
    bd q5.1 fun o4 =>
    bd q5.2 fun h3 =>
    o4.bind fun b6 =>
    (ck (hK h3 b6 = 11)).bind fun _ =>
    bd (hF h3 1004 b6) fun v9 =>
    (ck (hK h3 t = 8)).bind fun _ =>
    (F_X6_tallyAt t 0 h3).bind fun q14 =>
    bd q14.1 fun o13 =>
    bd q14.2 fun h12 =>
    o13.bind fun b15 =>
    (ck (hK h12 b15 = 11)).bind fun _ =>
    bd (hF h12 1009 b15) fun v18 =>
    (ck (hK h12 t = 8)).bind fun _ =>
    (F_X6_tallyAt t 1 h12).bind fun q23 =>
    bd q23.1 fun o22 =>
    bd q23.2 fun h21 =>
    o22.bind fun b24 =>
    (ck (hK h21 b24 = 11)).bind fun _ =>
    bd (hF h21 1009 b24) fun v27 =>
    if v27 ≤ v18 then
      if v18 ≤ 0 then
        some (1, h21)
      else
        (ck (¬ v18 = 0)).bind fun _ =>
        some (((v9 * v27) / v18) + 1, h21)
    else
      some ((v9 + ((200 * (v27 - v18)) / 1000)) + 1, h21)
  else
    (F_X6_tallyAt t 0 h).bind fun q34 =>
    bd q34.1 fun o33 =>
    bd q34.2 fun h32 =>
    o33.bind fun b35 =>
    (ck (hK h32 b35 = 11)).bind fun _ =>
    (ck (hK h32 t = 8)).bind fun _ =>
    (F_X6_tallyAt t 2 h32).bind fun q42 =>
    bd q42.1 fun o41 =>
    bd q42.2 fun h40 =>
    o41.bind fun b43 =>
    (ck (hK h40 b43 = 11)).bind fun _ =>
    (ck (hK h40 t = 8)).bind fun _ =>
    (F_X6_tallyAt t 1 h40).bind fun q50 =>
    bd q50.1 fun o49 =>
    bd q50.2 fun h48 =>
    o49.bind fun b51 =>
    (ck (hK h48 b51 = 11)).bind fun _ =>
    some ((((hF h32 1004 b35) + (hF h40 1004 b43)) - (hF h48 1004 b51)) + 1, h48)

def F_X6_findWinner (t : Nat) (a1 : Nat) (h : aH) : Option (aH) :=
  if hF h 704 t = hF h 703 t then
    (F_X6_target t h).bind fun q5 =>
    bd q5.1 fun z4 =>
    bd q5.2 fun h3 =>
    (ck (hK h3 a1 = 11)).bind fun _ =>
    bd (z4 - (hF h3 1004 a1)) fun v7 =>
    if 0 < v7 then
      if v7 = 1 then
        (ck (hK h3 t = 8)).bind fun _ =>
        bd (sF h3 705 t 3) fun h11 =>
        some h11
      else
        (ck (hK h3 t = 8)).bind fun _ =>
        bd (sF h3 705 t 1) fun h15 =>
        some h15
    else
      (ck (hK h3 t = 8)).bind fun _ =>
      bd (sF h3 705 t 2) fun h19 =>
      some h19
  else
    if hF h 704 t = 2 then
      (F_X6_target t h).bind fun q26 =>
      bd q26.1 fun z25 =>
      bd q26.2 fun h24 =>
      if 1 ≤ z25 then
        some h24
      else
        (ck (hK h24 t = 8)).bind fun _ =>
        bd (sF h24 705 t 2) fun h29 =>
        some h29
    else
      some h

def F_X6_endTurn_84 (t : Nat) (x2 : Option Nat) (h : aH) : Option (aH) :=
  x2.bind fun b1 =>
  (ck (hK h b1 = 11)).bind fun _ =>
  if hF h 1010 b1 = 0 then
    some h
  else
    (ck (hK h t = 8)).bind fun _ =>
    (F_X6_findWinner t b1 h).bind fun h7 =>
    some h7

def F_X6_endTurn_39 (t : Nat) (x1 : Int32) (x2 : Option Nat) (h : aH) : Option (aH) :=
  x2.bind fun b1 =>
  (ck (hK h b1 = 11)).bind fun _ =>
  if hF h 1005 b1 < 10 then
    if x1 = 0 then
      if hF h 1012 b1 < hF h 1008 b1 then
        F_X6_endTurn_84 t (some b1) h
      else
        bd (sF h 1010 b1 2) fun h7 =>
        F_X6_endTurn_84 t (some b1) h7
    else
      bd (sF h 1010 b1 3) fun h9 =>
      F_X6_endTurn_84 t (some b1) h9
  else
    bd (sF h 1010 b1 1) fun h11 =>
    F_X6_endTurn_84 t (some b1) h11

def F_X6_endTurn (t : Nat) (x1 : Int32) (h : aH) : Option (aH) :=
  (F_X6_tallyAt t (hF h 704 t) h).bind fun q4 =>
  bd q4.1 fun o3 =>
  bd q4.2 fun h2 =>
  (ck (hK h2 t = 8)).bind fun _ =>
  if hF h2 704 t = hF h2 703 t then
    o3.bind fun b7 =>
    (ck (hK h2 b7 = 11)).bind fun _ =>
    (F_X6_target t h2).bind fun q13 =>
    bd q13.1 fun z12 =>
    bd q13.2 fun h11 =>
    if hF h2 1004 b7 < z12 then
      F_X6_endTurn_39 t x1 (some b7) h11
    else
      (ck (hK h11 b7 = 11)).bind fun _ =>
      bd (sF h11 1010 b7 4) fun h16 =>
      F_X6_endTurn_84 t (some b7) h16
  else
    F_X6_endTurn_39 t x1 o3 h2

def F_X11_counts (x0 : Int32) (h : aH) : Option (Int32 × aH) :=
  if x0 = 0 then
    some (1, h)
  else
    if x0 = 3 then
      some (1, h)
    else
      if x0 = 4 then
        some (1, h)
      else
        if x0 = 6 then
          some (1, h)
        else
          some (0, h)

def F_X9_ruleOfEntry_85 (t : Nat) (x2 : Int32) (x3 : Int32) (x4 : Int32) (h : aH) : Option (Int32 × aH) :=
  if x3 = 8 then
    if x2 = 0 then
      some (10, h)
    else
      (ck (hK h t = 11)).bind fun _ =>
      if hF h 1011 t ≤ (hF h 1008 t) - x4 then
        some (0, h)
      else
        some (10, h)
  else
    some (0, h)

def F_X9_ruleOfEntry (t : Nat) (x1 : Int32) (x2 : Int32) (h : aH) : Option (Int32 × aH) :=
  bd (x1 / 16) fun v1 =>
  bd (x1 - x1 / 16 * 16) fun v2 =>
  if v1 < 0 then
    some (7, h)
  else
    if 9 < v1 then
      some (7, h)
    else
      (ck (inR v1 10)).bind fun _ =>
      if v2 < lvLi v1.toNatClampNeg then
        some (7, h)
      else
        if v2 ≤ lvMi v1.toNatClampNeg then
          if hF h 1010 t = 0 then
            if hF h 1012 t = hF h 1011 t then
              (F_X11_counts v1 h).bind fun q13 =>
              bd q13.1 fun z12 =>
              bd q13.2 fun h11 =>
              if z12 = 0 then
                if v1 = 1 then
                  some (9, h11)
                else
                  if v1 = 2 then
                    some (9, h11)
                  else
                    F_X9_ruleOfEntry_85 t x2 v1 v2 h11
              else
                some (9, h11)
            else
              F_X9_ruleOfEntry_85 t x2 v1 v2 h
          else
            some (8, h)
        else
          some (7, h)

def F_X6_ruleOfEntry (t : Nat) (x1 : Int32) (h : aH) : Option (Int32 × aH) :=
  (F_X6_tallyAt t (hF h 704 t) h).bind fun q4 =>
  bd q4.1 fun o3 =>
  bd q4.2 fun h2 =>
  (ck (hK h2 t = 8)).bind fun _ =>
  if hF h2 703 t = 1 then
    o3.bind fun b7 =>
    (ck (hK h2 b7 = 11)).bind fun _ =>
    (F_X9_ruleOfEntry b7 x1 1 h2).bind fun q13 =>
    bd q13.1 fun z12 =>
    bd q13.2 fun h11 =>
    some (z12, h11)
  else
    o3.bind fun b14 =>
    (ck (hK h2 b14 = 11)).bind fun _ =>
    (F_X9_ruleOfEntry b14 x1 0 h2).bind fun q20 =>
    bd q20.1 fun z19 =>
    bd q20.2 fun h18 =>
    some (z19, h18)

def F_X9_cross (t : Nat) (x1 : Int32) (h : aH) : Option (aH) :=
  if x1 - x1 / 2 * 2 = 0 then
    some h
  else
    (F_X9_changeEnds t h).bind fun h3 =>
    some h3

def F_X9_hit (t : Nat) (x1 : Int32) (h : aH) : Option (aH) :=
  (hG h 1000 t).bind fun b1 =>
  (ck (hK h b1 = 6)).bind fun _ =>
  (F_X4_add b1 (hF h 1016 t) 0 x1 h).bind fun h5 =>
  (ck (hK h5 t = 11)).bind fun _ =>
  (hG h5 1001 t).bind fun b8 =>
  (ck (hK h5 b8 = 6)).bind fun _ =>
  (F_X4_add b8 (hF h5 1015 t) 1 x1 h5).bind fun h12 =>
  (ck (hK h12 t = 11)).bind fun _ =>
  bd (sF h12 1004 t ((hF h12 1004 t) + x1)) fun h15 =>
  (F_X9_cross t x1 h15).bind fun h18 =>
  some h18

def F_X9_concede (t : Nat) (h : aH) : Option (aH) :=
  (hG h 1001 t).bind fun b1 =>
  (ck (hK h b1 = 6)).bind fun _ =>
  (F_X4_add b1 (hF h 1015 t) 1 1 h).bind fun h5 =>
  (ck (hK h5 t = 11)).bind fun _ =>
  bd (sF h5 1006 t ((hF h5 1006 t) + 1)) fun h8 =>
  bd (sF h8 1004 t ((hF h8 1004 t) + 1)) fun h10 =>
  some h10

def F_X9_runOfNobody (t : Nat) (x1 : Int32) (h : aH) : Option (aH) :=
  bd (sF h 1007 t ((hF h 1007 t) + x1)) fun h1 =>
  bd (sF h1 1006 t ((hF h1 1006 t) + x1)) fun h3 =>
  bd (sF h3 1004 t ((hF h3 1004 t) + x1)) fun h5 =>
  (F_X9_cross t x1 h5).bind fun h8 =>
  some h8

def F_X9_leave_85 (t : Nat) (x1 : Int32) (x3 : Int32) (h : aH) : Option (aH) :=
  if x1 = 0 then
    (ck (hK h t = 11)).bind fun _ =>
    bd (sF h 1017 t x3) fun h3 =>
    some h3
  else
    (ck (hK h t = 11)).bind fun _ =>
    bd (sF h 1016 t x3) fun h6 =>
    some h6

def F_X9_leave (t : Nat) (x1 : Int32) (x2 : Int32) (h : aH) : Option (aH) :=
  (hG h 1000 t).bind fun b1 =>
  if x1 = 0 then
    (ck (hK h b1 = 6)).bind fun _ =>
    (F_X4_set b1 (hF h 1017 t) 2 x2 h).bind fun h6 =>
    (ck (hK h6 t = 11)).bind fun _ =>
    bd (sF h6 1005 t ((hF h6 1005 t) + 1)) fun h9 =>
    (hG h9 1002 t).bind fun b11 =>
    (ck (hK h9 b11 = 6)).bind fun _ =>
    (F_X4_add b11 ((hF h9 1011 t) - 1) 1 1 h9).bind fun h15 =>
    (ck (hK h15 t = 11)).bind fun _ =>
    if 10 ≤ hF h15 1005 t then
      F_X9_leave_85 t x1 ((-1)) h15
    else
      bd (hF h15 1018 t) fun v19 =>
      bd (sF h15 1018 t ((hF h15 1018 t) + 1)) fun h20 =>
      (hG h20 1000 t).bind fun b22 =>
      (ck (hK h20 b22 = 6)).bind fun _ =>
      (F_X4_set b22 v19 2 1 h20).bind fun h26 =>
      F_X9_leave_85 t x1 v19 h26
  else
    (ck (hK h b1 = 6)).bind fun _ =>
    (F_X4_set b1 (hF h 1016 t) 2 x2 h).bind fun h30 =>
    (ck (hK h30 t = 11)).bind fun _ =>
    bd (sF h30 1005 t ((hF h30 1005 t) + 1)) fun h33 =>
    (hG h33 1002 t).bind fun b35 =>
    (ck (hK h33 b35 = 6)).bind fun _ =>
    (F_X4_add b35 ((hF h33 1011 t) - 1) 1 1 h33).bind fun h39 =>
    (ck (hK h39 t = 11)).bind fun _ =>
    if 10 ≤ hF h39 1005 t then
      F_X9_leave_85 t x1 ((-1)) h39
    else
      bd (hF h39 1018 t) fun v43 =>
      bd (sF h39 1018 t ((hF h39 1018 t) + 1)) fun h44 =>
      (hG h44 1000 t).bind fun b46 =>
      (ck (hK h44 b46 = 6)).bind fun _ =>
      (F_X4_set b46 v43 2 1 h44).bind fun h50 =>
      F_X9_leave_85 t x1 v43 h50

def F_X9_ballsLeft (t : Nat) (h : aH) : Option (Int32 × aH) :=
  some ((6 * ((hF h 1008 t) - (hF h 1012 t))) - (hF h 1014 t), h)

def F_X9_takeAway (t : Nat) (x1 : Int32) (h : aH) : Option (aH) :=
  (F_X9_ballsLeft t h).bind fun q4 =>
  bd q4.1 fun z3 =>
  bd q4.2 fun h2 =>
  (ck (hK h2 t = 11)).bind fun _ =>
  (F_X11_table z3 (hF h2 1005 t) h2).bind fun q9 =>
  bd q9.1 fun z8 =>
  bd q9.2 fun h7 =>
  (ck (hK h7 t = 11)).bind fun _ =>
  bd (sF h7 1008 t ((hF h7 1008 t) - x1)) fun h11 =>
  (F_X9_ballsLeft t h11).bind fun q16 =>
  bd q16.1 fun z15 =>
  bd q16.2 fun h14 =>
  (ck (hK h14 t = 11)).bind fun _ =>
  (F_X11_table z15 (hF h14 1005 t) h14).bind fun q21 =>
  bd q21.1 fun z20 =>
  bd q21.2 fun h19 =>
  (ck (hK h19 t = 11)).bind fun _ =>
  bd (sF h19 1009 t ((hF h11 1009 t) - (z8 - z20))) fun h23 =>
  some h23

def F_X9_playEntry_247 (t : Nat) (h : aH) : Option (aH) :=
  (ck (hK h t = 11)).bind fun _ =>
  if hF h 1014 t = 6 then
    (F_X9_endOver t 0 h).bind fun h4 =>
    some h4
  else
    some h

def F_X9_playEntry_191 (t : Nat) (x2 : Int32) (x4 : Int32) (h : aH) : Option (aH) :=
  (ck (hK h t = 11)).bind fun _ =>
  (hG h 1002 t).bind fun b2 =>
  (ck (hK h b2 = 6)).bind fun _ =>
  (F_X4_add b2 ((hF h 1011 t) - 1) 0 ((hF h 1004 t) - x4) h).bind fun h6 =>
  (F_X11_counts x2 h6).bind fun q11 =>
  bd q11.1 fun z10 =>
  bd q11.2 fun h9 =>
  if z10 = 0 then
    F_X9_playEntry_247 t h9
  else
    (ck (hK h9 t = 11)).bind fun _ =>
    bd (sF h9 1014 t ((hF h9 1014 t) + 1)) fun h14 =>
    (hG h14 1002 t).bind fun b16 =>
    (ck (hK h14 b16 = 6)).bind fun _ =>
    (F_X4_set b16 ((hF h14 1011 t) - 1) 2 (hF h14 1014 t) h14).bind fun h20 =>
    F_X9_playEntry_247 t h20

def F_X9_playEntry_41 (t : Nat) (x2 : Int32) (x3 : Int32) (x4 : Int32) (h : aH) : Option (aH) :=
  if x2 = 0 then
    (ck (hK h t = 11)).bind fun _ =>
    (F_X9_hit t x3 h).bind fun h4 =>
    F_X9_playEntry_191 t x2 x4 h4
  else
  if x2 = 1 then
    (ck (hK h t = 11)).bind fun _ =>
    (F_X9_concede t h).bind fun h9 =>
    (ck (hK h9 t = 11)).bind fun _ =>
    (F_X9_runOfNobody t x3 h9).bind fun h13 =>
    F_X9_playEntry_191 t x2 x4 h13
  else
  if x2 = 2 then
    (ck (hK h t = 11)).bind fun _ =>
    (F_X9_concede t h).bind fun h18 =>
    (ck (hK h18 t = 11)).bind fun _ =>
    (F_X9_hit t x3 h18).bind fun h22 =>
    F_X9_playEntry_191 t x2 x4 h22
  else
  if x2 = 3 then
    (ck (hK h t = 11)).bind fun _ =>
    (hG h 1001 t).bind fun b26 =>
    (ck (hK h b26 = 6)).bind fun _ =>
    (F_X4_add b26 (hF h 1015 t) 2 1 h).bind fun h30 =>
    (ck (hK h30 t = 11)).bind fun _ =>
    (F_X9_leave t 1 (2 + x3) h30).bind fun h34 =>
    F_X9_playEntry_191 t x2 x4 h34
  else
  if x2 = 4 then
    (ck (hK h t = 11)).bind fun _ =>
    (F_X9_hit t (x3 / 2) h).bind fun h39 =>
    if x3 - x3 / 2 * 2 = 0 then
      (ck (hK h39 t = 11)).bind fun _ =>
      (F_X9_leave t 1 6 h39).bind fun h44 =>
      F_X9_playEntry_191 t x2 x4 h44
    else
      (ck (hK h39 t = 11)).bind fun _ =>
      (F_X9_leave t 0 6 h39).bind fun h48 =>
      F_X9_playEntry_191 t x2 x4 h48
  else
  if x2 = 6 then
    (ck (hK h t = 11)).bind fun _ =>
    (F_X9_runOfNobody t x3 h).bind fun h53 =>
    F_X9_playEntry_191 t x2 x4 h53
  else
  if x2 = 8 then
    (ck (hK h t = 11)).bind fun _ =>
    (F_X9_takeAway t x3 h).bind fun h58 =>
    F_X9_playEntry_191 t x2 x4 h58
  else
  F_X9_playEntry_191 t x2 x4 h

def F_X9_playEntry_28 (t : Nat) (x2 : Int32) (x3 : Int32) (x4 : Int32) (h : aH) : Option (aH) :=
  (ck (hK h t = 11)).bind fun _ =>
  (hG h 1000 t).bind fun b2 =>
  (ck (hK h b2 = 6)).bind fun _ =>
  (F_X4_add b2 (hF h 1016 t) 1 1 h).bind fun h6 =>
  F_X9_playEntry_41 t x2 x3 x4 h6

def F_X9_playEntry (t : Nat) (x1 : Int32) (h : aH) : Option (aH) :=
  bd (x1 / 16) fun v1 =>
  bd (x1 - x1 / 16 * 16) fun v2 =>
  bd (hF h 1004 t) fun v3 =>
  (F_X11_counts v1 h).bind fun q7 =>
  bd q7.1 fun z6 =>
  bd q7.2 fun h5 =>
  if z6 = 0 then
    if v1 = 2 then
      F_X9_playEntry_28 t v1 v2 v3 h5
    else
      F_X9_playEntry_41 t v1 v2 v3 h5
  else
    F_X9_playEntry_28 t v1 v2 v3 h5

def F_X6_replay_98 (k7 : Nat → Nat → Int32 → aH → Option (aH)) (k38 : Nat → Nat → Int32 → Int32 → aH → Option (aH)) : Nat → Nat → Nat → Int32 → Int32 → Nat → Int32 → aH → Option (aH)
  | 0, _, _, _, _, _, _, _ => none
  | n + 1, t, a1, x2, x3, a4, x5, h =>
  (ck (hK h a4 = 7)).bind fun _ =>
  if hF h 602 a4 ≤ x5 then
    bd (x3 + 1) fun v3 =>
    k38 t a1 x2 v3 h
  else
    (F_X5_at a4 x5 h).bind fun q7 =>
    bd q7.1 fun z6 =>
    bd q7.2 fun h5 =>
    (ck (hK h5 t = 8)).bind fun _ =>
    (F_X6_ruleOfEntry t z6 h5).bind fun q12 =>
    bd q12.1 fun z11 =>
    bd q12.2 fun h10 =>
    (ck (hK h10 t = 8)).bind fun _ =>
    (F_X6_stops t z11 x2 x3 x5 h10).bind fun q17 =>
    bd q17.1 fun z16 =>
    bd q17.2 fun h15 =>
    if z16 = 0 then
      (ck (hK h15 t = 8)).bind fun _ =>
      (F_X6_tallyAt t x2 h15).bind fun q23 =>
      bd q23.1 fun o22 =>
      bd q23.2 fun h21 =>
      (ck (hK h21 a4 = 7)).bind fun _ =>
      (F_X5_at a4 x5 h21).bind fun q28 =>
      bd q28.1 fun z27 =>
      bd q28.2 fun h26 =>
      o22.bind fun b29 =>
      (ck (hK h26 b29 = 11)).bind fun _ =>
      (F_X9_playEntry b29 z27 h26).bind fun h33 =>
      (ck (hK h33 a4 = 7)).bind fun _ =>
      (F_X5_at a4 x5 h33).bind fun q39 =>
      bd q39.1 fun z38 =>
      bd q39.2 fun h37 =>
      if z38 / 16 = 9 then
        (ck (hK h37 t = 8)).bind fun _ =>
        (F_X6_endTurn t 1 h37).bind fun h43 =>
        bd (x5 + 1) fun v45 =>
        F_X6_replay_98 k7 k38 n t a1 x2 x3 a4 v45 h43
      else
        (ck (hK h37 t = 8)).bind fun _ =>
        (F_X6_endTurn t 0 h37).bind fun h48 =>
        bd (x5 + 1) fun v50 =>
        F_X6_replay_98 k7 k38 n t a1 x2 x3 a4 v50 h48
    else
      some h15

def F_X6_replay_38 (k7 : Nat → Nat → Int32 → aH → Option (aH)) : Nat → Nat → Nat → Int32 → Int32 → aH → Option (aH)
  | 0, _, _, _, _, _ => none
  | n + 1, t, a1, x2, x3, h =>
  (ck (hK h a1 = 5)).bind fun _ =>
  (F_X3_overCountOf a1 x2 h).bind fun q5 =>
  bd q5.1 fun z4 =>
  bd q5.2 fun h3 =>
  if z4 ≤ x3 then
    bd (x2 + 1) fun v7 =>
    k7 t a1 v7 h3
  else
    (ck (hK h3 a1 = 5)).bind fun _ =>
    (F_X3_overAt a1 x2 x3 h3).bind fun q12 =>
    bd q12.1 fun o11 =>
    bd q12.2 fun h10 =>
    match o11 with
    | none =>
      some h10
    | some b13 =>
      (ck (hK h10 b13 = 7)).bind fun _ =>
      (ck (hK h10 t = 8)).bind fun _ =>
      (F_X6_ruleOfOver t (hF h10 601 b13) h10).bind fun q19 =>
      bd q19.1 fun z18 =>
      bd q19.2 fun h17 =>
      (ck (hK h17 t = 8)).bind fun _ =>
      (F_X6_stops t z18 x2 x3 ((-1)) h17).bind fun q24 =>
      bd q24.1 fun z23 =>
      bd q24.2 fun h22 =>
      if z23 = 0 then
        (ck (hK h22 t = 8)).bind fun _ =>
        (F_X6_tallyAt t x2 h22).bind fun q30 =>
        bd q30.1 fun o29 =>
        bd q30.2 fun h28 =>
        o29.bind fun b31 =>
        (ck (hK h28 b31 = 11)).bind fun _ =>
        (F_X9_beginOver b31 b13 h28).bind fun h35 =>
        (ck (hK h35 t = 8)).bind fun _ =>
        (F_X6_endTurn t 0 h35).bind fun h39 =>
        F_X6_replay_98 k7 (F_X6_replay_38 k7 n) fu t a1 x2 x3 b13 0 h39
      else
        some h22

def F_X6_replay_7 : Nat → Nat → Nat → Int32 → aH → Option (aH)
  | 0, _, _, _, _ => none
  | n + 1, t, a1, x2, h =>
  (ck (hK h a1 = 5)).bind fun _ =>
  (F_X3_turnCount a1 h).bind fun q5 =>
  bd q5.1 fun z4 =>
  bd q5.2 fun h3 =>
  if z4 ≤ x2 then
    some h3
  else
    (ck (hK h3 t = 8)).bind fun _ =>
    (F_X6_ruleOfTurn t x2 h3).bind fun q11 =>
    bd q11.1 fun z10 =>
    bd q11.2 fun h9 =>
    (ck (hK h9 t = 8)).bind fun _ =>
    (F_X6_stops t z10 x2 ((-1)) ((-1)) h9).bind fun q16 =>
    bd q16.1 fun z15 =>
    bd q16.2 fun h14 =>
    if z15 = 0 then
      (ck (hK h14 t = 8)).bind fun _ =>
      (F_X6_beginTurn t x2 h14).bind fun h20 =>
      F_X6_replay_38 (F_X6_replay_7 n) fu t a1 x2 0 h20
    else
      some h14

def F_X6_replay (t : Nat) (a1 : Nat) (h : aH) : Option (aH) :=
  (F_X6_start t a1 h).bind fun h2 =>
  F_X6_replay_7 fu t a1 0 h2

def F_X6_stillToBeHad (t : Nat) (a1 : Nat) (h : aH) : Option (Int32 × aH) :=
  (ck (hK h a1 = 11)).bind fun _ =>
  if hF h 1010 a1 = 0 then
    (F_X9_ballsLeft a1 h).bind fun q6 =>
    bd q6.1 fun z5 =>
    bd q6.2 fun h4 =>
    some (6 * z5, h4)
  else
    some (0, h)

def F_X6_figureOfChase (t : Nat) (a1 : Nat) (x2 : Int32) (h : aH) : Option (Int32 × aH) :=
  (F_X6_target t h).bind fun q4 =>
  bd q4.1 fun z3 =>
  bd q4.2 fun h2 =>
  (ck (hK h2 a1 = 11)).bind fun _ =>
  bd (if z3 - (hF h2 1004 a1) < 0 then 0 else z3 - (hF h2 1004 a1)) fun z6 =>
  if x2 = 6 then
    (ck (hK h2 t = 8)).bind fun _ =>
    (F_X6_target t h2).bind fun q12 =>
    bd q12.1 fun z11 =>
    bd q12.2 fun h10 =>
    some (z11, h10)
  else
  if x2 = 7 then
    some (z6, h2)
  else
  (ck (hK h2 t = 8)).bind fun _ =>
  (F_X6_stillToBeHad t a1 h2).bind fun q18 =>
  bd q18.1 fun z17 =>
  bd q18.2 fun h16 =>
  if z17 < z6 then
    some (0, h16)
  else
    some (1, h16)

def F_X6_figureAtHand (t : Nat) (x1 : Int32) (h : aH) : Option (Int32 × aH) :=
  (F_X6_tallyAt t (hF h 704 t) h).bind fun q4 =>
  bd q4.1 fun o3 =>
  bd q4.2 fun h2 =>
  if x1 = 1 then
    o3.bind fun b6 =>
    (ck (hK h2 b6 = 11)).bind fun _ =>
    some (hF h2 1016 b6, h2)
  else
  if x1 = 2 then
    o3.bind fun b10 =>
    (ck (hK h2 b10 = 11)).bind fun _ =>
    some (hF h2 1017 b10, h2)
  else
  if x1 = 3 then
    o3.bind fun b14 =>
    (ck (hK h2 b14 = 11)).bind fun _ =>
    some (hF h2 1015 b14, h2)
  else
  if x1 = 4 then
    o3.bind fun b18 =>
    (ck (hK h2 b18 = 11)).bind fun _ =>
    (F_X9_ballsLeft b18 h2).bind fun q24 =>
    bd q24.1 fun z23 =>
    bd q24.2 fun h22 =>
    some (z23, h22)
  else
  if x1 = 5 then
    o3.bind fun b26 =>
    (ck (hK h2 b26 = 11)).bind fun _ =>
    some (hF h2 1010 b26, h2)
  else
  if x1 = 9 then
    o3.bind fun b30 =>
    (ck (hK h2 b30 = 11)).bind fun _ =>
    (ck (hK h2 t = 8)).bind fun _ =>
    (F_X6_stillToBeHad t b30 h2).bind fun q37 =>
    bd q37.1 fun z36 =>
    bd q37.2 fun h35 =>
    some ((hF h2 1004 b30) + z36, h35)
  else
  (ck (hK h2 t = 8)).bind fun _ =>
  if hF h2 704 t = hF h2 703 t then
    o3.bind fun b40 =>
    (F_X6_figureOfChase t b40 x1 h2).bind fun q45 =>
    bd q45.1 fun z44 =>
    bd q45.2 fun h43 =>
    some (z44, h43)
  else
    some ((-1), h2)

def F_X6_figure (t : Nat) (x1 : Int32) (h : aH) : Option (Int32 × aH) :=
  if x1 = 0 then
    some (hF h 704 t, h)
  else
  if x1 = 10 then
    some (hF h 705 t, h)
  else
  if x1 = 11 then
    some (hF h 706 t, h)
  else
  if x1 = 12 then
    some (hF h 707 t, h)
  else
  if x1 = 13 then
    some (hF h 708 t, h)
  else
  if x1 = 14 then
    some (hF h 709 t, h)
  else
  if hF h 704 t = (-1) then
    some ((-1), h)
  else
    (F_X6_figureAtHand t x1 h).bind fun q11 =>
    bd q11.1 fun z10 =>
    bd q11.2 fun h9 =>
    some (z10, h9)

def F_X7_init (t : Nat) (h : aH) : Option (aH) :=
  bd (hz h) fun b1 =>
  bd (nA h 21 4) fun h2 =>
  (ck (hK h2 t = 9)).bind fun _ =>
  bd (sG h2 800 t (some b1)) fun h4 =>
  bd (sG h4 801 t none) fun h6 =>
  bd (sF h6 804 t ((-1))) fun h8 =>
  some h8

def F_X7_start (t : Nat) (a1 : Nat) (x2 : Int32) (h : aH) : Option (aH) :=
  bd (sG h 801 t (some a1)) fun h1 =>
  bd (sF h1 802 t x2) fun h3 =>
  bd (sF h3 803 t 0) fun h5 =>
  bd (sF h5 804 t ((-1))) fun h7 =>
  some h7

def F_X7_isRight (t : Nat) (h : aH) : Option (Int32 × aH) :=
  if hF h 804 t = (-1) then
    some (1, h)
  else
    some (0, h)

def F_X7_fail (t : Nat) (x1 : Int32) (h : aH) : Option (aH) :=
  if hF h 804 t = (-1) then
    bd (sF h 804 t x1) fun h2 =>
    some h2
  else
    some h

def F_X7_next_53 (t : Nat) (x1 : Int32) (h : aH) : Option (Int32 × aH) :=
  (ck (hK h t = 9)).bind fun _ =>
  (F_X7_fail t (hF h 803 t) h).bind fun h3 =>
  some (x1, h3)

def F_X7_next_42 (t : Nat) (x1 : Int32) (x2 : Int32) (y0 : Int32) (h : aH) : Option (Int32 × aH) :=
  if y0 < x1 then
    F_X7_next_53 t x1 h
  else
    if y0 ≤ x2 then
      (ck (hK h t = 9)).bind fun _ =>
      bd (sF h 803 t ((hF h 803 t) + 1)) fun h4 =>
      some (y0, h4)
    else
      F_X7_next_53 t x1 h

def F_X7_next (t : Nat) (x1 : Int32) (x2 : Int32) (h : aH) : Option (Int32 × aH) :=
  (F_X7_isRight t h).bind fun q4 =>
  bd q4.1 fun z3 =>
  bd q4.2 fun h2 =>
  if z3 = 0 then
    some (x1, h2)
  else
    (ck (hK h2 t = 9)).bind fun _ =>
    bd (hG h2 801 t) fun o7 =>
    match o7 with
    | none =>
      some (x1, h2)
    | some b8 =>
      if hF h2 802 t ≤ hF h2 803 t then
        F_X7_next_42 t x1 x2 ((-1)) h2
      else
        bd (hG h2 801 t) fun o10 =>
        o10.bind fun b11 =>
        (ck (hK h2 b11 = 2)).bind fun _ =>
        (F_X0_at b11 (hF h2 803 t) h2).bind fun q17 =>
        bd q17.1 fun z16 =>
        bd q17.2 fun h15 =>
        F_X7_next_42 t x1 x2 z16 h15

def F_X7_readPlayers_59 (k3 : Nat → Nat → Int32 → Int32 → Int32 → aH → Option (aH)) (k30 : Nat → Nat → Int32 → Int32 → Int32 → Int32 → Int32 → aH → Option (aH)) (t : Nat) (a1 : Nat) (x2 : Int32) (x3 : Int32) (x4 : Int32) (x5 : Int32) (x6 : Int32) (h : aH) : Option (aH) :=
  bd (x6 + 1) fun v1 =>
  k30 t a1 x2 x3 x4 x5 v1 h

def F_X7_readPlayers_30 (k3 : Nat → Nat → Int32 → Int32 → Int32 → aH → Option (aH)) : Nat → Nat → Nat → Int32 → Int32 → Int32 → Int32 → Int32 → aH → Option (aH)
  | 0, _, _, _, _, _, _, _, _ => none
  | n + 1, t, a1, x2, x3, x4, x5, x6, h =>
  if x4 ≤ x6 then
    (ck (hK h a1 = 5)).bind fun _ =>
    (hG h 404 a1).bind fun b3 =>
    (ck (hK h b3 = 6)).bind fun _ =>
    (F_X4_set b3 x2 x4 x5 h).bind fun h7 =>
    bd (x4 + 1) fun v9 =>
    k3 t a1 x2 x3 v9 h7
  else
    (ck (hK h a1 = 5)).bind fun _ =>
    (F_X3_playerAt a1 x2 x6 h).bind fun q14 =>
    bd q14.1 fun z13 =>
    bd q14.2 fun h12 =>
    if z13 = x5 then
      (ck (hK h12 t = 9)).bind fun _ =>
      (F_X7_fail t ((hF h12 803 t) - 1) h12).bind fun h18 =>
      F_X7_readPlayers_59 k3 (F_X7_readPlayers_30 k3 n) t a1 x2 x3 x4 x5 x6 h18
    else
      F_X7_readPlayers_59 k3 (F_X7_readPlayers_30 k3 n) t a1 x2 x3 x4 x5 x6 h12

def F_X7_readPlayers_3 : Nat → Nat → Nat → Int32 → Int32 → Int32 → aH → Option (aH)
  | 0, _, _, _, _, _, _ => none
  | n + 1, t, a1, x2, x3, x4, h =>
  if 11 ≤ x4 then
    some h
  else
    (ck (hK h t = 9)).bind fun _ =>
    (F_X7_isRight t h).bind fun q6 =>
    bd q6.1 fun z5 =>
    bd q6.2 fun h4 =>
    if z5 = 0 then
      some h4
    else
      (ck (hK h4 t = 9)).bind fun _ =>
      (F_X7_next t 0 (x3 - 1) h4).bind fun q12 =>
      bd q12.1 fun z11 =>
      bd q12.2 fun h10 =>
      F_X7_readPlayers_30 (F_X7_readPlayers_3 n) fu t a1 x2 x3 x4 z11 0 h10

def F_X7_readPlayers (t : Nat) (a1 : Nat) (x2 : Int32) (x3 : Int32) (h : aH) : Option (aH) :=
  F_X7_readPlayers_3 fu t a1 x2 x3 0 h

def F_X7_readHead_120 (k80 : Nat → Nat → Nat → Int32 → aH → Option (Option Nat × aH)) (t : Nat) (a1 : Nat) (a7 : Nat) (x8 : Int32) (y0 : Nat) (y1 : Nat) (y2 : Int32) (y3 : Int32) (h : aH) : Option (Option Nat × aH) :=
  (ck (hK h y0 = 9)).bind fun _ =>
  (F_X7_readPlayers y0 y1 y2 y3 h).bind fun h3 =>
  bd (x8 + 1) fun v5 =>
  k80 t a1 a7 v5 h3

def F_X7_readHead_119 (k80 : Nat → Nat → Nat → Int32 → aH → Option (Option Nat × aH)) (t : Nat) (a1 : Nat) (a7 : Nat) (x8 : Int32) (y0 : Nat) (y1 : Nat) (y2 : Int32) (h : aH) : Option (Option Nat × aH) :=
  F_X7_readHead_120 k80 t a1 a7 x8 y0 y1 y2 0 h

def F_X7_readHead_80 : Nat → Nat → Nat → Nat → Int32 → aH → Option (Option Nat × aH)
  | 0, _, _, _, _, _ => none
  | n + 1, t, a1, a7, x8, h =>
  if 2 ≤ x8 then
    some (some a7, h)
  else
    (ck (hK h a7 = 5)).bind fun _ =>
    (F_X3_sideAt a7 x8 h).bind fun q6 =>
    bd q6.1 fun z5 =>
    bd q6.2 fun h4 =>
    if z5 < 0 then
      F_X7_readHead_119 (F_X7_readHead_80 n) t a1 a7 x8 t a7 x8 h4
    else
      (ck (hK h4 a1 = 21)).bind fun _ =>
      if Int32.ofNat (hN h4 a1) ≤ z5 then
        F_X7_readHead_119 (F_X7_readHead_80 n) t a1 a7 x8 t a7 x8 h4
      else
        (ck (hK h4 a1 = 21 ∧ inR z5 (hN h4 a1))).bind fun _ =>
        F_X7_readHead_120 (F_X7_readHead_80 n) t a1 a7 x8 t a7 x8 (hI h4 a1 z5.toNatClampNeg) h4

def F_X7_readHead_44 (t : Nat) (a1 : Nat) (x3 : Int32) (x4 : Int32) (h : aH) : Option (Option Nat × aH) :=
  (ck (hK h t = 9)).bind fun _ =>
  (F_X7_next t 1 120 h).bind fun q5 =>
  bd q5.1 fun z4 =>
  bd q5.2 fun h3 =>
  (ck (hK h3 t = 9)).bind fun _ =>
  (F_X7_next t 1 2 h3).bind fun q10 =>
  bd q10.1 fun z9 =>
  bd q10.2 fun h8 =>
  bd (hz h8) fun b11 =>
  bd (nO h8 5 6) fun h12 =>
  (ck (hK h12 b11 = 5)).bind fun _ =>
  (F_X3_init b11 x3 x4 z4 z9 h12).bind fun h15 =>
  F_X7_readHead_80 fu t a1 b11 0 h15

def F_X7_readHead (t : Nat) (a1 : Nat) (x2 : Int32) (h : aH) : Option (Option Nat × aH) :=
  (F_X7_next t 66 66 h).bind fun q4 =>
  bd q4.1 fun z3 =>
  bd q4.2 fun h2 =>
  (ck (hK h2 t = 9)).bind fun _ =>
  (F_X7_next t 0 (x2 - 1) h2).bind fun q9 =>
  bd q9.1 fun z8 =>
  bd q9.2 fun h7 =>
  (ck (hK h7 t = 9)).bind fun _ =>
  (F_X7_next t 0 (x2 - 1) h7).bind fun q14 =>
  bd q14.1 fun z13 =>
  bd q14.2 fun h12 =>
  if z13 = z8 then
    (ck (hK h12 t = 9)).bind fun _ =>
    (F_X7_fail t ((hF h12 803 t) - 1) h12).bind fun h18 =>
    F_X7_readHead_44 t a1 z8 z13 h18
  else
    F_X7_readHead_44 t a1 z8 z13 h12

def F_X10_init (t : Nat) (h : aH) : Option (aH) :=
  bd (hz h) fun b1 =>
  bd (nO h 1 3) fun h2 =>
  (ck (hK h2 b1 = 1)).bind fun _ =>
  (F_Jx4a65c_init_da8c8 b1 h2).bind fun h5 =>
  (ck (hK h5 t = 12)).bind fun _ =>
  bd (sG h5 1100 t (some b1)) fun h8 =>
  some h8

def F_X10_addOver (t : Nat) (a1 : Nat) (h : aH) : Option (aH) :=
  (hG h 1100 t).bind fun b1 =>
  (ck (hK h b1 = 1)).bind fun _ =>
  (F_Jx4a65c_add_9ea2d b1 a1 h).bind fun q7 =>
  bd q7.1 fun z6 =>
  bd q7.2 fun h5 =>
  some h5

def F_X7_readOver_70 (a1 : Nat) (a4 : Nat) (h : aH) : Option (aH) :=
  (ck (hK h a1 = 12)).bind fun _ =>
  (F_X10_addOver a1 a4 h).bind fun h3 =>
  some h3

def F_X7_readOver_36 : Nat → Nat → Nat → Int32 → Nat → Int32 → aH → Option (aH)
  | 0, _, _, _, _, _, _ => none
  | n + 1, t, a1, x3, a4, x5, h =>
  if x3 ≤ x5 then
    F_X7_readOver_70 a1 a4 h
  else
    (ck (hK h t = 9)).bind fun _ =>
    (F_X7_isRight t h).bind fun q6 =>
    bd q6.1 fun z5 =>
    bd q6.2 fun h4 =>
    if z5 = 0 then
      F_X7_readOver_70 a1 a4 h4
    else
      (ck (hK h4 t = 9)).bind fun _ =>
      (F_X7_next t 0 255 h4).bind fun q12 =>
      bd q12.1 fun z11 =>
      bd q12.2 fun h10 =>
      (ck (hK h10 a4 = 7)).bind fun _ =>
      (F_X5_insert a4 x5 z11 h10).bind fun h15 =>
      bd (x5 + 1) fun v17 =>
      F_X7_readOver_36 n t a1 x3 a4 v17 h15

def F_X7_readOver (t : Nat) (a1 : Nat) (h : aH) : Option (aH) :=
  (F_X7_next t 0 15 h).bind fun q4 =>
  bd q4.1 fun z3 =>
  bd q4.2 fun h2 =>
  (ck (hK h2 t = 9)).bind fun _ =>
  (F_X7_next t 0 41 h2).bind fun q9 =>
  bd q9.1 fun z8 =>
  bd q9.2 fun h7 =>
  bd (z8 - 1) fun v10 =>
  bd (hz h7) fun b11 =>
  bd (nO h7 7 3) fun h12 =>
  bd (if 0 < v10 then 0 else v10) fun z13 =>
  (ck (hK h12 b11 = 7)).bind fun _ =>
  (F_X5_init b11 z3 z13 h12).bind fun h16 =>
  F_X7_readOver_36 fu t a1 v10 b11 0 h16

def F_X7_readTurns_85 (k14 : Nat → Nat → Int32 → Int32 → aH → Option (aH)) (t : Nat) (a1 : Nat) (x2 : Int32) (x3 : Int32) (h : aH) : Option (aH) :=
  (ck (hK h t = 9)).bind fun _ =>
  (F_X7_next t 0 255 h).bind fun q5 =>
  bd q5.1 fun z4 =>
  bd q5.2 fun h3 =>
  (ck (hK h3 t = 9)).bind fun _ =>
  (hG h3 800 t).bind fun b7 =>
  (F_X7_next t 0 255 h3).bind fun q12 =>
  bd q12.1 fun z11 =>
  bd q12.2 fun h10 =>
  (ck (hK h10 b7 = 21 ∧ inR x3 (hN h10 b7))).bind fun _ =>
  bd (sI h10 b7 x3.toNatClampNeg ((256 * z4) + z11)) fun h14 =>
  bd (x3 + 1) fun v15 =>
  k14 t a1 x2 v15 h14

def F_X7_readTurns_59 (k14 : Nat → Nat → Int32 → Int32 → aH → Option (aH)) : Nat → Nat → Nat → Int32 → Int32 → Nat → Int32 → Int32 → aH → Option (aH)
  | 0, _, _, _, _, _, _, _, _ => none
  | n + 1, t, a1, x2, x3, a4, x5, x6, h =>
  if x5 ≤ x6 then
    F_X7_readTurns_85 k14 t a1 x2 x3 h
  else
    (ck (hK h t = 9)).bind fun _ =>
    (F_X7_isRight t h).bind fun q6 =>
    bd q6.1 fun z5 =>
    bd q6.2 fun h4 =>
    if z5 = 0 then
      F_X7_readTurns_85 k14 t a1 x2 x3 h4
    else
      (ck (hK h4 t = 9)).bind fun _ =>
      (F_X7_readOver t a4 h4).bind fun h10 =>
      bd (x6 + 1) fun v12 =>
      F_X7_readTurns_59 k14 n t a1 x2 x3 a4 x5 v12 h10

def F_X7_readTurns_14 : Nat → Nat → Nat → Int32 → Int32 → aH → Option (aH)
  | 0, _, _, _, _, _ => none
  | n + 1, t, a1, x2, x3, h =>
  if x2 ≤ x3 then
    some h
  else
    if 4 ≤ x3 then
      some h
    else
      (ck (hK h t = 9)).bind fun _ =>
      (F_X7_isRight t h).bind fun q7 =>
      bd q7.1 fun z6 =>
      bd q7.2 fun h5 =>
      if z6 = 0 then
        some h5
      else
        bd (hz h5) fun b9 =>
        bd (nO h5 12 1) fun h10 =>
        (ck (hK h10 b9 = 12)).bind fun _ =>
        (F_X10_init b9 h10).bind fun h13 =>
        (ck (hK h13 a1 = 5)).bind fun _ =>
        (F_X3_addTurn a1 b9 h13).bind fun h17 =>
        (ck (hK h17 t = 9)).bind fun _ =>
        (F_X7_next t 0 130 h17).bind fun q23 =>
        bd q23.1 fun z22 =>
        bd q23.2 fun h21 =>
        F_X7_readTurns_59 (F_X7_readTurns_14 n) fu t a1 x2 x3 b9 z22 0 h21

def F_X7_readTurns (t : Nat) (a1 : Nat) (h : aH) : Option (aH) :=
  (ck (hK h a1 = 5)).bind fun _ =>
  (F_X7_next t 0 (2 * (hF h 403 a1)) h).bind fun q5 =>
  bd q5.1 fun z4 =>
  bd q5.2 fun h3 =>
  F_X7_readTurns_14 fu t a1 z4 0 h3

def F_X7_readEnd (t : Nat) (h : aH) : Option (aH) :=
  if hF h 802 t ≤ hF h 803 t then
    some h
  else
    (F_X7_fail t (hF h 803 t) h).bind fun h3 =>
    some h3

def F_X7_compare_112 (k29 : Nat → Nat → Nat → Int32 → aH → Option (aH)) (t : Nat) (a1 : Nat) (a2 : Nat) (x3 : Int32) (h : aH) : Option (aH) :=
  bd (x3 + 1) fun v1 =>
  k29 t a1 a2 v1 h

def F_X7_compare_29 : Nat → Nat → Nat → Nat → Int32 → aH → Option (aH)
  | 0, _, _, _, _, _ => none
  | n + 1, t, a1, a2, x3, h =>
  (ck (hK h a1 = 5)).bind fun _ =>
  (F_X3_turnCount a1 h).bind fun q5 =>
  bd q5.1 fun z4 =>
  bd q5.2 fun h3 =>
  if z4 ≤ x3 then
    some h3
  else
    if 4 ≤ x3 then
      some h3
    else
      (ck (hK h3 a2 = 8)).bind fun _ =>
      (F_X6_tallyAt a2 x3 h3).bind fun q12 =>
      bd q12.1 fun o11 =>
      bd q12.2 fun h10 =>
      o11.bind fun b13 =>
      (ck (hK h10 b13 = 11)).bind fun _ =>
      bd (hF h10 1004 b13) fun v16 =>
      (ck (hK h10 a1 = 5)).bind fun _ =>
      (F_X3_overCountOf a1 x3 h10).bind fun q21 =>
      bd q21.1 fun z20 =>
      bd q21.2 fun h19 =>
      (ck (hK h19 a1 = 5)).bind fun _ =>
      (F_X3_placeOf a1 x3 z20 ((-1)) h19).bind fun q26 =>
      bd q26.1 fun z25 =>
      bd q26.2 fun h24 =>
      (ck (hK h24 t = 9)).bind fun _ =>
      (hG h24 800 t).bind fun b28 =>
      (ck (hK h24 b28 = 21 ∧ inR x3 (hN h24 b28))).bind fun _ =>
      if (hI h24 b28 x3.toNatClampNeg) / 256 = v16 / 256 then
        (hG h24 800 t).bind fun b32 =>
        (ck (hK h24 b32 = 21 ∧ inR x3 (hN h24 b32))).bind fun _ =>
        if hI h24 b32 x3.toNatClampNeg = v16 then
          F_X7_compare_112 (F_X7_compare_29 n) t a1 a2 x3 h24
        else
          (F_X7_fail t (z25 + 1) h24).bind fun h37 =>
          F_X7_compare_112 (F_X7_compare_29 n) t a1 a2 x3 h37
      else
        (F_X7_fail t z25 h24).bind fun h40 =>
        F_X7_compare_112 (F_X7_compare_29 n) t a1 a2 x3 h40

def F_X7_compare_27 (t : Nat) (a1 : Nat) (a2 : Nat) (h : aH) : Option (aH) :=
  F_X7_compare_29 fu t a1 a2 0 h

def F_X7_compare (t : Nat) (a1 : Nat) (a2 : Nat) (h : aH) : Option (aH) :=
  (ck (hK h a2 = 8)).bind fun _ =>
  if hF h 706 a2 = 0 then
    F_X7_compare_27 t a1 a2 h
  else
    (ck (hK h a1 = 5)).bind fun _ =>
    (F_X3_placeOf a1 (hF h 707 a2) (hF h 708 a2) (hF h 709 a2) h).bind fun q7 =>
    bd q7.1 fun z6 =>
    bd q7.2 fun h5 =>
    (ck (hK h5 t = 9)).bind fun _ =>
    (F_X7_fail t z6 h5).bind fun h10 =>
    F_X7_compare_27 t a1 a2 h10

def F_X8_init (t : Nat) (h : aH) : Option (aH) :=
  bd (hz h) fun b1 =>
  bd (nO h 6 3) fun h2 =>
  (ck (hK h2 b1 = 6)).bind fun _ =>
  (F_X4_init b1 4 6 h2).bind fun h5 =>
  (ck (hK h5 t = 10)).bind fun _ =>
  bd (sG h5 900 t (some b1)) fun h8 =>
  bd (hz h8) fun b10 =>
  bd (nO h8 6 3) fun h11 =>
  (ck (hK h11 b10 = 6)).bind fun _ =>
  (F_X4_init b10 60 30 h11).bind fun h14 =>
  (ck (hK h14 t = 10)).bind fun _ =>
  bd (sG h14 901 t (some b10)) fun h17 =>
  some h17

def F_X8_clear (t : Nat) (h : aH) : Option (aH) :=
  (hG h 900 t).bind fun b1 =>
  (ck (hK h b1 = 6)).bind fun _ =>
  (F_X4_fill b1 ((-1)) h).bind fun h5 =>
  (ck (hK h5 t = 10)).bind fun _ =>
  (hG h5 901 t).bind fun b8 =>
  (ck (hK h5 b8 = 6)).bind fun _ =>
  (F_X4_fill b8 0 h5).bind fun h12 =>
  some h12

def F_X8_note (t : Nat) (x1 : Int32) (x2 : Int32) (x3 : Int32) (x4 : Int32) (x5 : Int32) (x6 : Int32) (x7 : Int32) (h : aH) : Option (aH) :=
  (hG h 900 t).bind fun b1 =>
  (ck (hK h b1 = 6)).bind fun _ =>
  (F_X4_set b1 x1 0 x2 h).bind fun h5 =>
  (ck (hK h5 t = 10)).bind fun _ =>
  (hG h5 900 t).bind fun b8 =>
  (ck (hK h5 b8 = 6)).bind fun _ =>
  (F_X4_set b8 x1 1 x3 h5).bind fun h12 =>
  (ck (hK h12 t = 10)).bind fun _ =>
  (hG h12 900 t).bind fun b15 =>
  (ck (hK h12 b15 = 6)).bind fun _ =>
  (F_X4_set b15 x1 2 x4 h12).bind fun h19 =>
  (ck (hK h19 t = 10)).bind fun _ =>
  (hG h19 900 t).bind fun b22 =>
  (ck (hK h19 b22 = 6)).bind fun _ =>
  (F_X4_set b22 x1 3 x5 h19).bind fun h26 =>
  (ck (hK h26 t = 10)).bind fun _ =>
  (hG h26 900 t).bind fun b29 =>
  (ck (hK h26 b29 = 6)).bind fun _ =>
  (F_X4_set b29 x1 4 x6 h26).bind fun h33 =>
  (ck (hK h33 t = 10)).bind fun _ =>
  (hG h33 900 t).bind fun b36 =>
  (ck (hK h33 b36 = 6)).bind fun _ =>
  (F_X4_set b36 x1 5 x7 h33).bind fun h40 =>
  some h40

def F_X8_isBetterBowler (t : Nat) (x1 : Int32) (x2 : Int32) (h : aH) : Option (Int32 × aH) :=
  (hG h 900 t).bind fun b1 =>
  (ck (hK h b1 = 6)).bind fun _ =>
  (F_X4_at b1 1 0 h).bind fun q7 =>
  bd q7.1 fun z6 =>
  bd q7.2 fun h5 =>
  if z6 < x1 then
    some (1, h5)
  else
    if x1 = z6 then
      (ck (hK h5 t = 10)).bind fun _ =>
      (hG h5 900 t).bind fun b11 =>
      (ck (hK h5 b11 = 6)).bind fun _ =>
      (F_X4_at b11 1 5 h5).bind fun q17 =>
      bd q17.1 fun z16 =>
      bd q17.2 fun h15 =>
      if z16 ≤ x2 then
        some (0, h15)
      else
        some (1, h15)
    else
      some (0, h5)

def F_X8_addTurn_203 (k56 : Nat → Int32 → Int32 → Nat → Nat → Int32 → Int32 → Int32 → aH → Option (aH)) (t : Nat) (x1 : Int32) (x2 : Int32) (a3 : Nat) (a4 : Nat) (x5 : Int32) (x6 : Int32) (x7 : Int32) (h : aH) : Option (aH) :=
  bd (x7 + 1) fun v1 =>
  k56 t x1 x2 a3 a4 x5 x6 v1 h

def F_X8_addTurn_128 (k56 : Nat → Int32 → Int32 → Nat → Nat → Int32 → Int32 → Int32 → aH → Option (aH)) (t : Nat) (x1 : Int32) (x2 : Int32) (a3 : Nat) (a4 : Nat) (x5 : Int32) (x6 : Int32) (x7 : Int32) (h : aH) : Option (aH) :=
  (ck (hK h a4 = 11)).bind fun _ =>
  (hG h 1001 a4).bind fun b2 =>
  (ck (hK h b2 = 6)).bind fun _ =>
  (F_X4_at b2 x7 2 h).bind fun q8 =>
  bd q8.1 fun z7 =>
  bd q8.2 fun h6 =>
  (ck (hK h6 a4 = 11)).bind fun _ =>
  (hG h6 1001 a4).bind fun b10 =>
  (ck (hK h6 b10 = 6)).bind fun _ =>
  (F_X4_at b10 x7 1 h6).bind fun q16 =>
  bd q16.1 fun z15 =>
  bd q16.2 fun h14 =>
  (ck (hK h14 a4 = 11)).bind fun _ =>
  (hG h14 1001 a4).bind fun b18 =>
  (ck (hK h14 b18 = 6)).bind fun _ =>
  (F_X4_at b18 x7 0 h14).bind fun q24 =>
  bd q24.1 fun z23 =>
  bd q24.2 fun h22 =>
  if z23 ≤ 0 then
    F_X8_addTurn_203 k56 t x1 x2 a3 a4 x5 x6 x7 h22
  else
    (ck (hK h22 t = 10)).bind fun _ =>
    (F_X8_isBetterBowler t z7 z15 h22).bind fun q30 =>
    bd q30.1 fun z29 =>
    bd q30.2 fun h28 =>
    if z29 = 0 then
      F_X8_addTurn_203 k56 t x1 x2 a3 a4 x5 x6 x7 h28
    else
      (ck (hK h28 a3 = 5)).bind fun _ =>
      (F_X3_playerAt a3 (1 - (x2 - x2 / 2 * 2)) x7 h28).bind fun q36 =>
      bd q36.1 fun z35 =>
      bd q36.2 fun h34 =>
      (ck (hK h34 t = 10)).bind fun _ =>
      (F_X8_note t 1 z7 x1 x2 x6 z35 z15 h34).bind fun h39 =>
      F_X8_addTurn_203 k56 t x1 x2 a3 a4 x5 x6 x7 h39

def F_X8_addTurn_56 : Nat → Nat → Int32 → Int32 → Nat → Nat → Int32 → Int32 → Int32 → aH → Option (aH)
  | 0, _, _, _, _, _, _, _, _, _ => none
  | n + 1, t, x1, x2, a3, a4, x5, x6, x7, h =>
  if 11 ≤ x7 then
    some h
  else
    (ck (hK h a3 = 5)).bind fun _ =>
    (F_X3_playerAt a3 (x2 - x2 / 2 * 2) x7 h).bind fun q6 =>
    bd q6.1 fun z5 =>
    bd q6.2 fun h4 =>
    (ck (hK h4 a4 = 11)).bind fun _ =>
    (hG h4 1000 a4).bind fun b8 =>
    (ck (hK h4 b8 = 6)).bind fun _ =>
    (F_X4_at b8 x7 0 h4).bind fun q14 =>
    bd q14.1 fun z13 =>
    bd q14.2 fun h12 =>
    (ck (hK h12 t = 10)).bind fun _ =>
    (hG h12 901 t).bind fun b16 =>
    (ck (hK h12 b16 = 6)).bind fun _ =>
    (F_X4_add b16 x5 z5 z13 h12).bind fun h20 =>
    (ck (hK h20 t = 10)).bind fun _ =>
    (hG h20 900 t).bind fun b23 =>
    (ck (hK h20 b23 = 6)).bind fun _ =>
    (F_X4_at b23 0 0 h20).bind fun q29 =>
    bd q29.1 fun z28 =>
    bd q29.2 fun h27 =>
    if z13 ≤ z28 then
      F_X8_addTurn_128 (F_X8_addTurn_56 n) t x1 x2 a3 a4 x5 x6 x7 h27
    else
      (ck (hK h27 t = 10)).bind fun _ =>
      (F_X8_note t 0 z13 x1 x2 x5 z5 0 h27).bind fun h33 =>
      F_X8_addTurn_128 (F_X8_addTurn_56 n) t x1 x2 a3 a4 x5 x6 x7 h33

def F_X8_addTurn_53 (t : Nat) (x1 : Int32) (x2 : Int32) (a3 : Nat) (a4 : Nat) (x5 : Int32) (x6 : Int32) (h : aH) : Option (aH) :=
  F_X8_addTurn_56 fu t x1 x2 a3 a4 x5 x6 0 h

def F_X8_addTurn (t : Nat) (x1 : Int32) (x2 : Int32) (a3 : Nat) (a4 : Nat) (h : aH) : Option (aH) :=
  (ck (hK h a3 = 5)).bind fun _ =>
  (F_X3_sideAt a3 (x2 - x2 / 2 * 2) h).bind fun q5 =>
  bd q5.1 fun z4 =>
  bd q5.2 fun h3 =>
  (ck (hK h3 a3 = 5)).bind fun _ =>
  (F_X3_sideAt a3 (1 - (x2 - x2 / 2 * 2)) h3).bind fun q10 =>
  bd q10.1 fun z9 =>
  bd q10.2 fun h8 =>
  (ck (hK h8 a4 = 11)).bind fun _ =>
  (ck (hK h8 t = 10)).bind fun _ =>
  (hG h8 900 t).bind fun b13 =>
  (ck (hK h8 b13 = 6)).bind fun _ =>
  (F_X4_at b13 2 0 h8).bind fun q19 =>
  bd q19.1 fun z18 =>
  bd q19.2 fun h17 =>
  if hF h8 1004 a4 ≤ z18 then
    F_X8_addTurn_53 t x1 x2 a3 a4 z4 z9 h17
  else
    (ck (hK h17 a4 = 11)).bind fun _ =>
    (ck (hK h17 t = 10)).bind fun _ =>
    (F_X8_note t 2 (hF h17 1004 a4) x1 x2 z4 ((-1)) 0 h17).bind fun h24 =>
    F_X8_addTurn_53 t x1 x2 a3 a4 z4 z9 h24

def F_X8_addTotals_44 (k2 : Nat → Int32 → Int32 → Int32 → aH → Option (aH)) (t : Nat) (x1 : Int32) (x2 : Int32) (x3 : Int32) (h : aH) : Option (aH) :=
  bd (x3 + 1) fun v1 =>
  k2 t x1 x2 v1 h

def F_X8_addTotals_2 : Nat → Nat → Int32 → Int32 → Int32 → aH → Option (aH)
  | 0, _, _, _, _, _ => none
  | n + 1, t, x1, x2, x3, h =>
  if x2 ≤ x3 then
    some h
  else
    (ck (hK h t = 10)).bind fun _ =>
    (hG h 901 t).bind fun b3 =>
    (ck (hK h b3 = 6)).bind fun _ =>
    (F_X4_at b3 x1 x3 h).bind fun q9 =>
    bd q9.1 fun z8 =>
    bd q9.2 fun h7 =>
    (ck (hK h7 t = 10)).bind fun _ =>
    (hG h7 900 t).bind fun b11 =>
    (ck (hK h7 b11 = 6)).bind fun _ =>
    (F_X4_at b11 3 0 h7).bind fun q17 =>
    bd q17.1 fun z16 =>
    bd q17.2 fun h15 =>
    if z8 ≤ z16 then
      F_X8_addTotals_44 (F_X8_addTotals_2 n) t x1 x2 x3 h15
    else
      (ck (hK h15 t = 10)).bind fun _ =>
      (F_X8_note t 3 z8 ((-1)) ((-1)) x1 x3 0 h15).bind fun h21 =>
      F_X8_addTotals_44 (F_X8_addTotals_2 n) t x1 x2 x3 h21

def F_X8_addTotals (t : Nat) (x1 : Int32) (x2 : Int32) (h : aH) : Option (aH) :=
  F_X8_addTotals_2 fu t x1 x2 0 h

def F_X9_crossSum (t : Nat) (x1 : Int32) (h : aH) : Option (Int32 × aH) :=
  if x1 = 11 then
    (hG h 1000 t).bind fun b2 =>
    (ck (hK h b2 = 6)).bind fun _ =>
    (F_X4_sumOf b2 0 11 h).bind fun q8 =>
    bd q8.1 fun z7 =>
    bd q8.2 fun h6 =>
    (ck (hK h6 t = 11)).bind fun _ =>
    some (z7 + (hF h6 1006 t), h6)
  else
  if x1 = 12 then
    (hG h 1001 t).bind fun b11 =>
    (ck (hK h b11 = 6)).bind fun _ =>
    (F_X4_sumOf b11 1 11 h).bind fun q17 =>
    bd q17.1 fun z16 =>
    bd q17.2 fun h15 =>
    (ck (hK h15 t = 11)).bind fun _ =>
    some (z16 + (hF h15 1007 t), h15)
  else
  if x1 = 13 then
    (hG h 1002 t).bind fun b20 =>
    (ck (hK h b20 = 6)).bind fun _ =>
    (F_X4_sumOf b20 0 (hF h 1011 t) h).bind fun q26 =>
    bd q26.1 fun z25 =>
    bd q26.2 fun h24 =>
    some (z25, h24)
  else
  if x1 = 14 then
    (hG h 1001 t).bind fun b28 =>
    (ck (hK h b28 = 6)).bind fun _ =>
    (F_X4_sumOf b28 2 11 h).bind fun q34 =>
    bd q34.1 fun z33 =>
    bd q34.2 fun h32 =>
    some (z33, h32)
  else
  if x1 = 15 then
    (hG h 1000 t).bind fun b36 =>
    (ck (hK h b36 = 6)).bind fun _ =>
    (F_X4_howMany b36 2 6 h).bind fun q42 =>
    bd q42.1 fun z41 =>
    bd q42.2 fun h40 =>
    some (z41, h40)
  else
  some (0, h)

def F_X9_figure (t : Nat) (x1 : Int32) (h : aH) : Option (Int32 × aH) :=
  if x1 = 0 then
    some (hF h 1004 t, h)
  else
  if x1 = 1 then
    some (hF h 1005 t, h)
  else
  if x1 = 2 then
    some (hF h 1012 t, h)
  else
  if x1 = 3 then
    some (hF h 1014 t, h)
  else
  if x1 = 4 then
    some (hF h 1006 t, h)
  else
  if x1 = 5 then
    some (hF h 1008 t, h)
  else
  if x1 = 6 then
    some (hF h 1010 t, h)
  else
  if x1 = 7 then
    some (hF h 1013 t, h)
  else
  if x1 = 8 then
    some (hF h 1009 t, h)
  else
  if x1 = 9 then
    if hF h 1003 t = 0 then
      some (0, h)
    else
      some (1, h)
  else
  (F_X9_crossSum t x1 h).bind fun q15 =>
  bd q15.1 fun z14 =>
  bd q15.2 fun h13 =>
  some (z14, h13)

def F_X9_overFigure_17 (t : Nat) (x1 : Int32) (x2 : Int32) (y0 : Int32) (h : aH) : Option (Int32 × aH) :=
  if x2 = 7 then
    if y0 = 0 then
      some (0, h)
    else
      some (1, h)
  else
    if y0 = 0 then
      some (0, h)
    else
      (ck (hK h t = 11)).bind fun _ =>
      (hG h 1002 t).bind fun b5 =>
      (ck (hK h b5 = 6)).bind fun _ =>
      (F_X4_at b5 x1 (x2 - 2) h).bind fun q11 =>
      bd q11.1 fun z10 =>
      bd q11.2 fun h9 =>
      some (z10, h9)

def F_X9_overFigure_16 (t : Nat) (x1 : Int32) (x2 : Int32) (h : aH) : Option (Int32 × aH) :=
  F_X9_overFigure_17 t x1 x2 0 h

def F_X9_overFigure (t : Nat) (x1 : Int32) (x2 : Int32) (h : aH) : Option (Int32 × aH) :=
  if x1 < 0 then
    F_X9_overFigure_16 t x1 x2 h
  else
    if hF h 1011 t ≤ x1 then
      F_X9_overFigure_16 t x1 x2 h
    else
      F_X9_overFigure_17 t x1 x2 1 h

def F_X11_init (t : Nat) (h : aH) : Option (aH) :=
  bd (hz h) fun b1 =>
  bd (nA h 21 60) fun h2 =>
  (ck (hK h2 t = 13)).bind fun _ =>
  bd (sG h2 1200 t (some b1)) fun h4 =>
  bd (hz h4) fun b6 =>
  bd (nO h4 1 3) fun h7 =>
  (ck (hK h7 b6 = 1)).bind fun _ =>
  (F_Jx4a65c_init_da8c8 b6 h7).bind fun h10 =>
  (ck (hK h10 t = 13)).bind fun _ =>
  bd (sG h10 1201 t (some b6)) fun h13 =>
  bd (hz h13) fun b15 =>
  bd (nO h13 2 2) fun h16 =>
  (ck (hK h16 b15 = 2)).bind fun _ =>
  (F_X0_init b15 6000 h16).bind fun h19 =>
  (ck (hK h19 t = 13)).bind fun _ =>
  bd (sG h19 1202 t (some b15)) fun h22 =>
  bd (hz h22) fun b24 =>
  bd (nO h22 2 2) fun h25 =>
  (ck (hK h25 b24 = 2)).bind fun _ =>
  (F_X0_init b24 8000 h25).bind fun h28 =>
  (ck (hK h28 t = 13)).bind fun _ =>
  bd (sG h28 1203 t (some b24)) fun h31 =>
  bd (hz h31) fun b33 =>
  bd (nO h31 4 3) fun h34 =>
  (ck (hK h34 b33 = 4)).bind fun _ =>
  (F_X2_init b33 h34).bind fun h37 =>
  (ck (hK h37 t = 13)).bind fun _ =>
  bd (sG h37 1204 t (some b33)) fun h40 =>
  bd (hz h40) fun b42 =>
  bd (nO h40 8 10) fun h43 =>
  (ck (hK h43 b42 = 8)).bind fun _ =>
  (F_X6_init b42 h43).bind fun h46 =>
  (ck (hK h46 t = 13)).bind fun _ =>
  bd (sG h46 1205 t (some b42)) fun h49 =>
  bd (hz h49) fun b51 =>
  bd (nO h49 10 2) fun h52 =>
  (ck (hK h52 b51 = 10)).bind fun _ =>
  (F_X8_init b51 h52).bind fun h55 =>
  (ck (hK h55 t = 13)).bind fun _ =>
  bd (sG h55 1206 t (some b51)) fun h58 =>
  bd (hz h58) fun b60 =>
  bd (nO h58 9 5) fun h61 =>
  (ck (hK h61 b60 = 9)).bind fun _ =>
  (F_X7_init b60 h61).bind fun h64 =>
  (ck (hK h64 t = 13)).bind fun _ =>
  bd (sG h64 1207 t (some b60)) fun h67 =>
  bd (sF h67 1208 t 0) fun h69 =>
  bd (sF h69 1209 t 0) fun h71 =>
  bd (sF h71 1210 t ((-1))) fun h73 =>
  bd (sF h73 1211 t 1) fun h75 =>
  some h75

def F_X11_side (t : Nat) (x1 : Int32) (h : aH) : Option (Int32 × aH) :=
  if 60 ≤ hF h 1208 t then
    some ((-1), h)
  else
    if x1 < 11 then
      some ((-1), h)
    else
      if x1 ≤ 30 then
        (hG h 1200 t).bind fun b4 =>
        (ck (hK h b4 = 21 ∧ inR (hF h 1208 t) (hN h b4))).bind fun _ =>
        bd (sI h b4 (hF h 1208 t).toNatClampNeg x1) fun h7 =>
        bd (sF h7 1208 t ((hF h7 1208 t) + 1)) fun h9 =>
        bd (sF h9 1211 t 1) fun h11 =>
        some ((hF h11 1208 t) - 1, h11)
      else
        some ((-1), h)

def F_X11_hasSide (t : Nat) (x1 : Int32) (h : aH) : Option (Int32 × aH) :=
  if x1 < 0 then
    some (0, h)
  else
    if hF h 1208 t ≤ x1 then
      some (0, h)
    else
      if 60 ≤ x1 then
        some (0, h)
      else
        some (1, h)

def F_X11_player (t : Nat) (x1 : Int32) (h : aH) : Option (Int32 × aH) :=
  (F_X11_hasSide t x1 h).bind fun q4 =>
  bd q4.1 fun z3 =>
  bd q4.2 fun h2 =>
  if z3 = 0 then
    some ((-1), h2)
  else
    (ck (hK h2 t = 13)).bind fun _ =>
    (hG h2 1200 t).bind fun b7 =>
    (ck (hK h2 b7 = 21 ∧ inR x1 (hN h2 b7))).bind fun _ =>
    if hI h2 b7 x1.toNatClampNeg < 30 then
      (hG h2 1200 t).bind fun b11 =>
      (ck (hK h2 b11 = 21 ∧ inR x1 (hN h2 b11))).bind fun _ =>
      bd (sI h2 b11 x1.toNatClampNeg ((hI h2 b11 x1.toNatClampNeg) + 1)) fun h14 =>
      bd (sF h14 1211 t 1) fun h16 =>
      (hG h16 1200 t).bind fun b18 =>
      (ck (hK h16 b18 = 21 ∧ inR x1 (hN h16 b18))).bind fun _ =>
      some ((hI h16 b18 x1.toNatClampNeg) - 1, h16)
    else
      some ((-1), h2)

def F_X11_addGame (t : Nat) (a1 : Nat) (h : aH) : Option (Int32 × aH) :=
  (hG h 1201 t).bind fun b1 =>
  (ck (hK h b1 = 1)).bind fun _ =>
  (F_Jx4a65c_add_9ea2d b1 a1 h).bind fun q7 =>
  bd q7.1 fun z6 =>
  bd q7.2 fun h5 =>
  (ck (hK h5 t = 13)).bind fun _ =>
  bd (sF h5 1211 t 1) fun h9 =>
  (hG h9 1201 t).bind fun b11 =>
  (ck (hK h9 b11 = 1)).bind fun _ =>
  (F_Jx4a65c_size_8abf5 b11 h9).bind fun q17 =>
  bd q17.1 fun z16 =>
  bd q17.2 fun h15 =>
  some (z16 - 1, h15)

def F_X11_toss (t : Nat) (x1 : Int32) (x2 : Int32) (x3 : Int32) (x4 : Int32) (h : aH) : Option (Int32 × aH) :=
  (hG h 1201 t).bind fun b1 =>
  (ck (hK h b1 = 1)).bind fun _ =>
  (F_Jx4a65c_size_8abf5 b1 h).bind fun q7 =>
  bd q7.1 fun z6 =>
  bd q7.2 fun h5 =>
  if 400 ≤ z6 then
    some ((-1), h5)
  else
    (ck (hK h5 t = 13)).bind fun _ =>
    (F_X11_hasSide t x1 h5).bind fun q13 =>
    bd q13.1 fun z12 =>
    bd q13.2 fun h11 =>
    if z12 = 0 then
      some ((-1), h11)
    else
      (ck (hK h11 t = 13)).bind fun _ =>
      (F_X11_hasSide t x2 h11).bind fun q19 =>
      bd q19.1 fun z18 =>
      bd q19.2 fun h17 =>
      if z18 = 0 then
        some ((-1), h17)
      else
        if x1 = x2 then
          some ((-1), h17)
        else
          if x3 < 1 then
            some ((-1), h17)
          else
            if 120 < x3 then
              some ((-1), h17)
            else
              if x4 < 1 then
                some ((-1), h17)
              else
                if x4 ≤ 2 then
                  bd (hz h17) fun b26 =>
                  bd (nO h17 5 6) fun h27 =>
                  (ck (hK h27 b26 = 5)).bind fun _ =>
                  (F_X3_init b26 x1 x2 x3 x4 h27).bind fun h30 =>
                  (ck (hK h30 t = 13)).bind fun _ =>
                  (F_X11_addGame t b26 h30).bind fun q36 =>
                  bd q36.1 fun z35 =>
                  bd q36.2 fun h34 =>
                  some (z35, h34)
                else
                  some ((-1), h17)

def F_X11_gameAt (t : Nat) (x1 : Int32) (h : aH) : Option (Option Nat × aH) :=
  if x1 < 0 then
    some (none, h)
  else
    (hG h 1201 t).bind fun b2 =>
    (ck (hK h b2 = 1)).bind fun _ =>
    (F_Jx4a65c_size_8abf5 b2 h).bind fun q8 =>
    bd q8.1 fun z7 =>
    bd q8.2 fun h6 =>
    if z7 ≤ x1 then
      some (none, h6)
    else
      (ck (hK h6 t = 13)).bind fun _ =>
      (hG h6 1201 t).bind fun b11 =>
      (ck (hK h6 b11 = 1)).bind fun _ =>
      (F_Jx4a65c_get_915e3 b11 x1 h6).bind fun q17 =>
      bd q17.1 fun o16 =>
      bd q17.2 fun h15 =>
      o16.bind fun b18 =>
      (ck (hK h15 b18 = 5)).bind fun _ =>
      some (some b18, h15)

def F_X11_playersOf (t : Nat) (x1 : Int32) (h : aH) : Option (Int32 × aH) :=
  (F_X11_hasSide t x1 h).bind fun q4 =>
  bd q4.1 fun z3 =>
  bd q4.2 fun h2 =>
  if z3 = 0 then
    some (0, h2)
  else
    (ck (hK h2 t = 13)).bind fun _ =>
    (hG h2 1200 t).bind fun b7 =>
    (ck (hK h2 b7 = 21 ∧ inR x1 (hN h2 b7))).bind fun _ =>
    some (hI h2 b7 x1.toNatClampNeg, h2)

def F_X11_forgetPlay (t : Nat) (h : aH) : Option (aH) :=
  bd (sF h 1210 t ((-1))) fun h1 =>
  bd (sF h1 1211 t 1) fun h3 =>
  some h3

def F_X11_seat (t : Nat) (x1 : Int32) (x2 : Int32) (x3 : Int32) (x4 : Int32) (h : aH) : Option (Int32 × aH) :=
  (F_X11_gameAt t x1 h).bind fun q4 =>
  bd q4.1 fun o3 =>
  bd q4.2 fun h2 =>
  match o3 with
  | none =>
    some (0, h2)
  | some b5 =>
    if x2 < 0 then
      some (0, h2)
    else
      if 1 < x2 then
        some (0, h2)
      else
        if x3 < 0 then
          some (0, h2)
        else
          if x3 < 11 then
            if x4 < 0 then
              some (0, h2)
            else
              (ck (hK h2 b5 = 5)).bind fun _ =>
              (F_X3_sideAt b5 x2 h2).bind fun q15 =>
              bd q15.1 fun z14 =>
              bd q15.2 fun h13 =>
              (ck (hK h13 t = 13)).bind fun _ =>
              (F_X11_playersOf t z14 h13).bind fun q20 =>
              bd q20.1 fun z19 =>
              bd q20.2 fun h18 =>
              if z19 ≤ x4 then
                some (0, h18)
              else
                (ck (hK h18 b5 = 5)).bind fun _ =>
                (F_X3_turnCount b5 h18).bind fun q26 =>
                bd q26.1 fun z25 =>
                bd q26.2 fun h24 =>
                if z25 ≤ 0 then
                  (ck (hK h24 b5 = 5)).bind fun _ =>
                  (F_X3_giveSeat b5 x2 x3 x4 h24).bind fun h30 =>
                  (ck (hK h30 t = 13)).bind fun _ =>
                  (F_X11_forgetPlay t h30).bind fun h34 =>
                  some (1, h34)
                else
                  some (0, h24)
          else
            some (0, h2)

def F_X11_refused (t : Nat) (x1 : Int32) (h : aH) : Option (Int32 × aH) :=
  bd (sF h 1209 t x1) fun h1 =>
  some (0, h1)

def F_X11_playOver (t : Nat) (x1 : Int32) (x2 : Option Nat) (h : aH) : Option (aH) :=
  if hF h 1210 t = x1 then
    some h
  else
    match x2 with
    | none =>
      some h
    | some b2 =>
      (hG h 1205 t).bind fun b3 =>
      (ck (hK h b3 = 8)).bind fun _ =>
      (F_X6_replay b3 b2 h).bind fun h7 =>
      (ck (hK h7 t = 13)).bind fun _ =>
      bd (sF h7 1210 t x1) fun h10 =>
      some h10

def F_X11_done (t : Nat) (h : aH) : Option (Int32 × aH) :=
  bd (sF h 1209 t 0) fun h1 =>
  (F_X11_forgetPlay t h1).bind fun h4 =>
  some (1, h4)

def F_X11_turn_53 (t : Nat) (x1 : Int32) (a2 : Nat) (y0 : Int32) (h : aH) : Option (Int32 × aH) :=
  if y0 = 0 then
    (ck (hK h t = 13)).bind fun _ =>
    (hG h 1204 t).bind fun b3 =>
    (ck (hK h a2 = 5)).bind fun _ =>
    (F_X3_turnCount a2 h).bind fun q9 =>
    bd q9.1 fun z8 =>
    bd q9.2 fun h7 =>
    (ck (hK h7 b3 = 4)).bind fun _ =>
    (F_X2_push b3 x1 0 z8 ((-1)) none h7).bind fun h12 =>
    bd (hz h12) fun b14 =>
    bd (nO h12 12 1) fun h15 =>
    (ck (hK h15 b14 = 12)).bind fun _ =>
    (F_X10_init b14 h15).bind fun h18 =>
    (ck (hK h18 a2 = 5)).bind fun _ =>
    (F_X3_addTurn a2 b14 h18).bind fun h22 =>
    (ck (hK h22 t = 13)).bind fun _ =>
    (F_X11_done t h22).bind fun q28 =>
    bd q28.1 fun z27 =>
    bd q28.2 fun h26 =>
    (ck (z27 = 0 ∨ z27 = 1)).bind fun _ =>
    some (z27, h26)
  else
    (ck (hK h t = 13)).bind fun _ =>
    (F_X11_refused t y0 h).bind fun q34 =>
    bd q34.1 fun z33 =>
    bd q34.2 fun h32 =>
    (ck (z33 = 0 ∨ z33 = 1)).bind fun _ =>
    some (z33, h32)

def F_X11_turn (t : Nat) (x1 : Int32) (h : aH) : Option (Int32 × aH) :=
  (F_X11_gameAt t x1 h).bind fun q4 =>
  bd q4.1 fun o3 =>
  bd q4.2 fun h2 =>
  match o3 with
  | none =>
    (ck (hK h2 t = 13)).bind fun _ =>
    (F_X11_refused t 0 h2).bind fun q10 =>
    bd q10.1 fun z9 =>
    bd q10.2 fun h8 =>
    (ck (z9 = 0 ∨ z9 = 1)).bind fun _ =>
    some (z9, h8)
  | some b5 =>
    (ck (hK h2 t = 13)).bind fun _ =>
    (F_X11_playOver t x1 (some b5) h2).bind fun h14 =>
    (ck (hK h14 t = 13)).bind fun _ =>
    (hG h14 1205 t).bind fun b17 =>
    (ck (hK h14 b17 = 8)).bind fun _ =>
    if hF h14 706 b17 = 0 then
      (hG h14 1205 t).bind fun b21 =>
      (ck (hK h14 b5 = 5)).bind fun _ =>
      (F_X3_turnCount b5 h14).bind fun q27 =>
      bd q27.1 fun z26 =>
      bd q27.2 fun h25 =>
      (ck (hK h25 b21 = 8)).bind fun _ =>
      (F_X6_ruleOfTurn b21 z26 h25).bind fun q32 =>
      bd q32.1 fun z31 =>
      bd q32.2 fun h30 =>
      F_X11_turn_53 t x1 b5 z31 h30
    else
      (hG h14 1205 t).bind fun b33 =>
      (ck (hK h14 b33 = 8)).bind fun _ =>
      F_X11_turn_53 t x1 b5 (hF h14 706 b33) h14

def F_X11_over (t : Nat) (x1 : Int32) (x2 : Int32) (h : aH) : Option (Int32 × aH) :=
  (F_X11_gameAt t x1 h).bind fun q4 =>
  bd q4.1 fun o3 =>
  bd q4.2 fun h2 =>
  match o3 with
  | none =>
    (ck (hK h2 t = 13)).bind fun _ =>
    (F_X11_refused t 0 h2).bind fun q10 =>
    bd q10.1 fun z9 =>
    bd q10.2 fun h8 =>
    (ck (z9 = 0 ∨ z9 = 1)).bind fun _ =>
    some (z9, h8)
  | some b5 =>
    (ck (hK h2 t = 13)).bind fun _ =>
    (F_X11_playOver t x1 (some b5) h2).bind fun h14 =>
    (ck (hK h14 t = 13)).bind fun _ =>
    (hG h14 1205 t).bind fun b17 =>
    (ck (hK h14 b17 = 8)).bind fun _ =>
    if hF h14 706 b17 = 0 then
      (ck (hK h14 b5 = 5)).bind fun _ =>
      (F_X3_turnCount b5 h14).bind fun q25 =>
      bd q25.1 fun z24 =>
      bd q25.2 fun h23 =>
      (ck (hK h23 b5 = 5)).bind fun _ =>
      (F_X3_turnAt b5 (z24 - 1) h23).bind fun q30 =>
      bd q30.1 fun o29 =>
      bd q30.2 fun h28 =>
      match o29 with
      | none =>
        (ck (hK h28 t = 13)).bind fun _ =>
        (F_X11_refused t 11 h28).bind fun q36 =>
        bd q36.1 fun z35 =>
        bd q36.2 fun h34 =>
        (ck (z35 = 0 ∨ z35 = 1)).bind fun _ =>
        some (z35, h34)
      | some b31 =>
        (ck (hK h28 t = 13)).bind fun _ =>
        (hG h28 1205 t).bind fun b39 =>
        (ck (hK h28 b39 = 8)).bind fun _ =>
        (F_X6_ruleOfOver b39 x2 h28).bind fun q45 =>
        bd q45.1 fun z44 =>
        bd q45.2 fun h43 =>
        if z44 = 0 then
          (ck (hK h43 t = 13)).bind fun _ =>
          (hG h43 1204 t).bind fun b48 =>
          (ck (hK h43 b5 = 5)).bind fun _ =>
          (F_X3_turnCount b5 h43).bind fun q54 =>
          bd q54.1 fun z53 =>
          bd q54.2 fun h52 =>
          (ck (hK h52 b31 = 12)).bind fun _ =>
          (F_X10_overCount b31 h52).bind fun q59 =>
          bd q59.1 fun z58 =>
          bd q59.2 fun h57 =>
          (ck (hK h57 b48 = 4)).bind fun _ =>
          (F_X2_push b48 x1 1 (z53 - 1) z58 none h57).bind fun h62 =>
          bd (hz h62) fun b64 =>
          bd (nO h62 7 3) fun h65 =>
          (ck (hK h65 b64 = 7)).bind fun _ =>
          (F_X5_init b64 x2 0 h65).bind fun h68 =>
          (ck (hK h68 b31 = 12)).bind fun _ =>
          (F_X10_addOver b31 b64 h68).bind fun h72 =>
          (ck (hK h72 t = 13)).bind fun _ =>
          (F_X11_done t h72).bind fun q78 =>
          bd q78.1 fun z77 =>
          bd q78.2 fun h76 =>
          (ck (z77 = 0 ∨ z77 = 1)).bind fun _ =>
          some (z77, h76)
        else
          (ck (hK h43 t = 13)).bind fun _ =>
          (F_X11_refused t z44 h43).bind fun q84 =>
          bd q84.1 fun z83 =>
          bd q84.2 fun h82 =>
          (ck (z83 = 0 ∨ z83 = 1)).bind fun _ =>
          some (z83, h82)
    else
      (hG h14 1205 t).bind fun b86 =>
      (ck (hK h14 b86 = 8)).bind fun _ =>
      (F_X11_refused t (hF h14 706 b86) h14).bind fun q92 =>
      bd q92.1 fun z91 =>
      bd q92.2 fun h90 =>
      (ck (z91 = 0 ∨ z91 = 1)).bind fun _ =>
      some (z91, h90)

def F_X11_keep (t : Nat) (x1 : Int32) (x2 : Int32) (x3 : Int32) (a4 : Nat) (h : aH) : Option (aH) :=
  (hG h 1204 t).bind fun b1 =>
  (ck (hK h b1 = 4)).bind fun _ =>
  (F_X2_push b1 x1 2 x2 x3 (some a4) h).bind fun h5 =>
  (ck (hK h5 t = 13)).bind fun _ =>
  (F_X11_forgetPlay t h5).bind fun h9 =>
  some h9

def F_X11_ball_85 (t : Nat) (h : aH) : Option (Int32 × aH) :=
  (ck (hK h t = 13)).bind fun _ =>
  (F_X11_refused t 11 h).bind fun q5 =>
  bd q5.1 fun z4 =>
  bd q5.2 fun h3 =>
  (ck (z4 = 0 ∨ z4 = 1)).bind fun _ =>
  some (z4, h3)

def F_X11_ball (t : Nat) (x1 : Int32) (x2 : Int32) (h : aH) : Option (Int32 × aH) :=
  (F_X11_gameAt t x1 h).bind fun q4 =>
  bd q4.1 fun o3 =>
  bd q4.2 fun h2 =>
  match o3 with
  | none =>
    (ck (hK h2 t = 13)).bind fun _ =>
    (F_X11_refused t 0 h2).bind fun q10 =>
    bd q10.1 fun z9 =>
    bd q10.2 fun h8 =>
    (ck (z9 = 0 ∨ z9 = 1)).bind fun _ =>
    some (z9, h8)
  | some b5 =>
    (ck (hK h2 t = 13)).bind fun _ =>
    (F_X11_playOver t x1 (some b5) h2).bind fun h14 =>
    (ck (hK h14 t = 13)).bind fun _ =>
    (hG h14 1205 t).bind fun b17 =>
    (ck (hK h14 b17 = 8)).bind fun _ =>
    if hF h14 706 b17 = 0 then
      (ck (hK h14 b5 = 5)).bind fun _ =>
      (F_X3_turnCount b5 h14).bind fun q25 =>
      bd q25.1 fun z24 =>
      bd q25.2 fun h23 =>
      bd (z24 - 1) fun v26 =>
      (ck (hK h23 b5 = 5)).bind fun _ =>
      (F_X3_overCountOf b5 v26 h23).bind fun q31 =>
      bd q31.1 fun z30 =>
      bd q31.2 fun h29 =>
      bd (z30 - 1) fun v32 =>
      (ck (hK h29 b5 = 5)).bind fun _ =>
      (F_X3_overAt b5 v26 v32 h29).bind fun q37 =>
      bd q37.1 fun o36 =>
      bd q37.2 fun h35 =>
      match o36 with
      | none =>
        F_X11_ball_85 t h35
      | some b38 =>
        (ck (hK h35 b38 = 7)).bind fun _ =>
        (F_X5_isMissing b38 h35).bind fun q43 =>
        bd q43.1 fun z42 =>
        bd q43.2 fun h41 =>
        if z42 = 0 then
          (ck (hK h41 b38 = 7)).bind fun _ =>
          (F_X5_isFull b38 h41).bind fun q49 =>
          bd q49.1 fun z48 =>
          bd q49.2 fun h47 =>
          if z48 = 0 then
            (ck (hK h47 t = 13)).bind fun _ =>
            (hG h47 1205 t).bind fun b52 =>
            (ck (hK h47 b52 = 8)).bind fun _ =>
            (F_X6_ruleOfEntry b52 (x2 &&& 255) h47).bind fun q58 =>
            bd q58.1 fun z57 =>
            bd q58.2 fun h56 =>
            if z57 = 0 then
              (ck (hK h56 t = 13)).bind fun _ =>
              (F_X11_keep t x1 v26 v32 b38 h56).bind fun h62 =>
              (ck (hK h62 b38 = 7)).bind fun _ =>
              (F_X5_insert b38 (hF h62 602 b38) (x2 &&& 255) h62).bind fun h66 =>
              (ck (hK h66 t = 13)).bind fun _ =>
              (F_X11_done t h66).bind fun q72 =>
              bd q72.1 fun z71 =>
              bd q72.2 fun h70 =>
              (ck (z71 = 0 ∨ z71 = 1)).bind fun _ =>
              some (z71, h70)
            else
              (ck (hK h56 t = 13)).bind fun _ =>
              (F_X11_refused t z57 h56).bind fun q78 =>
              bd q78.1 fun z77 =>
              bd q78.2 fun h76 =>
              (ck (z77 = 0 ∨ z77 = 1)).bind fun _ =>
              some (z77, h76)
          else
            (ck (hK h47 t = 13)).bind fun _ =>
            (F_X11_refused t 12 h47).bind fun q84 =>
            bd q84.1 fun z83 =>
            bd q84.2 fun h82 =>
            (ck (z83 = 0 ∨ z83 = 1)).bind fun _ =>
            some (z83, h82)
        else
          F_X11_ball_85 t h41
    else
      (hG h14 1205 t).bind fun b86 =>
      (ck (hK h14 b86 = 8)).bind fun _ =>
      (F_X11_refused t (hF h14 706 b86) h14).bind fun q92 =>
      bd q92.1 fun z91 =>
      bd q92.2 fun h90 =>
      (ck (z91 = 0 ∨ z91 = 1)).bind fun _ =>
      some (z91, h90)

def F_X11_feed (t : Nat) (x1 : Int32) (x2 : Int32) (x3 : Int32) (x4 : Int32) (x5 : Int32) (h : aH) : Option (Int32 × aH) :=
  (hG h 1202 t).bind fun b1 =>
  (ck (hK h b1 = 2)).bind fun _ =>
  if hF h 101 b1 ≤ 5980 then
    (hG h 1202 t).bind fun b5 =>
    (ck (hK h b5 = 2)).bind fun _ =>
    (F_X0_addNumber b5 x1 h).bind fun h9 =>
    (ck (hK h9 t = 13)).bind fun _ =>
    (hG h9 1202 t).bind fun b12 =>
    (ck (hK h9 b12 = 2)).bind fun _ =>
    (F_X0_addNumber b12 x2 h9).bind fun h16 =>
    (ck (hK h16 t = 13)).bind fun _ =>
    (hG h16 1202 t).bind fun b19 =>
    (ck (hK h16 b19 = 2)).bind fun _ =>
    (F_X0_addNumber b19 x3 h16).bind fun h23 =>
    (ck (hK h23 t = 13)).bind fun _ =>
    (hG h23 1202 t).bind fun b26 =>
    (ck (hK h23 b26 = 2)).bind fun _ =>
    (F_X0_addNumber b26 x4 h23).bind fun h30 =>
    (ck (hK h30 t = 13)).bind fun _ =>
    (hG h30 1202 t).bind fun b33 =>
    (ck (hK h30 b33 = 2)).bind fun _ =>
    (F_X0_addNumber b33 x5 h30).bind fun h37 =>
    (ck (hK h37 t = 13)).bind fun _ =>
    (hG h37 1202 t).bind fun b40 =>
    (ck (hK h37 b40 = 2)).bind fun _ =>
    some (hF h37 101 b40, h37)
  else
    some ((-1), h)

def F_X11_overOf (t : Nat) (x1 : Int32) (x2 : Int32) (x3 : Int32) (h : aH) : Option (Option Nat × aH) :=
  (F_X11_gameAt t x1 h).bind fun q4 =>
  bd q4.1 fun o3 =>
  bd q4.2 fun h2 =>
  match o3 with
  | none =>
    some (none, h2)
  | some b5 =>
    (ck (hK h2 b5 = 5)).bind fun _ =>
    (F_X3_overAt b5 x2 x3 h2).bind fun q10 =>
    bd q10.1 fun o9 =>
    bd q10.2 fun h8 =>
    some (o9, h8)

def F_X11_open_58 : Nat → Nat → Int32 → Nat → Int32 → aH → Option (Int32 × aH)
  | 0, _, _, _, _, _ => none
  | n + 1, t, x4, a5, x6, h =>
  if x4 ≤ x6 then
    (ck (hK h t = 13)).bind fun _ =>
    (hG h 1202 t).bind fun b3 =>
    (ck (hK h b3 = 2)).bind fun _ =>
    (F_X0_clear b3 h).bind fun h7 =>
    some (1, h7)
  else
    (ck (hK h t = 13)).bind fun _ =>
    (hG h 1202 t).bind fun b10 =>
    (ck (hK h b10 = 2)).bind fun _ =>
    (F_X0_at b10 x6 h).bind fun q16 =>
    bd q16.1 fun z15 =>
    bd q16.2 fun h14 =>
    (ck (hK h14 a5 = 7)).bind fun _ =>
    (F_X5_insert a5 x6 z15 h14).bind fun h19 =>
    bd (x6 + 1) fun v21 =>
    F_X11_open_58 n t x4 a5 v21 h19

def F_X11_open (t : Nat) (x1 : Int32) (x2 : Int32) (x3 : Int32) (x4 : Int32) (h : aH) : Option (Int32 × aH) :=
  (F_X11_overOf t x1 x2 x3 h).bind fun q4 =>
  bd q4.1 fun o3 =>
  bd q4.2 fun h2 =>
  match o3 with
  | none =>
    some (0, h2)
  | some b5 =>
    if x4 < 0 then
      some (0, h2)
    else
      if 40 < x4 then
        some (0, h2)
      else
        (ck (hK h2 t = 13)).bind fun _ =>
        (hG h2 1202 t).bind fun b9 =>
        (ck (hK h2 b9 = 2)).bind fun _ =>
        if x4 ≤ hF h2 101 b9 then
          (F_X11_keep t x1 x2 x3 b5 h2).bind fun h14 =>
          (ck (hK h14 b5 = 7)).bind fun _ =>
          bd (sF h14 602 b5 0) fun h17 =>
          F_X11_open_58 fu t x4 b5 0 h17
        else
          some (0, h2)

def F_X11_tear (t : Nat) (x1 : Int32) (x2 : Int32) (x3 : Int32) (h : aH) : Option (Int32 × aH) :=
  (F_X11_overOf t x1 x2 x3 h).bind fun q4 =>
  bd q4.1 fun o3 =>
  bd q4.2 fun h2 =>
  match o3 with
  | none =>
    some (0, h2)
  | some b5 =>
    (ck (hK h2 b5 = 7)).bind fun _ =>
    (F_X5_isMissing b5 h2).bind fun q10 =>
    bd q10.1 fun z9 =>
    bd q10.2 fun h8 =>
    if z9 = 0 then
      (ck (hK h8 t = 13)).bind fun _ =>
      (F_X11_keep t x1 x2 x3 b5 h8).bind fun h14 =>
      (ck (hK h14 b5 = 7)).bind fun _ =>
      bd (sF h14 602 b5 ((-1))) fun h17 =>
      some (1, h17)
    else
      some (0, h8)

def F_X11_put (t : Nat) (x1 : Int32) (x2 : Int32) (x3 : Int32) (x4 : Int32) (x5 : Int32) (h : aH) : Option (Int32 × aH) :=
  (F_X11_overOf t x1 x2 x3 h).bind fun q4 =>
  bd q4.1 fun o3 =>
  bd q4.2 fun h2 =>
  match o3 with
  | none =>
    some (0, h2)
  | some b5 =>
    (ck (hK h2 b5 = 7)).bind fun _ =>
    (F_X5_isMissing b5 h2).bind fun q10 =>
    bd q10.1 fun z9 =>
    bd q10.2 fun h8 =>
    if z9 = 0 then
      if x4 < 0 then
        some (0, h8)
      else
        (ck (hK h8 b5 = 7)).bind fun _ =>
        if hF h8 602 b5 < x4 then
          some (0, h8)
        else
          (F_X5_isFull b5 h8).bind fun q18 =>
          bd q18.1 fun z17 =>
          bd q18.2 fun h16 =>
          if z17 = 0 then
            (ck (hK h16 t = 13)).bind fun _ =>
            (F_X11_keep t x1 x2 x3 b5 h16).bind fun h22 =>
            (ck (hK h22 b5 = 7)).bind fun _ =>
            (F_X5_insert b5 x4 (x5 &&& 255) h22).bind fun h26 =>
            some (1, h26)
          else
            some (0, h16)
    else
      some (0, h8)

def F_X11_mend (t : Nat) (x1 : Int32) (x2 : Int32) (x3 : Int32) (x4 : Int32) (x5 : Int32) (h : aH) : Option (Int32 × aH) :=
  (F_X11_overOf t x1 x2 x3 h).bind fun q4 =>
  bd q4.1 fun o3 =>
  bd q4.2 fun h2 =>
  match o3 with
  | none =>
    some ((-1), h2)
  | some b5 =>
    (ck (hK h2 b5 = 7)).bind fun _ =>
    (F_X5_has b5 x4 h2).bind fun q10 =>
    bd q10.1 fun z9 =>
    bd q10.2 fun h8 =>
    if z9 = 0 then
      some ((-1), h8)
    else
      (ck (hK h8 t = 13)).bind fun _ =>
      (F_X11_keep t x1 x2 x3 b5 h8).bind fun h14 =>
      (ck (hK h14 b5 = 7)).bind fun _ =>
      (F_X5_at b5 x4 h14).bind fun q20 =>
      bd q20.1 fun z19 =>
      bd q20.2 fun h18 =>
      (ck (hK h18 b5 = 7)).bind fun _ =>
      (F_X5_set b5 x4 (x5 &&& 255) h18).bind fun h23 =>
      some (z19, h23)

def F_X11_out (t : Nat) (x1 : Int32) (x2 : Int32) (x3 : Int32) (x4 : Int32) (h : aH) : Option (Int32 × aH) :=
  (F_X11_overOf t x1 x2 x3 h).bind fun q4 =>
  bd q4.1 fun o3 =>
  bd q4.2 fun h2 =>
  match o3 with
  | none =>
    some ((-1), h2)
  | some b5 =>
    (ck (hK h2 b5 = 7)).bind fun _ =>
    (F_X5_has b5 x4 h2).bind fun q10 =>
    bd q10.1 fun z9 =>
    bd q10.2 fun h8 =>
    if z9 = 0 then
      some ((-1), h8)
    else
      (ck (hK h8 t = 13)).bind fun _ =>
      (F_X11_keep t x1 x2 x3 b5 h8).bind fun h14 =>
      (ck (hK h14 b5 = 7)).bind fun _ =>
      (F_X5_at b5 x4 h14).bind fun q20 =>
      bd q20.1 fun z19 =>
      bd q20.2 fun h18 =>
      (ck (hK h18 b5 = 7)).bind fun _ =>
      (F_X5_remove b5 x4 h18).bind fun h23 =>
      some (z19, h23)

def F_X11_bowls (t : Nat) (x1 : Int32) (x2 : Int32) (x3 : Int32) (x4 : Int32) (h : aH) : Option (Int32 × aH) :=
  (F_X11_overOf t x1 x2 x3 h).bind fun q4 =>
  bd q4.1 fun o3 =>
  bd q4.2 fun h2 =>
  match o3 with
  | none =>
    some ((-1), h2)
  | some b5 =>
    (ck (hK h2 t = 13)).bind fun _ =>
    (F_X11_keep t x1 x2 x3 b5 h2).bind fun h8 =>
    (ck (hK h8 b5 = 7)).bind fun _ =>
    bd (hF h8 601 b5) fun v11 =>
    bd (sF h8 601 b5 (x4 &&& 15)) fun h12 =>
    some (v11, h12)

def F_X11_undo (t : Nat) (h : aH) : Option (Int32 × aH) :=
  (hG h 1204 t).bind fun b1 =>
  (ck (hK h b1 = 4)).bind fun _ =>
  (F_X2_pop b1 h).bind fun q7 =>
  bd q7.1 fun o6 =>
  bd q7.2 fun h5 =>
  match o6 with
  | none =>
    some ((-1), h5)
  | some b8 =>
    (ck (hK h5 b8 = 3)).bind fun _ =>
    (ck (hK h5 t = 13)).bind fun _ =>
    (F_X11_gameAt t (hF h5 201 b8) h5).bind fun q14 =>
    bd q14.1 fun o13 =>
    bd q14.2 fun h12 =>
    match o13 with
    | none =>
      some ((-1), h12)
    | some b15 =>
      (ck (hK h12 b15 = 5)).bind fun _ =>
      (F_X3_takeBack b15 b8 h12).bind fun h18 =>
      (ck (hK h18 t = 13)).bind fun _ =>
      (F_X11_forgetPlay t h18).bind fun h22 =>
      (ck (hK h22 b8 = 3)).bind fun _ =>
      some (hF h22 201 b8, h22)

def F_X11_why (t : Nat) (h : aH) : Option (Int32 × aH) :=
  some (hF h 1209 t, h)

def F_X11_scoreFigure (t : Nat) (a1 : Nat) (x2 : Int32) (x3 : Int32) (h : aH) : Option (Int32 × aH) :=
  if x3 = 10 then
    (ck (hK h a1 = 5)).bind fun _ =>
    (F_X3_overCountOf a1 x2 h).bind fun q6 =>
    bd q6.1 fun z5 =>
    bd q6.2 fun h4 =>
    some (z5, h4)
  else
    (hG h 1205 t).bind fun b7 =>
    (ck (hK h b7 = 8)).bind fun _ =>
    (F_X6_tallyAt b7 x2 h).bind fun q13 =>
    bd q13.1 fun o12 =>
    bd q13.2 fun h11 =>
    o12.bind fun b14 =>
    (ck (hK h11 b14 = 11)).bind fun _ =>
    (F_X9_figure b14 x3 h11).bind fun q20 =>
    bd q20.1 fun z19 =>
    bd q20.2 fun h18 =>
    some (z19, h18)

def F_X11_isSeatFigure (x0 : Int32) (x1 : Int32) (h : aH) : Option (Int32 × aH) :=
  if x0 < 0 then
    some (0, h)
  else
    if 11 ≤ x0 then
      some (0, h)
    else
      if x1 < 0 then
        some (0, h)
      else
        if 4 ≤ x1 then
          some (0, h)
        else
          some (1, h)

def F_X11_batsFigure (t : Nat) (a1 : Nat) (x2 : Int32) (x3 : Int32) (x4 : Int32) (h : aH) : Option (Int32 × aH) :=
  if x4 = 3 then
    (ck (hK h a1 = 5)).bind fun _ =>
    (F_X3_playerAt a1 (x2 - x2 / 2 * 2) x3 h).bind fun q6 =>
    bd q6.1 fun z5 =>
    bd q6.2 fun h4 =>
    some (z5, h4)
  else
    (hG h 1205 t).bind fun b7 =>
    (ck (hK h b7 = 8)).bind fun _ =>
    (F_X6_tallyAt b7 x2 h).bind fun q13 =>
    bd q13.1 fun o12 =>
    bd q13.2 fun h11 =>
    o12.bind fun b14 =>
    (ck (hK h11 b14 = 11)).bind fun _ =>
    (hG h11 1000 b14).bind fun b17 =>
    (ck (hK h11 b17 = 6)).bind fun _ =>
    (F_X4_at b17 x3 x4 h11).bind fun q23 =>
    bd q23.1 fun z22 =>
    bd q23.2 fun h21 =>
    some (z22, h21)

def F_X11_fieldsFigure (t : Nat) (a1 : Nat) (x2 : Int32) (x3 : Int32) (x4 : Int32) (h : aH) : Option (Int32 × aH) :=
  if x4 = 3 then
    (ck (hK h a1 = 5)).bind fun _ =>
    (F_X3_playerAt a1 (1 - (x2 - x2 / 2 * 2)) x3 h).bind fun q6 =>
    bd q6.1 fun z5 =>
    bd q6.2 fun h4 =>
    some (z5, h4)
  else
    (hG h 1205 t).bind fun b7 =>
    (ck (hK h b7 = 8)).bind fun _ =>
    (F_X6_tallyAt b7 x2 h).bind fun q13 =>
    bd q13.1 fun o12 =>
    bd q13.2 fun h11 =>
    o12.bind fun b14 =>
    (ck (hK h11 b14 = 11)).bind fun _ =>
    (hG h11 1001 b14).bind fun b17 =>
    (ck (hK h11 b17 = 6)).bind fun _ =>
    (F_X4_at b17 x3 x4 h11).bind fun q23 =>
    bd q23.1 fun z22 =>
    bd q23.2 fun h21 =>
    some (z22, h21)

def F_X11_findRecords_87 : Nat → Nat → Int32 → aH → Option (aH)
  | 0, _, _, _ => none
  | n + 1, t, x1, h =>
  (ck (hK h t = 13)).bind fun _ =>
  if hF h 1208 t ≤ x1 then
    bd (sF h 1211 t 0) fun h3 =>
    some h3
  else
    (hG h 1206 t).bind fun b5 =>
    (F_X11_playersOf t x1 h).bind fun q10 =>
    bd q10.1 fun z9 =>
    bd q10.2 fun h8 =>
    (ck (hK h8 b5 = 10)).bind fun _ =>
    (F_X8_addTotals b5 x1 z9 h8).bind fun h13 =>
    bd (x1 + 1) fun v15 =>
    F_X11_findRecords_87 n t v15 h13

def F_X11_findRecords_47 (k9 : Nat → Int32 → aH → Option (aH)) : Nat → Nat → Int32 → Nat → Int32 → aH → Option (aH)
  | 0, _, _, _, _, _ => none
  | n + 1, t, x1, a2, x3, h =>
  (ck (hK h a2 = 5)).bind fun _ =>
  (F_X3_turnCount a2 h).bind fun q5 =>
  bd q5.1 fun z4 =>
  bd q5.2 fun h3 =>
  if z4 ≤ x3 then
    bd (x1 + 1) fun v7 =>
    k9 t v7 h3
  else
    (ck (hK h3 t = 13)).bind fun _ =>
    (hG h3 1206 t).bind fun b9 =>
    (hG h3 1205 t).bind fun b11 =>
    (ck (hK h3 b11 = 8)).bind fun _ =>
    (F_X6_tallyAt b11 x3 h3).bind fun q17 =>
    bd q17.1 fun o16 =>
    bd q17.2 fun h15 =>
    o16.bind fun b18 =>
    (ck (hK h15 b9 = 10)).bind fun _ =>
    (F_X8_addTurn b9 x1 x3 a2 b18 h15).bind fun h22 =>
    bd (x3 + 1) fun v24 =>
    F_X11_findRecords_47 k9 n t x1 a2 v24 h22

def F_X11_findRecords_9 : Nat → Nat → Int32 → aH → Option (aH)
  | 0, _, _, _ => none
  | n + 1, t, x1, h =>
  (ck (hK h t = 13)).bind fun _ =>
  (hG h 1201 t).bind fun b2 =>
  (ck (hK h b2 = 1)).bind fun _ =>
  (F_Jx4a65c_size_8abf5 b2 h).bind fun q8 =>
  bd q8.1 fun z7 =>
  bd q8.2 fun h6 =>
  if z7 ≤ x1 then
    F_X11_findRecords_87 fu t 0 h6
  else
    (ck (hK h6 t = 13)).bind fun _ =>
    (hG h6 1201 t).bind fun b11 =>
    (ck (hK h6 b11 = 1)).bind fun _ =>
    (F_Jx4a65c_get_915e3 b11 x1 h6).bind fun q17 =>
    bd q17.1 fun o16 =>
    bd q17.2 fun h15 =>
    o16.bind fun b18 =>
    (ck (hK h15 b18 = 5)).bind fun _ =>
    (ck (hK h15 t = 13)).bind fun _ =>
    (hG h15 1205 t).bind fun b22 =>
    (ck (hK h15 b22 = 8)).bind fun _ =>
    (F_X6_replay b22 b18 h15).bind fun h26 =>
    (ck (hK h26 t = 13)).bind fun _ =>
    bd (sF h26 1210 t x1) fun h29 =>
    F_X11_findRecords_47 (F_X11_findRecords_9 n) fu t x1 b18 0 h29

def F_X11_findRecords (t : Nat) (h : aH) : Option (aH) :=
  (hG h 1206 t).bind fun b1 =>
  (ck (hK h b1 = 10)).bind fun _ =>
  (F_X8_clear b1 h).bind fun h5 =>
  F_X11_findRecords_9 fu t 0 h5

def F_X11_writeHead_64 (k57 : Nat → Nat → Int32 → aH → Option (aH)) : Nat → Nat → Nat → Int32 → Int32 → aH → Option (aH)
  | 0, _, _, _, _, _ => none
  | n + 1, t, a1, x2, x3, h =>
  if 11 ≤ x3 then
    bd (x2 + 1) fun v2 =>
    k57 t a1 v2 h
  else
    (ck (hK h t = 13)).bind fun _ =>
    (hG h 1203 t).bind fun b4 =>
    (ck (hK h a1 = 5)).bind fun _ =>
    (F_X3_playerAt a1 x2 x3 h).bind fun q10 =>
    bd q10.1 fun z9 =>
    bd q10.2 fun h8 =>
    (ck (hK h8 b4 = 2)).bind fun _ =>
    (F_X0_add b4 z9 h8).bind fun h13 =>
    bd (x3 + 1) fun v15 =>
    F_X11_writeHead_64 k57 n t a1 x2 v15 h13

def F_X11_writeHead_57 : Nat → Nat → Nat → Int32 → aH → Option (aH)
  | 0, _, _, _, _ => none
  | n + 1, t, a1, x2, h =>
  if 2 ≤ x2 then
    (ck (hK h t = 13)).bind fun _ =>
    (hG h 1203 t).bind fun b3 =>
    (ck (hK h a1 = 5)).bind fun _ =>
    (F_X3_turnCount a1 h).bind fun q9 =>
    bd q9.1 fun z8 =>
    bd q9.2 fun h7 =>
    (ck (hK h7 b3 = 2)).bind fun _ =>
    (F_X0_add b3 z8 h7).bind fun h12 =>
    some h12
  else
    F_X11_writeHead_64 (F_X11_writeHead_57 n) fu t a1 x2 0 h

def F_X11_writeHead (t : Nat) (a1 : Nat) (h : aH) : Option (aH) :=
  (hG h 1203 t).bind fun b1 =>
  (ck (hK h b1 = 2)).bind fun _ =>
  (F_X0_add b1 66 h).bind fun h5 =>
  (ck (hK h5 t = 13)).bind fun _ =>
  (hG h5 1203 t).bind fun b8 =>
  (ck (hK h5 a1 = 5)).bind fun _ =>
  (F_X3_sideAt a1 0 h5).bind fun q14 =>
  bd q14.1 fun z13 =>
  bd q14.2 fun h12 =>
  (ck (hK h12 b8 = 2)).bind fun _ =>
  (F_X0_add b8 z13 h12).bind fun h17 =>
  (ck (hK h17 t = 13)).bind fun _ =>
  (hG h17 1203 t).bind fun b20 =>
  (ck (hK h17 a1 = 5)).bind fun _ =>
  (F_X3_sideAt a1 1 h17).bind fun q26 =>
  bd q26.1 fun z25 =>
  bd q26.2 fun h24 =>
  (ck (hK h24 b20 = 2)).bind fun _ =>
  (F_X0_add b20 z25 h24).bind fun h29 =>
  (ck (hK h29 t = 13)).bind fun _ =>
  (hG h29 1203 t).bind fun b32 =>
  (ck (hK h29 a1 = 5)).bind fun _ =>
  (ck (hK h29 b32 = 2)).bind fun _ =>
  (F_X0_add b32 (hF h29 402 a1) h29).bind fun h37 =>
  (ck (hK h37 t = 13)).bind fun _ =>
  (hG h37 1203 t).bind fun b40 =>
  (ck (hK h37 a1 = 5)).bind fun _ =>
  (ck (hK h37 b40 = 2)).bind fun _ =>
  (F_X0_add b40 (hF h37 403 a1) h37).bind fun h45 =>
  F_X11_writeHead_57 fu t a1 0 h45

def F_X11_writeTurn_96 (k17 : Nat → Nat → Int32 → Int32 → Int32 → aH → Option (aH)) (t : Nat) (a1 : Nat) (x2 : Int32) (x3 : Int32) (x4 : Int32) (h : aH) : Option (aH) :=
  bd (x4 + 1) fun v1 =>
  k17 t a1 x2 x3 v1 h

def F_X11_writeTurn_66 (k17 : Nat → Nat → Int32 → Int32 → Int32 → aH → Option (aH)) : Nat → Nat → Nat → Int32 → Int32 → Int32 → Nat → Int32 → aH → Option (aH)
  | 0, _, _, _, _, _, _, _, _ => none
  | n + 1, t, a1, x2, x3, x4, a5, x6, h =>
  (ck (hK h a5 = 7)).bind fun _ =>
  if hF h 602 a5 ≤ x6 then
    F_X11_writeTurn_96 k17 t a1 x2 x3 x4 h
  else
    (ck (hK h t = 13)).bind fun _ =>
    (hG h 1203 t).bind fun b4 =>
    (F_X5_at a5 x6 h).bind fun q9 =>
    bd q9.1 fun z8 =>
    bd q9.2 fun h7 =>
    (ck (hK h7 b4 = 2)).bind fun _ =>
    (F_X0_add b4 z8 h7).bind fun h12 =>
    bd (x6 + 1) fun v14 =>
    F_X11_writeTurn_66 k17 n t a1 x2 x3 x4 a5 v14 h12

def F_X11_writeTurn_17 : Nat → Nat → Nat → Int32 → Int32 → Int32 → aH → Option (aH)
  | 0, _, _, _, _, _, _ => none
  | n + 1, t, a1, x2, x3, x4, h =>
  if x3 ≤ x4 then
    (ck (hK h t = 13)).bind fun _ =>
    (hG h 1205 t).bind fun b3 =>
    (ck (hK h b3 = 8)).bind fun _ =>
    (F_X6_tallyAt b3 x2 h).bind fun q9 =>
    bd q9.1 fun o8 =>
    bd q9.2 fun h7 =>
    o8.bind fun b10 =>
    (ck (hK h7 b10 = 11)).bind fun _ =>
    bd (hF h7 1004 b10) fun v13 =>
    (ck (hK h7 t = 13)).bind fun _ =>
    (hG h7 1203 t).bind fun b15 =>
    (ck (hK h7 b15 = 2)).bind fun _ =>
    (F_X0_add b15 (v13 >>> (8 &&& 31)) h7).bind fun h19 =>
    (ck (hK h19 t = 13)).bind fun _ =>
    (hG h19 1203 t).bind fun b22 =>
    (ck (hK h19 b22 = 2)).bind fun _ =>
    (F_X0_add b22 v13 h19).bind fun h26 =>
    some h26
  else
    (ck (hK h a1 = 5)).bind fun _ =>
    (F_X3_overAt a1 x2 x4 h).bind fun q32 =>
    bd q32.1 fun o31 =>
    bd q32.2 fun h30 =>
    match o31 with
    | none =>
      F_X11_writeTurn_96 (F_X11_writeTurn_17 n) t a1 x2 x3 x4 h30
    | some b33 =>
      (ck (hK h30 t = 13)).bind fun _ =>
      (hG h30 1203 t).bind fun b35 =>
      (ck (hK h30 b33 = 7)).bind fun _ =>
      (ck (hK h30 b35 = 2)).bind fun _ =>
      (F_X0_add b35 (hF h30 601 b33) h30).bind fun h40 =>
      (ck (hK h40 t = 13)).bind fun _ =>
      (hG h40 1203 t).bind fun b43 =>
      (ck (hK h40 b33 = 7)).bind fun _ =>
      (ck (hK h40 b43 = 2)).bind fun _ =>
      (F_X0_add b43 ((hF h40 602 b33) + 1) h40).bind fun h48 =>
      F_X11_writeTurn_66 (F_X11_writeTurn_17 n) fu t a1 x2 x3 x4 b33 0 h48

def F_X11_writeTurn (t : Nat) (a1 : Nat) (x2 : Int32) (h : aH) : Option (aH) :=
  (ck (hK h a1 = 5)).bind fun _ =>
  (F_X3_overCountOf a1 x2 h).bind fun q5 =>
  bd q5.1 fun z4 =>
  bd q5.2 fun h3 =>
  (ck (hK h3 t = 13)).bind fun _ =>
  (hG h3 1203 t).bind fun b7 =>
  (ck (hK h3 b7 = 2)).bind fun _ =>
  (F_X0_add b7 z4 h3).bind fun h11 =>
  F_X11_writeTurn_17 fu t a1 x2 z4 0 h11

def F_X11_image_44 : Nat → Nat → Nat → Int32 → aH → Option (Int32 × aH)
  | 0, _, _, _, _ => none
  | n + 1, t, a2, x3, h =>
  (ck (hK h a2 = 5)).bind fun _ =>
  (F_X3_turnCount a2 h).bind fun q5 =>
  bd q5.1 fun z4 =>
  bd q5.2 fun h3 =>
  if z4 ≤ x3 then
    (ck (hK h3 t = 13)).bind fun _ =>
    (hG h3 1203 t).bind fun b8 =>
    (ck (hK h3 b8 = 2)).bind fun _ =>
    some (hF h3 101 b8, h3)
  else
    (ck (hK h3 t = 13)).bind fun _ =>
    (F_X11_writeTurn t a2 x3 h3).bind fun h13 =>
    bd (x3 + 1) fun v15 =>
    F_X11_image_44 n t a2 v15 h13

def F_X11_image (t : Nat) (x1 : Int32) (h : aH) : Option (Int32 × aH) :=
  (F_X11_gameAt t x1 h).bind fun q4 =>
  bd q4.1 fun o3 =>
  bd q4.2 fun h2 =>
  match o3 with
  | none =>
    some ((-1), h2)
  | some b5 =>
    (ck (hK h2 t = 13)).bind fun _ =>
    (hG h2 1203 t).bind fun b7 =>
    (ck (hK h2 b7 = 2)).bind fun _ =>
    (F_X0_clear b7 h2).bind fun h11 =>
    (ck (hK h11 b5 = 5)).bind fun _ =>
    (F_X3_imageSize b5 h11).bind fun q17 =>
    bd q17.1 fun z16 =>
    bd q17.2 fun h15 =>
    if z16 ≤ 8000 then
      (ck (hK h15 t = 13)).bind fun _ =>
      (F_X11_playOver t x1 (some b5) h15).bind fun h21 =>
      (ck (hK h21 t = 13)).bind fun _ =>
      (F_X11_writeHead t b5 h21).bind fun h25 =>
      F_X11_image_44 fu t b5 0 h25
    else
      some ((-1), h15)

def F_X11_judge (t : Nat) (x1 : Int32) (h : aH) : Option (Option Nat × aH) :=
  (hG h 1207 t).bind fun b1 =>
  (hG h 1202 t).bind fun b3 =>
  (ck (hK h b1 = 9)).bind fun _ =>
  (F_X7_start b1 b3 x1 h).bind fun h7 =>
  (ck (hK h7 t = 13)).bind fun _ =>
  (hG h7 1207 t).bind fun b10 =>
  (hG h7 1200 t).bind fun b12 =>
  (ck (hK h7 b10 = 9)).bind fun _ =>
  (F_X7_readHead b10 b12 (hF h7 1208 t) h7).bind fun q18 =>
  bd q18.1 fun o17 =>
  bd q18.2 fun h16 =>
  (ck (hK h16 t = 13)).bind fun _ =>
  (hG h16 1207 t).bind fun b20 =>
  o17.bind fun b22 =>
  (ck (hK h16 b20 = 9)).bind fun _ =>
  (F_X7_readTurns b20 b22 h16).bind fun h26 =>
  (ck (hK h26 t = 13)).bind fun _ =>
  (hG h26 1207 t).bind fun b29 =>
  (ck (hK h26 b29 = 9)).bind fun _ =>
  (F_X7_readEnd b29 h26).bind fun h33 =>
  (ck (hK h33 t = 13)).bind fun _ =>
  (hG h33 1202 t).bind fun b36 =>
  (ck (hK h33 b36 = 2)).bind fun _ =>
  (F_X0_clear b36 h33).bind fun h40 =>
  (ck (hK h40 t = 13)).bind fun _ =>
  (hG h40 1207 t).bind fun b43 =>
  (ck (hK h40 b43 = 9)).bind fun _ =>
  (F_X7_isRight b43 h40).bind fun q49 =>
  bd q49.1 fun z48 =>
  bd q49.2 fun h47 =>
  if z48 = 0 then
    some (some b22, h47)
  else
    (ck (hK h47 t = 13)).bind fun _ =>
    (hG h47 1205 t).bind fun b52 =>
    (ck (hK h47 b52 = 8)).bind fun _ =>
    (F_X6_replay b52 b22 h47).bind fun h56 =>
    (ck (hK h56 t = 13)).bind fun _ =>
    bd (sF h56 1210 t ((-1))) fun h59 =>
    (hG h59 1207 t).bind fun b61 =>
    (hG h59 1205 t).bind fun b63 =>
    (ck (hK h59 b61 = 9)).bind fun _ =>
    (F_X7_compare b61 b22 b63 h59).bind fun h67 =>
    some (some b22, h67)

def F_X11_check (t : Nat) (x1 : Int32) (h : aH) : Option (Int32 × aH) :=
  if x1 < 0 then
    some ((-1), h)
  else
    (hG h 1202 t).bind fun b2 =>
    (ck (hK h b2 = 2)).bind fun _ =>
    if x1 ≤ hF h 101 b2 then
      (F_X11_judge t x1 h).bind fun q9 =>
      bd q9.1 fun o8 =>
      bd q9.2 fun h7 =>
      (ck (hK h7 t = 13)).bind fun _ =>
      (hG h7 1207 t).bind fun b11 =>
      (ck (hK h7 b11 = 9)).bind fun _ =>
      some ((hF h7 804 b11) + 1, h7)
    else
      some ((-1), h)

def F_X11_take (t : Nat) (x1 : Int32) (h : aH) : Option (Int32 × aH) :=
  if x1 < 0 then
    some ((-1), h)
  else
    (hG h 1202 t).bind fun b2 =>
    (ck (hK h b2 = 2)).bind fun _ =>
    if hF h 101 b2 < x1 then
      some ((-1), h)
    else
      (hG h 1201 t).bind fun b6 =>
      (ck (hK h b6 = 1)).bind fun _ =>
      (F_Jx4a65c_size_8abf5 b6 h).bind fun q12 =>
      bd q12.1 fun z11 =>
      bd q12.2 fun h10 =>
      if z11 < 400 then
        (ck (hK h10 t = 13)).bind fun _ =>
        (F_X11_judge t x1 h10).bind fun q18 =>
        bd q18.1 fun o17 =>
        bd q18.2 fun h16 =>
        (ck (hK h16 t = 13)).bind fun _ =>
        (hG h16 1207 t).bind fun b20 =>
        (ck (hK h16 b20 = 9)).bind fun _ =>
        (F_X7_isRight b20 h16).bind fun q26 =>
        bd q26.1 fun z25 =>
        bd q26.2 fun h24 =>
        if z25 = 0 then
          (ck (hK h24 t = 13)).bind fun _ =>
          (hG h24 1207 t).bind fun b29 =>
          (ck (hK h24 b29 = 9)).bind fun _ =>
          some (((-2)) - (hF h24 804 b29), h24)
        else
          o17.bind fun b32 =>
          (ck (hK h24 t = 13)).bind fun _ =>
          (F_X11_addGame t b32 h24).bind fun q38 =>
          bd q38.1 fun z37 =>
          bd q38.2 fun h36 =>
          some (z37, h36)
      else
        some ((-1), h10)

def F_X11_addTurnFigures_87 (k41 : Nat → Nat → Int32 → Int64 → Int32 → aH → Option (Int64 × aH)) : Nat → Nat → Nat → Int32 → Int64 → Int32 → Int32 → aH → Option (Int64 × aH)
  | 0, _, _, _, _, _, _, _ => none
  | n + 1, t, a3, x4, x5, x7, x8, h =>
  if 4 ≤ x8 then
    bd (x7 + 1) fun v2 =>
    k41 t a3 x4 x5 v2 h
  else
    (ck (hK h t = 13)).bind fun _ =>
    (F_X11_fieldsFigure t a3 x4 x7 x8 h).bind fun q7 =>
    bd q7.1 fun z6 =>
    bd q7.2 fun h5 =>
    bd ((31 * x5) + z6.toInt64) fun v8 =>
    bd (x8 + 1) fun v9 =>
    F_X11_addTurnFigures_87 k41 n t a3 x4 v8 x7 v9 h5

def F_X11_addTurnFigures_51 (k41 : Nat → Nat → Int32 → Int64 → Int32 → aH → Option (Int64 × aH)) : Nat → Nat → Nat → Int32 → Int64 → Int32 → Int32 → aH → Option (Int64 × aH)
  | 0, _, _, _, _, _, _, _ => none
  | n + 1, t, a3, x4, x5, x7, x8, h =>
  if 4 ≤ x8 then
    F_X11_addTurnFigures_87 k41 fu t a3 x4 x5 x7 0 h
  else
    (ck (hK h t = 13)).bind fun _ =>
    (F_X11_batsFigure t a3 x4 x7 x8 h).bind fun q6 =>
    bd q6.1 fun z5 =>
    bd q6.2 fun h4 =>
    bd ((31 * x5) + z5.toInt64) fun v7 =>
    bd (x8 + 1) fun v8 =>
    F_X11_addTurnFigures_51 k41 n t a3 x4 v7 x7 v8 h4

def F_X11_addTurnFigures_41 : Nat → Nat → Nat → Int32 → Int64 → Int32 → aH → Option (Int64 × aH)
  | 0, _, _, _, _, _, _ => none
  | n + 1, t, a3, x4, x5, x7, h =>
  if 11 ≤ x7 then
    some (x5, h)
  else
    F_X11_addTurnFigures_51 (F_X11_addTurnFigures_41 n) fu t a3 x4 x5 x7 0 h

def F_X11_addTurnFigures_6 : Nat → Nat → Nat → Int32 → Int64 → Int32 → aH → Option (Int64 × aH)
  | 0, _, _, _, _, _, _ => none
  | n + 1, t, a3, x4, x5, x7, h =>
  if 16 ≤ x7 then
    F_X11_addTurnFigures_41 fu t a3 x4 x5 0 h
  else
    (ck (hK h t = 13)).bind fun _ =>
    (F_X11_scoreFigure t a3 x4 x7 h).bind fun q6 =>
    bd q6.1 fun z5 =>
    bd q6.2 fun h4 =>
    bd ((31 * x5) + z5.toInt64) fun v7 =>
    bd (x7 + 1) fun v8 =>
    F_X11_addTurnFigures_6 n t a3 x4 v7 v8 h4

def F_X11_addTurnFigures (t : Nat) (x1 : Int64) (a3 : Nat) (x4 : Int32) (h : aH) : Option (Int64 × aH) :=
  F_X11_addTurnFigures_6 fu t a3 x4 x1 0 h

set_option maxRecDepth 20000 in
theorem lk_X0_init {g : aG} {l : Launch} {d : Nat} (hdd : 1 ≤ d) {t : Nat} {x1 : Int32} {h : aH} {r : aH} (hT : hK h t = 2) (HF : F_X0_init t x1 h = some r) : MA g l yX0_init cX0_init 2 (none) d [.ref t, .int x1] h (none, r) := by
  refine MA.of (lv0 := [(0, .ref t), (1, .int x1)]) (by decide +kernel) (rfl) (Nat.le_of_ble_eq_true rfl) ?_
  unfold F_X0_init at HF
  refine ev_aload_n 0 dX0_init_0 rfl ?_
  refine ev_obj ml_X0_3 im_obj cd_obj dX0_init_1 (by omega) (Nat.le_of_ble_eq_true rfl) ?_
  refine ev_aload_n 0 dX0_init_4 rfl ?_
  refine ev_iload_n 1 dX0_init_5 rfl ?_
  refine ev_iconst (v := 0) dX0_init_6 (by decide) ?_
  refine ev_max ml_X0_9 dX0_init_7 (by omega) (Nat.le_of_ble_eq_true rfl) ?_
  replace HF := bd_n HF
  obtain ⟨z1, ez1, HF⟩ := HF
  refine ev_topI ez1 ?_
  replace HF := bind_ck HF
  obtain ⟨c2, HF⟩ := HF
  refine ev_newI  ar_int dX0_init_10 c2.1 rfl (Nat.le_trans c2.2 (by decide)) ?_
  replace HF := bd_n HF
  obtain ⟨b3, eb3, HF⟩ := HF
  refine ev_topR eb3 ?_
  replace HF := bd_n HF
  obtain ⟨h4, eh4, HF⟩ := HF
  refine ev_heap eh4 ?_
  show EvG _ _ _ _ _ _ _ _ _ _ _ 12 _ _ _
  replace HF := bind_ck HF
  obtain ⟨c5, HF⟩ := HF
  refine ev_pSF (f := 100) cl_X0 (k := 0) (by decide) fi_X0_0 rfl fl_X0_15 rfl rfl rfl rfl dX0_init_12 c5 ?_
  replace HF := bd_n HF
  obtain ⟨h6, eh6, HF⟩ := HF
  refine ev_heap eh6 ?_
  have c7 : hK h6 t = 2 := by rw [eh6]; exact c5
  refine ev_aload_n 0 dX0_init_15 rfl ?_
  refine ev_iconst (v := 0) dX0_init_16 (by decide) ?_
  refine ev_pI (f := 101) cl_X0 (k := 1) (by decide) fi_X0_1 rfl fl_X0_21 rfl rfl rfl dX0_init_17 c7 ?_
  replace HF := bd_n HF
  obtain ⟨h8, eh8, HF⟩ := HF
  refine ev_heap eh8 ?_
  have c9 : hK h8 t = 2 := by rw [eh8]; exact c7
  obtain rfl := Option.some.inj HF
  exact ev_vret dX0_init_20

set_option maxRecDepth 20000 in
theorem lk_X0_add {g : aG} {l : Launch} {d : Nat} (hdd : 0 ≤ d) {t : Nat} {x1 : Int32} {h : aH} {r : aH} (hT : hK h t = 2) (HF : F_X0_add t x1 h = some r) : MA g l yX0_add cX0_add 2 (none) d [.ref t, .int x1] h (none, r) := by
  refine MA.of (lv0 := [(0, .ref t), (1, .int x1)]) (by decide +kernel) (rfl) (Nat.le_of_ble_eq_true rfl) ?_
  unfold F_X0_add at HF
  refine ev_aload_n 0 dX0_add_0 rfl ?_
  refine ev_gI (f := 101) cl_X0 (k := 1) (by decide) fi_X0_1 rfl fl_X0_21 dX0_add_1 hT ?_
  refine ev_aload_n 0 dX0_add_4 rfl ?_
  replace HF := bind_o HF
  obtain ⟨b1, e2, HF⟩ := HF
  refine ev_gS (f := 100) cl_X0 (k := 0) (by decide) fi_X0_0 rfl fl_X0_15 dX0_add_5 hT e2 ?_
  replace HF := bind_ck HF
  obtain ⟨c3, HF⟩ := HF
  refine ev_alen dX0_add_8 (by decide) (by decide) c3 rfl ?_
  by_cases c4 : Int32.ofNat (hN h b1) ≤ hF h 101 t
  · replace HF := ite_T c4 HF
    refine ev_icmp_geT (tgt := 36) dX0_add_9 (by decide) c4 ?_
    obtain rfl := Option.some.inj HF
    exact ev_vret dX0_add_36
  · replace HF := ite_F c4 HF
    refine ev_icmp_geF (tgt := 36) dX0_add_9 (by decide) c4 ?_
    refine ev_aload_n 0 dX0_add_12 rfl ?_
    replace HF := bind_o HF
    obtain ⟨b5, e6, HF⟩ := HF
    refine ev_gS (f := 100) cl_X0 (k := 0) (by decide) fi_X0_0 rfl fl_X0_15 dX0_add_13 hT e6 ?_
    refine ev_aload_n 0 dX0_add_16 rfl ?_
    refine ev_gI (f := 101) cl_X0 (k := 1) (by decide) fi_X0_1 rfl fl_X0_21 dX0_add_17 hT ?_
    refine ev_iload_n 1 dX0_add_20 rfl ?_
    refine ev_sipush (v := 255) dX0_add_21 (by decide) ?_
    refine ev_iand dX0_add_24 ?_
    show EvG _ _ _ _ _ _ _ _ _ _ _ 25 _ _ _
    replace HF := bind_ck HF
    obtain ⟨c7, HF⟩ := HF
    refine ev_iast dX0_add_25 c7.1 c7.2 ?_
    replace HF := bd_n HF
    obtain ⟨h8, eh8, HF⟩ := HF
    refine ev_heap eh8 ?_
    have c9 : hK h8 t = 2 := by rw [eh8]; exact hT
    have c10 : hK h8 b1 = 21 := by rw [eh8]; exact c3
    refine ev_aload_n 0 dX0_add_26 rfl ?_
    refine ev_dup dX0_add_27 rfl ?_
    refine ev_gI (f := 101) cl_X0 (k := 1) (by decide) fi_X0_1 rfl fl_X0_21 dX0_add_28 c9 ?_
    refine ev_iconst (v := 1) dX0_add_31 (by decide) ?_
    refine ev_iadd dX0_add_32 ?_
    refine ev_pI (f := 101) cl_X0 (k := 1) (by decide) fi_X0_1 rfl fl_X0_21 rfl rfl rfl dX0_add_33 c9 ?_
    replace HF := bd_n HF
    obtain ⟨h11, eh11, HF⟩ := HF
    refine ev_heap eh11 ?_
    have c12 : hK h11 t = 2 := by rw [eh11]; exact c9
    have c13 : hK h11 b1 = 21 := by rw [eh11]; exact c10
    obtain rfl := Option.some.inj HF
    exact ev_vret dX0_add_36

set_option maxRecDepth 20000 in
theorem lk_X0_addNumber {g : aG} {l : Launch} {d : Nat} (hdd : 1 ≤ d) {t : Nat} {x1 : Int32} {h : aH} {r : aH} (hT : hK h t = 2) (HF : F_X0_addNumber t x1 h = some r) : MA g l yX0_addNumber cX0_addNumber 2 (none) d [.ref t, .int x1] h (none, r) := by
  refine MA.of (lv0 := [(0, .ref t), (1, .int x1)]) (by decide +kernel) (rfl) (Nat.le_of_ble_eq_true rfl) ?_
  unfold F_X0_addNumber at HF
  refine ev_aload_n 0 dX0_addNumber_0 rfl ?_
  refine ev_iload_n 1 dX0_addNumber_1 rfl ?_
  refine ev_bipush (v := 24) dX0_addNumber_2 (by decide) ?_
  refine ev_ishr dX0_addNumber_4 ?_
  replace HF := bind_o HF
  obtain ⟨h2, e1, HF⟩ := HF
  refine ev_callV (As := [.int (x1 >>> (24 &&& 31))]) (R1 := (none, h2)) (lk_X0_add (d := 0) (Nat.le_refl _) hT e1) ce_X0_add im_X0_add sl_X0_add ml_X0_25 cl_X0 hT dX0_addNumber_5 (by omega) (Nat.le_of_ble_eq_true rfl) rfl rfl ?_
  show EvG _ _ _ _ _ _ _ _ _ _ _ 8 [(0, .ref t), (1, .int x1)] [] h2
  refine ev_aload_n 0 dX0_addNumber_8 rfl ?_
  refine ev_iload_n 1 dX0_addNumber_9 rfl ?_
  show EvG _ _ _ _ _ _ _ _ _ _ _ 10 _ _ _
  refine ev_bipush (v := 16) dX0_addNumber_10 (by decide) ?_
  refine ev_ishr dX0_addNumber_12 ?_
  replace HF := bind_ck HF
  obtain ⟨c4, HF⟩ := HF
  replace HF := bind_o HF
  obtain ⟨h6, e5, HF⟩ := HF
  refine ev_callV (As := [.int (x1 >>> (16 &&& 31))]) (R1 := (none, h6)) (lk_X0_add (d := 0) (Nat.le_refl _) c4 e5) ce_X0_add im_X0_add sl_X0_add ml_X0_25 cl_X0 c4 dX0_addNumber_13 (by omega) (Nat.le_of_ble_eq_true rfl) rfl rfl ?_
  show EvG _ _ _ _ _ _ _ _ _ _ _ 16 [(0, .ref t), (1, .int x1)] [] h6
  refine ev_aload_n 0 dX0_addNumber_16 rfl ?_
  refine ev_iload_n 1 dX0_addNumber_17 rfl ?_
  refine ev_bipush (v := 8) dX0_addNumber_18 (by decide) ?_
  refine ev_ishr dX0_addNumber_20 ?_
  replace HF := bind_ck HF
  obtain ⟨c8, HF⟩ := HF
  replace HF := bind_o HF
  obtain ⟨h10, e9, HF⟩ := HF
  refine ev_callV (As := [.int (x1 >>> (8 &&& 31))]) (R1 := (none, h10)) (lk_X0_add (d := 0) (Nat.le_refl _) c8 e9) ce_X0_add im_X0_add sl_X0_add ml_X0_25 cl_X0 c8 dX0_addNumber_21 (by omega) (Nat.le_of_ble_eq_true rfl) rfl rfl ?_
  show EvG _ _ _ _ _ _ _ _ _ _ _ 24 [(0, .ref t), (1, .int x1)] [] h10
  show EvG _ _ _ _ _ _ _ _ _ _ _ 24 _ _ _
  refine ev_aload_n 0 dX0_addNumber_24 rfl ?_
  refine ev_iload_n 1 dX0_addNumber_25 rfl ?_
  replace HF := bind_ck HF
  obtain ⟨c12, HF⟩ := HF
  replace HF := bind_o HF
  obtain ⟨h14, e13, HF⟩ := HF
  refine ev_callV (As := [.int x1]) (R1 := (none, h14)) (lk_X0_add (d := 0) (Nat.le_refl _) c12 e13) ce_X0_add im_X0_add sl_X0_add ml_X0_25 cl_X0 c12 dX0_addNumber_26 (by omega) (Nat.le_of_ble_eq_true rfl) rfl rfl ?_
  show EvG _ _ _ _ _ _ _ _ _ _ _ 29 [(0, .ref t), (1, .int x1)] [] h14
  obtain rfl := Option.some.inj HF
  exact ev_vret dX0_addNumber_29

set_option maxRecDepth 20000 in
theorem lk_X0_at {g : aG} {l : Launch} {d : Nat} (hdd : 0 ≤ d) {t : Nat} {x1 : Int32} {h : aH} {r : Int32 × aH} (hT : hK h t = 2) (HF : F_X0_at t x1 h = some r) : MA g l yX0_at cX0_at 2 (some .int) d [.ref t, .int x1] h (some (.int r.1), r.2) := by
  refine MA.of (lv0 := [(0, .ref t), (1, .int x1)]) (by decide +kernel) (rfl) (Nat.le_of_ble_eq_true rfl) ?_
  unfold F_X0_at at HF
  refine ev_iload_n 1 dX0_at_0 rfl ?_
  by_cases c1 : x1 < 0
  · replace HF := ite_T c1 HF
    refine ev_if_ltT (tgt := 21) dX0_at_1 (by decide) c1 ?_
    refine ev_iconst (v := (-1)) dX0_at_21 (by decide) ?_
    obtain rfl := Option.some.inj HF
    exact ev_iret dX0_at_22
  · replace HF := ite_F c1 HF
    refine ev_if_ltF (tgt := 21) dX0_at_1 (by decide) c1 ?_
    refine ev_iload_n 1 dX0_at_4 rfl ?_
    refine ev_aload_n 0 dX0_at_5 rfl ?_
    refine ev_gI (f := 101) cl_X0 (k := 1) (by decide) fi_X0_1 rfl fl_X0_21 dX0_at_6 hT ?_
    by_cases c2 : hF h 101 t ≤ x1
    · replace HF := ite_T c2 HF
      refine ev_icmp_geT (tgt := 21) dX0_at_9 (by decide) c2 ?_
      refine ev_iconst (v := (-1)) dX0_at_21 (by decide) ?_
      obtain rfl := Option.some.inj HF
      exact ev_iret dX0_at_22
    · replace HF := ite_F c2 HF
      refine ev_icmp_geF (tgt := 21) dX0_at_9 (by decide) c2 ?_
      refine ev_aload_n 0 dX0_at_12 rfl ?_
      replace HF := bind_o HF
      obtain ⟨b3, e4, HF⟩ := HF
      refine ev_gS (f := 100) cl_X0 (k := 0) (by decide) fi_X0_0 rfl fl_X0_15 dX0_at_13 hT e4 ?_
      refine ev_iload_n 1 dX0_at_16 rfl ?_
      replace HF := bind_ck HF
      obtain ⟨c5, HF⟩ := HF
      refine ev_iald dX0_at_17 c5.1 c5.2 ?_
      refine ev_goto (tgt := 22) dX0_at_18 (by decide) ?_
      obtain rfl := Option.some.inj HF
      exact ev_iret dX0_at_22

set_option maxRecDepth 20000 in
theorem lk_X0_clear {g : aG} {l : Launch} {d : Nat} (hdd : 0 ≤ d) {t : Nat} {h : aH} {r : aH} (hT : hK h t = 2) (HF : F_X0_clear t h = some r) : MA g l yX0_clear cX0_clear 1 (none) d [.ref t] h (none, r) := by
  refine MA.of (lv0 := [(0, .ref t)]) (by decide +kernel) (rfl) (Nat.le_of_ble_eq_true rfl) ?_
  unfold F_X0_clear at HF
  refine ev_aload_n 0 dX0_clear_0 rfl ?_
  refine ev_iconst (v := 0) dX0_clear_1 (by decide) ?_
  refine ev_pI (f := 101) cl_X0 (k := 1) (by decide) fi_X0_1 rfl fl_X0_21 rfl rfl rfl dX0_clear_2 hT ?_
  replace HF := bd_n HF
  obtain ⟨h1, eh1, HF⟩ := HF
  refine ev_heap eh1 ?_
  have c2 : hK h1 t = 2 := by rw [eh1]; exact hT
  obtain rfl := Option.some.inj HF
  exact ev_vret dX0_clear_5

set_option maxRecDepth 20000 in
theorem lk_X5_init {g : aG} {l : Launch} {d : Nat} (hdd : 1 ≤ d) {t : Nat} {x1 : Int32} {x2 : Int32} {h : aH} {r : aH} (hT : hK h t = 7) (HF : F_X5_init t x1 x2 h = some r) : MA g l yX5_init cX5_init 3 (none) d [.ref t, .int x1, .int x2] h (none, r) := by
  refine MA.of (lv0 := [(0, .ref t), (1, .int x1), (2, .int x2)]) (by decide +kernel) (rfl) (Nat.le_of_ble_eq_true rfl) ?_
  unfold F_X5_init at HF
  refine ev_aload_n 0 dX5_init_0 rfl ?_
  refine ev_obj ml_X5_3 im_obj cd_obj dX5_init_1 (by omega) (Nat.le_of_ble_eq_true rfl) ?_
  refine ev_aload_n 0 dX5_init_4 rfl ?_
  refine ev_bipush (v := 40) dX5_init_5 (by decide) ?_
  refine ev_newI (n' := 40) ar_int dX5_init_7 (by decide) (by decide) (by decide) ?_
  replace HF := bd_n HF
  obtain ⟨b1, eb1, HF⟩ := HF
  refine ev_topR eb1 ?_
  replace HF := bd_n HF
  obtain ⟨h2, eh2, HF⟩ := HF
  refine ev_heap eh2 ?_
  replace HF := bind_ck HF
  obtain ⟨c3, HF⟩ := HF
  refine ev_pSF (f := 600) cl_X5 (k := 0) (by decide) fi_X5_0 rfl fl_X5_9 rfl rfl rfl rfl dX5_init_9 c3 ?_
  replace HF := bd_n HF
  obtain ⟨h4, eh4, HF⟩ := HF
  refine ev_heap eh4 ?_
  have c5 : hK h4 t = 7 := by rw [eh4]; exact c3
  refine ev_aload_n 0 dX5_init_12 rfl ?_
  show EvG _ _ _ _ _ _ _ _ _ _ _ 13 _ _ _
  refine ev_iload_n 1 dX5_init_13 rfl ?_
  refine ev_pI (f := 601) cl_X5 (k := 1) (by decide) fi_X5_1 rfl fl_X5_15 rfl rfl rfl dX5_init_14 c5 ?_
  replace HF := bd_n HF
  obtain ⟨h6, eh6, HF⟩ := HF
  refine ev_heap eh6 ?_
  have c7 : hK h6 t = 7 := by rw [eh6]; exact c5
  refine ev_aload_n 0 dX5_init_17 rfl ?_
  refine ev_iload_n 2 dX5_init_18 rfl ?_
  refine ev_pI (f := 602) cl_X5 (k := 2) (by decide) fi_X5_2 rfl fl_X5_19 rfl rfl rfl dX5_init_19 c7 ?_
  replace HF := bd_n HF
  obtain ⟨h8, eh8, HF⟩ := HF
  refine ev_heap eh8 ?_
  have c9 : hK h8 t = 7 := by rw [eh8]; exact c7
  obtain rfl := Option.some.inj HF
  exact ev_vret dX5_init_22

set_option maxRecDepth 20000 in
theorem lk_X1_init {g : aG} {l : Launch} {d : Nat} (hdd : 2 ≤ d) {t : Nat} {h : aH} {r : aH} (hT : hK h t = 3) (HF : F_X1_init t h = some r) : MA g l yX1_init cX1_init 1 (none) d [.ref t] h (none, r) := by
  refine MA.of (lv0 := [(0, .ref t)]) (by decide +kernel) (rfl) (Nat.le_of_ble_eq_true rfl) ?_
  unfold F_X1_init at HF
  refine ev_aload_n 0 dX1_init_0 rfl ?_
  refine ev_obj ml_X1_3 im_obj cd_obj dX1_init_1 (by omega) (Nat.le_of_ble_eq_true rfl) ?_
  refine ev_aload_n 0 dX1_init_4 rfl ?_
  refine ev_new cl_X5 kl_X1_9 ins_X5 ini_X5 df_X5 dX1_init_5 ?_
  replace HF := bd_n HF
  obtain ⟨b1, eb1, HF⟩ := HF
  refine ev_topR eb1 ?_
  replace HF := bd_n HF
  obtain ⟨h2, eh2, HF⟩ := HF
  refine ev_heap eh2 ?_
  refine ev_dup dX1_init_8 rfl ?_
  refine ev_iconst (v := 0) dX1_init_9 (by decide) ?_
  refine ev_iconst (v := (-1)) dX1_init_10 (by decide) ?_
  show EvG _ _ _ _ _ _ _ _ _ _ _ 11 _ _ _
  replace HF := bind_ck HF
  obtain ⟨c3, HF⟩ := HF
  replace HF := bind_o HF
  obtain ⟨h5, e4, HF⟩ := HF
  refine ev_callI (As := [.int 0, .int ((-1))]) (R1 := (none, h5)) (lk_X5_init (d := 1) (Nat.le_refl _) c3 e4) ce_X5_init rfl im_X5_init ml_X1_11 dX1_init_11 (by omega) (Nat.le_of_ble_eq_true rfl) rfl rfl ?_
  show EvG _ _ _ _ _ _ _ _ _ _ _ 14 [(0, .ref t)] [.ref b1, .ref t] h5
  replace HF := bind_ck HF
  obtain ⟨c7, HF⟩ := HF
  refine ev_pSF (f := 200) cl_X1 (k := 0) (by decide) fi_X1_0 rfl fl_X1_14 rfl rfl rfl rfl dX1_init_14 c7 ?_
  replace HF := bd_n HF
  obtain ⟨h8, eh8, HF⟩ := HF
  refine ev_heap eh8 ?_
  have c9 : hK h8 t = 3 := by rw [eh8]; exact c7
  refine ev_aload_n 0 dX1_init_17 rfl ?_
  refine ev_iconst (v := (-1)) dX1_init_18 (by decide) ?_
  refine ev_pI (f := 201) cl_X1 (k := 1) (by decide) fi_X1_1 rfl fl_X1_20 rfl rfl rfl dX1_init_19 c9 ?_
  replace HF := bd_n HF
  obtain ⟨h10, eh10, HF⟩ := HF
  refine ev_heap eh10 ?_
  have c11 : hK h10 t = 3 := by rw [eh10]; exact c9
  refine ev_aload_n 0 dX1_init_22 rfl ?_
  refine ev_iconst (v := 0) dX1_init_23 (by decide) ?_
  refine ev_pI (f := 202) cl_X1 (k := 2) (by decide) fi_X1_2 rfl fl_X1_24 rfl rfl rfl dX1_init_24 c11 ?_
  replace HF := bd_n HF
  obtain ⟨h12, eh12, HF⟩ := HF
  refine ev_heap eh12 ?_
  have c13 : hK h12 t = 3 := by rw [eh12]; exact c11
  show EvG _ _ _ _ _ _ _ _ _ _ _ 27 _ _ _
  refine ev_aload_n 0 dX1_init_27 rfl ?_
  refine ev_iconst (v := (-1)) dX1_init_28 (by decide) ?_
  refine ev_pI (f := 203) cl_X1 (k := 3) (by decide) fi_X1_3 rfl fl_X1_27 rfl rfl rfl dX1_init_29 c13 ?_
  replace HF := bd_n HF
  obtain ⟨h14, eh14, HF⟩ := HF
  refine ev_heap eh14 ?_
  have c15 : hK h14 t = 3 := by rw [eh14]; exact c13
  refine ev_aload_n 0 dX1_init_32 rfl ?_
  refine ev_iconst (v := (-1)) dX1_init_33 (by decide) ?_
  refine ev_pI (f := 204) cl_X1 (k := 4) (by decide) fi_X1_4 rfl fl_X1_30 rfl rfl rfl dX1_init_34 c15 ?_
  replace HF := bd_n HF
  obtain ⟨h16, eh16, HF⟩ := HF
  refine ev_heap eh16 ?_
  have c17 : hK h16 t = 3 := by rw [eh16]; exact c15
  obtain rfl := Option.some.inj HF
  exact ev_vret dX1_init_37

set_option maxRecDepth 20000 in
theorem lk_X2_init_25 {g : aG} {l : Launch} {d : Nat} {h0 : aH} (hdd : 3 ≤ d) {r : aH} : ∀ (n : Nat) (t : Nat) (x1 : Int32) (h : aH), F_X2_init_25  n t x1 h = some r → Ev g l cX2_init 2 yX2_init (none) d h0 (none, r) 25 [(0, .ref t), (1, .int x1)] [] h := by
  intro n
  induction n with
  | zero => intro t x1 h HF; cases HF
  | succ n ih =>
  intro t x1 h HF
  unfold F_X2_init_25 at HF
  refine ev_iload_n 1 dX2_init_25 rfl ?_
  refine ev_aload_n 0 dX2_init_26 rfl ?_
  replace HF := bind_ck HF
  obtain ⟨c1, HF⟩ := HF
  replace HF := bind_o HF
  obtain ⟨b2, e3, HF⟩ := HF
  refine ev_gS (f := 300) cl_X2 (k := 0) (by decide) fi_X2_0 rfl fl_X2_11 dX2_init_27 c1 e3 ?_
  replace HF := bind_ck HF
  obtain ⟨c4, HF⟩ := HF
  refine ev_alen dX2_init_30 (by decide) (by decide) c4 rfl ?_
  by_cases c5 : Int32.ofNat (hN h b2) ≤ x1
  · replace HF := ite_T c5 HF
    refine ev_icmp_geT (tgt := 53) dX2_init_31 (by decide) c5 ?_
    obtain rfl := Option.some.inj HF
    exact ev_vret dX2_init_53
  · replace HF := ite_F c5 HF
    refine ev_icmp_geF (tgt := 53) dX2_init_31 (by decide) c5 ?_
    refine ev_aload_n 0 dX2_init_34 rfl ?_
    replace HF := bind_o HF
    obtain ⟨b6, e7, HF⟩ := HF
    refine ev_gS (f := 300) cl_X2 (k := 0) (by decide) fi_X2_0 rfl fl_X2_11 dX2_init_35 c1 e7 ?_
    refine ev_iload_n 1 dX2_init_38 rfl ?_
    refine ev_new cl_X1 kl_X2_9 ins_X1 ini_X1 df_X1 dX2_init_39 ?_
    replace HF := bd_n HF
    obtain ⟨b8, eb8, HF⟩ := HF
    refine ev_topR eb8 ?_
    replace HF := bd_n HF
    obtain ⟨h9, eh9, HF⟩ := HF
    refine ev_heap eh9 ?_
    refine ev_dup dX2_init_42 rfl ?_
    replace HF := bind_ck HF
    obtain ⟨c10, HF⟩ := HF
    replace HF := bind_o HF
    obtain ⟨h12, e11, HF⟩ := HF
    refine ev_callI (As := []) (R1 := (none, h12)) (lk_X1_init (d := 2) (Nat.le_refl _) c10 e11) ce_X1_init rfl im_X1_init ml_X2_24 dX2_init_43 (by omega) (Nat.le_of_ble_eq_true rfl) rfl rfl ?_
    show EvG _ _ _ _ _ _ _ _ _ _ _ 46 [(0, .ref t), (1, .int x1)] [.ref b8, .int x1, .ref b6] h12
    replace HF := bind_ck HF
    obtain ⟨c14, HF⟩ := HF
    replace HF := bind_ck HF
    obtain ⟨c15, HF⟩ := HF
    refine ev_aast cl_X1 dX2_init_46 (by decide) (by decide) rfl c14.1 c15 c14.2 ?_
    replace HF := bd_n HF
    obtain ⟨h16, eh16, HF⟩ := HF
    refine ev_heap eh16 ?_
    have c17 : hK h16 b8 = 3 := by rw [eh16]; exact c15
    show EvG _ _ _ _ _ _ _ _ _ _ _ 47 _ _ _
    replace HF := bd_n HF
    obtain ⟨v18, ev18, HF⟩ := HF
    refine ev_iinc (v := v18) (lv' := [(1, .int v18), (0, .ref t)]) 1 dX2_init_47 rfl (by rw [ev18]; rfl) (by decide) (rfl) ?_
    refine ev_goto (tgt := 25) dX2_init_50 (by decide) ?_
    exact Ev.sub [1, 0] rfl (ih t v18 _ HF)

set_option maxRecDepth 20000 in
theorem lk_X2_init {g : aG} {l : Launch} {d : Nat} (hdd : 3 ≤ d) {t : Nat} {h : aH} {r : aH} (hT : hK h t = 4) (HF : F_X2_init t h = some r) : MA g l yX2_init cX2_init 2 (none) d [.ref t] h (none, r) := by
  refine MA.of (lv0 := [(0, .ref t)]) (by decide +kernel) (rfl) (Nat.le_of_ble_eq_true rfl) ?_
  unfold F_X2_init at HF
  refine ev_aload_n 0 dX2_init_0 rfl ?_
  refine ev_obj ml_X2_3 im_obj cd_obj dX2_init_1 (by omega) (Nat.le_of_ble_eq_true rfl) ?_
  refine ev_aload_n 0 dX2_init_4 rfl ?_
  refine ev_bipush (v := 40) dX2_init_5 (by decide) ?_
  refine ev_anew (k := 24) (n' := 40) (by decide) (by decide) kl_X2_9 dX2_init_7 (by decide) (by decide) (by decide) ?_
  replace HF := bd_n HF
  obtain ⟨b1, eb1, HF⟩ := HF
  refine ev_topR eb1 ?_
  replace HF := bd_n HF
  obtain ⟨h2, eh2, HF⟩ := HF
  refine ev_heap eh2 ?_
  replace HF := bind_ck HF
  obtain ⟨c3, HF⟩ := HF
  refine ev_pSF (f := 300) cl_X2 (k := 0) (by decide) fi_X2_0 rfl fl_X2_11 rfl rfl rfl rfl dX2_init_10 c3 ?_
  replace HF := bd_n HF
  obtain ⟨h4, eh4, HF⟩ := HF
  refine ev_heap eh4 ?_
  have c5 : hK h4 t = 4 := by rw [eh4]; exact c3
  refine ev_aload_n 0 dX2_init_13 rfl ?_
  show EvG _ _ _ _ _ _ _ _ _ _ _ 14 _ _ _
  refine ev_iconst (v := 0) dX2_init_14 (by decide) ?_
  refine ev_pI (f := 301) cl_X2 (k := 1) (by decide) fi_X2_1 rfl fl_X2_17 rfl rfl rfl dX2_init_15 c5 ?_
  replace HF := bd_n HF
  obtain ⟨h6, eh6, HF⟩ := HF
  refine ev_heap eh6 ?_
  have c7 : hK h6 t = 4 := by rw [eh6]; exact c5
  refine ev_aload_n 0 dX2_init_18 rfl ?_
  refine ev_iconst (v := 0) dX2_init_19 (by decide) ?_
  refine ev_pI (f := 302) cl_X2 (k := 2) (by decide) fi_X2_2 rfl fl_X2_21 rfl rfl rfl dX2_init_20 c7 ?_
  replace HF := bd_n HF
  obtain ⟨h8, eh8, HF⟩ := HF
  refine ev_heap eh8 ?_
  have c9 : hK h8 t = 4 := by rw [eh8]; exact c7
  refine ev_iconst (v := 0) dX2_init_23 (by decide) ?_
  refine ev_istore_n (lv' := [(1, .int 0), (0, .ref t)]) dX2_init_24 (by decide) (rfl) ?_
  exact Ev.sub [1, 0] rfl (lk_X2_init_25 hdd  fu t 0 _ HF)

set_option maxRecDepth 20000 in
theorem lk_X2_changeAt {g : aG} {l : Launch} {d : Nat} (hdd : 0 ≤ d) {t : Nat} {x1 : Int32} {h : aH} {r : Option Nat × aH} (hT : hK h t = 4) (HF : F_X2_changeAt t x1 h = some r) : MA g l yX2_changeAt cX2_changeAt 2 (some (.object "BallBook$Change")) d [.ref t, .int x1] h (some (va_rf r.1), r.2) := by
  refine MA.of (lv0 := [(0, .ref t), (1, .int x1)]) (by decide +kernel) (rfl) (Nat.le_of_ble_eq_true rfl) ?_
  unfold F_X2_changeAt at HF
  refine ev_iload_n 1 dX2_changeAt_0 rfl ?_
  by_cases c1 : x1 < 0
  · replace HF := ite_T c1 HF
    refine ev_if_ltT (tgt := 22) dX2_changeAt_1 (by decide) c1 ?_
    refine ev_null dX2_changeAt_22 ?_
    obtain rfl := Option.some.inj HF
    exact ev_aret (r := none) (Or.inl ⟨_, rfl⟩) dX2_changeAt_23
  · replace HF := ite_F c1 HF
    refine ev_if_ltF (tgt := 22) dX2_changeAt_1 (by decide) c1 ?_
    refine ev_iload_n 1 dX2_changeAt_4 rfl ?_
    refine ev_aload_n 0 dX2_changeAt_5 rfl ?_
    replace HF := bind_o HF
    obtain ⟨b2, e3, HF⟩ := HF
    refine ev_gS (f := 300) cl_X2 (k := 0) (by decide) fi_X2_0 rfl fl_X2_11 dX2_changeAt_6 hT e3 ?_
    replace HF := bind_ck HF
    obtain ⟨c4, HF⟩ := HF
    refine ev_alen dX2_changeAt_9 (by decide) (by decide) c4 rfl ?_
    by_cases c5 : Int32.ofNat (hN h b2) ≤ x1
    · replace HF := ite_T c5 HF
      refine ev_icmp_geT (tgt := 22) dX2_changeAt_10 (by decide) c5 ?_
      refine ev_null dX2_changeAt_22 ?_
      obtain rfl := Option.some.inj HF
      exact ev_aret (r := none) (Or.inl ⟨_, rfl⟩) dX2_changeAt_23
    · replace HF := ite_F c5 HF
      refine ev_icmp_geF (tgt := 22) dX2_changeAt_10 (by decide) c5 ?_
      refine ev_aload_n 0 dX2_changeAt_13 rfl ?_
      replace HF := bind_o HF
      obtain ⟨b6, e7, HF⟩ := HF
      refine ev_gS (f := 300) cl_X2 (k := 0) (by decide) fi_X2_0 rfl fl_X2_11 dX2_changeAt_14 hT e7 ?_
      refine ev_iload_n 1 dX2_changeAt_17 rfl ?_
      replace HF := bind_ck HF
      obtain ⟨c8, HF⟩ := HF
      replace HF := bind_o HF
      obtain ⟨b9, e10, HF⟩ := HF
      refine ev_aald 24 dX2_changeAt_18 (by decide) (by decide) c8.1 c8.2 ?_
      rw [e10]
      refine ev_goto (tgt := 23) dX2_changeAt_19 (by decide) ?_
      obtain rfl := Option.some.inj HF
      exact ev_aret (r := some b9) (Or.inl ⟨_, rfl⟩) dX2_changeAt_23

set_option maxRecDepth 20000 in
theorem lk_X5_has {g : aG} {l : Launch} {d : Nat} (hdd : 0 ≤ d) {t : Nat} {x1 : Int32} {h : aH} {r : Int32 × aH} (hT : hK h t = 7) (HF : F_X5_has t x1 h = some r) : MA g l yX5_has cX5_has 2 (some .boolean) d [.ref t, .int x1] h (some (.int r.1), r.2) := by
  refine MA.of (lv0 := [(0, .ref t), (1, .int x1)]) (by decide +kernel) (rfl) (Nat.le_of_ble_eq_true rfl) ?_
  unfold F_X5_has at HF
  refine ev_iload_n 1 dX5_has_0 rfl ?_
  by_cases c1 : x1 < 0
  · replace HF := ite_T c1 HF
    refine ev_if_ltT (tgt := 22) dX5_has_1 (by decide) c1 ?_
    refine ev_iconst (v := 0) dX5_has_22 (by decide) ?_
    obtain rfl := Option.some.inj HF
    exact ev_zret (v := 0) narrow_b0 dX5_has_23
  · replace HF := ite_F c1 HF
    refine ev_if_ltF (tgt := 22) dX5_has_1 (by decide) c1 ?_
    refine ev_iload_n 1 dX5_has_4 rfl ?_
    refine ev_aload_n 0 dX5_has_5 rfl ?_
    refine ev_gI (f := 602) cl_X5 (k := 2) (by decide) fi_X5_2 rfl fl_X5_19 dX5_has_6 hT ?_
    by_cases c2 : hF h 602 t ≤ x1
    · replace HF := ite_T c2 HF
      refine ev_icmp_geT (tgt := 22) dX5_has_9 (by decide) c2 ?_
      refine ev_iconst (v := 0) dX5_has_22 (by decide) ?_
      obtain rfl := Option.some.inj HF
      exact ev_zret (v := 0) narrow_b0 dX5_has_23
    · replace HF := ite_F c2 HF
      refine ev_icmp_geF (tgt := 22) dX5_has_9 (by decide) c2 ?_
      refine ev_iload_n 1 dX5_has_12 rfl ?_
      refine ev_bipush (v := 40) dX5_has_13 (by decide) ?_
      by_cases c3 : 40 ≤ x1
      · replace HF := ite_T c3 HF
        refine ev_icmp_geT (tgt := 22) dX5_has_15 (by decide) c3 ?_
        refine ev_iconst (v := 0) dX5_has_22 (by decide) ?_
        obtain rfl := Option.some.inj HF
        exact ev_zret (v := 0) narrow_b0 dX5_has_23
      · replace HF := ite_F c3 HF
        refine ev_icmp_geF (tgt := 22) dX5_has_15 (by decide) c3 ?_
        refine ev_iconst (v := 1) dX5_has_18 (by decide) ?_
        refine ev_goto (tgt := 23) dX5_has_19 (by decide) ?_
        obtain rfl := Option.some.inj HF
        exact ev_zret (v := 1) narrow_b1 dX5_has_23

set_option maxRecDepth 20000 in
theorem lk_X5_at {g : aG} {l : Launch} {d : Nat} (hdd : 1 ≤ d) {t : Nat} {x1 : Int32} {h : aH} {r : Int32 × aH} (hT : hK h t = 7) (HF : F_X5_at t x1 h = some r) : MA g l yX5_at cX5_at 2 (some .int) d [.ref t, .int x1] h (some (.int r.1), r.2) := by
  refine MA.of (lv0 := [(0, .ref t), (1, .int x1)]) (by decide +kernel) (rfl) (Nat.le_of_ble_eq_true rfl) ?_
  unfold F_X5_at at HF
  refine ev_aload_n 0 dX5_at_0 rfl ?_
  refine ev_iload_n 1 dX5_at_1 rfl ?_
  replace HF := bind_o HF
  obtain ⟨⟨z3, h2⟩, e1, HF⟩ := HF
  replace HF := bd_o (bd_o HF)
  dsimp only at HF
  refine ev_callV (As := [.int x1]) (R1 := (some (.int z3), h2)) (lk_X5_has (d := 0) (Nat.le_refl _) hT e1) ce_X5_has im_X5_has sl_X5_has ml_X5_22 cl_X5 hT dX5_at_2 (by omega) (Nat.le_of_ble_eq_true rfl) rfl rfl ?_
  show EvG _ _ _ _ _ _ _ _ _ _ _ 5 [(0, .ref t), (1, .int x1)] [.int z3] h2
  by_cases c5 : z3 = 0
  · replace HF := ite_T c5 HF
    refine ev_if_eqT (tgt := 17) dX5_at_5 (by decide) c5 ?_
    refine ev_iconst (v := (-1)) dX5_at_17 (by decide) ?_
    obtain rfl := Option.some.inj HF
    exact ev_iret dX5_at_18
  · replace HF := ite_F c5 HF
    refine ev_if_eqF (tgt := 17) dX5_at_5 (by decide) c5 ?_
    refine ev_aload_n 0 dX5_at_8 rfl ?_
    replace HF := bind_ck HF
    obtain ⟨c6, HF⟩ := HF
    replace HF := bind_o HF
    obtain ⟨b7, e8, HF⟩ := HF
    refine ev_gS (f := 600) cl_X5 (k := 0) (by decide) fi_X5_0 rfl fl_X5_9 dX5_at_9 c6 e8 ?_
    refine ev_iload_n 1 dX5_at_12 rfl ?_
    replace HF := bind_ck HF
    obtain ⟨c9, HF⟩ := HF
    refine ev_iald dX5_at_13 c9.1 c9.2 ?_
    refine ev_goto (tgt := 18) dX5_at_14 (by decide) ?_
    obtain rfl := Option.some.inj HF
    exact ev_iret dX5_at_18

set_option maxRecDepth 20000 in
theorem lk_X5_set {g : aG} {l : Launch} {d : Nat} (hdd : 1 ≤ d) {t : Nat} {x1 : Int32} {x2 : Int32} {h : aH} {r : aH} (hT : hK h t = 7) (HF : F_X5_set t x1 x2 h = some r) : MA g l yX5_set cX5_set 3 (none) d [.ref t, .int x1, .int x2] h (none, r) := by
  refine MA.of (lv0 := [(0, .ref t), (1, .int x1), (2, .int x2)]) (by decide +kernel) (rfl) (Nat.le_of_ble_eq_true rfl) ?_
  unfold F_X5_set at HF
  refine ev_aload_n 0 dX5_set_0 rfl ?_
  refine ev_iload_n 1 dX5_set_1 rfl ?_
  replace HF := bind_o HF
  obtain ⟨⟨z3, h2⟩, e1, HF⟩ := HF
  replace HF := bd_o (bd_o HF)
  dsimp only at HF
  refine ev_callV (As := [.int x1]) (R1 := (some (.int z3), h2)) (lk_X5_has (d := 0) (Nat.le_refl _) hT e1) ce_X5_has im_X5_has sl_X5_has ml_X5_22 cl_X5 hT dX5_set_2 (by omega) (Nat.le_of_ble_eq_true rfl) rfl rfl ?_
  show EvG _ _ _ _ _ _ _ _ _ _ _ 5 [(0, .ref t), (1, .int x1), (2, .int x2)] [.int z3] h2
  by_cases c5 : z3 = 0
  · replace HF := ite_T c5 HF
    refine ev_if_eqT (tgt := 15) dX5_set_5 (by decide) c5 ?_
    obtain rfl := Option.some.inj HF
    exact ev_vret dX5_set_15
  · replace HF := ite_F c5 HF
    refine ev_if_eqF (tgt := 15) dX5_set_5 (by decide) c5 ?_
    refine ev_aload_n 0 dX5_set_8 rfl ?_
    replace HF := bind_ck HF
    obtain ⟨c6, HF⟩ := HF
    replace HF := bind_o HF
    obtain ⟨b7, e8, HF⟩ := HF
    refine ev_gS (f := 600) cl_X5 (k := 0) (by decide) fi_X5_0 rfl fl_X5_9 dX5_set_9 c6 e8 ?_
    refine ev_iload_n 1 dX5_set_12 rfl ?_
    refine ev_iload_n 2 dX5_set_13 rfl ?_
    replace HF := bind_ck HF
    obtain ⟨c9, HF⟩ := HF
    refine ev_iast dX5_set_14 c9.1 c9.2 ?_
    replace HF := bd_n HF
    obtain ⟨h10, eh10, HF⟩ := HF
    refine ev_heap eh10 ?_
    have c11 : hK h10 t = 7 := by rw [eh10]; exact c6
    obtain rfl := Option.some.inj HF
    exact ev_vret dX5_set_15

set_option maxRecDepth 20000 in
theorem lk_X5_copy_18 {g : aG} {l : Launch} {d : Nat} {h0 : aH} (hdd : 2 ≤ d) {r : aH} : ∀ (n : Nat) (t : Nat) (a1 : Nat) (x2 : Int32) (h : aH), F_X5_copy_18  n t a1 x2 h = some r → Ev g l cX5_copy 3 yX5_copy (none) d h0 (none, r) 18 [(0, .ref t), (1, .ref a1), (2, .int x2)] [] h := by
  intro n
  induction n with
  | zero => intro t a1 x2 h HF; cases HF
  | succ n ih =>
  intro t a1 x2 h HF
  unfold F_X5_copy_18 at HF
  refine ev_iload_n 2 dX5_copy_18 rfl ?_
  refine ev_aload_n 0 dX5_copy_19 rfl ?_
  replace HF := bind_ck HF
  obtain ⟨c1, HF⟩ := HF
  refine ev_gI (f := 602) cl_X5 (k := 2) (by decide) fi_X5_2 rfl fl_X5_19 dX5_copy_20 c1 ?_
  by_cases c2 : hF h 602 t ≤ x2
  · replace HF := ite_T c2 HF
    refine ev_icmp_geT (tgt := 42) dX5_copy_23 (by decide) c2 ?_
    obtain rfl := Option.some.inj HF
    exact ev_vret dX5_copy_42
  · replace HF := ite_F c2 HF
    refine ev_icmp_geF (tgt := 42) dX5_copy_23 (by decide) c2 ?_
    refine ev_aload_n 0 dX5_copy_26 rfl ?_
    refine ev_iload_n 2 dX5_copy_27 rfl ?_
    refine ev_aload_n 1 dX5_copy_28 rfl ?_
    refine ev_iload_n 2 dX5_copy_29 rfl ?_
    replace HF := bind_ck HF
    obtain ⟨c3, HF⟩ := HF
    replace HF := bind_o HF
    obtain ⟨⟨z6, h5⟩, e4, HF⟩ := HF
    replace HF := bd_o (bd_o HF)
    dsimp only at HF
    refine ev_callV (As := [.int x2]) (R1 := (some (.int z6), h5)) (lk_X5_at (d := 1) (Nat.le_refl _) c3 e4) ce_X5_at im_X5_at sl_X5_at ml_X5_33 cl_X5 c3 dX5_copy_30 (by omega) (Nat.le_of_ble_eq_true rfl) rfl rfl ?_
    show EvG _ _ _ _ _ _ _ _ _ _ _ 33 [(0, .ref t), (1, .ref a1), (2, .int x2)] [.int z6, .int x2, .ref t] h5
    replace HF := bind_ck HF
    obtain ⟨c8, HF⟩ := HF
    replace HF := bind_o HF
    obtain ⟨h10, e9, HF⟩ := HF
    refine ev_callV (As := [.int x2, .int z6]) (R1 := (none, h10)) (lk_X5_set (d := 1) (Nat.le_refl _) c8 e9) ce_X5_set im_X5_set sl_X5_set ml_X5_37 cl_X5 c8 dX5_copy_33 (by omega) (Nat.le_of_ble_eq_true rfl) rfl rfl ?_
    show EvG _ _ _ _ _ _ _ _ _ _ _ 36 [(0, .ref t), (1, .ref a1), (2, .int x2)] [] h10
    replace HF := bd_n HF
    obtain ⟨v12, ev12, HF⟩ := HF
    refine ev_iinc (v := v12) (lv' := [(2, .int v12), (0, .ref t), (1, .ref a1)]) 2 dX5_copy_36 rfl (by rw [ev12]; rfl) (by decide) (rfl) ?_
    show EvG _ _ _ _ _ _ _ _ _ _ _ 39 _ _ _
    refine ev_goto (tgt := 18) dX5_copy_39 (by decide) ?_
    exact Ev.sub [1, 2, 0] rfl (ih t a1 v12 _ HF)

set_option maxRecDepth 20000 in
theorem lk_X5_copy {g : aG} {l : Launch} {d : Nat} (hdd : 2 ≤ d) {t : Nat} {a1 : Nat} {h : aH} {r : aH} (hT : hK h t = 7) (HF : F_X5_copy t a1 h = some r) : MA g l yX5_copy cX5_copy 3 (none) d [.ref t, .ref a1] h (none, r) := by
  refine MA.of (lv0 := [(0, .ref t), (1, .ref a1)]) (by decide +kernel) (rfl) (Nat.le_of_ble_eq_true rfl) ?_
  unfold F_X5_copy at HF
  refine ev_aload_n 0 dX5_copy_0 rfl ?_
  refine ev_aload_n 1 dX5_copy_1 rfl ?_
  replace HF := bind_ck HF
  obtain ⟨c1, HF⟩ := HF
  refine ev_gI (f := 601) cl_X5 (k := 1) (by decide) fi_X5_1 rfl fl_X5_15 dX5_copy_2 c1 ?_
  refine ev_pI (f := 601) cl_X5 (k := 1) (by decide) fi_X5_1 rfl fl_X5_15 rfl rfl rfl dX5_copy_5 hT ?_
  replace HF := bd_n HF
  obtain ⟨h2, eh2, HF⟩ := HF
  refine ev_heap eh2 ?_
  have c3 : hK h2 t = 7 := by rw [eh2]; exact hT
  have c4 : hK h2 a1 = 7 := by rw [eh2]; exact c1
  refine ev_aload_n 0 dX5_copy_8 rfl ?_
  refine ev_aload_n 1 dX5_copy_9 rfl ?_
  refine ev_gI (f := 602) cl_X5 (k := 2) (by decide) fi_X5_2 rfl fl_X5_19 dX5_copy_10 c4 ?_
  show EvG _ _ _ _ _ _ _ _ _ _ _ 13 _ _ _
  refine ev_pI (f := 602) cl_X5 (k := 2) (by decide) fi_X5_2 rfl fl_X5_19 rfl rfl rfl dX5_copy_13 c3 ?_
  replace HF := bd_n HF
  obtain ⟨h5, eh5, HF⟩ := HF
  refine ev_heap eh5 ?_
  have c6 : hK h5 t = 7 := by rw [eh5]; exact c3
  have c7 : hK h5 a1 = 7 := by rw [eh5]; exact c4
  refine ev_iconst (v := 0) dX5_copy_16 (by decide) ?_
  refine ev_istore_n (lv' := [(2, .int 0), (0, .ref t), (1, .ref a1)]) dX5_copy_17 (by decide) (rfl) ?_
  exact Ev.sub [1, 2, 0] rfl (lk_X5_copy_18 hdd  fu t a1 0 _ HF)

set_option maxRecDepth 20000 in
theorem lk_X2_push_78 {g : aG} {l : Launch} {d : Nat} {h0 : aH} (hdd : 3 ≤ d) {r : aH} (t : Nat) (y0 : Nat) (y1 : Int32) (h : aH) (HF : F_X2_push_78  t y0 y1 h = some r) : Ev g l cX2_push 7 yX2_push (none) d h0 (none, r) 78 [(0, .ref t)] [.int y1, .ref y0] h := by
  unfold F_X2_push_78 at HF
  replace HF := bind_ck HF
  obtain ⟨c1, HF⟩ := HF
  refine ev_pI (f := 301) cl_X2 (k := 1) (by decide) fi_X2_1 rfl fl_X2_17 rfl rfl rfl dX2_push_78 c1 ?_
  replace HF := bd_n HF
  obtain ⟨h2, eh2, HF⟩ := HF
  refine ev_heap eh2 ?_
  have c3 : hK h2 y0 = 4 := by rw [eh2]; exact c1
  refine ev_aload_n 0 dX2_push_81 rfl ?_
  refine ev_aload_n 0 dX2_push_82 rfl ?_
  replace HF := bind_ck HF
  obtain ⟨c4, HF⟩ := HF
  refine ev_gI (f := 302) cl_X2 (k := 2) (by decide) fi_X2_2 rfl fl_X2_21 dX2_push_83 c4 ?_
  refine ev_iconst (v := 1) dX2_push_86 (by decide) ?_
  refine ev_iadd dX2_push_87 ?_
  refine ev_bipush (v := 40) dX2_push_88 (by decide) ?_
  show EvG _ _ _ _ _ _ _ _ _ _ _ 90 _ _ _
  refine ev_min ml_X2_51 dX2_push_90 (by omega) (Nat.le_of_ble_eq_true rfl) ?_
  replace HF := bd_n HF
  obtain ⟨z5, ez5, HF⟩ := HF
  refine ev_topI ez5 ?_
  refine ev_pI (f := 302) cl_X2 (k := 2) (by decide) fi_X2_2 rfl fl_X2_21 rfl rfl rfl dX2_push_93 c4 ?_
  replace HF := bd_n HF
  obtain ⟨h6, eh6, HF⟩ := HF
  refine ev_heap eh6 ?_
  have c7 : hK h6 y0 = 4 := by rw [eh6]; exact c3
  have c8 : hK h6 t = 4 := by rw [eh6]; exact c4
  obtain rfl := Option.some.inj HF
  exact ev_vret dX2_push_96

set_option maxRecDepth 20000 in
theorem lk_X2_push_56 {g : aG} {l : Launch} {d : Nat} {h0 : aH} (hdd : 3 ≤ d) {r : aH} (t : Nat) (h : aH) (HF : F_X2_push_56  t h = some r) : Ev g l cX2_push 7 yX2_push (none) d h0 (none, r) 56 [(0, .ref t)] [] h := by
  unfold F_X2_push_56 at HF
  refine ev_aload_n 0 dX2_push_56 rfl ?_
  refine ev_aload_n 0 dX2_push_57 rfl ?_
  replace HF := bind_ck HF
  obtain ⟨c1, HF⟩ := HF
  refine ev_gI (f := 301) cl_X2 (k := 1) (by decide) fi_X2_1 rfl fl_X2_17 dX2_push_58 c1 ?_
  refine ev_iconst (v := 1) dX2_push_61 (by decide) ?_
  refine ev_iadd dX2_push_62 ?_
  refine ev_bipush (v := 40) dX2_push_63 (by decide) ?_
  by_cases c2 : 40 ≤ (hF h 301 t) + 1
  · replace HF := ite_T c2 HF
    refine ev_icmp_geT (tgt := 77) dX2_push_65 (by decide) c2 ?_
    refine ev_iconst (v := 0) dX2_push_77 (by decide) ?_
    exact Ev.sub [0] rfl (lk_X2_push_78 hdd  t t 0 _ HF)
  · replace HF := ite_F c2 HF
    refine ev_icmp_geF (tgt := 77) dX2_push_65 (by decide) c2 ?_
    refine ev_aload_n 0 dX2_push_68 rfl ?_
    refine ev_gI (f := 301) cl_X2 (k := 1) (by decide) fi_X2_1 rfl fl_X2_17 dX2_push_69 c1 ?_
    refine ev_iconst (v := 1) dX2_push_72 (by decide) ?_
    refine ev_iadd dX2_push_73 ?_
    refine ev_goto (tgt := 78) dX2_push_74 (by decide) ?_
    exact Ev.sub [0] rfl (lk_X2_push_78 hdd  t t ((hF h 301 t) + 1) _ HF)

set_option maxRecDepth 20000 in
theorem lk_X2_push {g : aG} {l : Launch} {d : Nat} (hdd : 3 ≤ d) {t : Nat} {x1 : Int32} {x2 : Int32} {x3 : Int32} {x4 : Int32} {x5 : Option Nat} {h : aH} {r : aH} (hT : hK h t = 4) (HF : F_X2_push t x1 x2 x3 x4 x5 h = some r) : MA g l yX2_push cX2_push 7 (none) d [.ref t, .int x1, .int x2, .int x3, .int x4, va_rf x5] h (none, r) := by
  refine MA.of (lv0 := [(0, .ref t), (1, .int x1), (2, .int x2), (3, .int x3), (4, .int x4), (5, va_rf x5)]) (by decide +kernel) (by cases x5 <;> rfl) (by cases x5 <;> exact Nat.le_of_ble_eq_true rfl) ?_
  unfold F_X2_push at HF
  refine ev_aload_n 0 dX2_push_0 rfl ?_
  refine ev_aload_n 0 dX2_push_1 rfl ?_
  refine ev_gI (f := 301) cl_X2 (k := 1) (by decide) fi_X2_1 rfl fl_X2_17 dX2_push_2 hT ?_
  replace HF := bind_o HF
  obtain ⟨⟨o3, h2⟩, e1, HF⟩ := HF
  replace HF := bd_o (bd_o HF)
  dsimp only at HF
  refine ev_callV (As := [.int (hF h 301 t)]) (R1 := (some (va_rf o3), h2)) (lk_X2_changeAt (d := 0) (Nat.le_refl _) hT e1) ce_X2_changeAt im_X2_changeAt sl_X2_changeAt ml_X2_25 cl_X2 hT dX2_push_5 (by omega) (Nat.le_of_ble_eq_true rfl) rfl rfl ?_
  show EvG _ _ _ _ _ _ _ _ _ _ _ 8 [(0, .ref t), (1, .int x1), (2, .int x2), (3, .int x3), (4, .int x4), (5, va_rf x5)] [va_rf o3] h2
  refine ev_astorer (lv' := [(6, va_rf o3), (0, .ref t), (1, .int x1), (2, .int x2), (3, .int x3), (4, .int x4), (5, va_rf x5)]) dX2_push_8 (by decide) (by simp [sv1, sv2, va_cat]) ?_
  refine ev_aloadr 0 dX2_push_10 rfl ?_
  cases o3 with
  | none =>
    refine ev_ifnonnullN dX2_push_12 ?_
    obtain rfl := Option.some.inj HF
    exact ev_vret dX2_push_15
  | some b5 =>
    refine ev_ifnonnullS (tgt := 16) dX2_push_12 (by decide) ?_
    refine ev_aload 0 dX2_push_16 rfl ?_
    refine ev_iload_n 2 dX2_push_18 rfl ?_
    replace HF := bind_ck HF
    obtain ⟨c6, HF⟩ := HF
    refine ev_pIN (f := 201) cl_X1 (k := 1) (by decide) fi_X1_1 rfl fl_X2_29 rfl rfl rfl dX2_push_19 c6 ?_
    replace HF := bd_n HF
    obtain ⟨h7, eh7, HF⟩ := HF
    refine ev_heap eh7 ?_
    have c8 : hK h7 b5 = 3 := by rw [eh7]; exact c6
    refine ev_aload 0 dX2_push_22 rfl ?_
    refine ev_iload_n 3 dX2_push_24 rfl ?_
    refine ev_pIN (f := 202) cl_X1 (k := 2) (by decide) fi_X1_2 rfl fl_X2_32 rfl rfl rfl dX2_push_25 c8 ?_
    replace HF := bd_n HF
    obtain ⟨h9, eh9, HF⟩ := HF
    refine ev_heap eh9 ?_
    have c10 : hK h9 b5 = 3 := by rw [eh9]; exact c8
    refine ev_aload 0 dX2_push_28 rfl ?_
    show EvG _ _ _ _ _ _ _ _ _ _ _ 30 _ _ _
    refine ev_iload_n 4 dX2_push_30 rfl ?_
    refine ev_pIN (f := 203) cl_X1 (k := 3) (by decide) fi_X1_3 rfl fl_X2_35 rfl rfl rfl dX2_push_31 c10 ?_
    replace HF := bd_n HF
    obtain ⟨h11, eh11, HF⟩ := HF
    refine ev_heap eh11 ?_
    have c12 : hK h11 b5 = 3 := by rw [eh11]; exact c10
    refine ev_aload 0 dX2_push_34 rfl ?_
    refine ev_iload 5 dX2_push_36 rfl ?_
    refine ev_pIN (f := 204) cl_X1 (k := 4) (by decide) fi_X1_4 rfl fl_X2_38 rfl rfl rfl dX2_push_38 c12 ?_
    replace HF := bd_n HF
    obtain ⟨h13, eh13, HF⟩ := HF
    refine ev_heap eh13 ?_
    have c14 : hK h13 b5 = 3 := by rw [eh13]; exact c12
    refine ev_aloadr 6 dX2_push_41 rfl ?_
    cases x5 with
    | none =>
      refine ev_ifnullN (tgt := 56) dX2_push_43 (by decide) ?_
      exact Ev.sub [1] rfl (lk_X2_push_56 hdd  t _ HF)
    | some b15 =>
      refine ev_ifnullS dX2_push_43 ?_
      refine ev_aload 0 dX2_push_46 rfl ?_
      replace HF := bind_o HF
      obtain ⟨b16, e17, HF⟩ := HF
      refine ev_gSN (f := 200) cl_X1 (k := 0) (by decide) fi_X1_0 rfl fl_X2_41 dX2_push_48 c14 e17 ?_
      refine ev_aload 6 dX2_push_51 rfl ?_
      replace HF := bind_ck HF
      obtain ⟨c18, HF⟩ := HF
      replace HF := bind_o HF
      obtain ⟨h20, e19, HF⟩ := HF
      refine ev_callV (As := [.ref b15]) (R1 := (none, h20)) (lk_X5_copy (d := 2) (Nat.le_refl _) c18 e19) ce_X5_copy im_X5_copy sl_X5_copy ml_X2_45 cl_X5 c18 dX2_push_53 (by omega) (Nat.le_of_ble_eq_true rfl) rfl rfl ?_
      show EvG _ _ _ _ _ _ _ _ _ _ _ 56 [(6, .ref b5), (0, .ref t), (1, .int x1), (2, .int x2), (3, .int x3), (4, .int x4), (5, .ref b15)] [] h20
      exact Ev.sub [1] rfl (lk_X2_push_56 hdd  t _ HF)

set_option maxRecDepth 20000 in
theorem lk_X2_pop_28 {g : aG} {l : Launch} {d : Nat} {h0 : aH} (hdd : 1 ≤ d) {r : Option Nat × aH} (t : Nat) (y0 : Nat) (y1 : Int32) (h : aH) (HF : F_X2_pop_28  t y0 y1 h = some r) : Ev g l cX2_pop 1 yX2_pop (some (.object "BallBook$Change")) d h0 (some (va_rf r.1), r.2) 28 [(0, .ref t)] [.int y1, .ref y0] h := by
  unfold F_X2_pop_28 at HF
  replace HF := bind_ck HF
  obtain ⟨c1, HF⟩ := HF
  refine ev_pI (f := 301) cl_X2 (k := 1) (by decide) fi_X2_1 rfl fl_X2_17 rfl rfl rfl dX2_pop_28 c1 ?_
  replace HF := bd_n HF
  obtain ⟨h2, eh2, HF⟩ := HF
  refine ev_heap eh2 ?_
  have c3 : hK h2 y0 = 4 := by rw [eh2]; exact c1
  refine ev_aload_n 0 dX2_pop_31 rfl ?_
  refine ev_dup dX2_pop_32 rfl ?_
  replace HF := bind_ck HF
  obtain ⟨c4, HF⟩ := HF
  refine ev_gI (f := 302) cl_X2 (k := 2) (by decide) fi_X2_2 rfl fl_X2_21 dX2_pop_33 c4 ?_
  refine ev_iconst (v := 1) dX2_pop_36 (by decide) ?_
  refine ev_isub dX2_pop_37 ?_
  refine ev_pI (f := 302) cl_X2 (k := 2) (by decide) fi_X2_2 rfl fl_X2_21 rfl rfl rfl dX2_pop_38 c4 ?_
  replace HF := bd_n HF
  obtain ⟨h5, eh5, HF⟩ := HF
  refine ev_heap eh5 ?_
  have c6 : hK h5 y0 = 4 := by rw [eh5]; exact c3
  have c7 : hK h5 t = 4 := by rw [eh5]; exact c4
  show EvG _ _ _ _ _ _ _ _ _ _ _ 41 _ _ _
  refine ev_aload_n 0 dX2_pop_41 rfl ?_
  refine ev_aload_n 0 dX2_pop_42 rfl ?_
  refine ev_gI (f := 301) cl_X2 (k := 1) (by decide) fi_X2_1 rfl fl_X2_17 dX2_pop_43 c7 ?_
  replace HF := bind_o HF
  obtain ⟨⟨o10, h9⟩, e8, HF⟩ := HF
  replace HF := bd_o (bd_o HF)
  dsimp only at HF
  refine ev_callV (As := [.int (hF h5 301 t)]) (R1 := (some (va_rf o10), h9)) (lk_X2_changeAt (d := 0) (Nat.le_refl _) c7 e8) ce_X2_changeAt im_X2_changeAt sl_X2_changeAt ml_X2_25 cl_X2 c7 dX2_pop_46 (by omega) (Nat.le_of_ble_eq_true rfl) rfl rfl ?_
  show EvG _ _ _ _ _ _ _ _ _ _ _ 49 [(0, .ref t)] [va_rf o10] h9
  obtain rfl := Option.some.inj HF
  exact ev_aret (r := o10) (Or.inl ⟨_, rfl⟩) dX2_pop_49

set_option maxRecDepth 20000 in
theorem lk_X2_pop {g : aG} {l : Launch} {d : Nat} (hdd : 1 ≤ d) {t : Nat} {h : aH} {r : Option Nat × aH} (hT : hK h t = 4) (HF : F_X2_pop t h = some r) : MA g l yX2_pop cX2_pop 1 (some (.object "BallBook$Change")) d [.ref t] h (some (va_rf r.1), r.2) := by
  refine MA.of (lv0 := [(0, .ref t)]) (by decide +kernel) (rfl) (Nat.le_of_ble_eq_true rfl) ?_
  unfold F_X2_pop at HF
  refine ev_aload_n 0 dX2_pop_0 rfl ?_
  refine ev_gI (f := 302) cl_X2 (k := 2) (by decide) fi_X2_2 rfl fl_X2_21 dX2_pop_1 hT ?_
  by_cases c1 : 0 < hF h 302 t
  · replace HF := ite_T c1 HF
    refine ev_if_gtT (tgt := 9) dX2_pop_4 (by decide) c1 ?_
    refine ev_aload_n 0 dX2_pop_9 rfl ?_
    refine ev_aload_n 0 dX2_pop_10 rfl ?_
    refine ev_gI (f := 301) cl_X2 (k := 1) (by decide) fi_X2_1 rfl fl_X2_17 dX2_pop_11 hT ?_
    by_cases c2 : hF h 301 t ≤ 0
    · replace HF := ite_T c2 HF
      refine ev_if_leT (tgt := 26) dX2_pop_14 (by decide) c2 ?_
      refine ev_bipush (v := 39) dX2_pop_26 (by decide) ?_
      exact Ev.sub [0] rfl (lk_X2_pop_28 hdd  t t 39 _ HF)
    · replace HF := ite_F c2 HF
      refine ev_if_leF (tgt := 26) dX2_pop_14 (by decide) c2 ?_
      refine ev_aload_n 0 dX2_pop_17 rfl ?_
      refine ev_gI (f := 301) cl_X2 (k := 1) (by decide) fi_X2_1 rfl fl_X2_17 dX2_pop_18 hT ?_
      refine ev_iconst (v := 1) dX2_pop_21 (by decide) ?_
      refine ev_isub dX2_pop_22 ?_
      refine ev_goto (tgt := 28) dX2_pop_23 (by decide) ?_
      exact Ev.sub [0] rfl (lk_X2_pop_28 hdd  t t ((hF h 301 t) - 1) _ HF)
  · replace HF := ite_F c1 HF
    refine ev_if_gtF (tgt := 9) dX2_pop_4 (by decide) c1 ?_
    refine ev_null dX2_pop_7 ?_
    obtain rfl := Option.some.inj HF
    exact ev_aret (r := none) (Or.inl ⟨_, rfl⟩) dX2_pop_8

set_option maxRecDepth 20000 in
theorem lk_X4_init {g : aG} {l : Launch} {d : Nat} (hdd : 1 ≤ d) {t : Nat} {x1 : Int32} {x2 : Int32} {h : aH} {r : aH} (hT : hK h t = 6) (HF : F_X4_init t x1 x2 h = some r) : MA g l yX4_init cX4_init 3 (none) d [.ref t, .int x1, .int x2] h (none, r) := by
  refine MA.of (lv0 := [(0, .ref t), (1, .int x1), (2, .int x2)]) (by decide +kernel) (rfl) (Nat.le_of_ble_eq_true rfl) ?_
  unfold F_X4_init at HF
  refine ev_aload_n 0 dX4_init_0 rfl ?_
  refine ev_obj ml_X4_1 im_obj cd_obj dX4_init_1 (by omega) (Nat.le_of_ble_eq_true rfl) ?_
  refine ev_aload_n 0 dX4_init_4 rfl ?_
  refine ev_iload_n 1 dX4_init_5 rfl ?_
  refine ev_iconst (v := 0) dX4_init_6 (by decide) ?_
  refine ev_max ml_X4_7 dX4_init_7 (by omega) (Nat.le_of_ble_eq_true rfl) ?_
  replace HF := bd_n HF
  obtain ⟨z1, ez1, HF⟩ := HF
  refine ev_topI ez1 ?_
  refine ev_pIF (f := 500) cl_X4 (k := 0) (by decide) fi_X4_0 rfl fl_X4_13 rfl rfl rfl rfl rfl dX4_init_10 hT ?_
  replace HF := bd_n HF
  obtain ⟨h2, eh2, HF⟩ := HF
  refine ev_heap eh2 ?_
  have c3 : hK h2 t = 6 := by rw [eh2]; exact hT
  show EvG _ _ _ _ _ _ _ _ _ _ _ 13 _ _ _
  refine ev_aload_n 0 dX4_init_13 rfl ?_
  refine ev_iload_n 2 dX4_init_14 rfl ?_
  refine ev_iconst (v := 0) dX4_init_15 (by decide) ?_
  refine ev_max ml_X4_7 dX4_init_16 (by omega) (Nat.le_of_ble_eq_true rfl) ?_
  replace HF := bd_n HF
  obtain ⟨z4, ez4, HF⟩ := HF
  refine ev_topI ez4 ?_
  refine ev_pIF (f := 501) cl_X4 (k := 1) (by decide) fi_X4_1 rfl fl_X4_19 rfl rfl rfl rfl rfl dX4_init_19 c3 ?_
  replace HF := bd_n HF
  obtain ⟨h5, eh5, HF⟩ := HF
  refine ev_heap eh5 ?_
  have c6 : hK h5 t = 6 := by rw [eh5]; exact c3
  refine ev_aload_n 0 dX4_init_22 rfl ?_
  refine ev_aload_n 0 dX4_init_23 rfl ?_
  refine ev_gI (f := 500) cl_X4 (k := 0) (by decide) fi_X4_0 rfl fl_X4_13 dX4_init_24 c6 ?_
  show EvG _ _ _ _ _ _ _ _ _ _ _ 27 _ _ _
  refine ev_aload_n 0 dX4_init_27 rfl ?_
  refine ev_gI (f := 501) cl_X4 (k := 1) (by decide) fi_X4_1 rfl fl_X4_19 dX4_init_28 c6 ?_
  refine ev_imul dX4_init_31 ?_
  replace HF := bind_ck HF
  obtain ⟨c7, HF⟩ := HF
  refine ev_newI  ar_int dX4_init_32 c7.1 rfl (Nat.le_trans c7.2 (by decide)) ?_
  replace HF := bd_n HF
  obtain ⟨b8, eb8, HF⟩ := HF
  refine ev_topR eb8 ?_
  replace HF := bd_n HF
  obtain ⟨h9, eh9, HF⟩ := HF
  refine ev_heap eh9 ?_
  replace HF := bind_ck HF
  obtain ⟨c10, HF⟩ := HF
  refine ev_pSF (f := 502) cl_X4 (k := 2) (by decide) fi_X4_2 rfl fl_X4_22 rfl rfl rfl rfl dX4_init_34 c10 ?_
  replace HF := bd_n HF
  obtain ⟨h11, eh11, HF⟩ := HF
  refine ev_heap eh11 ?_
  have c12 : hK h11 t = 6 := by rw [eh11]; exact c10
  obtain rfl := Option.some.inj HF
  exact ev_vret dX4_init_37

set_option maxRecDepth 20000 in
theorem lk_X4_has {g : aG} {l : Launch} {d : Nat} (hdd : 0 ≤ d) {t : Nat} {x1 : Int32} {x2 : Int32} {h : aH} {r : Int32 × aH} (hT : hK h t = 6) (HF : F_X4_has t x1 x2 h = some r) : MA g l yX4_has cX4_has 3 (some .boolean) d [.ref t, .int x1, .int x2] h (some (.int r.1), r.2) := by
  refine MA.of (lv0 := [(0, .ref t), (1, .int x1), (2, .int x2)]) (by decide +kernel) (rfl) (Nat.le_of_ble_eq_true rfl) ?_
  unfold F_X4_has at HF
  refine ev_iload_n 1 dX4_has_0 rfl ?_
  by_cases c1 : x1 < 0
  · replace HF := ite_T c1 HF
    refine ev_if_ltT (tgt := 28) dX4_has_1 (by decide) c1 ?_
    refine ev_iconst (v := 0) dX4_has_28 (by decide) ?_
    obtain rfl := Option.some.inj HF
    exact ev_zret (v := 0) narrow_b0 dX4_has_29
  · replace HF := ite_F c1 HF
    refine ev_if_ltF (tgt := 28) dX4_has_1 (by decide) c1 ?_
    refine ev_iload_n 1 dX4_has_4 rfl ?_
    refine ev_aload_n 0 dX4_has_5 rfl ?_
    refine ev_gI (f := 500) cl_X4 (k := 0) (by decide) fi_X4_0 rfl fl_X4_13 dX4_has_6 hT ?_
    by_cases c2 : hF h 500 t ≤ x1
    · replace HF := ite_T c2 HF
      refine ev_icmp_geT (tgt := 28) dX4_has_9 (by decide) c2 ?_
      refine ev_iconst (v := 0) dX4_has_28 (by decide) ?_
      obtain rfl := Option.some.inj HF
      exact ev_zret (v := 0) narrow_b0 dX4_has_29
    · replace HF := ite_F c2 HF
      refine ev_icmp_geF (tgt := 28) dX4_has_9 (by decide) c2 ?_
      refine ev_iload_n 2 dX4_has_12 rfl ?_
      by_cases c3 : x2 < 0
      · replace HF := ite_T c3 HF
        refine ev_if_ltT (tgt := 28) dX4_has_13 (by decide) c3 ?_
        refine ev_iconst (v := 0) dX4_has_28 (by decide) ?_
        obtain rfl := Option.some.inj HF
        exact ev_zret (v := 0) narrow_b0 dX4_has_29
      · replace HF := ite_F c3 HF
        refine ev_if_ltF (tgt := 28) dX4_has_13 (by decide) c3 ?_
        refine ev_iload_n 2 dX4_has_16 rfl ?_
        refine ev_aload_n 0 dX4_has_17 rfl ?_
        refine ev_gI (f := 501) cl_X4 (k := 1) (by decide) fi_X4_1 rfl fl_X4_19 dX4_has_18 hT ?_
        by_cases c4 : hF h 501 t ≤ x2
        · replace HF := ite_T c4 HF
          refine ev_icmp_geT (tgt := 28) dX4_has_21 (by decide) c4 ?_
          refine ev_iconst (v := 0) dX4_has_28 (by decide) ?_
          obtain rfl := Option.some.inj HF
          exact ev_zret (v := 0) narrow_b0 dX4_has_29
        · replace HF := ite_F c4 HF
          refine ev_icmp_geF (tgt := 28) dX4_has_21 (by decide) c4 ?_
          refine ev_iconst (v := 1) dX4_has_24 (by decide) ?_
          refine ev_goto (tgt := 29) dX4_has_25 (by decide) ?_
          obtain rfl := Option.some.inj HF
          exact ev_zret (v := 1) narrow_b1 dX4_has_29

set_option maxRecDepth 20000 in
theorem lk_X4_set {g : aG} {l : Launch} {d : Nat} (hdd : 1 ≤ d) {t : Nat} {x1 : Int32} {x2 : Int32} {x3 : Int32} {h : aH} {r : aH} (hT : hK h t = 6) (HF : F_X4_set t x1 x2 x3 h = some r) : MA g l yX4_set cX4_set 4 (none) d [.ref t, .int x1, .int x2, .int x3] h (none, r) := by
  refine MA.of (lv0 := [(0, .ref t), (1, .int x1), (2, .int x2), (3, .int x3)]) (by decide +kernel) (rfl) (Nat.le_of_ble_eq_true rfl) ?_
  unfold F_X4_set at HF
  refine ev_aload_n 0 dX4_set_0 rfl ?_
  refine ev_iload_n 1 dX4_set_1 rfl ?_
  refine ev_iload_n 2 dX4_set_2 rfl ?_
  replace HF := bind_o HF
  obtain ⟨⟨z3, h2⟩, e1, HF⟩ := HF
  replace HF := bd_o (bd_o HF)
  dsimp only at HF
  refine ev_callV (As := [.int x1, .int x2]) (R1 := (some (.int z3), h2)) (lk_X4_has (d := 0) (Nat.le_refl _) hT e1) ce_X4_has im_X4_has sl_X4_has ml_X4_26 cl_X4 hT dX4_set_3 (by omega) (Nat.le_of_ble_eq_true rfl) rfl rfl ?_
  show EvG _ _ _ _ _ _ _ _ _ _ _ 6 [(0, .ref t), (1, .int x1), (2, .int x2), (3, .int x3)] [.int z3] h2
  by_cases c5 : z3 = 0
  · replace HF := ite_T c5 HF
    refine ev_if_eqT (tgt := 23) dX4_set_6 (by decide) c5 ?_
    obtain rfl := Option.some.inj HF
    exact ev_vret dX4_set_23
  · replace HF := ite_F c5 HF
    refine ev_if_eqF (tgt := 23) dX4_set_6 (by decide) c5 ?_
    refine ev_aload_n 0 dX4_set_9 rfl ?_
    replace HF := bind_ck HF
    obtain ⟨c6, HF⟩ := HF
    replace HF := bind_o HF
    obtain ⟨b7, e8, HF⟩ := HF
    refine ev_gS (f := 502) cl_X4 (k := 2) (by decide) fi_X4_2 rfl fl_X4_22 dX4_set_10 c6 e8 ?_
    refine ev_iload_n 1 dX4_set_13 rfl ?_
    refine ev_aload_n 0 dX4_set_14 rfl ?_
    refine ev_gI (f := 501) cl_X4 (k := 1) (by decide) fi_X4_1 rfl fl_X4_19 dX4_set_15 c6 ?_
    refine ev_imul dX4_set_18 ?_
    refine ev_iload_n 2 dX4_set_19 rfl ?_
    show EvG _ _ _ _ _ _ _ _ _ _ _ 20 _ _ _
    refine ev_iadd dX4_set_20 ?_
    refine ev_iload_n 3 dX4_set_21 rfl ?_
    replace HF := bind_ck HF
    obtain ⟨c9, HF⟩ := HF
    refine ev_iast dX4_set_22 c9.1 c9.2 ?_
    replace HF := bd_n HF
    obtain ⟨h10, eh10, HF⟩ := HF
    refine ev_heap eh10 ?_
    have c11 : hK h10 t = 6 := by rw [eh10]; exact c6
    obtain rfl := Option.some.inj HF
    exact ev_vret dX4_set_23

set_option maxRecDepth 20000 in
theorem lk_X3_init_53 {g : aG} {l : Launch} {d : Nat} {h0 : aH} (hdd : 4 ≤ d) {r : aH} : ∀ (n : Nat) (t : Nat) (x5 : Int32) (h : aH), F_X3_init_53  n t x5 h = some r → Ev g l cX3_init 6 yX3_init (none) d h0 (none, r) 53 [(0, .ref t), (5, .int x5)] [] h := by
  intro n
  induction n with
  | zero => intro t x5 h HF; cases HF
  | succ n ih =>
  intro t x5 h HF
  unfold F_X3_init_53 at HF
  refine ev_iload 1 dX3_init_53 rfl ?_
  refine ev_bipush (v := 11) dX3_init_55 (by decide) ?_
  by_cases c1 : 11 ≤ x5
  · replace HF := ite_T c1 HF
    refine ev_icmp_geT (tgt := 90) dX3_init_57 (by decide) c1 ?_
    obtain rfl := Option.some.inj HF
    exact ev_vret dX3_init_90
  · replace HF := ite_F c1 HF
    refine ev_icmp_geF (tgt := 90) dX3_init_57 (by decide) c1 ?_
    refine ev_aload_n 0 dX3_init_60 rfl ?_
    replace HF := bind_ck HF
    obtain ⟨c2, HF⟩ := HF
    replace HF := bind_o HF
    obtain ⟨b3, e4, HF⟩ := HF
    refine ev_gS (f := 404) cl_X3 (k := 4) (by decide) fi_X3_4 rfl fl_X3_14 dX3_init_61 c2 e4 ?_
    refine ev_iconst (v := 0) dX3_init_64 (by decide) ?_
    refine ev_iload 1 dX3_init_65 rfl ?_
    refine ev_iload 1 dX3_init_67 rfl ?_
    replace HF := bind_ck HF
    obtain ⟨c5, HF⟩ := HF
    replace HF := bind_o HF
    obtain ⟨h7, e6, HF⟩ := HF
    refine ev_callV (As := [.int 0, .int x5, .int x5]) (R1 := (none, h7)) (lk_X4_set (d := 1) (Nat.le_refl _) c5 e6) ce_X4_set im_X4_set sl_X4_set ml_X3_40 cl_X4 c5 dX3_init_69 (by omega) (Nat.le_of_ble_eq_true rfl) rfl rfl ?_
    show EvG _ _ _ _ _ _ _ _ _ _ _ 72 [(0, .ref t), (5, .int x5)] [] h7
    refine ev_aload_n 0 dX3_init_72 rfl ?_
    show EvG _ _ _ _ _ _ _ _ _ _ _ 73 _ _ _
    replace HF := bind_ck HF
    obtain ⟨c9, HF⟩ := HF
    replace HF := bind_o HF
    obtain ⟨b10, e11, HF⟩ := HF
    refine ev_gS (f := 404) cl_X3 (k := 4) (by decide) fi_X3_4 rfl fl_X3_14 dX3_init_73 c9 e11 ?_
    refine ev_iconst (v := 1) dX3_init_76 (by decide) ?_
    refine ev_iload 1 dX3_init_77 rfl ?_
    refine ev_iload 1 dX3_init_79 rfl ?_
    replace HF := bind_ck HF
    obtain ⟨c12, HF⟩ := HF
    replace HF := bind_o HF
    obtain ⟨h14, e13, HF⟩ := HF
    refine ev_callV (As := [.int 1, .int x5, .int x5]) (R1 := (none, h14)) (lk_X4_set (d := 1) (Nat.le_refl _) c12 e13) ce_X4_set im_X4_set sl_X4_set ml_X3_40 cl_X4 c12 dX3_init_81 (by omega) (Nat.le_of_ble_eq_true rfl) rfl rfl ?_
    show EvG _ _ _ _ _ _ _ _ _ _ _ 84 [(0, .ref t), (5, .int x5)] [] h14
    replace HF := bd_n HF
    obtain ⟨v16, ev16, HF⟩ := HF
    refine ev_iinc (v := v16) (lv' := [(5, .int v16), (0, .ref t)]) 1 dX3_init_84 rfl (by rw [ev16]; rfl) (by decide) (rfl) ?_
    refine ev_goto (tgt := 53) dX3_init_87 (by decide) ?_
    exact Ev.sub [1, 0] rfl (ih t v16 _ HF)

set_option maxRecDepth 20000 in
theorem lk_X3_init {g : aG} {l : Launch} {d : Nat} (hdd : 4 ≤ d) {t : Nat} {x1 : Int32} {x2 : Int32} {x3 : Int32} {x4 : Int32} {h : aH} {r : aH} (hT : hK h t = 5) (HF : F_X3_init t x1 x2 x3 x4 h = some r) : MA g l yX3_init cX3_init 6 (none) d [.ref t, .int x1, .int x2, .int x3, .int x4] h (none, r) := by
  refine MA.of (lv0 := [(0, .ref t), (1, .int x1), (2, .int x2), (3, .int x3), (4, .int x4)]) (by decide +kernel) (rfl) (Nat.le_of_ble_eq_true rfl) ?_
  unfold F_X3_init at HF
  refine ev_aload_n 0 dX3_init_0 rfl ?_
  refine ev_obj ml_X3_3 im_obj cd_obj dX3_init_1 (by omega) (Nat.le_of_ble_eq_true rfl) ?_
  refine ev_aload_n 0 dX3_init_4 rfl ?_
  refine ev_new cl_X4 kl_X3_9 ins_X4 ini_X4 df_X4 dX3_init_5 ?_
  replace HF := bd_n HF
  obtain ⟨b1, eb1, HF⟩ := HF
  refine ev_topR eb1 ?_
  replace HF := bd_n HF
  obtain ⟨h2, eh2, HF⟩ := HF
  refine ev_heap eh2 ?_
  refine ev_dup dX3_init_8 rfl ?_
  refine ev_iconst (v := 2) dX3_init_9 (by decide) ?_
  refine ev_bipush (v := 11) dX3_init_10 (by decide) ?_
  show EvG _ _ _ _ _ _ _ _ _ _ _ 12 _ _ _
  replace HF := bind_ck HF
  obtain ⟨c3, HF⟩ := HF
  replace HF := bind_o HF
  obtain ⟨h5, e4, HF⟩ := HF
  refine ev_callI (As := [.int 2, .int 11]) (R1 := (none, h5)) (lk_X4_init (d := 1) (Nat.le_refl _) c3 e4) ce_X4_init rfl im_X4_init ml_X3_11 dX3_init_12 (by omega) (Nat.le_of_ble_eq_true rfl) rfl rfl ?_
  show EvG _ _ _ _ _ _ _ _ _ _ _ 15 [(0, .ref t), (1, .int x1), (2, .int x2), (3, .int x3), (4, .int x4)] [.ref b1, .ref t] h5
  replace HF := bind_ck HF
  obtain ⟨c7, HF⟩ := HF
  refine ev_pSF (f := 404) cl_X3 (k := 4) (by decide) fi_X3_4 rfl fl_X3_14 rfl rfl rfl rfl dX3_init_15 c7 ?_
  replace HF := bd_n HF
  obtain ⟨h8, eh8, HF⟩ := HF
  refine ev_heap eh8 ?_
  have c9 : hK h8 t = 5 := by rw [eh8]; exact c7
  refine ev_aload_n 0 dX3_init_18 rfl ?_
  refine ev_new cl_Jx4a65c kl_X3_20 ins_Jx4a65c ini_Jx4a65c df_Jx4a65c dX3_init_19 ?_
  replace HF := bd_n HF
  obtain ⟨b10, eb10, HF⟩ := HF
  refine ev_topR eb10 ?_
  replace HF := bd_n HF
  obtain ⟨h11, eh11, HF⟩ := HF
  refine ev_heap eh11 ?_
  refine ev_dup dX3_init_22 rfl ?_
  replace HF := bind_ck HF
  obtain ⟨c12, HF⟩ := HF
  replace HF := bind_o HF
  obtain ⟨h14, e13, HF⟩ := HF
  refine ev_callI (As := []) (R1 := (none, h14)) (lk_Jx4a65c_init_da8c8 (d := 3) (Nat.le_refl _) c12 e13) ce_Jx4a65c_init_da8c8 rfl im_Jx4a65c_init_da8c8 ml_X3_22 dX3_init_23 (by omega) (Nat.le_of_ble_eq_true rfl) rfl rfl ?_
  show EvG _ _ _ _ _ _ _ _ _ _ _ 26 [(0, .ref t), (1, .int x1), (2, .int x2), (3, .int x3), (4, .int x4)] [.ref b10, .ref t] h14
  replace HF := bind_ck HF
  obtain ⟨c16, HF⟩ := HF
  refine ev_pSF (f := 405) cl_X3 (k := 5) (by decide) fi_X3_5 rfl fl_X3_23 rfl rfl rfl rfl dX3_init_26 c16 ?_
  replace HF := bd_n HF
  obtain ⟨h17, eh17, HF⟩ := HF
  refine ev_heap eh17 ?_
  have c18 : hK h17 t = 5 := by rw [eh17]; exact c16
  refine ev_aload_n 0 dX3_init_29 rfl ?_
  show EvG _ _ _ _ _ _ _ _ _ _ _ 30 _ _ _
  refine ev_iload_n 1 dX3_init_30 rfl ?_
  refine ev_pIF (f := 400) cl_X3 (k := 0) (by decide) fi_X3_0 rfl fl_X3_27 rfl rfl rfl rfl rfl dX3_init_31 c18 ?_
  replace HF := bd_n HF
  obtain ⟨h19, eh19, HF⟩ := HF
  refine ev_heap eh19 ?_
  have c20 : hK h19 t = 5 := by rw [eh19]; exact c18
  refine ev_aload_n 0 dX3_init_34 rfl ?_
  refine ev_iload_n 2 dX3_init_35 rfl ?_
  refine ev_pIF (f := 401) cl_X3 (k := 1) (by decide) fi_X3_1 rfl fl_X3_31 rfl rfl rfl rfl rfl dX3_init_36 c20 ?_
  replace HF := bd_n HF
  obtain ⟨h21, eh21, HF⟩ := HF
  refine ev_heap eh21 ?_
  have c22 : hK h21 t = 5 := by rw [eh21]; exact c20
  refine ev_aload_n 0 dX3_init_39 rfl ?_
  refine ev_iload_n 3 dX3_init_40 rfl ?_
  refine ev_pIF (f := 402) cl_X3 (k := 2) (by decide) fi_X3_2 rfl fl_X3_34 rfl rfl rfl rfl rfl dX3_init_41 c22 ?_
  replace HF := bd_n HF
  obtain ⟨h23, eh23, HF⟩ := HF
  refine ev_heap eh23 ?_
  have c24 : hK h23 t = 5 := by rw [eh23]; exact c22
  show EvG _ _ _ _ _ _ _ _ _ _ _ 44 _ _ _
  refine ev_aload_n 0 dX3_init_44 rfl ?_
  refine ev_iload 4 dX3_init_45 rfl ?_
  refine ev_pIF (f := 403) cl_X3 (k := 3) (by decide) fi_X3_3 rfl fl_X3_37 rfl rfl rfl rfl rfl dX3_init_47 c24 ?_
  replace HF := bd_n HF
  obtain ⟨h25, eh25, HF⟩ := HF
  refine ev_heap eh25 ?_
  have c26 : hK h25 t = 5 := by rw [eh25]; exact c24
  refine ev_iconst (v := 0) dX3_init_50 (by decide) ?_
  refine ev_istore (lv' := [(5, .int 0), (0, .ref t), (1, .int x1), (2, .int x2), (3, .int x3), (4, .int x4)]) dX3_init_51 (by decide) (rfl) ?_
  exact Ev.sub [1, 0] rfl (lk_X3_init_53 hdd  fu t 0 _ HF)

set_option maxRecDepth 20000 in
theorem lk_X3_sideAt {g : aG} {l : Launch} {d : Nat} (hdd : 0 ≤ d) {t : Nat} {x1 : Int32} {h : aH} {r : Int32 × aH} (hT : hK h t = 5) (HF : F_X3_sideAt t x1 h = some r) : MA g l yX3_sideAt cX3_sideAt 2 (some .int) d [.ref t, .int x1] h (some (.int r.1), r.2) := by
  refine MA.of (lv0 := [(0, .ref t), (1, .int x1)]) (by decide +kernel) (rfl) (Nat.le_of_ble_eq_true rfl) ?_
  unfold F_X3_sideAt at HF
  refine ev_iload_n 1 dX3_sideAt_0 rfl ?_
  by_cases c1 : x1 = 0
  · replace HF := ite_T c1 HF
    refine ev_if_neF (tgt := 11) dX3_sideAt_1 (by decide) c1 ?_
    refine ev_aload_n 0 dX3_sideAt_4 rfl ?_
    refine ev_gI (f := 400) cl_X3 (k := 0) (by decide) fi_X3_0 rfl fl_X3_27 dX3_sideAt_5 hT ?_
    refine ev_goto (tgt := 15) dX3_sideAt_8 (by decide) ?_
    obtain rfl := Option.some.inj HF
    exact ev_iret dX3_sideAt_15
  · replace HF := ite_F c1 HF
    refine ev_if_neT (tgt := 11) dX3_sideAt_1 (by decide) c1 ?_
    refine ev_aload_n 0 dX3_sideAt_11 rfl ?_
    refine ev_gI (f := 401) cl_X3 (k := 1) (by decide) fi_X3_1 rfl fl_X3_31 dX3_sideAt_12 hT ?_
    obtain rfl := Option.some.inj HF
    exact ev_iret dX3_sideAt_15

set_option maxRecDepth 20000 in
theorem lk_X4_at {g : aG} {l : Launch} {d : Nat} (hdd : 1 ≤ d) {t : Nat} {x1 : Int32} {x2 : Int32} {h : aH} {r : Int32 × aH} (hT : hK h t = 6) (HF : F_X4_at t x1 x2 h = some r) : MA g l yX4_at cX4_at 3 (some .int) d [.ref t, .int x1, .int x2] h (some (.int r.1), r.2) := by
  refine MA.of (lv0 := [(0, .ref t), (1, .int x1), (2, .int x2)]) (by decide +kernel) (rfl) (Nat.le_of_ble_eq_true rfl) ?_
  unfold F_X4_at at HF
  refine ev_aload_n 0 dX4_at_0 rfl ?_
  refine ev_iload_n 1 dX4_at_1 rfl ?_
  refine ev_iload_n 2 dX4_at_2 rfl ?_
  replace HF := bind_o HF
  obtain ⟨⟨z3, h2⟩, e1, HF⟩ := HF
  replace HF := bd_o (bd_o HF)
  dsimp only at HF
  refine ev_callV (As := [.int x1, .int x2]) (R1 := (some (.int z3), h2)) (lk_X4_has (d := 0) (Nat.le_refl _) hT e1) ce_X4_has im_X4_has sl_X4_has ml_X4_26 cl_X4 hT dX4_at_3 (by omega) (Nat.le_of_ble_eq_true rfl) rfl rfl ?_
  show EvG _ _ _ _ _ _ _ _ _ _ _ 6 [(0, .ref t), (1, .int x1), (2, .int x2)] [.int z3] h2
  by_cases c5 : z3 = 0
  · replace HF := ite_T c5 HF
    refine ev_if_eqT (tgt := 25) dX4_at_6 (by decide) c5 ?_
    refine ev_iconst (v := 0) dX4_at_25 (by decide) ?_
    obtain rfl := Option.some.inj HF
    exact ev_iret dX4_at_26
  · replace HF := ite_F c5 HF
    refine ev_if_eqF (tgt := 25) dX4_at_6 (by decide) c5 ?_
    refine ev_aload_n 0 dX4_at_9 rfl ?_
    replace HF := bind_ck HF
    obtain ⟨c6, HF⟩ := HF
    replace HF := bind_o HF
    obtain ⟨b7, e8, HF⟩ := HF
    refine ev_gS (f := 502) cl_X4 (k := 2) (by decide) fi_X4_2 rfl fl_X4_22 dX4_at_10 c6 e8 ?_
    refine ev_iload_n 1 dX4_at_13 rfl ?_
    refine ev_aload_n 0 dX4_at_14 rfl ?_
    refine ev_gI (f := 501) cl_X4 (k := 1) (by decide) fi_X4_1 rfl fl_X4_19 dX4_at_15 c6 ?_
    refine ev_imul dX4_at_18 ?_
    refine ev_iload_n 2 dX4_at_19 rfl ?_
    show EvG _ _ _ _ _ _ _ _ _ _ _ 20 _ _ _
    refine ev_iadd dX4_at_20 ?_
    replace HF := bind_ck HF
    obtain ⟨c9, HF⟩ := HF
    refine ev_iald dX4_at_21 c9.1 c9.2 ?_
    refine ev_goto (tgt := 26) dX4_at_22 (by decide) ?_
    obtain rfl := Option.some.inj HF
    exact ev_iret dX4_at_26

set_option maxRecDepth 20000 in
theorem lk_X3_playerAt {g : aG} {l : Launch} {d : Nat} (hdd : 2 ≤ d) {t : Nat} {x1 : Int32} {x2 : Int32} {h : aH} {r : Int32 × aH} (hT : hK h t = 5) (HF : F_X3_playerAt t x1 x2 h = some r) : MA g l yX3_playerAt cX3_playerAt 3 (some .int) d [.ref t, .int x1, .int x2] h (some (.int r.1), r.2) := by
  refine MA.of (lv0 := [(0, .ref t), (1, .int x1), (2, .int x2)]) (by decide +kernel) (rfl) (Nat.le_of_ble_eq_true rfl) ?_
  unfold F_X3_playerAt at HF
  refine ev_aload_n 0 dX3_playerAt_0 rfl ?_
  replace HF := bind_o HF
  obtain ⟨b1, e2, HF⟩ := HF
  refine ev_gS (f := 404) cl_X3 (k := 4) (by decide) fi_X3_4 rfl fl_X3_14 dX3_playerAt_1 hT e2 ?_
  refine ev_iload_n 1 dX3_playerAt_4 rfl ?_
  refine ev_iload_n 2 dX3_playerAt_5 rfl ?_
  replace HF := bind_ck HF
  obtain ⟨c3, HF⟩ := HF
  replace HF := bind_o HF
  obtain ⟨⟨z6, h5⟩, e4, HF⟩ := HF
  replace HF := bd_o (bd_o HF)
  dsimp only at HF
  refine ev_callV (As := [.int x1, .int x2]) (R1 := (some (.int z6), h5)) (lk_X4_at (d := 1) (Nat.le_refl _) c3 e4) ce_X4_at im_X4_at sl_X4_at ml_X3_44 cl_X4 c3 dX3_playerAt_6 (by omega) (Nat.le_of_ble_eq_true rfl) rfl rfl ?_
  show EvG _ _ _ _ _ _ _ _ _ _ _ 9 [(0, .ref t), (1, .int x1), (2, .int x2)] [.int z6] h5
  obtain rfl := Option.some.inj HF
  exact ev_iret dX3_playerAt_9

set_option maxRecDepth 20000 in
theorem lk_X3_giveSeat_47 {g : aG} {l : Launch} {d : Nat} {h0 : aH} (hdd : 2 ≤ d) {r : aH} (k14 : Nat → Int32 → Int32 → Int32 → Int32 → Int32 → aH → Option (aH)) (hk14 : ∀ (t : Nat) (x1 : Int32) (x2 : Int32) (x3 : Int32) (x4 : Int32) (x5 : Int32) (h : aH), k14 t x1 x2 x3 x4 x5 h = some r → Ev g l cX3_giveSeat 6 yX3_giveSeat (none) d h0 (none, r) 14 [(0, .ref t), (1, .int x1), (2, .int x2), (3, .int x3), (4, .int x4), (5, .int x5)] [] h) (t : Nat) (x1 : Int32) (x2 : Int32) (x3 : Int32) (x4 : Int32) (x5 : Int32) (h : aH) (HF : F_X3_giveSeat_47 k14 t x1 x2 x3 x4 x5 h = some r) : Ev g l cX3_giveSeat 6 yX3_giveSeat (none) d h0 (none, r) 47 [(0, .ref t), (1, .int x1), (2, .int x2), (3, .int x3), (4, .int x4), (5, .int x5)] [] h := by
  unfold F_X3_giveSeat_47 at HF
  replace HF := bd_n HF
  obtain ⟨v1, ev1, HF⟩ := HF
  refine ev_iinc (v := v1) (lv' := [(5, .int v1), (0, .ref t), (1, .int x1), (2, .int x2), (3, .int x3), (4, .int x4)]) 5 dX3_giveSeat_47 rfl (by rw [ev1]; rfl) (by decide) (rfl) ?_
  refine ev_goto (tgt := 14) dX3_giveSeat_50 (by decide) ?_
  exact Ev.sub [1, 2, 3, 4, 5, 0] rfl (hk14 t x1 x2 x3 x4 v1 _ HF)

set_option maxRecDepth 20000 in
theorem lk_X3_giveSeat_14 {g : aG} {l : Launch} {d : Nat} {h0 : aH} (hdd : 2 ≤ d) {r : aH} : ∀ (n : Nat) (t : Nat) (x1 : Int32) (x2 : Int32) (x3 : Int32) (x4 : Int32) (x5 : Int32) (h : aH), F_X3_giveSeat_14  n t x1 x2 x3 x4 x5 h = some r → Ev g l cX3_giveSeat 6 yX3_giveSeat (none) d h0 (none, r) 14 [(0, .ref t), (1, .int x1), (2, .int x2), (3, .int x3), (4, .int x4), (5, .int x5)] [] h := by
  intro n
  induction n with
  | zero => intro t x1 x2 x3 x4 x5 h HF; cases HF
  | succ n ih =>
  intro t x1 x2 x3 x4 x5 h HF
  unfold F_X3_giveSeat_14 at HF
  refine ev_iload 5 dX3_giveSeat_14 rfl ?_
  refine ev_bipush (v := 11) dX3_giveSeat_16 (by decide) ?_
  by_cases c1 : 11 ≤ x5
  · replace HF := ite_T c1 HF
    refine ev_icmp_geT (tgt := 53) dX3_giveSeat_18 (by decide) c1 ?_
    refine ev_aload_n 0 dX3_giveSeat_53 rfl ?_
    replace HF := bind_ck HF
    obtain ⟨c2, HF⟩ := HF
    replace HF := bind_o HF
    obtain ⟨b3, e4, HF⟩ := HF
    refine ev_gS (f := 404) cl_X3 (k := 4) (by decide) fi_X3_4 rfl fl_X3_14 dX3_giveSeat_54 c2 e4 ?_
    refine ev_iload_n 1 dX3_giveSeat_57 rfl ?_
    refine ev_iload_n 2 dX3_giveSeat_58 rfl ?_
    refine ev_iload_n 3 dX3_giveSeat_59 rfl ?_
    replace HF := bind_ck HF
    obtain ⟨c5, HF⟩ := HF
    replace HF := bind_o HF
    obtain ⟨h7, e6, HF⟩ := HF
    refine ev_callV (As := [.int x1, .int x2, .int x3]) (R1 := (none, h7)) (lk_X4_set (d := 1) (Nat.le_refl _) c5 e6) ce_X4_set im_X4_set sl_X4_set ml_X3_40 cl_X4 c5 dX3_giveSeat_60 (by omega) (Nat.le_of_ble_eq_true rfl) rfl rfl ?_
    show EvG _ _ _ _ _ _ _ _ _ _ _ 63 [(0, .ref t), (1, .int x1), (2, .int x2), (3, .int x3), (4, .int x4), (5, .int x5)] [] h7
    obtain rfl := Option.some.inj HF
    exact ev_vret dX3_giveSeat_63
  · replace HF := ite_F c1 HF
    refine ev_icmp_geF (tgt := 53) dX3_giveSeat_18 (by decide) c1 ?_
    refine ev_aload_n 0 dX3_giveSeat_21 rfl ?_
    replace HF := bind_ck HF
    obtain ⟨c9, HF⟩ := HF
    replace HF := bind_o HF
    obtain ⟨b10, e11, HF⟩ := HF
    refine ev_gS (f := 404) cl_X3 (k := 4) (by decide) fi_X3_4 rfl fl_X3_14 dX3_giveSeat_22 c9 e11 ?_
    refine ev_iload_n 1 dX3_giveSeat_25 rfl ?_
    refine ev_iload 5 dX3_giveSeat_26 rfl ?_
    replace HF := bind_ck HF
    obtain ⟨c12, HF⟩ := HF
    replace HF := bind_o HF
    obtain ⟨⟨z15, h14⟩, e13, HF⟩ := HF
    replace HF := bd_o (bd_o HF)
    dsimp only at HF
    refine ev_callV (As := [.int x1, .int x5]) (R1 := (some (.int z15), h14)) (lk_X4_at (d := 1) (Nat.le_refl _) c12 e13) ce_X4_at im_X4_at sl_X4_at ml_X3_44 cl_X4 c12 dX3_giveSeat_28 (by omega) (Nat.le_of_ble_eq_true rfl) rfl rfl ?_
    show EvG _ _ _ _ _ _ _ _ _ _ _ 31 [(0, .ref t), (1, .int x1), (2, .int x2), (3, .int x3), (4, .int x4), (5, .int x5)] [.int z15] h14
    refine ev_iload_n 3 dX3_giveSeat_31 rfl ?_
    by_cases c17 : z15 = x3
    · replace HF := ite_T c17 HF
      refine ev_icmp_neF (tgt := 47) dX3_giveSeat_32 (by decide) c17 ?_
      refine ev_aload_n 0 dX3_giveSeat_35 rfl ?_
      replace HF := bind_ck HF
      obtain ⟨c18, HF⟩ := HF
      replace HF := bind_o HF
      obtain ⟨b19, e20, HF⟩ := HF
      refine ev_gS (f := 404) cl_X3 (k := 4) (by decide) fi_X3_4 rfl fl_X3_14 dX3_giveSeat_36 c18 e20 ?_
      refine ev_iload_n 1 dX3_giveSeat_39 rfl ?_
      refine ev_iload 5 dX3_giveSeat_40 rfl ?_
      refine ev_iload 4 dX3_giveSeat_42 rfl ?_
      replace HF := bind_ck HF
      obtain ⟨c21, HF⟩ := HF
      replace HF := bind_o HF
      obtain ⟨h23, e22, HF⟩ := HF
      refine ev_callV (As := [.int x1, .int x5, .int x4]) (R1 := (none, h23)) (lk_X4_set (d := 1) (Nat.le_refl _) c21 e22) ce_X4_set im_X4_set sl_X4_set ml_X3_40 cl_X4 c21 dX3_giveSeat_44 (by omega) (Nat.le_of_ble_eq_true rfl) rfl rfl ?_
      show EvG _ _ _ _ _ _ _ _ _ _ _ 47 [(0, .ref t), (1, .int x1), (2, .int x2), (3, .int x3), (4, .int x4), (5, .int x5)] [] h23
      exact Ev.sub [0, 1, 2, 3, 4, 5] rfl (lk_X3_giveSeat_47 hdd (F_X3_giveSeat_14 n) ih t x1 x2 x3 x4 x5 _ HF)
    · replace HF := ite_F c17 HF
      refine ev_icmp_neT (tgt := 47) dX3_giveSeat_32 (by decide) c17 ?_
      exact Ev.sub [0, 1, 2, 3, 4, 5] rfl (lk_X3_giveSeat_47 hdd (F_X3_giveSeat_14 n) ih t x1 x2 x3 x4 x5 _ HF)

set_option maxRecDepth 20000 in
theorem lk_X3_giveSeat {g : aG} {l : Launch} {d : Nat} (hdd : 2 ≤ d) {t : Nat} {x1 : Int32} {x2 : Int32} {x3 : Int32} {h : aH} {r : aH} (hT : hK h t = 5) (HF : F_X3_giveSeat t x1 x2 x3 h = some r) : MA g l yX3_giveSeat cX3_giveSeat 6 (none) d [.ref t, .int x1, .int x2, .int x3] h (none, r) := by
  refine MA.of (lv0 := [(0, .ref t), (1, .int x1), (2, .int x2), (3, .int x3)]) (by decide +kernel) (rfl) (Nat.le_of_ble_eq_true rfl) ?_
  unfold F_X3_giveSeat at HF
  refine ev_aload_n 0 dX3_giveSeat_0 rfl ?_
  replace HF := bind_o HF
  obtain ⟨b1, e2, HF⟩ := HF
  refine ev_gS (f := 404) cl_X3 (k := 4) (by decide) fi_X3_4 rfl fl_X3_14 dX3_giveSeat_1 hT e2 ?_
  refine ev_iload_n 1 dX3_giveSeat_4 rfl ?_
  refine ev_iload_n 2 dX3_giveSeat_5 rfl ?_
  replace HF := bind_ck HF
  obtain ⟨c3, HF⟩ := HF
  replace HF := bind_o HF
  obtain ⟨⟨z6, h5⟩, e4, HF⟩ := HF
  replace HF := bd_o (bd_o HF)
  dsimp only at HF
  refine ev_callV (As := [.int x1, .int x2]) (R1 := (some (.int z6), h5)) (lk_X4_at (d := 1) (Nat.le_refl _) c3 e4) ce_X4_at im_X4_at sl_X4_at ml_X3_44 cl_X4 c3 dX3_giveSeat_6 (by omega) (Nat.le_of_ble_eq_true rfl) rfl rfl ?_
  show EvG _ _ _ _ _ _ _ _ _ _ _ 9 [(0, .ref t), (1, .int x1), (2, .int x2), (3, .int x3)] [.int z6] h5
  refine ev_istore (lv' := [(4, .int z6), (0, .ref t), (1, .int x1), (2, .int x2), (3, .int x3)]) dX3_giveSeat_9 (by decide) (rfl) ?_
  refine ev_iconst (v := 0) dX3_giveSeat_11 (by decide) ?_
  show EvG _ _ _ _ _ _ _ _ _ _ _ 12 _ _ _
  refine ev_istore (lv' := [(5, .int 0), (4, .int z6), (0, .ref t), (1, .int x1), (2, .int x2), (3, .int x3)]) dX3_giveSeat_12 (by decide) (rfl) ?_
  exact Ev.sub [2, 3, 4, 5, 1, 0] rfl (lk_X3_giveSeat_14 hdd  fu t x1 x2 x3 z6 0 _ HF)

set_option maxRecDepth 20000 in
theorem lk_X3_turnCount {g : aG} {l : Launch} {d : Nat} (hdd : 1 ≤ d) {t : Nat} {h : aH} {r : Int32 × aH} (hT : hK h t = 5) (HF : F_X3_turnCount t h = some r) : MA g l yX3_turnCount cX3_turnCount 1 (some .int) d [.ref t] h (some (.int r.1), r.2) := by
  refine MA.of (lv0 := [(0, .ref t)]) (by decide +kernel) (rfl) (Nat.le_of_ble_eq_true rfl) ?_
  unfold F_X3_turnCount at HF
  refine ev_aload_n 0 dX3_turnCount_0 rfl ?_
  replace HF := bind_o HF
  obtain ⟨b1, e2, HF⟩ := HF
  refine ev_gS (f := 405) cl_X3 (k := 5) (by decide) fi_X3_5 rfl fl_X3_23 dX3_turnCount_1 hT e2 ?_
  replace HF := bind_ck HF
  obtain ⟨c3, HF⟩ := HF
  replace HF := bind_o HF
  obtain ⟨⟨z6, h5⟩, e4, HF⟩ := HF
  replace HF := bd_o (bd_o HF)
  dsimp only at HF
  refine ev_callV (As := []) (R1 := (some (.int z6), h5)) (lk_Jx4a65c_size_8abf5 (d := 0) (Nat.le_refl _) c3 e4) ce_Jx4a65c_size_8abf5 im_Jx4a65c_size_8abf5 sl_Jx4a65c_size_8abf5 ml_X3_48 cl_Jx4a65c c3 dX3_turnCount_4 (by omega) (Nat.le_of_ble_eq_true rfl) rfl rfl ?_
  show EvG _ _ _ _ _ _ _ _ _ _ _ 7 [(0, .ref t)] [.int z6] h5
  obtain rfl := Option.some.inj HF
  exact ev_iret dX3_turnCount_7

set_option maxRecDepth 20000 in
theorem lk_X3_turnAt {g : aG} {l : Launch} {d : Nat} (hdd : 3 ≤ d) {t : Nat} {x1 : Int32} {h : aH} {r : Option Nat × aH} (hT : hK h t = 5) (HF : F_X3_turnAt t x1 h = some r) : MA g l yX3_turnAt cX3_turnAt 2 (some (.object "BallBook$Turn")) d [.ref t, .int x1] h (some (va_rf r.1), r.2) := by
  refine MA.of (lv0 := [(0, .ref t), (1, .int x1)]) (by decide +kernel) (rfl) (Nat.le_of_ble_eq_true rfl) ?_
  unfold F_X3_turnAt at HF
  refine ev_iload_n 1 dX3_turnAt_0 rfl ?_
  by_cases c1 : x1 < 0
  · replace HF := ite_T c1 HF
    refine ev_if_ltT (tgt := 29) dX3_turnAt_1 (by decide) c1 ?_
    refine ev_null dX3_turnAt_29 ?_
    obtain rfl := Option.some.inj HF
    exact ev_aret (r := none) (Or.inl ⟨_, rfl⟩) dX3_turnAt_30
  · replace HF := ite_F c1 HF
    refine ev_if_ltF (tgt := 29) dX3_turnAt_1 (by decide) c1 ?_
    refine ev_iload_n 1 dX3_turnAt_4 rfl ?_
    refine ev_aload_n 0 dX3_turnAt_5 rfl ?_
    replace HF := bind_o HF
    obtain ⟨b2, e3, HF⟩ := HF
    refine ev_gS (f := 405) cl_X3 (k := 5) (by decide) fi_X3_5 rfl fl_X3_23 dX3_turnAt_6 hT e3 ?_
    replace HF := bind_ck HF
    obtain ⟨c4, HF⟩ := HF
    replace HF := bind_o HF
    obtain ⟨⟨z7, h6⟩, e5, HF⟩ := HF
    replace HF := bd_o (bd_o HF)
    dsimp only at HF
    refine ev_callV (As := []) (R1 := (some (.int z7), h6)) (lk_Jx4a65c_size_8abf5 (d := 0) (Nat.le_refl _) c4 e5) ce_Jx4a65c_size_8abf5 im_Jx4a65c_size_8abf5 sl_Jx4a65c_size_8abf5 ml_X3_48 cl_Jx4a65c c4 dX3_turnAt_9 (by omega) (Nat.le_of_ble_eq_true rfl) rfl rfl ?_
    show EvG _ _ _ _ _ _ _ _ _ _ _ 12 [(0, .ref t), (1, .int x1)] [.int z7, .int x1] h6
    by_cases c9 : z7 ≤ x1
    · replace HF := ite_T c9 HF
      refine ev_icmp_geT (tgt := 29) dX3_turnAt_12 (by decide) c9 ?_
      refine ev_null dX3_turnAt_29 ?_
      obtain rfl := Option.some.inj HF
      exact ev_aret (r := none) (Or.inl ⟨_, rfl⟩) dX3_turnAt_30
    · replace HF := ite_F c9 HF
      refine ev_icmp_geF (tgt := 29) dX3_turnAt_12 (by decide) c9 ?_
      refine ev_aload_n 0 dX3_turnAt_15 rfl ?_
      replace HF := bind_ck HF
      obtain ⟨c10, HF⟩ := HF
      replace HF := bind_o HF
      obtain ⟨b11, e12, HF⟩ := HF
      refine ev_gS (f := 405) cl_X3 (k := 5) (by decide) fi_X3_5 rfl fl_X3_23 dX3_turnAt_16 c10 e12 ?_
      refine ev_iload_n 1 dX3_turnAt_19 rfl ?_
      replace HF := bind_ck HF
      obtain ⟨c13, HF⟩ := HF
      replace HF := bind_o HF
      obtain ⟨⟨o16, h15⟩, e14, HF⟩ := HF
      replace HF := bd_o (bd_o HF)
      dsimp only at HF
      refine ev_callV (As := [.int x1]) (R1 := (some (va_rf o16), h15)) (lk_Jx4a65c_get_915e3 (d := 2) (Nat.le_refl _) c13 e14) ce_Jx4a65c_get_915e3 im_Jx4a65c_get_915e3 sl_Jx4a65c_get_915e3 ml_X3_52 cl_Jx4a65c c13 dX3_turnAt_20 (by omega) (Nat.le_of_ble_eq_true rfl) rfl rfl ?_
      show EvG _ _ _ _ _ _ _ _ _ _ _ 23 [(0, .ref t), (1, .int x1)] [va_rf o16] h15
      replace HF := bind_o HF
      obtain ⟨b18, e19, HF⟩ := HF
      subst e19
      replace HF := bind_ck HF
      obtain ⟨c20, HF⟩ := HF
      refine ev_cast cl_X10 c20 kl_X3_56 ca_X10 dX3_turnAt_23 ?_
      refine ev_goto (tgt := 30) dX3_turnAt_26 (by decide) ?_
      obtain rfl := Option.some.inj HF
      exact ev_aret (r := some b18) (Or.inl ⟨_, rfl⟩) dX3_turnAt_30

set_option maxRecDepth 20000 in
theorem lk_X3_addTurn {g : aG} {l : Launch} {d : Nat} (hdd : 7 ≤ d) {t : Nat} {a1 : Nat} {h : aH} {r : aH} (hT : hK h t = 5) (HF : F_X3_addTurn t a1 h = some r) : MA g l yX3_addTurn cX3_addTurn 2 (none) d [.ref t, .ref a1] h (none, r) := by
  refine MA.of (lv0 := [(0, .ref t), (1, .ref a1)]) (by decide +kernel) (rfl) (Nat.le_of_ble_eq_true rfl) ?_
  unfold F_X3_addTurn at HF
  refine ev_aload_n 0 dX3_addTurn_0 rfl ?_
  replace HF := bind_o HF
  obtain ⟨b1, e2, HF⟩ := HF
  refine ev_gS (f := 405) cl_X3 (k := 5) (by decide) fi_X3_5 rfl fl_X3_23 dX3_addTurn_1 hT e2 ?_
  refine ev_aload_n 1 dX3_addTurn_4 rfl ?_
  replace HF := bind_ck HF
  obtain ⟨c3, HF⟩ := HF
  replace HF := bind_o HF
  obtain ⟨⟨z6, h5⟩, e4, HF⟩ := HF
  replace HF := bd_o (bd_o HF)
  dsimp only at HF
  refine ev_callV (As := [.ref a1]) (R1 := (some (.int z6), h5)) (lk_Jx4a65c_add_9ea2d (d := 6) (Nat.le_refl _) c3 e4) ce_Jx4a65c_add_9ea2d im_Jx4a65c_add_9ea2d sl_Jx4a65c_add_9ea2d ml_X3_58 cl_Jx4a65c c3 dX3_addTurn_5 (by omega) (Nat.le_of_ble_eq_true rfl) rfl rfl ?_
  show EvG _ _ _ _ _ _ _ _ _ _ _ 8 [(0, .ref t), (1, .ref a1)] [.int z6] h5
  refine ev_pop dX3_addTurn_8 (by first | rfl | exact va_cat _) ?_
  obtain rfl := Option.some.inj HF
  exact ev_vret dX3_addTurn_9

set_option maxRecDepth 20000 in
theorem lk_X10_overCount {g : aG} {l : Launch} {d : Nat} (hdd : 1 ≤ d) {t : Nat} {h : aH} {r : Int32 × aH} (hT : hK h t = 12) (HF : F_X10_overCount t h = some r) : MA g l yX10_overCount cX10_overCount 1 (some .int) d [.ref t] h (some (.int r.1), r.2) := by
  refine MA.of (lv0 := [(0, .ref t)]) (by decide +kernel) (rfl) (Nat.le_of_ble_eq_true rfl) ?_
  unfold F_X10_overCount at HF
  refine ev_aload_n 0 dX10_overCount_0 rfl ?_
  replace HF := bind_o HF
  obtain ⟨b1, e2, HF⟩ := HF
  refine ev_gS (f := 1100) cl_X10 (k := 0) (by decide) fi_X10_0 rfl fl_X10_10 dX10_overCount_1 hT e2 ?_
  replace HF := bind_ck HF
  obtain ⟨c3, HF⟩ := HF
  replace HF := bind_o HF
  obtain ⟨⟨z6, h5⟩, e4, HF⟩ := HF
  replace HF := bd_o (bd_o HF)
  dsimp only at HF
  refine ev_callV (As := []) (R1 := (some (.int z6), h5)) (lk_Jx4a65c_size_8abf5 (d := 0) (Nat.le_refl _) c3 e4) ce_Jx4a65c_size_8abf5 im_Jx4a65c_size_8abf5 sl_Jx4a65c_size_8abf5 ml_X10_16 cl_Jx4a65c c3 dX10_overCount_4 (by omega) (Nat.le_of_ble_eq_true rfl) rfl rfl ?_
  show EvG _ _ _ _ _ _ _ _ _ _ _ 7 [(0, .ref t)] [.int z6] h5
  obtain rfl := Option.some.inj HF
  exact ev_iret dX10_overCount_7

set_option maxRecDepth 20000 in
theorem lk_X3_overCountOf {g : aG} {l : Launch} {d : Nat} (hdd : 4 ≤ d) {t : Nat} {x1 : Int32} {h : aH} {r : Int32 × aH} (hT : hK h t = 5) (HF : F_X3_overCountOf t x1 h = some r) : MA g l yX3_overCountOf cX3_overCountOf 3 (some .int) d [.ref t, .int x1] h (some (.int r.1), r.2) := by
  refine MA.of (lv0 := [(0, .ref t), (1, .int x1)]) (by decide +kernel) (rfl) (Nat.le_of_ble_eq_true rfl) ?_
  unfold F_X3_overCountOf at HF
  refine ev_aload_n 0 dX3_overCountOf_0 rfl ?_
  refine ev_iload_n 1 dX3_overCountOf_1 rfl ?_
  replace HF := bind_o HF
  obtain ⟨⟨o3, h2⟩, e1, HF⟩ := HF
  replace HF := bd_o (bd_o HF)
  dsimp only at HF
  refine ev_callV (As := [.int x1]) (R1 := (some (va_rf o3), h2)) (lk_X3_turnAt (d := 3) (Nat.le_refl _) hT e1) ce_X3_turnAt im_X3_turnAt sl_X3_turnAt ml_X3_62 cl_X3 hT dX3_overCountOf_2 (by omega) (Nat.le_of_ble_eq_true rfl) rfl rfl ?_
  show EvG _ _ _ _ _ _ _ _ _ _ _ 5 [(0, .ref t), (1, .int x1)] [va_rf o3] h2
  refine ev_astore_nr (lv' := [(2, va_rf o3), (0, .ref t), (1, .int x1)]) dX3_overCountOf_5 (by decide) (rfl) ?_
  refine ev_aload_nr 0 dX3_overCountOf_6 rfl ?_
  cases o3 with
  | none =>
    refine ev_ifnonnullN dX3_overCountOf_7 ?_
    refine ev_iconst (v := 0) dX3_overCountOf_10 (by decide) ?_
    refine ev_goto (tgt := 18) dX3_overCountOf_11 (by decide) ?_
    obtain rfl := Option.some.inj HF
    exact ev_iret dX3_overCountOf_18
  | some b5 =>
    refine ev_ifnonnullS (tgt := 14) dX3_overCountOf_7 (by decide) ?_
    refine ev_aload_n 0 dX3_overCountOf_14 rfl ?_
    replace HF := bind_ck HF
    obtain ⟨c6, HF⟩ := HF
    replace HF := bind_o HF
    obtain ⟨⟨z9, h8⟩, e7, HF⟩ := HF
    replace HF := bd_o (bd_o HF)
    dsimp only at HF
    refine ev_callV (As := []) (R1 := (some (.int z9), h8)) (lk_X10_overCount (d := 1) (Nat.le_refl _) c6 e7) ce_X10_overCount im_X10_overCount sl_X10_overCount ml_X3_66 cl_X10 c6 dX3_overCountOf_15 (by omega) (Nat.le_of_ble_eq_true rfl) rfl rfl ?_
    show EvG _ _ _ _ _ _ _ _ _ _ _ 18 [(2, .ref b5), (0, .ref t), (1, .int x1)] [.int z9] h8
    obtain rfl := Option.some.inj HF
    exact ev_iret dX3_overCountOf_18

set_option maxRecDepth 20000 in
theorem lk_X10_overAt {g : aG} {l : Launch} {d : Nat} (hdd : 3 ≤ d) {t : Nat} {x1 : Int32} {h : aH} {r : Option Nat × aH} (hT : hK h t = 12) (HF : F_X10_overAt t x1 h = some r) : MA g l yX10_overAt cX10_overAt 2 (some (.object "BallBook$Over")) d [.ref t, .int x1] h (some (va_rf r.1), r.2) := by
  refine MA.of (lv0 := [(0, .ref t), (1, .int x1)]) (by decide +kernel) (rfl) (Nat.le_of_ble_eq_true rfl) ?_
  unfold F_X10_overAt at HF
  refine ev_iload_n 1 dX10_overAt_0 rfl ?_
  by_cases c1 : x1 < 0
  · replace HF := ite_T c1 HF
    refine ev_if_ltT (tgt := 29) dX10_overAt_1 (by decide) c1 ?_
    refine ev_null dX10_overAt_29 ?_
    obtain rfl := Option.some.inj HF
    exact ev_aret (r := none) (Or.inl ⟨_, rfl⟩) dX10_overAt_30
  · replace HF := ite_F c1 HF
    refine ev_if_ltF (tgt := 29) dX10_overAt_1 (by decide) c1 ?_
    refine ev_iload_n 1 dX10_overAt_4 rfl ?_
    refine ev_aload_n 0 dX10_overAt_5 rfl ?_
    replace HF := bind_o HF
    obtain ⟨b2, e3, HF⟩ := HF
    refine ev_gS (f := 1100) cl_X10 (k := 0) (by decide) fi_X10_0 rfl fl_X10_10 dX10_overAt_6 hT e3 ?_
    replace HF := bind_ck HF
    obtain ⟨c4, HF⟩ := HF
    replace HF := bind_o HF
    obtain ⟨⟨z7, h6⟩, e5, HF⟩ := HF
    replace HF := bd_o (bd_o HF)
    dsimp only at HF
    refine ev_callV (As := []) (R1 := (some (.int z7), h6)) (lk_Jx4a65c_size_8abf5 (d := 0) (Nat.le_refl _) c4 e5) ce_Jx4a65c_size_8abf5 im_Jx4a65c_size_8abf5 sl_Jx4a65c_size_8abf5 ml_X10_16 cl_Jx4a65c c4 dX10_overAt_9 (by omega) (Nat.le_of_ble_eq_true rfl) rfl rfl ?_
    show EvG _ _ _ _ _ _ _ _ _ _ _ 12 [(0, .ref t), (1, .int x1)] [.int z7, .int x1] h6
    by_cases c9 : z7 ≤ x1
    · replace HF := ite_T c9 HF
      refine ev_icmp_geT (tgt := 29) dX10_overAt_12 (by decide) c9 ?_
      refine ev_null dX10_overAt_29 ?_
      obtain rfl := Option.some.inj HF
      exact ev_aret (r := none) (Or.inl ⟨_, rfl⟩) dX10_overAt_30
    · replace HF := ite_F c9 HF
      refine ev_icmp_geF (tgt := 29) dX10_overAt_12 (by decide) c9 ?_
      refine ev_aload_n 0 dX10_overAt_15 rfl ?_
      replace HF := bind_ck HF
      obtain ⟨c10, HF⟩ := HF
      replace HF := bind_o HF
      obtain ⟨b11, e12, HF⟩ := HF
      refine ev_gS (f := 1100) cl_X10 (k := 0) (by decide) fi_X10_0 rfl fl_X10_10 dX10_overAt_16 c10 e12 ?_
      refine ev_iload_n 1 dX10_overAt_19 rfl ?_
      replace HF := bind_ck HF
      obtain ⟨c13, HF⟩ := HF
      replace HF := bind_o HF
      obtain ⟨⟨o16, h15⟩, e14, HF⟩ := HF
      replace HF := bd_o (bd_o HF)
      dsimp only at HF
      refine ev_callV (As := [.int x1]) (R1 := (some (va_rf o16), h15)) (lk_Jx4a65c_get_915e3 (d := 2) (Nat.le_refl _) c13 e14) ce_Jx4a65c_get_915e3 im_Jx4a65c_get_915e3 sl_Jx4a65c_get_915e3 ml_X10_20 cl_Jx4a65c c13 dX10_overAt_20 (by omega) (Nat.le_of_ble_eq_true rfl) rfl rfl ?_
      show EvG _ _ _ _ _ _ _ _ _ _ _ 23 [(0, .ref t), (1, .int x1)] [va_rf o16] h15
      replace HF := bind_o HF
      obtain ⟨b18, e19, HF⟩ := HF
      subst e19
      replace HF := bind_ck HF
      obtain ⟨c20, HF⟩ := HF
      refine ev_cast cl_X5 c20 kl_X10_24 ca_X5 dX10_overAt_23 ?_
      refine ev_goto (tgt := 30) dX10_overAt_26 (by decide) ?_
      obtain rfl := Option.some.inj HF
      exact ev_aret (r := some b18) (Or.inl ⟨_, rfl⟩) dX10_overAt_30

set_option maxRecDepth 20000 in
theorem lk_X3_overAt {g : aG} {l : Launch} {d : Nat} (hdd : 4 ≤ d) {t : Nat} {x1 : Int32} {x2 : Int32} {h : aH} {r : Option Nat × aH} (hT : hK h t = 5) (HF : F_X3_overAt t x1 x2 h = some r) : MA g l yX3_overAt cX3_overAt 4 (some (.object "BallBook$Over")) d [.ref t, .int x1, .int x2] h (some (va_rf r.1), r.2) := by
  refine MA.of (lv0 := [(0, .ref t), (1, .int x1), (2, .int x2)]) (by decide +kernel) (rfl) (Nat.le_of_ble_eq_true rfl) ?_
  unfold F_X3_overAt at HF
  refine ev_aload_n 0 dX3_overAt_0 rfl ?_
  refine ev_iload_n 1 dX3_overAt_1 rfl ?_
  replace HF := bind_o HF
  obtain ⟨⟨o3, h2⟩, e1, HF⟩ := HF
  replace HF := bd_o (bd_o HF)
  dsimp only at HF
  refine ev_callV (As := [.int x1]) (R1 := (some (va_rf o3), h2)) (lk_X3_turnAt (d := 3) (Nat.le_refl _) hT e1) ce_X3_turnAt im_X3_turnAt sl_X3_turnAt ml_X3_62 cl_X3 hT dX3_overAt_2 (by omega) (Nat.le_of_ble_eq_true rfl) rfl rfl ?_
  show EvG _ _ _ _ _ _ _ _ _ _ _ 5 [(0, .ref t), (1, .int x1), (2, .int x2)] [va_rf o3] h2
  refine ev_astore_nr (lv' := [(3, va_rf o3), (0, .ref t), (1, .int x1), (2, .int x2)]) dX3_overAt_5 (by decide) (rfl) ?_
  refine ev_aload_nr 0 dX3_overAt_6 rfl ?_
  cases o3 with
  | none =>
    refine ev_ifnonnullN dX3_overAt_7 ?_
    refine ev_null dX3_overAt_10 ?_
    refine ev_goto (tgt := 19) dX3_overAt_11 (by decide) ?_
    obtain rfl := Option.some.inj HF
    exact ev_aret (r := none) (Or.inl ⟨_, rfl⟩) dX3_overAt_19
  | some b5 =>
    refine ev_ifnonnullS (tgt := 14) dX3_overAt_7 (by decide) ?_
    refine ev_aload_n 0 dX3_overAt_14 rfl ?_
    refine ev_iload_n 3 dX3_overAt_15 rfl ?_
    replace HF := bind_ck HF
    obtain ⟨c6, HF⟩ := HF
    replace HF := bind_o HF
    obtain ⟨⟨o9, h8⟩, e7, HF⟩ := HF
    replace HF := bd_o (bd_o HF)
    dsimp only at HF
    refine ev_callV (As := [.int x2]) (R1 := (some (va_rf o9), h8)) (lk_X10_overAt (d := 3) (Nat.le_refl _) c6 e7) ce_X10_overAt im_X10_overAt sl_X10_overAt ml_X3_69 cl_X10 c6 dX3_overAt_16 (by omega) (Nat.le_of_ble_eq_true rfl) rfl rfl ?_
    show EvG _ _ _ _ _ _ _ _ _ _ _ 19 [(3, .ref b5), (0, .ref t), (1, .int x1), (2, .int x2)] [va_rf o9] h8
    obtain rfl := Option.some.inj HF
    exact ev_aret (r := o9) (Or.inl ⟨_, rfl⟩) dX3_overAt_19

set_option maxRecDepth 20000 in
theorem lk_X10_dropOver {g : aG} {l : Launch} {d : Nat} (hdd : 3 ≤ d) {t : Nat} {h : aH} {r : aH} (hT : hK h t = 12) (HF : F_X10_dropOver t h = some r) : MA g l yX10_dropOver cX10_dropOver 1 (none) d [.ref t] h (none, r) := by
  refine MA.of (lv0 := [(0, .ref t)]) (by decide +kernel) (rfl) (Nat.le_of_ble_eq_true rfl) ?_
  unfold F_X10_dropOver at HF
  refine ev_aload_n 0 dX10_dropOver_0 rfl ?_
  replace HF := bind_o HF
  obtain ⟨b1, e2, HF⟩ := HF
  refine ev_gS (f := 1100) cl_X10 (k := 0) (by decide) fi_X10_0 rfl fl_X10_10 dX10_dropOver_1 hT e2 ?_
  replace HF := bind_ck HF
  obtain ⟨c3, HF⟩ := HF
  replace HF := bind_o HF
  obtain ⟨⟨z6, h5⟩, e4, HF⟩ := HF
  replace HF := bd_o (bd_o HF)
  dsimp only at HF
  refine ev_callV (As := []) (R1 := (some (.int z6), h5)) (lk_Jx4a65c_isEmpty_aae02 (d := 0) (Nat.le_refl _) c3 e4) ce_Jx4a65c_isEmpty_aae02 im_Jx4a65c_isEmpty_aae02 sl_Jx4a65c_isEmpty_aae02 ml_X10_39 cl_Jx4a65c c3 dX10_dropOver_4 (by omega) (Nat.le_of_ble_eq_true rfl) rfl rfl ?_
  show EvG _ _ _ _ _ _ _ _ _ _ _ 7 [(0, .ref t)] [.int z6] h5
  by_cases c8 : z6 = 0
  · replace HF := ite_T c8 HF
    refine ev_if_neF (tgt := 27) dX10_dropOver_7 (by decide) c8 ?_
    refine ev_aload_n 0 dX10_dropOver_10 rfl ?_
    replace HF := bind_ck HF
    obtain ⟨c9, HF⟩ := HF
    replace HF := bind_o HF
    obtain ⟨b10, e11, HF⟩ := HF
    refine ev_gS (f := 1100) cl_X10 (k := 0) (by decide) fi_X10_0 rfl fl_X10_10 dX10_dropOver_11 c9 e11 ?_
    refine ev_aload_n 0 dX10_dropOver_14 rfl ?_
    replace HF := bind_o HF
    obtain ⟨b12, e13, HF⟩ := HF
    refine ev_gS (f := 1100) cl_X10 (k := 0) (by decide) fi_X10_0 rfl fl_X10_10 dX10_dropOver_15 c9 e13 ?_
    replace HF := bind_ck HF
    obtain ⟨c14, HF⟩ := HF
    replace HF := bind_o HF
    obtain ⟨⟨z17, h16⟩, e15, HF⟩ := HF
    replace HF := bd_o (bd_o HF)
    dsimp only at HF
    refine ev_callV (As := []) (R1 := (some (.int z17), h16)) (lk_Jx4a65c_size_8abf5 (d := 0) (Nat.le_refl _) c14 e15) ce_Jx4a65c_size_8abf5 im_Jx4a65c_size_8abf5 sl_Jx4a65c_size_8abf5 ml_X10_16 cl_Jx4a65c c14 dX10_dropOver_18 (by omega) (Nat.le_of_ble_eq_true rfl) rfl rfl ?_
    show EvG _ _ _ _ _ _ _ _ _ _ _ 21 [(0, .ref t)] [.int z17, .ref b10] h16
    refine ev_iconst (v := 1) dX10_dropOver_21 (by decide) ?_
    refine ev_isub dX10_dropOver_22 ?_
    show EvG _ _ _ _ _ _ _ _ _ _ _ 23 _ _ _
    replace HF := bind_ck HF
    obtain ⟨c19, HF⟩ := HF
    replace HF := bind_o HF
    obtain ⟨⟨o22, h21⟩, e20, HF⟩ := HF
    replace HF := bd_o (bd_o HF)
    dsimp only at HF
    refine ev_callV (As := [.int (z17 - 1)]) (R1 := (some (va_rf o22), h21)) (lk_Jx4a65c_remove_915e3 (d := 2) (Nat.le_refl _) c19 e20) ce_Jx4a65c_remove_915e3 im_Jx4a65c_remove_915e3 sl_Jx4a65c_remove_915e3 ml_X10_43 cl_Jx4a65c c19 dX10_dropOver_23 (by omega) (Nat.le_of_ble_eq_true rfl) rfl rfl ?_
    show EvG _ _ _ _ _ _ _ _ _ _ _ 26 [(0, .ref t)] [va_rf o22] h21
    refine ev_pop dX10_dropOver_26 (by first | rfl | exact va_cat _) ?_
    obtain rfl := Option.some.inj HF
    exact ev_vret dX10_dropOver_27
  · replace HF := ite_F c8 HF
    refine ev_if_neT (tgt := 27) dX10_dropOver_7 (by decide) c8 ?_
    obtain rfl := Option.some.inj HF
    exact ev_vret dX10_dropOver_27

set_option maxRecDepth 20000 in
theorem lk_X3_takeBack {g : aG} {l : Launch} {d : Nat} (hdd : 4 ≤ d) {t : Nat} {a1 : Nat} {h : aH} {r : aH} (hT : hK h t = 5) (HF : F_X3_takeBack t a1 h = some r) : MA g l yX3_takeBack cX3_takeBack 4 (none) d [.ref t, .ref a1] h (none, r) := by
  refine MA.of (lv0 := [(0, .ref t), (1, .ref a1)]) (by decide +kernel) (rfl) (Nat.le_of_ble_eq_true rfl) ?_
  unfold F_X3_takeBack at HF
  refine ev_aload_n 0 dX3_takeBack_0 rfl ?_
  refine ev_aload_n 1 dX3_takeBack_1 rfl ?_
  replace HF := bind_ck HF
  obtain ⟨c1, HF⟩ := HF
  refine ev_gIN (f := 203) cl_X1 (k := 3) (by decide) fi_X1_3 rfl fl_X3_73 dX3_takeBack_2 c1 ?_
  replace HF := bind_o HF
  obtain ⟨⟨o4, h3⟩, e2, HF⟩ := HF
  replace HF := bd_o (bd_o HF)
  dsimp only at HF
  refine ev_callV (As := [.int (hF h 203 a1)]) (R1 := (some (va_rf o4), h3)) (lk_X3_turnAt (d := 3) (Nat.le_refl _) hT e2) ce_X3_turnAt im_X3_turnAt sl_X3_turnAt ml_X3_62 cl_X3 hT dX3_takeBack_5 (by omega) (Nat.le_of_ble_eq_true rfl) rfl rfl ?_
  show EvG _ _ _ _ _ _ _ _ _ _ _ 8 [(0, .ref t), (1, .ref a1)] [va_rf o4] h3
  refine ev_astore_nr (lv' := [(2, va_rf o4), (0, .ref t), (1, .ref a1)]) dX3_takeBack_8 (by decide) (rfl) ?_
  refine ev_aload_nr 0 dX3_takeBack_9 rfl ?_
  cases o4 with
  | none =>
    refine ev_ifnonnullN dX3_takeBack_10 ?_
    obtain rfl := Option.some.inj HF
    exact ev_vret dX3_takeBack_13
  | some b6 =>
    refine ev_ifnonnullS (tgt := 14) dX3_takeBack_10 (by decide) ?_
    refine ev_aload_n 2 dX3_takeBack_14 rfl ?_
    replace HF := bind_ck HF
    obtain ⟨c7, HF⟩ := HF
    refine ev_gIN (f := 202) cl_X1 (k := 2) (by decide) fi_X1_2 rfl fl_X3_78 dX3_takeBack_15 c7 ?_
    by_cases c8 : hF h3 202 a1 = 0
    · replace HF := ite_T c8 HF
      refine ev_if_neF (tgt := 41) dX3_takeBack_18 (by decide) c8 ?_
      refine ev_aload_n 1 dX3_takeBack_21 rfl ?_
      replace HF := bind_ck HF
      obtain ⟨c9, HF⟩ := HF
      replace HF := bind_o HF
      obtain ⟨b10, e11, HF⟩ := HF
      refine ev_gS (f := 405) cl_X3 (k := 5) (by decide) fi_X3_5 rfl fl_X3_23 dX3_takeBack_22 c9 e11 ?_
      refine ev_aload_n 1 dX3_takeBack_25 rfl ?_
      replace HF := bind_o HF
      obtain ⟨b12, e13, HF⟩ := HF
      refine ev_gS (f := 405) cl_X3 (k := 5) (by decide) fi_X3_5 rfl fl_X3_23 dX3_takeBack_26 c9 e13 ?_
      replace HF := bind_ck HF
      obtain ⟨c14, HF⟩ := HF
      replace HF := bind_o HF
      obtain ⟨⟨z17, h16⟩, e15, HF⟩ := HF
      replace HF := bd_o (bd_o HF)
      dsimp only at HF
      refine ev_callV (As := []) (R1 := (some (.int z17), h16)) (lk_Jx4a65c_size_8abf5 (d := 0) (Nat.le_refl _) c14 e15) ce_Jx4a65c_size_8abf5 im_Jx4a65c_size_8abf5 sl_Jx4a65c_size_8abf5 ml_X3_48 cl_Jx4a65c c14 dX3_takeBack_29 (by omega) (Nat.le_of_ble_eq_true rfl) rfl rfl ?_
      show EvG _ _ _ _ _ _ _ _ _ _ _ 32 [(2, .ref b6), (0, .ref t), (1, .ref a1)] [.int z17, .ref b10] h16
      refine ev_iconst (v := 1) dX3_takeBack_32 (by decide) ?_
      refine ev_isub dX3_takeBack_33 ?_
      show EvG _ _ _ _ _ _ _ _ _ _ _ 34 _ _ _
      replace HF := bind_ck HF
      obtain ⟨c19, HF⟩ := HF
      replace HF := bind_o HF
      obtain ⟨⟨o22, h21⟩, e20, HF⟩ := HF
      replace HF := bd_o (bd_o HF)
      dsimp only at HF
      refine ev_callV (As := [.int (z17 - 1)]) (R1 := (some (va_rf o22), h21)) (lk_Jx4a65c_remove_915e3 (d := 2) (Nat.le_refl _) c19 e20) ce_Jx4a65c_remove_915e3 im_Jx4a65c_remove_915e3 sl_Jx4a65c_remove_915e3 ml_X3_81 cl_Jx4a65c c19 dX3_takeBack_34 (by omega) (Nat.le_of_ble_eq_true rfl) rfl rfl ?_
      show EvG _ _ _ _ _ _ _ _ _ _ _ 37 [(2, .ref b6), (0, .ref t), (1, .ref a1)] [va_rf o22] h21
      refine ev_pop dX3_takeBack_37 (by first | rfl | exact va_cat _) ?_
      refine ev_goto (tgt := 77) dX3_takeBack_38 (by decide) ?_
      obtain rfl := Option.some.inj HF
      exact ev_vret dX3_takeBack_77
    · replace HF := ite_F c8 HF
      refine ev_if_neT (tgt := 41) dX3_takeBack_18 (by decide) c8 ?_
      refine ev_aload_n 2 dX3_takeBack_41 rfl ?_
      refine ev_gIN (f := 202) cl_X1 (k := 2) (by decide) fi_X1_2 rfl fl_X3_78 dX3_takeBack_42 c7 ?_
      refine ev_iconst (v := 1) dX3_takeBack_45 (by decide) ?_
      by_cases c24 : hF h3 202 a1 = 1
      · replace HF := ite_T c24 HF
        refine ev_icmp_neF (tgt := 56) dX3_takeBack_46 (by decide) c24 ?_
        refine ev_aload_n 0 dX3_takeBack_49 rfl ?_
        replace HF := bind_ck HF
        obtain ⟨c25, HF⟩ := HF
        replace HF := bind_o HF
        obtain ⟨h27, e26, HF⟩ := HF
        refine ev_callV (As := []) (R1 := (none, h27)) (lk_X10_dropOver (d := 3) (Nat.le_refl _) c25 e26) ce_X10_dropOver im_X10_dropOver sl_X10_dropOver ml_X3_84 cl_X10 c25 dX3_takeBack_50 (by omega) (Nat.le_of_ble_eq_true rfl) rfl rfl ?_
        show EvG _ _ _ _ _ _ _ _ _ _ _ 53 [(2, .ref b6), (0, .ref t), (1, .ref a1)] [] h27
        refine ev_goto (tgt := 77) dX3_takeBack_53 (by decide) ?_
        obtain rfl := Option.some.inj HF
        exact ev_vret dX3_takeBack_77
      · replace HF := ite_F c24 HF
        refine ev_icmp_neT (tgt := 56) dX3_takeBack_46 (by decide) c24 ?_
        refine ev_aload_n 0 dX3_takeBack_56 rfl ?_
        refine ev_aload_n 2 dX3_takeBack_57 rfl ?_
        refine ev_gIN (f := 204) cl_X1 (k := 4) (by decide) fi_X1_4 rfl fl_X3_87 dX3_takeBack_58 c7 ?_
        replace HF := bind_ck HF
        obtain ⟨c29, HF⟩ := HF
        replace HF := bind_o HF
        obtain ⟨⟨o32, h31⟩, e30, HF⟩ := HF
        replace HF := bd_o (bd_o HF)
        dsimp only at HF
        refine ev_callV (As := [.int (hF h3 204 a1)]) (R1 := (some (va_rf o32), h31)) (lk_X10_overAt (d := 3) (Nat.le_refl _) c29 e30) ce_X10_overAt im_X10_overAt sl_X10_overAt ml_X3_69 cl_X10 c29 dX3_takeBack_61 (by omega) (Nat.le_of_ble_eq_true rfl) rfl rfl ?_
        show EvG _ _ _ _ _ _ _ _ _ _ _ 64 [(2, .ref b6), (0, .ref t), (1, .ref a1)] [va_rf o32] h31
        refine ev_astore_nr (lv' := [(3, va_rf o32), (2, .ref b6), (0, .ref t), (1, .ref a1)]) dX3_takeBack_64 (by decide) (rfl) ?_
        refine ev_aload_nr 0 dX3_takeBack_65 rfl ?_
        cases o32 with
        | none =>
          refine ev_ifnullN (tgt := 77) dX3_takeBack_66 (by decide) ?_
          obtain rfl := Option.some.inj HF
          exact ev_vret dX3_takeBack_77
        | some b34 =>
          refine ev_ifnullS dX3_takeBack_66 ?_
          refine ev_aload_n 0 dX3_takeBack_69 rfl ?_
          refine ev_aload_n 3 dX3_takeBack_70 rfl ?_
          replace HF := bind_ck HF
          obtain ⟨c35, HF⟩ := HF
          replace HF := bind_o HF
          obtain ⟨b36, e37, HF⟩ := HF
          refine ev_gSN (f := 200) cl_X1 (k := 0) (by decide) fi_X1_0 rfl fl_X3_90 dX3_takeBack_71 c35 e37 ?_
          replace HF := bind_ck HF
          obtain ⟨c38, HF⟩ := HF
          replace HF := bind_o HF
          obtain ⟨h40, e39, HF⟩ := HF
          refine ev_callV (As := [.ref b36]) (R1 := (none, h40)) (lk_X5_copy (d := 2) (Nat.le_refl _) c38 e39) ce_X5_copy im_X5_copy sl_X5_copy ml_X3_94 cl_X5 c38 dX3_takeBack_74 (by omega) (Nat.le_of_ble_eq_true rfl) rfl rfl ?_
          show EvG _ _ _ _ _ _ _ _ _ _ _ 77 [(3, .ref b34), (2, .ref b6), (0, .ref t), (1, .ref a1)] [] h40
          obtain rfl := Option.some.inj HF
          exact ev_vret dX3_takeBack_77

set_option maxRecDepth 20000 in
theorem lk_X10_imageSize_4 {g : aG} {l : Launch} {d : Nat} {h0 : aH} (hdd : 3 ≤ d) {r : Int32 × aH} : ∀ (n : Nat) (t : Nat) (x1 : Int32) (x2 : Int32) (x3 : Int32) (h : aH), F_X10_imageSize_4  n t x1 x2 x3 h = some r → Ev g l cX10_imageSize 4 yX10_imageSize (some .int) d h0 (some (.int r.1), r.2) 4 [(0, .ref t), (1, .int x1), (2, .int x2), (3, .int x3)] [] h := by
  intro n
  induction n with
  | zero => intro t x1 x2 x3 h HF; cases HF
  | succ n ih =>
  intro t x1 x2 x3 h HF
  unfold F_X10_imageSize_4 at HF
  refine ev_iload_n 3 dX10_imageSize_4 rfl ?_
  refine ev_iload_n 1 dX10_imageSize_5 rfl ?_
  by_cases c1 : x1 ≤ x3
  · replace HF := ite_T c1 HF
    refine ev_icmp_geT (tgt := 49) dX10_imageSize_6 (by decide) c1 ?_
    refine ev_iload_n 2 dX10_imageSize_49 rfl ?_
    obtain rfl := Option.some.inj HF
    exact ev_iret dX10_imageSize_50
  · replace HF := ite_F c1 HF
    refine ev_icmp_geF (tgt := 49) dX10_imageSize_6 (by decide) c1 ?_
    refine ev_iload_n 3 dX10_imageSize_9 rfl ?_
    refine ev_aload_n 0 dX10_imageSize_10 rfl ?_
    replace HF := bind_ck HF
    obtain ⟨c2, HF⟩ := HF
    replace HF := bind_o HF
    obtain ⟨b3, e4, HF⟩ := HF
    refine ev_gS (f := 1100) cl_X10 (k := 0) (by decide) fi_X10_0 rfl fl_X10_10 dX10_imageSize_11 c2 e4 ?_
    replace HF := bind_ck HF
    obtain ⟨c5, HF⟩ := HF
    replace HF := bind_o HF
    obtain ⟨⟨z8, h7⟩, e6, HF⟩ := HF
    replace HF := bd_o (bd_o HF)
    dsimp only at HF
    refine ev_callV (As := []) (R1 := (some (.int z8), h7)) (lk_Jx4a65c_size_8abf5 (d := 0) (Nat.le_refl _) c5 e6) ce_Jx4a65c_size_8abf5 im_Jx4a65c_size_8abf5 sl_Jx4a65c_size_8abf5 ml_X10_16 cl_Jx4a65c c5 dX10_imageSize_14 (by omega) (Nat.le_of_ble_eq_true rfl) rfl rfl ?_
    show EvG _ _ _ _ _ _ _ _ _ _ _ 17 [(0, .ref t), (1, .int x1), (2, .int x2), (3, .int x3)] [.int z8, .int x3] h7
    by_cases c10 : z8 ≤ x3
    · replace HF := ite_T c10 HF
      refine ev_icmp_geT (tgt := 49) dX10_imageSize_17 (by decide) c10 ?_
      refine ev_iload_n 2 dX10_imageSize_49 rfl ?_
      obtain rfl := Option.some.inj HF
      exact ev_iret dX10_imageSize_50
    · replace HF := ite_F c10 HF
      refine ev_icmp_geF (tgt := 49) dX10_imageSize_17 (by decide) c10 ?_
      refine ev_iload_n 2 dX10_imageSize_20 rfl ?_
      refine ev_iconst (v := 2) dX10_imageSize_21 (by decide) ?_
      refine ev_aload_n 0 dX10_imageSize_22 rfl ?_
      replace HF := bind_ck HF
      obtain ⟨c11, HF⟩ := HF
      replace HF := bind_o HF
      obtain ⟨b12, e13, HF⟩ := HF
      refine ev_gS (f := 1100) cl_X10 (k := 0) (by decide) fi_X10_0 rfl fl_X10_10 dX10_imageSize_23 c11 e13 ?_
      refine ev_iload_n 3 dX10_imageSize_26 rfl ?_
      replace HF := bind_ck HF
      obtain ⟨c14, HF⟩ := HF
      replace HF := bind_o HF
      obtain ⟨⟨o17, h16⟩, e15, HF⟩ := HF
      replace HF := bd_o (bd_o HF)
      dsimp only at HF
      refine ev_callV (As := [.int x3]) (R1 := (some (va_rf o17), h16)) (lk_Jx4a65c_get_915e3 (d := 2) (Nat.le_refl _) c14 e15) ce_Jx4a65c_get_915e3 im_Jx4a65c_get_915e3 sl_Jx4a65c_get_915e3 ml_X10_20 cl_Jx4a65c c14 dX10_imageSize_27 (by omega) (Nat.le_of_ble_eq_true rfl) rfl rfl ?_
      show EvG _ _ _ _ _ _ _ _ _ _ _ 30 [(0, .ref t), (1, .int x1), (2, .int x2), (3, .int x3)] [va_rf o17, .int 2, .int x2] h16
      replace HF := bind_o HF
      obtain ⟨b19, e20, HF⟩ := HF
      subst e20
      replace HF := bind_ck HF
      obtain ⟨c21, HF⟩ := HF
      refine ev_cast cl_X5 c21 kl_X10_24 ca_X5 dX10_imageSize_30 ?_
      show EvG _ _ _ _ _ _ _ _ _ _ _ 33 _ _ _
      refine ev_gIN (f := 602) cl_X5 (k := 2) (by decide) fi_X5_2 rfl fl_X10_26 dX10_imageSize_33 c21 ?_
      refine ev_iconst (v := 0) dX10_imageSize_36 (by decide) ?_
      refine ev_max ml_X10_29 dX10_imageSize_37 (by omega) (Nat.le_of_ble_eq_true rfl) ?_
      replace HF := bd_n HF
      obtain ⟨z22, ez22, HF⟩ := HF
      refine ev_topI ez22 ?_
      refine ev_iadd dX10_imageSize_40 ?_
      refine ev_iadd dX10_imageSize_41 ?_
      replace HF := bd_n HF
      obtain ⟨v23, ev23, HF⟩ := HF
      refine ev_topI ev23 ?_
      refine ev_istore_n (lv' := [(2, .int v23), (0, .ref t), (1, .int x1), (3, .int x3)]) dX10_imageSize_42 (by decide) (rfl) ?_
      replace HF := bd_n HF
      obtain ⟨v24, ev24, HF⟩ := HF
      refine ev_iinc (v := v24) (lv' := [(3, .int v24), (2, .int v23), (0, .ref t), (1, .int x1)]) 3 dX10_imageSize_43 rfl (by rw [ev24]; rfl) (by decide) (rfl) ?_
      refine ev_goto (tgt := 4) dX10_imageSize_46 (by decide) ?_
      exact Ev.sub [2, 3, 1, 0] rfl (ih t x1 v23 v24 _ HF)

set_option maxRecDepth 20000 in
theorem lk_X10_imageSize {g : aG} {l : Launch} {d : Nat} (hdd : 3 ≤ d) {t : Nat} {x1 : Int32} {h : aH} {r : Int32 × aH} (hT : hK h t = 12) (HF : F_X10_imageSize t x1 h = some r) : MA g l yX10_imageSize cX10_imageSize 4 (some .int) d [.ref t, .int x1] h (some (.int r.1), r.2) := by
  refine MA.of (lv0 := [(0, .ref t), (1, .int x1)]) (by decide +kernel) (rfl) (Nat.le_of_ble_eq_true rfl) ?_
  unfold F_X10_imageSize at HF
  refine ev_iconst (v := 0) dX10_imageSize_0 (by decide) ?_
  refine ev_istore_n (lv' := [(2, .int 0), (0, .ref t), (1, .int x1)]) dX10_imageSize_1 (by decide) (rfl) ?_
  refine ev_iconst (v := 0) dX10_imageSize_2 (by decide) ?_
  refine ev_istore_n (lv' := [(3, .int 0), (2, .int 0), (0, .ref t), (1, .int x1)]) dX10_imageSize_3 (by decide) (rfl) ?_
  exact Ev.sub [2, 3, 1, 0] rfl (lk_X10_imageSize_4 hdd  fu t x1 0 0 _ HF)

set_option maxRecDepth 20000 in
theorem lk_X3_placeOf_70 {g : aG} {l : Launch} {d : Nat} {h0 : aH} (hdd : 4 ≤ d) {r : Int32 × aH} (t : Nat) (x1 : Int32) (x2 : Int32) (x3 : Int32) (x4 : Int32) (h : aH) (HF : F_X3_placeOf_70  t x1 x2 x3 x4 h = some r) : Ev g l cX3_placeOf 6 yX3_placeOf (some .int) d h0 (some (.int r.1), r.2) 70 [(0, .ref t), (1, .int x1), (2, .int x2), (3, .int x3), (4, .int x4)] [] h := by
  unfold F_X3_placeOf_70 at HF
  refine ev_aload_n 0 dX3_placeOf_70 rfl ?_
  refine ev_iload_n 1 dX3_placeOf_71 rfl ?_
  replace HF := bind_ck HF
  obtain ⟨c1, HF⟩ := HF
  replace HF := bind_o HF
  obtain ⟨⟨o4, h3⟩, e2, HF⟩ := HF
  replace HF := bd_o (bd_o HF)
  dsimp only at HF
  refine ev_callV (As := [.int x1]) (R1 := (some (va_rf o4), h3)) (lk_X3_turnAt (d := 3) (Nat.le_refl _) c1 e2) ce_X3_turnAt im_X3_turnAt sl_X3_turnAt ml_X3_62 cl_X3 c1 dX3_placeOf_72 (by omega) (Nat.le_of_ble_eq_true rfl) rfl rfl ?_
  show EvG _ _ _ _ _ _ _ _ _ _ _ 75 [(0, .ref t), (1, .int x1), (2, .int x2), (3, .int x3), (4, .int x4)] [va_rf o4] h3
  refine ev_astorer (lv' := [(5, va_rf o4), (0, .ref t), (1, .int x1), (2, .int x2), (3, .int x3), (4, .int x4)]) dX3_placeOf_75 (by decide) (rfl) ?_
  refine ev_aloadr 0 dX3_placeOf_77 rfl ?_
  cases o4 with
  | none =>
    refine ev_ifnullN (tgt := 86) dX3_placeOf_79 (by decide) ?_
    refine ev_iload 5 dX3_placeOf_86 rfl ?_
    obtain rfl := Option.some.inj HF
    exact ev_iret dX3_placeOf_88
  | some b6 =>
    refine ev_ifnullS dX3_placeOf_79 ?_
    refine ev_iload_n 3 dX3_placeOf_82 rfl ?_
    by_cases c7 : 0 ≤ x2
    · replace HF := ite_T c7 HF
      refine ev_if_geT (tgt := 89) dX3_placeOf_83 (by decide) c7 ?_
      refine ev_iload 5 dX3_placeOf_89 rfl ?_
      refine ev_iconst (v := 1) dX3_placeOf_91 (by decide) ?_
      refine ev_aload 0 dX3_placeOf_92 rfl ?_
      refine ev_iload_n 3 dX3_placeOf_94 rfl ?_
      replace HF := bind_ck HF
      obtain ⟨c8, HF⟩ := HF
      replace HF := bind_o HF
      obtain ⟨⟨z11, h10⟩, e9, HF⟩ := HF
      replace HF := bd_o (bd_o HF)
      dsimp only at HF
      refine ev_callV (As := [.int x2]) (R1 := (some (.int z11), h10)) (lk_X10_imageSize (d := 3) (Nat.le_refl _) c8 e9) ce_X10_imageSize im_X10_imageSize sl_X10_imageSize ml_X3_100 cl_X10 c8 dX3_placeOf_95 (by omega) (Nat.le_of_ble_eq_true rfl) rfl rfl ?_
      show EvG _ _ _ _ _ _ _ _ _ _ _ 98 [(5, .ref b6), (0, .ref t), (1, .int x1), (2, .int x2), (3, .int x3), (4, .int x4)] [.int z11, .int 1, .int x4] h10
      refine ev_iadd dX3_placeOf_98 ?_
      refine ev_iadd dX3_placeOf_99 ?_
      show EvG _ _ _ _ _ _ _ _ _ _ _ 100 _ _ _
      replace HF := bd_n HF
      obtain ⟨v13, ev13, HF⟩ := HF
      refine ev_topI ev13 ?_
      refine ev_istore (lv' := [(4, .int v13), (5, .ref b6), (0, .ref t), (1, .int x1), (2, .int x2), (3, .int x3)]) dX3_placeOf_100 (by decide) (rfl) ?_
      refine ev_iload_n 5 dX3_placeOf_102 rfl ?_
      by_cases c14 : 0 ≤ x3
      · replace HF := ite_T c14 HF
        refine ev_if_geT (tgt := 111) dX3_placeOf_103 (by decide) c14 ?_
        refine ev_iload 0 dX3_placeOf_111 rfl ?_
        refine ev_iconst (v := 2) dX3_placeOf_113 (by decide) ?_
        refine ev_iadd dX3_placeOf_114 ?_
        refine ev_iload_n 5 dX3_placeOf_115 rfl ?_
        refine ev_iadd dX3_placeOf_116 ?_
        obtain rfl := Option.some.inj HF
        exact ev_iret dX3_placeOf_117
      · replace HF := ite_F c14 HF
        refine ev_if_geF (tgt := 111) dX3_placeOf_103 (by decide) c14 ?_
        refine ev_iload 0 dX3_placeOf_106 rfl ?_
        refine ev_goto (tgt := 117) dX3_placeOf_108 (by decide) ?_
        obtain rfl := Option.some.inj HF
        exact ev_iret dX3_placeOf_117
    · replace HF := ite_F c7 HF
      refine ev_if_geF (tgt := 89) dX3_placeOf_83 (by decide) c7 ?_
      refine ev_iload 5 dX3_placeOf_86 rfl ?_
      obtain rfl := Option.some.inj HF
      exact ev_iret dX3_placeOf_88

set_option maxRecDepth 20000 in
theorem lk_X3_placeOf_7 {g : aG} {l : Launch} {d : Nat} {h0 : aH} (hdd : 4 ≤ d) {r : Int32 × aH} : ∀ (n : Nat) (t : Nat) (x1 : Int32) (x2 : Int32) (x3 : Int32) (x4 : Int32) (x5 : Int32) (h : aH), F_X3_placeOf_7  n t x1 x2 x3 x4 x5 h = some r → Ev g l cX3_placeOf 6 yX3_placeOf (some .int) d h0 (some (.int r.1), r.2) 7 [(0, .ref t), (1, .int x1), (2, .int x2), (3, .int x3), (4, .int x4), (5, .int x5)] [] h := by
  intro n
  induction n with
  | zero => intro t x1 x2 x3 x4 x5 h HF; cases HF
  | succ n ih =>
  intro t x1 x2 x3 x4 x5 h HF
  unfold F_X3_placeOf_7 at HF
  refine ev_iload 5 dX3_placeOf_7 rfl ?_
  refine ev_iload_n 1 dX3_placeOf_9 rfl ?_
  by_cases c1 : x1 ≤ x5
  · replace HF := ite_T c1 HF
    refine ev_icmp_geT (tgt := 70) dX3_placeOf_10 (by decide) c1 ?_
    exact Ev.sub [0, 1, 2, 3, 4] rfl (lk_X3_placeOf_70 hdd  t x1 x2 x3 x4 _ HF)
  · replace HF := ite_F c1 HF
    refine ev_icmp_geF (tgt := 70) dX3_placeOf_10 (by decide) c1 ?_
    refine ev_iload 5 dX3_placeOf_13 rfl ?_
    refine ev_aload_n 0 dX3_placeOf_15 rfl ?_
    replace HF := bind_ck HF
    obtain ⟨c2, HF⟩ := HF
    replace HF := bind_o HF
    obtain ⟨b3, e4, HF⟩ := HF
    refine ev_gS (f := 405) cl_X3 (k := 5) (by decide) fi_X3_5 rfl fl_X3_23 dX3_placeOf_16 c2 e4 ?_
    replace HF := bind_ck HF
    obtain ⟨c5, HF⟩ := HF
    replace HF := bind_o HF
    obtain ⟨⟨z8, h7⟩, e6, HF⟩ := HF
    replace HF := bd_o (bd_o HF)
    dsimp only at HF
    refine ev_callV (As := []) (R1 := (some (.int z8), h7)) (lk_Jx4a65c_size_8abf5 (d := 0) (Nat.le_refl _) c5 e6) ce_Jx4a65c_size_8abf5 im_Jx4a65c_size_8abf5 sl_Jx4a65c_size_8abf5 ml_X3_48 cl_Jx4a65c c5 dX3_placeOf_19 (by omega) (Nat.le_of_ble_eq_true rfl) rfl rfl ?_
    show EvG _ _ _ _ _ _ _ _ _ _ _ 22 [(0, .ref t), (1, .int x1), (2, .int x2), (3, .int x3), (4, .int x4), (5, .int x5)] [.int z8, .int x5] h7
    by_cases c10 : z8 ≤ x5
    · replace HF := ite_T c10 HF
      refine ev_icmp_geT (tgt := 70) dX3_placeOf_22 (by decide) c10 ?_
      exact Ev.sub [0, 1, 2, 3, 4] rfl (lk_X3_placeOf_70 hdd  t x1 x2 x3 x4 _ HF)
    · replace HF := ite_F c10 HF
      refine ev_icmp_geF (tgt := 70) dX3_placeOf_22 (by decide) c10 ?_
      refine ev_iload 4 dX3_placeOf_25 rfl ?_
      refine ev_iconst (v := 1) dX3_placeOf_27 (by decide) ?_
      refine ev_aload_n 0 dX3_placeOf_28 rfl ?_
      replace HF := bind_ck HF
      obtain ⟨c11, HF⟩ := HF
      replace HF := bind_o HF
      obtain ⟨b12, e13, HF⟩ := HF
      refine ev_gS (f := 405) cl_X3 (k := 5) (by decide) fi_X3_5 rfl fl_X3_23 dX3_placeOf_29 c11 e13 ?_
      refine ev_iload 5 dX3_placeOf_32 rfl ?_
      replace HF := bind_ck HF
      obtain ⟨c14, HF⟩ := HF
      replace HF := bind_o HF
      obtain ⟨⟨o17, h16⟩, e15, HF⟩ := HF
      replace HF := bd_o (bd_o HF)
      dsimp only at HF
      refine ev_callV (As := [.int x5]) (R1 := (some (va_rf o17), h16)) (lk_Jx4a65c_get_915e3 (d := 2) (Nat.le_refl _) c14 e15) ce_Jx4a65c_get_915e3 im_Jx4a65c_get_915e3 sl_Jx4a65c_get_915e3 ml_X3_52 cl_Jx4a65c c14 dX3_placeOf_34 (by omega) (Nat.le_of_ble_eq_true rfl) rfl rfl ?_
      show EvG _ _ _ _ _ _ _ _ _ _ _ 37 [(0, .ref t), (1, .int x1), (2, .int x2), (3, .int x3), (4, .int x4), (5, .int x5)] [va_rf o17, .int 1, .int x4] h16
      replace HF := bind_o HF
      obtain ⟨b19, e20, HF⟩ := HF
      subst e20
      replace HF := bind_ck HF
      obtain ⟨c21, HF⟩ := HF
      refine ev_cast cl_X10 c21 kl_X3_56 ca_X10 dX3_placeOf_37 ?_
      show EvG _ _ _ _ _ _ _ _ _ _ _ 40 _ _ _
      refine ev_aload_n 0 dX3_placeOf_40 rfl ?_
      replace HF := bind_ck HF
      obtain ⟨c22, HF⟩ := HF
      replace HF := bind_o HF
      obtain ⟨b23, e24, HF⟩ := HF
      refine ev_gS (f := 405) cl_X3 (k := 5) (by decide) fi_X3_5 rfl fl_X3_23 dX3_placeOf_41 c22 e24 ?_
      refine ev_iload 5 dX3_placeOf_44 rfl ?_
      replace HF := bind_ck HF
      obtain ⟨c25, HF⟩ := HF
      replace HF := bind_o HF
      obtain ⟨⟨o28, h27⟩, e26, HF⟩ := HF
      replace HF := bd_o (bd_o HF)
      dsimp only at HF
      refine ev_callV (As := [.int x5]) (R1 := (some (va_rf o28), h27)) (lk_Jx4a65c_get_915e3 (d := 2) (Nat.le_refl _) c25 e26) ce_Jx4a65c_get_915e3 im_Jx4a65c_get_915e3 sl_Jx4a65c_get_915e3 ml_X3_52 cl_Jx4a65c c25 dX3_placeOf_46 (by omega) (Nat.le_of_ble_eq_true rfl) rfl rfl ?_
      show EvG _ _ _ _ _ _ _ _ _ _ _ 49 [(0, .ref t), (1, .int x1), (2, .int x2), (3, .int x3), (4, .int x4), (5, .int x5)] [va_rf o28, .ref b19, .int 1, .int x4] h27
      replace HF := bind_o HF
      obtain ⟨b30, e31, HF⟩ := HF
      subst e31
      replace HF := bind_ck HF
      obtain ⟨c32, HF⟩ := HF
      refine ev_cast cl_X10 c32 kl_X3_56 ca_X10 dX3_placeOf_49 ?_
      replace HF := bind_o HF
      obtain ⟨⟨z35, h34⟩, e33, HF⟩ := HF
      replace HF := bd_o (bd_o HF)
      dsimp only at HF
      refine ev_callV (As := []) (R1 := (some (.int z35), h34)) (lk_X10_overCount (d := 1) (Nat.le_refl _) c32 e33) ce_X10_overCount im_X10_overCount sl_X10_overCount ml_X3_66 cl_X10 c32 dX3_placeOf_52 (by omega) (Nat.le_of_ble_eq_true rfl) rfl rfl ?_
      show EvG _ _ _ _ _ _ _ _ _ _ _ 55 [(0, .ref t), (1, .int x1), (2, .int x2), (3, .int x3), (4, .int x4), (5, .int x5)] [.int z35, .ref b19, .int 1, .int x4] h34
      replace HF := bind_ck HF
      obtain ⟨c37, HF⟩ := HF
      replace HF := bind_o HF
      obtain ⟨⟨z40, h39⟩, e38, HF⟩ := HF
      replace HF := bd_o (bd_o HF)
      dsimp only at HF
      refine ev_callV (As := [.int z35]) (R1 := (some (.int z40), h39)) (lk_X10_imageSize (d := 3) (Nat.le_refl _) c37 e38) ce_X10_imageSize im_X10_imageSize sl_X10_imageSize ml_X3_100 cl_X10 c37 dX3_placeOf_55 (by omega) (Nat.le_of_ble_eq_true rfl) rfl rfl ?_
      show EvG _ _ _ _ _ _ _ _ _ _ _ 58 [(0, .ref t), (1, .int x1), (2, .int x2), (3, .int x3), (4, .int x4), (5, .int x5)] [.int z40, .int 1, .int x4] h39
      refine ev_iadd dX3_placeOf_58 ?_
      show EvG _ _ _ _ _ _ _ _ _ _ _ 59 _ _ _
      refine ev_iconst (v := 2) dX3_placeOf_59 (by decide) ?_
      refine ev_iadd dX3_placeOf_60 ?_
      refine ev_iadd dX3_placeOf_61 ?_
      replace HF := bd_n HF
      obtain ⟨v42, ev42, HF⟩ := HF
      refine ev_topI ev42 ?_
      refine ev_istore (lv' := [(4, .int v42), (0, .ref t), (1, .int x1), (2, .int x2), (3, .int x3), (5, .int x5)]) dX3_placeOf_62 (by decide) (rfl) ?_
      replace HF := bd_n HF
      obtain ⟨v43, ev43, HF⟩ := HF
      refine ev_iinc (v := v43) (lv' := [(5, .int v43), (4, .int v42), (0, .ref t), (1, .int x1), (2, .int x2), (3, .int x3)]) 5 dX3_placeOf_64 rfl (by rw [ev43]; rfl) (by decide) (rfl) ?_
      refine ev_goto (tgt := 7) dX3_placeOf_67 (by decide) ?_
      exact Ev.sub [2, 3, 4, 5, 1, 0] rfl (ih t x1 x2 x3 v42 v43 _ HF)

set_option maxRecDepth 20000 in
theorem lk_X3_placeOf {g : aG} {l : Launch} {d : Nat} (hdd : 4 ≤ d) {t : Nat} {x1 : Int32} {x2 : Int32} {x3 : Int32} {h : aH} {r : Int32 × aH} (hT : hK h t = 5) (HF : F_X3_placeOf t x1 x2 x3 h = some r) : MA g l yX3_placeOf cX3_placeOf 6 (some .int) d [.ref t, .int x1, .int x2, .int x3] h (some (.int r.1), r.2) := by
  refine MA.of (lv0 := [(0, .ref t), (1, .int x1), (2, .int x2), (3, .int x3)]) (by decide +kernel) (rfl) (Nat.le_of_ble_eq_true rfl) ?_
  unfold F_X3_placeOf at HF
  refine ev_bipush (v := 28) dX3_placeOf_0 (by decide) ?_
  refine ev_istore (lv' := [(4, .int 28), (0, .ref t), (1, .int x1), (2, .int x2), (3, .int x3)]) dX3_placeOf_2 (by decide) (rfl) ?_
  refine ev_iconst (v := 0) dX3_placeOf_4 (by decide) ?_
  refine ev_istore (lv' := [(5, .int 0), (4, .int 28), (0, .ref t), (1, .int x1), (2, .int x2), (3, .int x3)]) dX3_placeOf_5 (by decide) (rfl) ?_
  exact Ev.sub [2, 3, 4, 5, 1, 0] rfl (lk_X3_placeOf_7 hdd  fu t x1 x2 x3 28 0 _ HF)

set_option maxRecDepth 20000 in
theorem lk_X3_imageSize {g : aG} {l : Launch} {d : Nat} (hdd : 5 ≤ d) {t : Nat} {h : aH} {r : Int32 × aH} (hT : hK h t = 5) (HF : F_X3_imageSize t h = some r) : MA g l yX3_imageSize cX3_imageSize 1 (some .int) d [.ref t] h (some (.int r.1), r.2) := by
  refine MA.of (lv0 := [(0, .ref t)]) (by decide +kernel) (rfl) (Nat.le_of_ble_eq_true rfl) ?_
  unfold F_X3_imageSize at HF
  refine ev_aload_n 0 dX3_imageSize_0 rfl ?_
  refine ev_aload_n 0 dX3_imageSize_1 rfl ?_
  replace HF := bind_o HF
  obtain ⟨⟨z3, h2⟩, e1, HF⟩ := HF
  replace HF := bd_o (bd_o HF)
  dsimp only at HF
  refine ev_callV (As := []) (R1 := (some (.int z3), h2)) (lk_X3_turnCount (d := 1) (Nat.le_refl _) hT e1) ce_X3_turnCount im_X3_turnCount sl_X3_turnCount ml_X3_104 cl_X3 hT dX3_imageSize_2 (by omega) (Nat.le_of_ble_eq_true rfl) rfl rfl ?_
  show EvG _ _ _ _ _ _ _ _ _ _ _ 5 [(0, .ref t)] [.int z3, .ref t] h2
  refine ev_iconst (v := (-1)) dX3_imageSize_5 (by decide) ?_
  refine ev_iconst (v := (-1)) dX3_imageSize_6 (by decide) ?_
  replace HF := bind_ck HF
  obtain ⟨c5, HF⟩ := HF
  replace HF := bind_o HF
  obtain ⟨⟨z8, h7⟩, e6, HF⟩ := HF
  replace HF := bd_o (bd_o HF)
  dsimp only at HF
  refine ev_callV (As := [.int z3, .int ((-1)), .int ((-1))]) (R1 := (some (.int z8), h7)) (lk_X3_placeOf (d := 4) (Nat.le_refl _) c5 e6) ce_X3_placeOf im_X3_placeOf sl_X3_placeOf ml_X3_107 cl_X3 c5 dX3_imageSize_7 (by omega) (Nat.le_of_ble_eq_true rfl) rfl rfl ?_
  show EvG _ _ _ _ _ _ _ _ _ _ _ 10 [(0, .ref t)] [.int z8] h7
  obtain rfl := Option.some.inj HF
  exact ev_iret dX3_imageSize_10

set_option maxRecDepth 20000 in
theorem lk_X4_add {g : aG} {l : Launch} {d : Nat} (hdd : 1 ≤ d) {t : Nat} {x1 : Int32} {x2 : Int32} {x3 : Int32} {h : aH} {r : aH} (hT : hK h t = 6) (HF : F_X4_add t x1 x2 x3 h = some r) : MA g l yX4_add cX4_add 4 (none) d [.ref t, .int x1, .int x2, .int x3] h (none, r) := by
  refine MA.of (lv0 := [(0, .ref t), (1, .int x1), (2, .int x2), (3, .int x3)]) (by decide +kernel) (rfl) (Nat.le_of_ble_eq_true rfl) ?_
  unfold F_X4_add at HF
  refine ev_aload_n 0 dX4_add_0 rfl ?_
  refine ev_iload_n 1 dX4_add_1 rfl ?_
  refine ev_iload_n 2 dX4_add_2 rfl ?_
  replace HF := bind_o HF
  obtain ⟨⟨z3, h2⟩, e1, HF⟩ := HF
  replace HF := bd_o (bd_o HF)
  dsimp only at HF
  refine ev_callV (As := [.int x1, .int x2]) (R1 := (some (.int z3), h2)) (lk_X4_has (d := 0) (Nat.le_refl _) hT e1) ce_X4_has im_X4_has sl_X4_has ml_X4_26 cl_X4 hT dX4_add_3 (by omega) (Nat.le_of_ble_eq_true rfl) rfl rfl ?_
  show EvG _ _ _ _ _ _ _ _ _ _ _ 6 [(0, .ref t), (1, .int x1), (2, .int x2), (3, .int x3)] [.int z3] h2
  by_cases c5 : z3 = 0
  · replace HF := ite_T c5 HF
    refine ev_if_eqT (tgt := 26) dX4_add_6 (by decide) c5 ?_
    obtain rfl := Option.some.inj HF
    exact ev_vret dX4_add_26
  · replace HF := ite_F c5 HF
    refine ev_if_eqF (tgt := 26) dX4_add_6 (by decide) c5 ?_
    refine ev_aload_n 0 dX4_add_9 rfl ?_
    replace HF := bind_ck HF
    obtain ⟨c6, HF⟩ := HF
    replace HF := bind_o HF
    obtain ⟨b7, e8, HF⟩ := HF
    refine ev_gS (f := 502) cl_X4 (k := 2) (by decide) fi_X4_2 rfl fl_X4_22 dX4_add_10 c6 e8 ?_
    refine ev_iload_n 1 dX4_add_13 rfl ?_
    refine ev_aload_n 0 dX4_add_14 rfl ?_
    refine ev_gI (f := 501) cl_X4 (k := 1) (by decide) fi_X4_1 rfl fl_X4_19 dX4_add_15 c6 ?_
    refine ev_imul dX4_add_18 ?_
    refine ev_iload_n 2 dX4_add_19 rfl ?_
    show EvG _ _ _ _ _ _ _ _ _ _ _ 20 _ _ _
    refine ev_iadd dX4_add_20 ?_
    refine ev_dup2 dX4_add_21 rfl rfl ?_
    replace HF := bind_ck HF
    obtain ⟨c9, HF⟩ := HF
    refine ev_iald dX4_add_22 c9.1 c9.2 ?_
    refine ev_iload_n 3 dX4_add_23 rfl ?_
    refine ev_iadd dX4_add_24 ?_
    refine ev_iast dX4_add_25 c9.1 c9.2 ?_
    replace HF := bd_n HF
    obtain ⟨h10, eh10, HF⟩ := HF
    refine ev_heap eh10 ?_
    have c11 : hK h10 t = 6 := by rw [eh10]; exact c6
    obtain rfl := Option.some.inj HF
    exact ev_vret dX4_add_26

set_option maxRecDepth 20000 in
theorem lk_X4_fill_2 {g : aG} {l : Launch} {d : Nat} {h0 : aH} (hdd : 0 ≤ d) {r : aH} : ∀ (n : Nat) (t : Nat) (x1 : Int32) (x2 : Int32) (h : aH), F_X4_fill_2  n t x1 x2 h = some r → Ev g l cX4_fill 3 yX4_fill (none) d h0 (none, r) 2 [(0, .ref t), (1, .int x1), (2, .int x2)] [] h := by
  intro n
  induction n with
  | zero => intro t x1 x2 h HF; cases HF
  | succ n ih =>
  intro t x1 x2 h HF
  unfold F_X4_fill_2 at HF
  refine ev_iload_n 2 dX4_fill_2 rfl ?_
  refine ev_aload_n 0 dX4_fill_3 rfl ?_
  replace HF := bind_ck HF
  obtain ⟨c1, HF⟩ := HF
  replace HF := bind_o HF
  obtain ⟨b2, e3, HF⟩ := HF
  refine ev_gS (f := 502) cl_X4 (k := 2) (by decide) fi_X4_2 rfl fl_X4_22 dX4_fill_4 c1 e3 ?_
  replace HF := bind_ck HF
  obtain ⟨c4, HF⟩ := HF
  refine ev_alen dX4_fill_7 (by decide) (by decide) c4 rfl ?_
  by_cases c5 : Int32.ofNat (hN h b2) ≤ x2
  · replace HF := ite_T c5 HF
    refine ev_icmp_geT (tgt := 24) dX4_fill_8 (by decide) c5 ?_
    obtain rfl := Option.some.inj HF
    exact ev_vret dX4_fill_24
  · replace HF := ite_F c5 HF
    refine ev_icmp_geF (tgt := 24) dX4_fill_8 (by decide) c5 ?_
    refine ev_aload_n 0 dX4_fill_11 rfl ?_
    replace HF := bind_o HF
    obtain ⟨b6, e7, HF⟩ := HF
    refine ev_gS (f := 502) cl_X4 (k := 2) (by decide) fi_X4_2 rfl fl_X4_22 dX4_fill_12 c1 e7 ?_
    refine ev_iload_n 2 dX4_fill_15 rfl ?_
    refine ev_iload_n 1 dX4_fill_16 rfl ?_
    replace HF := bind_ck HF
    obtain ⟨c8, HF⟩ := HF
    refine ev_iast dX4_fill_17 c8.1 c8.2 ?_
    replace HF := bd_n HF
    obtain ⟨h9, eh9, HF⟩ := HF
    refine ev_heap eh9 ?_
    have c10 : hK h9 t = 6 := by rw [eh9]; exact c1
    have c11 : hK h9 b2 = 21 := by rw [eh9]; exact c4
    replace HF := bd_n HF
    obtain ⟨v12, ev12, HF⟩ := HF
    refine ev_iinc (v := v12) (lv' := [(2, .int v12), (0, .ref t), (1, .int x1)]) 2 dX4_fill_18 rfl (by rw [ev12]; rfl) (by decide) (rfl) ?_
    refine ev_goto (tgt := 2) dX4_fill_21 (by decide) ?_
    exact Ev.sub [1, 2, 0] rfl (ih t x1 v12 _ HF)

set_option maxRecDepth 20000 in
theorem lk_X4_fill {g : aG} {l : Launch} {d : Nat} (hdd : 0 ≤ d) {t : Nat} {x1 : Int32} {h : aH} {r : aH} (hT : hK h t = 6) (HF : F_X4_fill t x1 h = some r) : MA g l yX4_fill cX4_fill 3 (none) d [.ref t, .int x1] h (none, r) := by
  refine MA.of (lv0 := [(0, .ref t), (1, .int x1)]) (by decide +kernel) (rfl) (Nat.le_of_ble_eq_true rfl) ?_
  unfold F_X4_fill at HF
  refine ev_iconst (v := 0) dX4_fill_0 (by decide) ?_
  refine ev_istore_n (lv' := [(2, .int 0), (0, .ref t), (1, .int x1)]) dX4_fill_1 (by decide) (rfl) ?_
  exact Ev.sub [1, 2, 0] rfl (lk_X4_fill_2 hdd  fu t x1 0 _ HF)

set_option maxRecDepth 20000 in
theorem lk_X4_fillRow_2 {g : aG} {l : Launch} {d : Nat} {h0 : aH} (hdd : 2 ≤ d) {r : aH} : ∀ (n : Nat) (t : Nat) (x1 : Int32) (x2 : Int32) (x3 : Int32) (h : aH), F_X4_fillRow_2  n t x1 x2 x3 h = some r → Ev g l cX4_fillRow 4 yX4_fillRow (none) d h0 (none, r) 2 [(0, .ref t), (1, .int x1), (2, .int x2), (3, .int x3)] [] h := by
  intro n
  induction n with
  | zero => intro t x1 x2 x3 h HF; cases HF
  | succ n ih =>
  intro t x1 x2 x3 h HF
  unfold F_X4_fillRow_2 at HF
  refine ev_iload_n 3 dX4_fillRow_2 rfl ?_
  refine ev_aload_n 0 dX4_fillRow_3 rfl ?_
  replace HF := bind_ck HF
  obtain ⟨c1, HF⟩ := HF
  refine ev_gI (f := 501) cl_X4 (k := 1) (by decide) fi_X4_1 rfl fl_X4_19 dX4_fillRow_4 c1 ?_
  by_cases c2 : hF h 501 t ≤ x3
  · replace HF := ite_T c2 HF
    refine ev_icmp_geT (tgt := 23) dX4_fillRow_7 (by decide) c2 ?_
    obtain rfl := Option.some.inj HF
    exact ev_vret dX4_fillRow_23
  · replace HF := ite_F c2 HF
    refine ev_icmp_geF (tgt := 23) dX4_fillRow_7 (by decide) c2 ?_
    refine ev_aload_n 0 dX4_fillRow_10 rfl ?_
    refine ev_iload_n 1 dX4_fillRow_11 rfl ?_
    refine ev_iload_n 3 dX4_fillRow_12 rfl ?_
    refine ev_iload_n 2 dX4_fillRow_13 rfl ?_
    replace HF := bind_o HF
    obtain ⟨h4, e3, HF⟩ := HF
    refine ev_callV (As := [.int x1, .int x3, .int x2]) (R1 := (none, h4)) (lk_X4_set (d := 1) (Nat.le_refl _) c1 e3) ce_X4_set im_X4_set sl_X4_set ml_X4_30 cl_X4 c1 dX4_fillRow_14 (by omega) (Nat.le_of_ble_eq_true rfl) rfl rfl ?_
    show EvG _ _ _ _ _ _ _ _ _ _ _ 17 [(0, .ref t), (1, .int x1), (2, .int x2), (3, .int x3)] [] h4
    replace HF := bd_n HF
    obtain ⟨v6, ev6, HF⟩ := HF
    refine ev_iinc (v := v6) (lv' := [(3, .int v6), (0, .ref t), (1, .int x1), (2, .int x2)]) 3 dX4_fillRow_17 rfl (by rw [ev6]; rfl) (by decide) (rfl) ?_
    refine ev_goto (tgt := 2) dX4_fillRow_20 (by decide) ?_
    exact Ev.sub [1, 2, 3, 0] rfl (ih t x1 x2 v6 _ HF)

set_option maxRecDepth 20000 in
theorem lk_X4_fillRow {g : aG} {l : Launch} {d : Nat} (hdd : 2 ≤ d) {t : Nat} {x1 : Int32} {x2 : Int32} {h : aH} {r : aH} (hT : hK h t = 6) (HF : F_X4_fillRow t x1 x2 h = some r) : MA g l yX4_fillRow cX4_fillRow 4 (none) d [.ref t, .int x1, .int x2] h (none, r) := by
  refine MA.of (lv0 := [(0, .ref t), (1, .int x1), (2, .int x2)]) (by decide +kernel) (rfl) (Nat.le_of_ble_eq_true rfl) ?_
  unfold F_X4_fillRow at HF
  refine ev_iconst (v := 0) dX4_fillRow_0 (by decide) ?_
  refine ev_istore_n (lv' := [(3, .int 0), (0, .ref t), (1, .int x1), (2, .int x2)]) dX4_fillRow_1 (by decide) (rfl) ?_
  exact Ev.sub [1, 2, 3, 0] rfl (lk_X4_fillRow_2 hdd  fu t x1 x2 0 _ HF)

set_option maxRecDepth 20000 in
theorem lk_X4_sumOf_5 {g : aG} {l : Launch} {d : Nat} {h0 : aH} (hdd : 2 ≤ d) {r : Int32 × aH} : ∀ (n : Nat) (t : Nat) (x1 : Int32) (x2 : Int32) (x3 : Int32) (x4 : Int32) (h : aH), F_X4_sumOf_5  n t x1 x2 x3 x4 h = some r → Ev g l cX4_sumOf 5 yX4_sumOf (some .int) d h0 (some (.int r.1), r.2) 5 [(0, .ref t), (1, .int x1), (2, .int x2), (3, .int x3), (4, .int x4)] [] h := by
  intro n
  induction n with
  | zero => intro t x1 x2 x3 x4 h HF; cases HF
  | succ n ih =>
  intro t x1 x2 x3 x4 h HF
  unfold F_X4_sumOf_5 at HF
  refine ev_iload 4 dX4_sumOf_5 rfl ?_
  refine ev_iload_n 2 dX4_sumOf_7 rfl ?_
  by_cases c1 : x2 ≤ x4
  · replace HF := ite_T c1 HF
    refine ev_icmp_geT (tgt := 36) dX4_sumOf_8 (by decide) c1 ?_
    refine ev_iload_n 3 dX4_sumOf_36 rfl ?_
    obtain rfl := Option.some.inj HF
    exact ev_iret dX4_sumOf_37
  · replace HF := ite_F c1 HF
    refine ev_icmp_geF (tgt := 36) dX4_sumOf_8 (by decide) c1 ?_
    refine ev_iload 4 dX4_sumOf_11 rfl ?_
    refine ev_aload_n 0 dX4_sumOf_13 rfl ?_
    replace HF := bind_ck HF
    obtain ⟨c2, HF⟩ := HF
    refine ev_gI (f := 500) cl_X4 (k := 0) (by decide) fi_X4_0 rfl fl_X4_13 dX4_sumOf_14 c2 ?_
    by_cases c3 : hF h 500 t ≤ x4
    · replace HF := ite_T c3 HF
      refine ev_icmp_geT (tgt := 36) dX4_sumOf_17 (by decide) c3 ?_
      refine ev_iload_n 3 dX4_sumOf_36 rfl ?_
      obtain rfl := Option.some.inj HF
      exact ev_iret dX4_sumOf_37
    · replace HF := ite_F c3 HF
      refine ev_icmp_geF (tgt := 36) dX4_sumOf_17 (by decide) c3 ?_
      refine ev_iload_n 3 dX4_sumOf_20 rfl ?_
      refine ev_aload_n 0 dX4_sumOf_21 rfl ?_
      refine ev_iload 4 dX4_sumOf_22 rfl ?_
      refine ev_iload_n 1 dX4_sumOf_24 rfl ?_
      replace HF := bind_o HF
      obtain ⟨⟨z6, h5⟩, e4, HF⟩ := HF
      replace HF := bd_o (bd_o HF)
      dsimp only at HF
      refine ev_callV (As := [.int x4, .int x1]) (R1 := (some (.int z6), h5)) (lk_X4_at (d := 1) (Nat.le_refl _) c2 e4) ce_X4_at im_X4_at sl_X4_at ml_X4_34 cl_X4 c2 dX4_sumOf_25 (by omega) (Nat.le_of_ble_eq_true rfl) rfl rfl ?_
      show EvG _ _ _ _ _ _ _ _ _ _ _ 28 [(0, .ref t), (1, .int x1), (2, .int x2), (3, .int x3), (4, .int x4)] [.int z6, .int x3] h5
      refine ev_iadd dX4_sumOf_28 ?_
      replace HF := bd_n HF
      obtain ⟨v8, ev8, HF⟩ := HF
      refine ev_topI ev8 ?_
      refine ev_istore_n (lv' := [(3, .int v8), (0, .ref t), (1, .int x1), (2, .int x2), (4, .int x4)]) dX4_sumOf_29 (by decide) (rfl) ?_
      show EvG _ _ _ _ _ _ _ _ _ _ _ 30 _ _ _
      replace HF := bd_n HF
      obtain ⟨v9, ev9, HF⟩ := HF
      refine ev_iinc (v := v9) (lv' := [(4, .int v9), (3, .int v8), (0, .ref t), (1, .int x1), (2, .int x2)]) 4 dX4_sumOf_30 rfl (by rw [ev9]; rfl) (by decide) (rfl) ?_
      refine ev_goto (tgt := 5) dX4_sumOf_33 (by decide) ?_
      exact Ev.sub [2, 3, 4, 1, 0] rfl (ih t x1 x2 v8 v9 _ HF)

set_option maxRecDepth 20000 in
theorem lk_X4_sumOf {g : aG} {l : Launch} {d : Nat} (hdd : 2 ≤ d) {t : Nat} {x1 : Int32} {x2 : Int32} {h : aH} {r : Int32 × aH} (hT : hK h t = 6) (HF : F_X4_sumOf t x1 x2 h = some r) : MA g l yX4_sumOf cX4_sumOf 5 (some .int) d [.ref t, .int x1, .int x2] h (some (.int r.1), r.2) := by
  refine MA.of (lv0 := [(0, .ref t), (1, .int x1), (2, .int x2)]) (by decide +kernel) (rfl) (Nat.le_of_ble_eq_true rfl) ?_
  unfold F_X4_sumOf at HF
  refine ev_iconst (v := 0) dX4_sumOf_0 (by decide) ?_
  refine ev_istore_n (lv' := [(3, .int 0), (0, .ref t), (1, .int x1), (2, .int x2)]) dX4_sumOf_1 (by decide) (rfl) ?_
  refine ev_iconst (v := 0) dX4_sumOf_2 (by decide) ?_
  refine ev_istore (lv' := [(4, .int 0), (3, .int 0), (0, .ref t), (1, .int x1), (2, .int x2)]) dX4_sumOf_3 (by decide) (rfl) ?_
  exact Ev.sub [2, 3, 4, 1, 0] rfl (lk_X4_sumOf_5 hdd  fu t x1 x2 0 0 _ HF)

set_option maxRecDepth 20000 in
theorem lk_X4_howMany_31 {g : aG} {l : Launch} {d : Nat} {h0 : aH} (hdd : 2 ≤ d) {r : Int32 × aH} (k5 : Nat → Int32 → Int32 → Int32 → Int32 → aH → Option (Int32 × aH)) (hk5 : ∀ (t : Nat) (x1 : Int32) (x2 : Int32) (x3 : Int32) (x4 : Int32) (h : aH), k5 t x1 x2 x3 x4 h = some r → Ev g l cX4_howMany 5 yX4_howMany (some .int) d h0 (some (.int r.1), r.2) 5 [(0, .ref t), (1, .int x1), (2, .int x2), (3, .int x3), (4, .int x4)] [] h) (t : Nat) (x1 : Int32) (x2 : Int32) (x4 : Int32) (y0 : Int32) (y1 : Int32) (h : aH) (HF : F_X4_howMany_31 k5 t x1 x2 x4 y0 y1 h = some r) : Ev g l cX4_howMany 5 yX4_howMany (some .int) d h0 (some (.int r.1), r.2) 31 [(0, .ref t), (1, .int x1), (2, .int x2), (4, .int x4)] [.int y1, .int y0] h := by
  unfold F_X4_howMany_31 at HF
  refine ev_iadd dX4_howMany_31 ?_
  replace HF := bd_n HF
  obtain ⟨v1, ev1, HF⟩ := HF
  refine ev_topI ev1 ?_
  refine ev_istore_n (lv' := [(3, .int v1), (0, .ref t), (1, .int x1), (2, .int x2), (4, .int x4)]) dX4_howMany_32 (by decide) (rfl) ?_
  replace HF := bd_n HF
  obtain ⟨v2, ev2, HF⟩ := HF
  refine ev_iinc (v := v2) (lv' := [(4, .int v2), (3, .int v1), (0, .ref t), (1, .int x1), (2, .int x2)]) 4 dX4_howMany_33 rfl (by rw [ev2]; rfl) (by decide) (rfl) ?_
  refine ev_goto (tgt := 5) dX4_howMany_36 (by decide) ?_
  exact Ev.sub [2, 3, 4, 1, 0] rfl (hk5 t x1 x2 v1 v2 _ HF)

set_option maxRecDepth 20000 in
theorem lk_X4_howMany_5 {g : aG} {l : Launch} {d : Nat} {h0 : aH} (hdd : 2 ≤ d) {r : Int32 × aH} : ∀ (n : Nat) (t : Nat) (x1 : Int32) (x2 : Int32) (x3 : Int32) (x4 : Int32) (h : aH), F_X4_howMany_5  n t x1 x2 x3 x4 h = some r → Ev g l cX4_howMany 5 yX4_howMany (some .int) d h0 (some (.int r.1), r.2) 5 [(0, .ref t), (1, .int x1), (2, .int x2), (3, .int x3), (4, .int x4)] [] h := by
  intro n
  induction n with
  | zero => intro t x1 x2 x3 x4 h HF; cases HF
  | succ n ih =>
  intro t x1 x2 x3 x4 h HF
  unfold F_X4_howMany_5 at HF
  refine ev_iload 4 dX4_howMany_5 rfl ?_
  refine ev_aload_n 0 dX4_howMany_7 rfl ?_
  replace HF := bind_ck HF
  obtain ⟨c1, HF⟩ := HF
  refine ev_gI (f := 500) cl_X4 (k := 0) (by decide) fi_X4_0 rfl fl_X4_13 dX4_howMany_8 c1 ?_
  by_cases c2 : hF h 500 t ≤ x4
  · replace HF := ite_T c2 HF
    refine ev_icmp_geT (tgt := 39) dX4_howMany_11 (by decide) c2 ?_
    refine ev_iload_n 3 dX4_howMany_39 rfl ?_
    obtain rfl := Option.some.inj HF
    exact ev_iret dX4_howMany_40
  · replace HF := ite_F c2 HF
    refine ev_icmp_geF (tgt := 39) dX4_howMany_11 (by decide) c2 ?_
    refine ev_iload_n 3 dX4_howMany_14 rfl ?_
    refine ev_aload_n 0 dX4_howMany_15 rfl ?_
    refine ev_iload 4 dX4_howMany_16 rfl ?_
    refine ev_iload_n 1 dX4_howMany_18 rfl ?_
    replace HF := bind_o HF
    obtain ⟨⟨z5, h4⟩, e3, HF⟩ := HF
    replace HF := bd_o (bd_o HF)
    dsimp only at HF
    refine ev_callV (As := [.int x4, .int x1]) (R1 := (some (.int z5), h4)) (lk_X4_at (d := 1) (Nat.le_refl _) c1 e3) ce_X4_at im_X4_at sl_X4_at ml_X4_34 cl_X4 c1 dX4_howMany_19 (by omega) (Nat.le_of_ble_eq_true rfl) rfl rfl ?_
    show EvG _ _ _ _ _ _ _ _ _ _ _ 22 [(0, .ref t), (1, .int x1), (2, .int x2), (3, .int x3), (4, .int x4)] [.int z5, .int x3] h4
    refine ev_iload_n 2 dX4_howMany_22 rfl ?_
    by_cases c7 : z5 = x2
    · replace HF := ite_T c7 HF
      refine ev_icmp_neF (tgt := 30) dX4_howMany_23 (by decide) c7 ?_
      refine ev_iconst (v := 1) dX4_howMany_26 (by decide) ?_
      refine ev_goto (tgt := 31) dX4_howMany_27 (by decide) ?_
      exact Ev.sub [0, 1, 2, 4] rfl (lk_X4_howMany_31 hdd (F_X4_howMany_5 n) ih t x1 x2 x4 x3 1 _ HF)
    · replace HF := ite_F c7 HF
      refine ev_icmp_neT (tgt := 30) dX4_howMany_23 (by decide) c7 ?_
      refine ev_iconst (v := 0) dX4_howMany_30 (by decide) ?_
      exact Ev.sub [0, 1, 2, 4] rfl (lk_X4_howMany_31 hdd (F_X4_howMany_5 n) ih t x1 x2 x4 x3 0 _ HF)

set_option maxRecDepth 20000 in
theorem lk_X4_howMany {g : aG} {l : Launch} {d : Nat} (hdd : 2 ≤ d) {t : Nat} {x1 : Int32} {x2 : Int32} {h : aH} {r : Int32 × aH} (hT : hK h t = 6) (HF : F_X4_howMany t x1 x2 h = some r) : MA g l yX4_howMany cX4_howMany 5 (some .int) d [.ref t, .int x1, .int x2] h (some (.int r.1), r.2) := by
  refine MA.of (lv0 := [(0, .ref t), (1, .int x1), (2, .int x2)]) (by decide +kernel) (rfl) (Nat.le_of_ble_eq_true rfl) ?_
  unfold F_X4_howMany at HF
  refine ev_iconst (v := 0) dX4_howMany_0 (by decide) ?_
  refine ev_istore_n (lv' := [(3, .int 0), (0, .ref t), (1, .int x1), (2, .int x2)]) dX4_howMany_1 (by decide) (rfl) ?_
  refine ev_iconst (v := 0) dX4_howMany_2 (by decide) ?_
  refine ev_istore (lv' := [(4, .int 0), (3, .int 0), (0, .ref t), (1, .int x1), (2, .int x2)]) dX4_howMany_3 (by decide) (rfl) ?_
  exact Ev.sub [2, 3, 4, 1, 0] rfl (lk_X4_howMany_5 hdd  fu t x1 x2 0 0 _ HF)

set_option maxRecDepth 20000 in
theorem lk_X5_isMissing {g : aG} {l : Launch} {d : Nat} (hdd : 0 ≤ d) {t : Nat} {h : aH} {r : Int32 × aH} (hT : hK h t = 7) (HF : F_X5_isMissing t h = some r) : MA g l yX5_isMissing cX5_isMissing 1 (some .boolean) d [.ref t] h (some (.int r.1), r.2) := by
  refine MA.of (lv0 := [(0, .ref t)]) (by decide +kernel) (rfl) (Nat.le_of_ble_eq_true rfl) ?_
  unfold F_X5_isMissing at HF
  refine ev_aload_n 0 dX5_isMissing_0 rfl ?_
  refine ev_gI (f := 602) cl_X5 (k := 2) (by decide) fi_X5_2 rfl fl_X5_19 dX5_isMissing_1 hT ?_
  by_cases c1 : 0 ≤ hF h 602 t
  · replace HF := ite_T c1 HF
    refine ev_if_geT (tgt := 11) dX5_isMissing_4 (by decide) c1 ?_
    refine ev_iconst (v := 0) dX5_isMissing_11 (by decide) ?_
    obtain rfl := Option.some.inj HF
    exact ev_zret (v := 0) narrow_b0 dX5_isMissing_12
  · replace HF := ite_F c1 HF
    refine ev_if_geF (tgt := 11) dX5_isMissing_4 (by decide) c1 ?_
    refine ev_iconst (v := 1) dX5_isMissing_7 (by decide) ?_
    refine ev_goto (tgt := 12) dX5_isMissing_8 (by decide) ?_
    obtain rfl := Option.some.inj HF
    exact ev_zret (v := 1) narrow_b1 dX5_isMissing_12

set_option maxRecDepth 20000 in
theorem lk_X5_isFull {g : aG} {l : Launch} {d : Nat} (hdd : 0 ≤ d) {t : Nat} {h : aH} {r : Int32 × aH} (hT : hK h t = 7) (HF : F_X5_isFull t h = some r) : MA g l yX5_isFull cX5_isFull 1 (some .boolean) d [.ref t] h (some (.int r.1), r.2) := by
  refine MA.of (lv0 := [(0, .ref t)]) (by decide +kernel) (rfl) (Nat.le_of_ble_eq_true rfl) ?_
  unfold F_X5_isFull at HF
  refine ev_aload_n 0 dX5_isFull_0 rfl ?_
  refine ev_gI (f := 602) cl_X5 (k := 2) (by decide) fi_X5_2 rfl fl_X5_19 dX5_isFull_1 hT ?_
  refine ev_bipush (v := 40) dX5_isFull_4 (by decide) ?_
  by_cases c1 : hF h 602 t < 40
  · replace HF := ite_T c1 HF
    refine ev_icmp_ltT (tgt := 13) dX5_isFull_6 (by decide) c1 ?_
    refine ev_iconst (v := 0) dX5_isFull_13 (by decide) ?_
    obtain rfl := Option.some.inj HF
    exact ev_zret (v := 0) narrow_b0 dX5_isFull_14
  · replace HF := ite_F c1 HF
    refine ev_icmp_ltF (tgt := 13) dX5_isFull_6 (by decide) c1 ?_
    refine ev_iconst (v := 1) dX5_isFull_9 (by decide) ?_
    refine ev_goto (tgt := 14) dX5_isFull_10 (by decide) ?_
    obtain rfl := Option.some.inj HF
    exact ev_zret (v := 1) narrow_b1 dX5_isFull_14

set_option maxRecDepth 20000 in
theorem lk_X5_insert_44 {g : aG} {l : Launch} {d : Nat} {h0 : aH} (hdd : 2 ≤ d) {r : aH} : ∀ (n : Nat) (t : Nat) (x1 : Int32) (x2 : Int32) (x3 : Int32) (h : aH), F_X5_insert_44  n t x1 x2 x3 h = some r → Ev g l cX5_insert 4 yX5_insert (none) d h0 (none, r) 44 [(0, .ref t), (1, .int x1), (2, .int x2), (3, .int x3)] [] h := by
  intro n
  induction n with
  | zero => intro t x1 x2 x3 h HF; cases HF
  | succ n ih =>
  intro t x1 x2 x3 h HF
  unfold F_X5_insert_44 at HF
  refine ev_iload_n 3 dX5_insert_44 rfl ?_
  refine ev_iload_n 1 dX5_insert_45 rfl ?_
  by_cases c1 : x3 ≤ x1
  · replace HF := ite_T c1 HF
    refine ev_icmp_leT (tgt := 67) dX5_insert_46 (by decide) c1 ?_
    refine ev_aload_n 0 dX5_insert_67 rfl ?_
    refine ev_iload_n 1 dX5_insert_68 rfl ?_
    refine ev_iload_n 2 dX5_insert_69 rfl ?_
    replace HF := bind_ck HF
    obtain ⟨c2, HF⟩ := HF
    replace HF := bind_o HF
    obtain ⟨h4, e3, HF⟩ := HF
    refine ev_callV (As := [.int x1, .int x2]) (R1 := (none, h4)) (lk_X5_set (d := 1) (Nat.le_refl _) c2 e3) ce_X5_set im_X5_set sl_X5_set ml_X5_37 cl_X5 c2 dX5_insert_70 (by omega) (Nat.le_of_ble_eq_true rfl) rfl rfl ?_
    show EvG _ _ _ _ _ _ _ _ _ _ _ 73 [(0, .ref t), (1, .int x1), (2, .int x2), (3, .int x3)] [] h4
    obtain rfl := Option.some.inj HF
    exact ev_vret dX5_insert_73
  · replace HF := ite_F c1 HF
    refine ev_icmp_leF (tgt := 67) dX5_insert_46 (by decide) c1 ?_
    refine ev_aload_n 0 dX5_insert_49 rfl ?_
    refine ev_iload_n 3 dX5_insert_50 rfl ?_
    refine ev_aload_n 0 dX5_insert_51 rfl ?_
    refine ev_iload_n 3 dX5_insert_52 rfl ?_
    refine ev_iconst (v := 1) dX5_insert_53 (by decide) ?_
    refine ev_isub dX5_insert_54 ?_
    replace HF := bind_ck HF
    obtain ⟨c6, HF⟩ := HF
    replace HF := bind_o HF
    obtain ⟨⟨z9, h8⟩, e7, HF⟩ := HF
    replace HF := bd_o (bd_o HF)
    dsimp only at HF
    refine ev_callV (As := [.int (x3 - 1)]) (R1 := (some (.int z9), h8)) (lk_X5_at (d := 1) (Nat.le_refl _) c6 e7) ce_X5_at im_X5_at sl_X5_at ml_X5_33 cl_X5 c6 dX5_insert_55 (by omega) (Nat.le_of_ble_eq_true rfl) rfl rfl ?_
    show EvG _ _ _ _ _ _ _ _ _ _ _ 58 [(0, .ref t), (1, .int x1), (2, .int x2), (3, .int x3)] [.int z9, .int x3, .ref t] h8
    show EvG _ _ _ _ _ _ _ _ _ _ _ 58 _ _ _
    replace HF := bind_ck HF
    obtain ⟨c11, HF⟩ := HF
    replace HF := bind_o HF
    obtain ⟨h13, e12, HF⟩ := HF
    refine ev_callV (As := [.int x3, .int z9]) (R1 := (none, h13)) (lk_X5_set (d := 1) (Nat.le_refl _) c11 e12) ce_X5_set im_X5_set sl_X5_set ml_X5_37 cl_X5 c11 dX5_insert_58 (by omega) (Nat.le_of_ble_eq_true rfl) rfl rfl ?_
    show EvG _ _ _ _ _ _ _ _ _ _ _ 61 [(0, .ref t), (1, .int x1), (2, .int x2), (3, .int x3)] [] h13
    replace HF := bd_n HF
    obtain ⟨v15, ev15, HF⟩ := HF
    refine ev_iinc (v := v15) (lv' := [(3, .int v15), (0, .ref t), (1, .int x1), (2, .int x2)]) 3 dX5_insert_61 rfl (by rw [ev15]; rfl) (by decide) (rfl) ?_
    refine ev_goto (tgt := 44) dX5_insert_64 (by decide) ?_
    exact Ev.sub [1, 2, 3, 0] rfl (ih t x1 x2 v15 _ HF)

set_option maxRecDepth 20000 in
theorem lk_X5_insert {g : aG} {l : Launch} {d : Nat} (hdd : 2 ≤ d) {t : Nat} {x1 : Int32} {x2 : Int32} {h : aH} {r : aH} (hT : hK h t = 7) (HF : F_X5_insert t x1 x2 h = some r) : MA g l yX5_insert cX5_insert 4 (none) d [.ref t, .int x1, .int x2] h (none, r) := by
  refine MA.of (lv0 := [(0, .ref t), (1, .int x1), (2, .int x2)]) (by decide +kernel) (rfl) (Nat.le_of_ble_eq_true rfl) ?_
  unfold F_X5_insert at HF
  refine ev_aload_n 0 dX5_insert_0 rfl ?_
  replace HF := bind_o HF
  obtain ⟨⟨z3, h2⟩, e1, HF⟩ := HF
  replace HF := bd_o (bd_o HF)
  dsimp only at HF
  refine ev_callV (As := []) (R1 := (some (.int z3), h2)) (lk_X5_isMissing (d := 0) (Nat.le_refl _) hT e1) ce_X5_isMissing im_X5_isMissing sl_X5_isMissing ml_X5_26 cl_X5 hT dX5_insert_1 (by omega) (Nat.le_of_ble_eq_true rfl) rfl rfl ?_
  show EvG _ _ _ _ _ _ _ _ _ _ _ 4 [(0, .ref t), (1, .int x1), (2, .int x2)] [.int z3] h2
  by_cases c5 : z3 = 0
  · replace HF := ite_T c5 HF
    refine ev_if_neF (tgt := 26) dX5_insert_4 (by decide) c5 ?_
    refine ev_aload_n 0 dX5_insert_7 rfl ?_
    replace HF := bind_ck HF
    obtain ⟨c6, HF⟩ := HF
    replace HF := bind_o HF
    obtain ⟨⟨z9, h8⟩, e7, HF⟩ := HF
    replace HF := bd_o (bd_o HF)
    dsimp only at HF
    refine ev_callV (As := []) (R1 := (some (.int z9), h8)) (lk_X5_isFull (d := 0) (Nat.le_refl _) c6 e7) ce_X5_isFull im_X5_isFull sl_X5_isFull ml_X5_30 cl_X5 c6 dX5_insert_8 (by omega) (Nat.le_of_ble_eq_true rfl) rfl rfl ?_
    show EvG _ _ _ _ _ _ _ _ _ _ _ 11 [(0, .ref t), (1, .int x1), (2, .int x2)] [.int z9] h8
    by_cases c11 : z9 = 0
    · replace HF := ite_T c11 HF
      refine ev_if_neF (tgt := 26) dX5_insert_11 (by decide) c11 ?_
      refine ev_iload_n 1 dX5_insert_14 rfl ?_
      by_cases c12 : x1 < 0
      · replace HF := ite_T c12 HF
        refine ev_if_ltT (tgt := 26) dX5_insert_15 (by decide) c12 ?_
        obtain rfl := Option.some.inj HF
        exact ev_vret dX5_insert_26
      · replace HF := ite_F c12 HF
        refine ev_if_ltF (tgt := 26) dX5_insert_15 (by decide) c12 ?_
        refine ev_iload_n 1 dX5_insert_18 rfl ?_
        refine ev_aload_n 0 dX5_insert_19 rfl ?_
        replace HF := bind_ck HF
        obtain ⟨c13, HF⟩ := HF
        refine ev_gI (f := 602) cl_X5 (k := 2) (by decide) fi_X5_2 rfl fl_X5_19 dX5_insert_20 c13 ?_
        by_cases c14 : x1 ≤ hF h8 602 t
        · replace HF := ite_T c14 HF
          refine ev_icmp_leT (tgt := 27) dX5_insert_23 (by decide) c14 ?_
          refine ev_aload_n 0 dX5_insert_27 rfl ?_
          refine ev_dup dX5_insert_28 rfl ?_
          refine ev_gI (f := 602) cl_X5 (k := 2) (by decide) fi_X5_2 rfl fl_X5_19 dX5_insert_29 c13 ?_
          refine ev_iconst (v := 1) dX5_insert_32 (by decide) ?_
          refine ev_iadd dX5_insert_33 ?_
          refine ev_pI (f := 602) cl_X5 (k := 2) (by decide) fi_X5_2 rfl fl_X5_19 rfl rfl rfl dX5_insert_34 c13 ?_
          replace HF := bd_n HF
          obtain ⟨h15, eh15, HF⟩ := HF
          refine ev_heap eh15 ?_
          have c16 : hK h15 t = 7 := by rw [eh15]; exact c13
          refine ev_aload_n 0 dX5_insert_37 rfl ?_
          show EvG _ _ _ _ _ _ _ _ _ _ _ 38 _ _ _
          refine ev_gI (f := 602) cl_X5 (k := 2) (by decide) fi_X5_2 rfl fl_X5_19 dX5_insert_38 c16 ?_
          refine ev_iconst (v := 1) dX5_insert_41 (by decide) ?_
          refine ev_isub dX5_insert_42 ?_
          replace HF := bd_n HF
          obtain ⟨v17, ev17, HF⟩ := HF
          refine ev_topI ev17 ?_
          refine ev_istore_n (lv' := [(3, .int v17), (0, .ref t), (1, .int x1), (2, .int x2)]) dX5_insert_43 (by decide) (rfl) ?_
          exact Ev.sub [1, 2, 3, 0] rfl (lk_X5_insert_44 hdd  fu t x1 x2 v17 _ HF)
        · replace HF := ite_F c14 HF
          refine ev_icmp_leF (tgt := 27) dX5_insert_23 (by decide) c14 ?_
          obtain rfl := Option.some.inj HF
          exact ev_vret dX5_insert_26
    · replace HF := ite_F c11 HF
      refine ev_if_neT (tgt := 26) dX5_insert_11 (by decide) c11 ?_
      obtain rfl := Option.some.inj HF
      exact ev_vret dX5_insert_26
  · replace HF := ite_F c5 HF
    refine ev_if_neT (tgt := 26) dX5_insert_4 (by decide) c5 ?_
    obtain rfl := Option.some.inj HF
    exact ev_vret dX5_insert_26

set_option maxRecDepth 20000 in
theorem lk_X5_remove_11 {g : aG} {l : Launch} {d : Nat} {h0 : aH} (hdd : 2 ≤ d) {r : aH} : ∀ (n : Nat) (t : Nat) (x2 : Int32) (h : aH), F_X5_remove_11  n t x2 h = some r → Ev g l cX5_remove 3 yX5_remove (none) d h0 (none, r) 11 [(0, .ref t), (2, .int x2)] [] h := by
  intro n
  induction n with
  | zero => intro t x2 h HF; cases HF
  | succ n ih =>
  intro t x2 h HF
  unfold F_X5_remove_11 at HF
  refine ev_iload_n 1 dX5_remove_11 rfl ?_
  refine ev_aload_n 0 dX5_remove_12 rfl ?_
  replace HF := bind_ck HF
  obtain ⟨c1, HF⟩ := HF
  refine ev_gI (f := 602) cl_X5 (k := 2) (by decide) fi_X5_2 rfl fl_X5_19 dX5_remove_13 c1 ?_
  refine ev_iconst (v := 1) dX5_remove_16 (by decide) ?_
  refine ev_isub dX5_remove_17 ?_
  by_cases c2 : (hF h 602 t) - 1 ≤ x2
  · replace HF := ite_T c2 HF
    refine ev_icmp_geT (tgt := 39) dX5_remove_18 (by decide) c2 ?_
    refine ev_aload_n 0 dX5_remove_39 rfl ?_
    refine ev_dup dX5_remove_40 rfl ?_
    refine ev_gI (f := 602) cl_X5 (k := 2) (by decide) fi_X5_2 rfl fl_X5_19 dX5_remove_41 c1 ?_
    refine ev_iconst (v := 1) dX5_remove_44 (by decide) ?_
    refine ev_isub dX5_remove_45 ?_
    refine ev_pI (f := 602) cl_X5 (k := 2) (by decide) fi_X5_2 rfl fl_X5_19 rfl rfl rfl dX5_remove_46 c1 ?_
    replace HF := bd_n HF
    obtain ⟨h3, eh3, HF⟩ := HF
    refine ev_heap eh3 ?_
    have c4 : hK h3 t = 7 := by rw [eh3]; exact c1
    obtain rfl := Option.some.inj HF
    exact ev_vret dX5_remove_49
  · replace HF := ite_F c2 HF
    refine ev_icmp_geF (tgt := 39) dX5_remove_18 (by decide) c2 ?_
    refine ev_aload_n 0 dX5_remove_21 rfl ?_
    refine ev_iload_n 1 dX5_remove_22 rfl ?_
    refine ev_aload_n 0 dX5_remove_23 rfl ?_
    refine ev_iload_n 1 dX5_remove_24 rfl ?_
    refine ev_iconst (v := 1) dX5_remove_25 (by decide) ?_
    refine ev_iadd dX5_remove_26 ?_
    replace HF := bind_o HF
    obtain ⟨⟨z7, h6⟩, e5, HF⟩ := HF
    replace HF := bd_o (bd_o HF)
    dsimp only at HF
    refine ev_callV (As := [.int (x2 + 1)]) (R1 := (some (.int z7), h6)) (lk_X5_at (d := 1) (Nat.le_refl _) c1 e5) ce_X5_at im_X5_at sl_X5_at ml_X5_33 cl_X5 c1 dX5_remove_27 (by omega) (Nat.le_of_ble_eq_true rfl) rfl rfl ?_
    show EvG _ _ _ _ _ _ _ _ _ _ _ 30 [(0, .ref t), (2, .int x2)] [.int z7, .int x2, .ref t] h6
    show EvG _ _ _ _ _ _ _ _ _ _ _ 30 _ _ _
    replace HF := bind_ck HF
    obtain ⟨c9, HF⟩ := HF
    replace HF := bind_o HF
    obtain ⟨h11, e10, HF⟩ := HF
    refine ev_callV (As := [.int x2, .int z7]) (R1 := (none, h11)) (lk_X5_set (d := 1) (Nat.le_refl _) c9 e10) ce_X5_set im_X5_set sl_X5_set ml_X5_37 cl_X5 c9 dX5_remove_30 (by omega) (Nat.le_of_ble_eq_true rfl) rfl rfl ?_
    show EvG _ _ _ _ _ _ _ _ _ _ _ 33 [(0, .ref t), (2, .int x2)] [] h11
    replace HF := bd_n HF
    obtain ⟨v13, ev13, HF⟩ := HF
    refine ev_iinc (v := v13) (lv' := [(2, .int v13), (0, .ref t)]) 1 dX5_remove_33 rfl (by rw [ev13]; rfl) (by decide) (rfl) ?_
    refine ev_goto (tgt := 11) dX5_remove_36 (by decide) ?_
    exact Ev.sub [1, 0] rfl (ih t v13 _ HF)

set_option maxRecDepth 20000 in
theorem lk_X5_remove {g : aG} {l : Launch} {d : Nat} (hdd : 2 ≤ d) {t : Nat} {x1 : Int32} {h : aH} {r : aH} (hT : hK h t = 7) (HF : F_X5_remove t x1 h = some r) : MA g l yX5_remove cX5_remove 3 (none) d [.ref t, .int x1] h (none, r) := by
  refine MA.of (lv0 := [(0, .ref t), (1, .int x1)]) (by decide +kernel) (rfl) (Nat.le_of_ble_eq_true rfl) ?_
  unfold F_X5_remove at HF
  refine ev_aload_n 0 dX5_remove_0 rfl ?_
  refine ev_iload_n 1 dX5_remove_1 rfl ?_
  replace HF := bind_o HF
  obtain ⟨⟨z3, h2⟩, e1, HF⟩ := HF
  replace HF := bd_o (bd_o HF)
  dsimp only at HF
  refine ev_callV (As := [.int x1]) (R1 := (some (.int z3), h2)) (lk_X5_has (d := 0) (Nat.le_refl _) hT e1) ce_X5_has im_X5_has sl_X5_has ml_X5_22 cl_X5 hT dX5_remove_2 (by omega) (Nat.le_of_ble_eq_true rfl) rfl rfl ?_
  show EvG _ _ _ _ _ _ _ _ _ _ _ 5 [(0, .ref t), (1, .int x1)] [.int z3] h2
  by_cases c5 : z3 = 0
  · replace HF := ite_T c5 HF
    refine ev_if_neF (tgt := 9) dX5_remove_5 (by decide) c5 ?_
    obtain rfl := Option.some.inj HF
    exact ev_vret dX5_remove_8
  · replace HF := ite_F c5 HF
    refine ev_if_neT (tgt := 9) dX5_remove_5 (by decide) c5 ?_
    refine ev_iload_n 1 dX5_remove_9 rfl ?_
    refine ev_istore_n (lv' := [(2, .int x1), (0, .ref t), (1, .int x1)]) dX5_remove_10 (by decide) (rfl) ?_
    exact Ev.sub [1, 0] rfl (lk_X5_remove_11 hdd  fu t x1 _ HF)

set_option maxRecDepth 20000 in
theorem lk_X9_init {g : aG} {l : Launch} {d : Nat} (hdd : 2 ≤ d) {t : Nat} {h : aH} {r : aH} (hT : hK h t = 11) (HF : F_X9_init t h = some r) : MA g l yX9_init cX9_init 1 (none) d [.ref t] h (none, r) := by
  refine MA.of (lv0 := [(0, .ref t)]) (by decide +kernel) (rfl) (Nat.le_of_ble_eq_true rfl) ?_
  unfold F_X9_init at HF
  refine ev_aload_n 0 dX9_init_0 rfl ?_
  refine ev_obj ml_X9_3 im_obj cd_obj dX9_init_1 (by omega) (Nat.le_of_ble_eq_true rfl) ?_
  refine ev_aload_n 0 dX9_init_4 rfl ?_
  refine ev_new cl_X4 kl_X9_9 ins_X4 ini_X4 df_X4 dX9_init_5 ?_
  replace HF := bd_n HF
  obtain ⟨b1, eb1, HF⟩ := HF
  refine ev_topR eb1 ?_
  replace HF := bd_n HF
  obtain ⟨h2, eh2, HF⟩ := HF
  refine ev_heap eh2 ?_
  refine ev_dup dX9_init_8 rfl ?_
  refine ev_bipush (v := 11) dX9_init_9 (by decide) ?_
  refine ev_iconst (v := 3) dX9_init_11 (by decide) ?_
  show EvG _ _ _ _ _ _ _ _ _ _ _ 12 _ _ _
  replace HF := bind_ck HF
  obtain ⟨c3, HF⟩ := HF
  replace HF := bind_o HF
  obtain ⟨h5, e4, HF⟩ := HF
  refine ev_callI (As := [.int 11, .int 3]) (R1 := (none, h5)) (lk_X4_init (d := 1) (Nat.le_refl _) c3 e4) ce_X4_init rfl im_X4_init ml_X9_11 dX9_init_12 (by omega) (Nat.le_of_ble_eq_true rfl) rfl rfl ?_
  show EvG _ _ _ _ _ _ _ _ _ _ _ 15 [(0, .ref t)] [.ref b1, .ref t] h5
  replace HF := bind_ck HF
  obtain ⟨c7, HF⟩ := HF
  refine ev_pSF (f := 1000) cl_X9 (k := 0) (by decide) fi_X9_0 rfl fl_X9_14 rfl rfl rfl rfl dX9_init_15 c7 ?_
  replace HF := bd_n HF
  obtain ⟨h8, eh8, HF⟩ := HF
  refine ev_heap eh8 ?_
  have c9 : hK h8 t = 11 := by rw [eh8]; exact c7
  refine ev_aload_n 0 dX9_init_18 rfl ?_
  refine ev_new cl_X4 kl_X9_9 ins_X4 ini_X4 df_X4 dX9_init_19 ?_
  replace HF := bd_n HF
  obtain ⟨b10, eb10, HF⟩ := HF
  refine ev_topR eb10 ?_
  replace HF := bd_n HF
  obtain ⟨h11, eh11, HF⟩ := HF
  refine ev_heap eh11 ?_
  refine ev_dup dX9_init_22 rfl ?_
  refine ev_bipush (v := 11) dX9_init_23 (by decide) ?_
  refine ev_iconst (v := 3) dX9_init_25 (by decide) ?_
  replace HF := bind_ck HF
  obtain ⟨c12, HF⟩ := HF
  replace HF := bind_o HF
  obtain ⟨h14, e13, HF⟩ := HF
  refine ev_callI (As := [.int 11, .int 3]) (R1 := (none, h14)) (lk_X4_init (d := 1) (Nat.le_refl _) c12 e13) ce_X4_init rfl im_X4_init ml_X9_11 dX9_init_26 (by omega) (Nat.le_of_ble_eq_true rfl) rfl rfl ?_
  show EvG _ _ _ _ _ _ _ _ _ _ _ 29 [(0, .ref t)] [.ref b10, .ref t] h14
  show EvG _ _ _ _ _ _ _ _ _ _ _ 29 _ _ _
  replace HF := bind_ck HF
  obtain ⟨c16, HF⟩ := HF
  refine ev_pSF (f := 1001) cl_X9 (k := 1) (by decide) fi_X9_1 rfl fl_X9_20 rfl rfl rfl rfl dX9_init_29 c16 ?_
  replace HF := bd_n HF
  obtain ⟨h17, eh17, HF⟩ := HF
  refine ev_heap eh17 ?_
  have c18 : hK h17 t = 11 := by rw [eh17]; exact c16
  refine ev_aload_n 0 dX9_init_32 rfl ?_
  refine ev_new cl_X4 kl_X9_9 ins_X4 ini_X4 df_X4 dX9_init_33 ?_
  replace HF := bd_n HF
  obtain ⟨b19, eb19, HF⟩ := HF
  refine ev_topR eb19 ?_
  replace HF := bd_n HF
  obtain ⟨h20, eh20, HF⟩ := HF
  refine ev_heap eh20 ?_
  refine ev_dup dX9_init_36 rfl ?_
  refine ev_bipush (v := 120) dX9_init_37 (by decide) ?_
  refine ev_iconst (v := 5) dX9_init_39 (by decide) ?_
  replace HF := bind_ck HF
  obtain ⟨c21, HF⟩ := HF
  replace HF := bind_o HF
  obtain ⟨h23, e22, HF⟩ := HF
  refine ev_callI (As := [.int 120, .int 5]) (R1 := (none, h23)) (lk_X4_init (d := 1) (Nat.le_refl _) c21 e22) ce_X4_init rfl im_X4_init ml_X9_11 dX9_init_40 (by omega) (Nat.le_of_ble_eq_true rfl) rfl rfl ?_
  show EvG _ _ _ _ _ _ _ _ _ _ _ 43 [(0, .ref t)] [.ref b19, .ref t] h23
  replace HF := bind_ck HF
  obtain ⟨c25, HF⟩ := HF
  refine ev_pSF (f := 1002) cl_X9 (k := 2) (by decide) fi_X9_2 rfl fl_X9_23 rfl rfl rfl rfl dX9_init_43 c25 ?_
  replace HF := bd_n HF
  obtain ⟨h26, eh26, HF⟩ := HF
  refine ev_heap eh26 ?_
  have c27 : hK h26 t = 11 := by rw [eh26]; exact c25
  show EvG _ _ _ _ _ _ _ _ _ _ _ 46 _ _ _
  refine ev_aload_n 0 dX9_init_46 rfl ?_
  refine ev_iconst (v := 0) dX9_init_47 (by decide) ?_
  refine ev_pI (f := 1003) cl_X9 (k := 3) (by decide) fi_X9_3 rfl fl_X9_26 rfl rfl rfl dX9_init_48 c27 ?_
  replace HF := bd_n HF
  obtain ⟨h28, eh28, HF⟩ := HF
  refine ev_heap eh28 ?_
  have c29 : hK h28 t = 11 := by rw [eh28]; exact c27
  refine ev_aload_n 0 dX9_init_51 rfl ?_
  refine ev_iconst (v := (-1)) dX9_init_52 (by decide) ?_
  refine ev_pI (f := 1015) cl_X9 (k := 15) (by decide) fi_X9_15 rfl fl_X9_30 rfl rfl rfl dX9_init_53 c29 ?_
  replace HF := bd_n HF
  obtain ⟨h30, eh30, HF⟩ := HF
  refine ev_heap eh30 ?_
  have c31 : hK h30 t = 11 := by rw [eh30]; exact c29
  refine ev_aload_n 0 dX9_init_56 rfl ?_
  refine ev_iconst (v := (-1)) dX9_init_57 (by decide) ?_
  show EvG _ _ _ _ _ _ _ _ _ _ _ 58 _ _ _
  refine ev_pI (f := 1016) cl_X9 (k := 16) (by decide) fi_X9_16 rfl fl_X9_34 rfl rfl rfl dX9_init_58 c31 ?_
  replace HF := bd_n HF
  obtain ⟨h32, eh32, HF⟩ := HF
  refine ev_heap eh32 ?_
  have c33 : hK h32 t = 11 := by rw [eh32]; exact c31
  refine ev_aload_n 0 dX9_init_61 rfl ?_
  refine ev_iconst (v := (-1)) dX9_init_62 (by decide) ?_
  refine ev_pI (f := 1017) cl_X9 (k := 17) (by decide) fi_X9_17 rfl fl_X9_37 rfl rfl rfl dX9_init_63 c33 ?_
  replace HF := bd_n HF
  obtain ⟨h34, eh34, HF⟩ := HF
  refine ev_heap eh34 ?_
  have c35 : hK h34 t = 11 := by rw [eh34]; exact c33
  obtain rfl := Option.some.inj HF
  exact ev_vret dX9_init_66

set_option maxRecDepth 20000 in
theorem lk_X6_init_25 {g : aG} {l : Launch} {d : Nat} {h0 : aH} (hdd : 3 ≤ d) {r : aH} : ∀ (n : Nat) (t : Nat) (x1 : Int32) (h : aH), F_X6_init_25  n t x1 h = some r → Ev g l cX6_init 2 yX6_init (none) d h0 (none, r) 25 [(0, .ref t), (1, .int x1)] [] h := by
  intro n
  induction n with
  | zero => intro t x1 h HF; cases HF
  | succ n ih =>
  intro t x1 h HF
  unfold F_X6_init_25 at HF
  refine ev_iload_n 1 dX6_init_25 rfl ?_
  refine ev_aload_n 0 dX6_init_26 rfl ?_
  replace HF := bind_ck HF
  obtain ⟨c1, HF⟩ := HF
  replace HF := bind_o HF
  obtain ⟨b2, e3, HF⟩ := HF
  refine ev_gS (f := 700) cl_X6 (k := 0) (by decide) fi_X6_0 rfl fl_X6_11 dX6_init_27 c1 e3 ?_
  replace HF := bind_ck HF
  obtain ⟨c4, HF⟩ := HF
  refine ev_alen dX6_init_30 (by decide) (by decide) c4 rfl ?_
  by_cases c5 : Int32.ofNat (hN h b2) ≤ x1
  · replace HF := ite_T c5 HF
    refine ev_icmp_geT (tgt := 53) dX6_init_31 (by decide) c5 ?_
    refine ev_aload_n 0 dX6_init_53 rfl ?_
    refine ev_iconst (v := (-1)) dX6_init_54 (by decide) ?_
    refine ev_pI (f := 704) cl_X6 (k := 4) (by decide) fi_X6_4 rfl fl_X6_22 rfl rfl rfl dX6_init_55 c1 ?_
    replace HF := bd_n HF
    obtain ⟨h6, eh6, HF⟩ := HF
    refine ev_heap eh6 ?_
    have c7 : hK h6 t = 8 := by rw [eh6]; exact c1
    have c8 : hK h6 b2 = 25 := by rw [eh6]; exact c4
    obtain rfl := Option.some.inj HF
    exact ev_vret dX6_init_58
  · replace HF := ite_F c5 HF
    refine ev_icmp_geF (tgt := 53) dX6_init_31 (by decide) c5 ?_
    refine ev_aload_n 0 dX6_init_34 rfl ?_
    replace HF := bind_o HF
    obtain ⟨b9, e10, HF⟩ := HF
    refine ev_gS (f := 700) cl_X6 (k := 0) (by decide) fi_X6_0 rfl fl_X6_11 dX6_init_35 c1 e10 ?_
    refine ev_iload_n 1 dX6_init_38 rfl ?_
    refine ev_new cl_X9 kl_X6_9 ins_X9 ini_X9 df_X9 dX6_init_39 ?_
    replace HF := bd_n HF
    obtain ⟨b11, eb11, HF⟩ := HF
    refine ev_topR eb11 ?_
    replace HF := bd_n HF
    obtain ⟨h12, eh12, HF⟩ := HF
    refine ev_heap eh12 ?_
    refine ev_dup dX6_init_42 rfl ?_
    replace HF := bind_ck HF
    obtain ⟨c13, HF⟩ := HF
    replace HF := bind_o HF
    obtain ⟨h15, e14, HF⟩ := HF
    refine ev_callI (As := []) (R1 := (none, h15)) (lk_X9_init (d := 2) (Nat.le_refl _) c13 e14) ce_X9_init rfl im_X9_init ml_X6_17 dX6_init_43 (by omega) (Nat.le_of_ble_eq_true rfl) rfl rfl ?_
    show EvG _ _ _ _ _ _ _ _ _ _ _ 46 [(0, .ref t), (1, .int x1)] [.ref b11, .int x1, .ref b9] h15
    replace HF := bind_ck HF
    obtain ⟨c17, HF⟩ := HF
    replace HF := bind_ck HF
    obtain ⟨c18, HF⟩ := HF
    refine ev_aast cl_X9 dX6_init_46 (by decide) (by decide) rfl c17.1 c18 c17.2 ?_
    replace HF := bd_n HF
    obtain ⟨h19, eh19, HF⟩ := HF
    refine ev_heap eh19 ?_
    have c20 : hK h19 b11 = 11 := by rw [eh19]; exact c18
    show EvG _ _ _ _ _ _ _ _ _ _ _ 47 _ _ _
    replace HF := bd_n HF
    obtain ⟨v21, ev21, HF⟩ := HF
    refine ev_iinc (v := v21) (lv' := [(1, .int v21), (0, .ref t)]) 1 dX6_init_47 rfl (by rw [ev21]; rfl) (by decide) (rfl) ?_
    refine ev_goto (tgt := 25) dX6_init_50 (by decide) ?_
    exact Ev.sub [1, 0] rfl (ih t v21 _ HF)

set_option maxRecDepth 20000 in
theorem lk_X6_init {g : aG} {l : Launch} {d : Nat} (hdd : 3 ≤ d) {t : Nat} {h : aH} {r : aH} (hT : hK h t = 8) (HF : F_X6_init t h = some r) : MA g l yX6_init cX6_init 2 (none) d [.ref t] h (none, r) := by
  refine MA.of (lv0 := [(0, .ref t)]) (by decide +kernel) (rfl) (Nat.le_of_ble_eq_true rfl) ?_
  unfold F_X6_init at HF
  refine ev_aload_n 0 dX6_init_0 rfl ?_
  refine ev_obj ml_X6_3 im_obj cd_obj dX6_init_1 (by omega) (Nat.le_of_ble_eq_true rfl) ?_
  refine ev_aload_n 0 dX6_init_4 rfl ?_
  refine ev_iconst (v := 4) dX6_init_5 (by decide) ?_
  refine ev_anew (k := 25) (n' := 4) (by decide) (by decide) kl_X6_9 dX6_init_6 (by decide) (by decide) (by decide) ?_
  replace HF := bd_n HF
  obtain ⟨b1, eb1, HF⟩ := HF
  refine ev_topR eb1 ?_
  replace HF := bd_n HF
  obtain ⟨h2, eh2, HF⟩ := HF
  refine ev_heap eh2 ?_
  replace HF := bind_ck HF
  obtain ⟨c3, HF⟩ := HF
  refine ev_pSF (f := 700) cl_X6 (k := 0) (by decide) fi_X6_0 rfl fl_X6_11 rfl rfl rfl rfl dX6_init_9 c3 ?_
  replace HF := bd_n HF
  obtain ⟨h4, eh4, HF⟩ := HF
  refine ev_heap eh4 ?_
  have c5 : hK h4 t = 8 := by rw [eh4]; exact c3
  refine ev_aload_n 0 dX6_init_12 rfl ?_
  show EvG _ _ _ _ _ _ _ _ _ _ _ 13 _ _ _
  refine ev_new cl_X9 kl_X6_9 ins_X9 ini_X9 df_X9 dX6_init_13 ?_
  replace HF := bd_n HF
  obtain ⟨b6, eb6, HF⟩ := HF
  refine ev_topR eb6 ?_
  replace HF := bd_n HF
  obtain ⟨h7, eh7, HF⟩ := HF
  refine ev_heap eh7 ?_
  refine ev_dup dX6_init_16 rfl ?_
  replace HF := bind_ck HF
  obtain ⟨c8, HF⟩ := HF
  replace HF := bind_o HF
  obtain ⟨h10, e9, HF⟩ := HF
  refine ev_callI (As := []) (R1 := (none, h10)) (lk_X9_init (d := 2) (Nat.le_refl _) c8 e9) ce_X9_init rfl im_X9_init ml_X6_17 dX6_init_17 (by omega) (Nat.le_of_ble_eq_true rfl) rfl rfl ?_
  show EvG _ _ _ _ _ _ _ _ _ _ _ 20 [(0, .ref t)] [.ref b6, .ref t] h10
  replace HF := bind_ck HF
  obtain ⟨c12, HF⟩ := HF
  refine ev_pSF (f := 701) cl_X6 (k := 1) (by decide) fi_X6_1 rfl fl_X6_18 rfl rfl rfl rfl dX6_init_20 c12 ?_
  replace HF := bd_n HF
  obtain ⟨h13, eh13, HF⟩ := HF
  refine ev_heap eh13 ?_
  have c14 : hK h13 t = 8 := by rw [eh13]; exact c12
  refine ev_iconst (v := 0) dX6_init_23 (by decide) ?_
  refine ev_istore_n (lv' := [(1, .int 0), (0, .ref t)]) dX6_init_24 (by decide) (rfl) ?_
  exact Ev.sub [1, 0] rfl (lk_X6_init_25 hdd  fu t 0 _ HF)

set_option maxRecDepth 20000 in
theorem lk_X6_tallyAt {g : aG} {l : Launch} {d : Nat} (hdd : 0 ≤ d) {t : Nat} {x1 : Int32} {h : aH} {r : Option Nat × aH} (hT : hK h t = 8) (HF : F_X6_tallyAt t x1 h = some r) : MA g l yX6_tallyAt cX6_tallyAt 2 (some (.object "BallBook$Tally")) d [.ref t, .int x1] h (some (va_rf r.1), r.2) := by
  refine MA.of (lv0 := [(0, .ref t), (1, .int x1)]) (by decide +kernel) (rfl) (Nat.le_of_ble_eq_true rfl) ?_
  unfold F_X6_tallyAt at HF
  refine ev_iload_n 1 dX6_tallyAt_0 rfl ?_
  by_cases c1 : x1 < 0
  · replace HF := ite_T c1 HF
    refine ev_if_ltT (tgt := 18) dX6_tallyAt_1 (by decide) c1 ?_
    refine ev_aload_n 0 dX6_tallyAt_18 rfl ?_
    replace HF := bind_o HF
    obtain ⟨b2, e3, HF⟩ := HF
    refine ev_gS (f := 701) cl_X6 (k := 1) (by decide) fi_X6_1 rfl fl_X6_18 dX6_tallyAt_19 hT e3 ?_
    obtain rfl := Option.some.inj HF
    exact ev_aret (r := some b2) (Or.inl ⟨_, rfl⟩) dX6_tallyAt_22
  · replace HF := ite_F c1 HF
    refine ev_if_ltF (tgt := 18) dX6_tallyAt_1 (by decide) c1 ?_
    refine ev_iload_n 1 dX6_tallyAt_4 rfl ?_
    refine ev_iconst (v := 4) dX6_tallyAt_5 (by decide) ?_
    by_cases c4 : 4 ≤ x1
    · replace HF := ite_T c4 HF
      refine ev_icmp_geT (tgt := 18) dX6_tallyAt_6 (by decide) c4 ?_
      refine ev_aload_n 0 dX6_tallyAt_18 rfl ?_
      replace HF := bind_o HF
      obtain ⟨b5, e6, HF⟩ := HF
      refine ev_gS (f := 701) cl_X6 (k := 1) (by decide) fi_X6_1 rfl fl_X6_18 dX6_tallyAt_19 hT e6 ?_
      obtain rfl := Option.some.inj HF
      exact ev_aret (r := some b5) (Or.inl ⟨_, rfl⟩) dX6_tallyAt_22
    · replace HF := ite_F c4 HF
      refine ev_icmp_geF (tgt := 18) dX6_tallyAt_6 (by decide) c4 ?_
      refine ev_aload_n 0 dX6_tallyAt_9 rfl ?_
      replace HF := bind_o HF
      obtain ⟨b7, e8, HF⟩ := HF
      refine ev_gS (f := 700) cl_X6 (k := 0) (by decide) fi_X6_0 rfl fl_X6_11 dX6_tallyAt_10 hT e8 ?_
      refine ev_iload_n 1 dX6_tallyAt_13 rfl ?_
      replace HF := bind_ck HF
      obtain ⟨c9, HF⟩ := HF
      replace HF := bind_o HF
      obtain ⟨b10, e11, HF⟩ := HF
      refine ev_aald 25 dX6_tallyAt_14 (by decide) (by decide) c9.1 c9.2 ?_
      rw [e11]
      refine ev_goto (tgt := 22) dX6_tallyAt_15 (by decide) ?_
      obtain rfl := Option.some.inj HF
      exact ev_aret (r := some b10) (Or.inl ⟨_, rfl⟩) dX6_tallyAt_22

set_option maxRecDepth 20000 in
theorem lk_X9_clear {g : aG} {l : Launch} {d : Nat} (hdd : 1 ≤ d) {t : Nat} {h : aH} {r : aH} (hT : hK h t = 11) (HF : F_X9_clear t h = some r) : MA g l yX9_clear cX9_clear 1 (none) d [.ref t] h (none, r) := by
  refine MA.of (lv0 := [(0, .ref t)]) (by decide +kernel) (rfl) (Nat.le_of_ble_eq_true rfl) ?_
  unfold F_X9_clear at HF
  refine ev_aload_n 0 dX9_clear_0 rfl ?_
  refine ev_iconst (v := 0) dX9_clear_1 (by decide) ?_
  refine ev_pI (f := 1003) cl_X9 (k := 3) (by decide) fi_X9_3 rfl fl_X9_26 rfl rfl rfl dX9_clear_2 hT ?_
  replace HF := bd_n HF
  obtain ⟨h1, eh1, HF⟩ := HF
  refine ev_heap eh1 ?_
  have c2 : hK h1 t = 11 := by rw [eh1]; exact hT
  refine ev_aload_n 0 dX9_clear_5 rfl ?_
  replace HF := bind_o HF
  obtain ⟨b3, e4, HF⟩ := HF
  refine ev_gS (f := 1000) cl_X9 (k := 0) (by decide) fi_X9_0 rfl fl_X9_14 dX9_clear_6 c2 e4 ?_
  refine ev_iconst (v := 0) dX9_clear_9 (by decide) ?_
  replace HF := bind_ck HF
  obtain ⟨c5, HF⟩ := HF
  replace HF := bind_o HF
  obtain ⟨h7, e6, HF⟩ := HF
  refine ev_callV (As := [.int 0]) (R1 := (none, h7)) (lk_X4_fill (d := 0) (Nat.le_refl _) c5 e6) ce_X4_fill im_X4_fill sl_X4_fill ml_X9_40 cl_X4 c5 dX9_clear_10 (by omega) (Nat.le_of_ble_eq_true rfl) rfl rfl ?_
  show EvG _ _ _ _ _ _ _ _ _ _ _ 13 [(0, .ref t)] [] h7
  show EvG _ _ _ _ _ _ _ _ _ _ _ 13 _ _ _
  refine ev_aload_n 0 dX9_clear_13 rfl ?_
  replace HF := bind_ck HF
  obtain ⟨c9, HF⟩ := HF
  replace HF := bind_o HF
  obtain ⟨b10, e11, HF⟩ := HF
  refine ev_gS (f := 1001) cl_X9 (k := 1) (by decide) fi_X9_1 rfl fl_X9_20 dX9_clear_14 c9 e11 ?_
  refine ev_iconst (v := 0) dX9_clear_17 (by decide) ?_
  replace HF := bind_ck HF
  obtain ⟨c12, HF⟩ := HF
  replace HF := bind_o HF
  obtain ⟨h14, e13, HF⟩ := HF
  refine ev_callV (As := [.int 0]) (R1 := (none, h14)) (lk_X4_fill (d := 0) (Nat.le_refl _) c12 e13) ce_X4_fill im_X4_fill sl_X4_fill ml_X9_40 cl_X4 c12 dX9_clear_18 (by omega) (Nat.le_of_ble_eq_true rfl) rfl rfl ?_
  show EvG _ _ _ _ _ _ _ _ _ _ _ 21 [(0, .ref t)] [] h14
  refine ev_aload_n 0 dX9_clear_21 rfl ?_
  refine ev_iconst (v := 0) dX9_clear_22 (by decide) ?_
  replace HF := bind_ck HF
  obtain ⟨c16, HF⟩ := HF
  refine ev_pI (f := 1004) cl_X9 (k := 4) (by decide) fi_X9_4 rfl fl_X9_44 rfl rfl rfl dX9_clear_23 c16 ?_
  replace HF := bd_n HF
  obtain ⟨h17, eh17, HF⟩ := HF
  refine ev_heap eh17 ?_
  have c18 : hK h17 t = 11 := by rw [eh17]; exact c16
  refine ev_aload_n 0 dX9_clear_26 rfl ?_
  show EvG _ _ _ _ _ _ _ _ _ _ _ 27 _ _ _
  refine ev_iconst (v := 0) dX9_clear_27 (by decide) ?_
  refine ev_pI (f := 1005) cl_X9 (k := 5) (by decide) fi_X9_5 rfl fl_X9_47 rfl rfl rfl dX9_clear_28 c18 ?_
  replace HF := bd_n HF
  obtain ⟨h19, eh19, HF⟩ := HF
  refine ev_heap eh19 ?_
  have c20 : hK h19 t = 11 := by rw [eh19]; exact c18
  refine ev_aload_n 0 dX9_clear_31 rfl ?_
  refine ev_iconst (v := 0) dX9_clear_32 (by decide) ?_
  refine ev_pI (f := 1006) cl_X9 (k := 6) (by decide) fi_X9_6 rfl fl_X9_50 rfl rfl rfl dX9_clear_33 c20 ?_
  replace HF := bd_n HF
  obtain ⟨h21, eh21, HF⟩ := HF
  refine ev_heap eh21 ?_
  have c22 : hK h21 t = 11 := by rw [eh21]; exact c20
  refine ev_aload_n 0 dX9_clear_36 rfl ?_
  refine ev_iconst (v := 0) dX9_clear_37 (by decide) ?_
  refine ev_pI (f := 1007) cl_X9 (k := 7) (by decide) fi_X9_7 rfl fl_X9_53 rfl rfl rfl dX9_clear_38 c22 ?_
  replace HF := bd_n HF
  obtain ⟨h23, eh23, HF⟩ := HF
  refine ev_heap eh23 ?_
  have c24 : hK h23 t = 11 := by rw [eh23]; exact c22
  show EvG _ _ _ _ _ _ _ _ _ _ _ 41 _ _ _
  refine ev_aload_n 0 dX9_clear_41 rfl ?_
  refine ev_iconst (v := 0) dX9_clear_42 (by decide) ?_
  refine ev_pI (f := 1008) cl_X9 (k := 8) (by decide) fi_X9_8 rfl fl_X9_56 rfl rfl rfl dX9_clear_43 c24 ?_
  replace HF := bd_n HF
  obtain ⟨h25, eh25, HF⟩ := HF
  refine ev_heap eh25 ?_
  have c26 : hK h25 t = 11 := by rw [eh25]; exact c24
  refine ev_aload_n 0 dX9_clear_46 rfl ?_
  refine ev_iconst (v := 0) dX9_clear_47 (by decide) ?_
  refine ev_pI (f := 1009) cl_X9 (k := 9) (by decide) fi_X9_9 rfl fl_X9_59 rfl rfl rfl dX9_clear_48 c26 ?_
  replace HF := bd_n HF
  obtain ⟨h27, eh27, HF⟩ := HF
  refine ev_heap eh27 ?_
  have c28 : hK h27 t = 11 := by rw [eh27]; exact c26
  refine ev_aload_n 0 dX9_clear_51 rfl ?_
  refine ev_iconst (v := 0) dX9_clear_52 (by decide) ?_
  show EvG _ _ _ _ _ _ _ _ _ _ _ 53 _ _ _
  refine ev_pI (f := 1010) cl_X9 (k := 10) (by decide) fi_X9_10 rfl fl_X9_62 rfl rfl rfl dX9_clear_53 c28 ?_
  replace HF := bd_n HF
  obtain ⟨h29, eh29, HF⟩ := HF
  refine ev_heap eh29 ?_
  have c30 : hK h29 t = 11 := by rw [eh29]; exact c28
  refine ev_aload_n 0 dX9_clear_56 rfl ?_
  refine ev_iconst (v := 0) dX9_clear_57 (by decide) ?_
  refine ev_pI (f := 1011) cl_X9 (k := 11) (by decide) fi_X9_11 rfl fl_X9_65 rfl rfl rfl dX9_clear_58 c30 ?_
  replace HF := bd_n HF
  obtain ⟨h31, eh31, HF⟩ := HF
  refine ev_heap eh31 ?_
  have c32 : hK h31 t = 11 := by rw [eh31]; exact c30
  refine ev_aload_n 0 dX9_clear_61 rfl ?_
  refine ev_iconst (v := 0) dX9_clear_62 (by decide) ?_
  refine ev_pI (f := 1012) cl_X9 (k := 12) (by decide) fi_X9_12 rfl fl_X9_68 rfl rfl rfl dX9_clear_63 c32 ?_
  replace HF := bd_n HF
  obtain ⟨h33, eh33, HF⟩ := HF
  refine ev_heap eh33 ?_
  have c34 : hK h33 t = 11 := by rw [eh33]; exact c32
  refine ev_aload_n 0 dX9_clear_66 rfl ?_
  show EvG _ _ _ _ _ _ _ _ _ _ _ 67 _ _ _
  refine ev_iconst (v := 0) dX9_clear_67 (by decide) ?_
  refine ev_pI (f := 1013) cl_X9 (k := 13) (by decide) fi_X9_13 rfl fl_X9_71 rfl rfl rfl dX9_clear_68 c34 ?_
  replace HF := bd_n HF
  obtain ⟨h35, eh35, HF⟩ := HF
  refine ev_heap eh35 ?_
  have c36 : hK h35 t = 11 := by rw [eh35]; exact c34
  refine ev_aload_n 0 dX9_clear_71 rfl ?_
  refine ev_iconst (v := 0) dX9_clear_72 (by decide) ?_
  refine ev_pI (f := 1014) cl_X9 (k := 14) (by decide) fi_X9_14 rfl fl_X9_74 rfl rfl rfl dX9_clear_73 c36 ?_
  replace HF := bd_n HF
  obtain ⟨h37, eh37, HF⟩ := HF
  refine ev_heap eh37 ?_
  have c38 : hK h37 t = 11 := by rw [eh37]; exact c36
  refine ev_aload_n 0 dX9_clear_76 rfl ?_
  refine ev_iconst (v := (-1)) dX9_clear_77 (by decide) ?_
  refine ev_pI (f := 1015) cl_X9 (k := 15) (by decide) fi_X9_15 rfl fl_X9_30 rfl rfl rfl dX9_clear_78 c38 ?_
  replace HF := bd_n HF
  obtain ⟨h39, eh39, HF⟩ := HF
  refine ev_heap eh39 ?_
  have c40 : hK h39 t = 11 := by rw [eh39]; exact c38
  show EvG _ _ _ _ _ _ _ _ _ _ _ 81 _ _ _
  refine ev_aload_n 0 dX9_clear_81 rfl ?_
  refine ev_iconst (v := (-1)) dX9_clear_82 (by decide) ?_
  refine ev_pI (f := 1016) cl_X9 (k := 16) (by decide) fi_X9_16 rfl fl_X9_34 rfl rfl rfl dX9_clear_83 c40 ?_
  replace HF := bd_n HF
  obtain ⟨h41, eh41, HF⟩ := HF
  refine ev_heap eh41 ?_
  have c42 : hK h41 t = 11 := by rw [eh41]; exact c40
  refine ev_aload_n 0 dX9_clear_86 rfl ?_
  refine ev_iconst (v := (-1)) dX9_clear_87 (by decide) ?_
  refine ev_pI (f := 1017) cl_X9 (k := 17) (by decide) fi_X9_17 rfl fl_X9_37 rfl rfl rfl dX9_clear_88 c42 ?_
  replace HF := bd_n HF
  obtain ⟨h43, eh43, HF⟩ := HF
  refine ev_heap eh43 ?_
  have c44 : hK h43 t = 11 := by rw [eh43]; exact c42
  refine ev_aload_n 0 dX9_clear_91 rfl ?_
  refine ev_iconst (v := 0) dX9_clear_92 (by decide) ?_
  show EvG _ _ _ _ _ _ _ _ _ _ _ 93 _ _ _
  refine ev_pI (f := 1018) cl_X9 (k := 18) (by decide) fi_X9_18 rfl fl_X9_77 rfl rfl rfl dX9_clear_93 c44 ?_
  replace HF := bd_n HF
  obtain ⟨h45, eh45, HF⟩ := HF
  refine ev_heap eh45 ?_
  have c46 : hK h45 t = 11 := by rw [eh45]; exact c44
  obtain rfl := Option.some.inj HF
  exact ev_vret dX9_clear_96

set_option maxRecDepth 20000 in
theorem lk_X6_start_52 {g : aG} {l : Launch} {d : Nat} {h0 : aH} (hdd : 2 ≤ d) {r : aH} : ∀ (n : Nat) (t : Nat) (a1 : Nat) (x2 : Int32) (h : aH), F_X6_start_52  n t a1 x2 h = some r → Ev g l cX6_start 3 yX6_start (none) d h0 (none, r) 52 [(0, .ref t), (1, .ref a1), (2, .int x2)] [] h := by
  intro n
  induction n with
  | zero => intro t a1 x2 h HF; cases HF
  | succ n ih =>
  intro t a1 x2 h HF
  unfold F_X6_start_52 at HF
  refine ev_iload_n 2 dX6_start_52 rfl ?_
  refine ev_aload_n 1 dX6_start_53 rfl ?_
  replace HF := bind_ck HF
  obtain ⟨c1, HF⟩ := HF
  replace HF := bind_o HF
  obtain ⟨⟨z4, h3⟩, e2, HF⟩ := HF
  replace HF := bd_o (bd_o HF)
  dsimp only at HF
  refine ev_callV (As := []) (R1 := (some (.int z4), h3)) (lk_X3_turnCount (d := 1) (Nat.le_refl _) c1 e2) ce_X3_turnCount im_X3_turnCount sl_X3_turnCount ml_X6_30 cl_X3 c1 dX6_start_54 (by omega) (Nat.le_of_ble_eq_true rfl) rfl rfl ?_
  show EvG _ _ _ _ _ _ _ _ _ _ _ 57 [(0, .ref t), (1, .ref a1), (2, .int x2)] [.int z4, .int x2] h3
  by_cases c6 : z4 ≤ x2
  · replace HF := ite_T c6 HF
    refine ev_icmp_geT (tgt := 74) dX6_start_57 (by decide) c6 ?_
    obtain rfl := Option.some.inj HF
    exact ev_vret dX6_start_74
  · replace HF := ite_F c6 HF
    refine ev_icmp_geF (tgt := 74) dX6_start_57 (by decide) c6 ?_
    refine ev_aload_n 0 dX6_start_60 rfl ?_
    refine ev_iload_n 2 dX6_start_61 rfl ?_
    replace HF := bind_ck HF
    obtain ⟨c7, HF⟩ := HF
    replace HF := bind_o HF
    obtain ⟨⟨o10, h9⟩, e8, HF⟩ := HF
    replace HF := bd_o (bd_o HF)
    dsimp only at HF
    refine ev_callV (As := [.int x2]) (R1 := (some (va_rf o10), h9)) (lk_X6_tallyAt (d := 0) (Nat.le_refl _) c7 e8) ce_X6_tallyAt im_X6_tallyAt sl_X6_tallyAt ml_X6_63 cl_X6 c7 dX6_start_62 (by omega) (Nat.le_of_ble_eq_true rfl) rfl rfl ?_
    show EvG _ _ _ _ _ _ _ _ _ _ _ 65 [(0, .ref t), (1, .ref a1), (2, .int x2)] [va_rf o10] h9
    replace HF := bind_o HF
    obtain ⟨b12, e13, HF⟩ := HF
    subst e13
    replace HF := bind_ck HF
    obtain ⟨c14, HF⟩ := HF
    replace HF := bind_o HF
    obtain ⟨h16, e15, HF⟩ := HF
    refine ev_callV (As := []) (R1 := (none, h16)) (lk_X9_clear (d := 1) (Nat.le_refl _) c14 e15) ce_X9_clear im_X9_clear sl_X9_clear ml_X6_155 cl_X9 c14 dX6_start_65 (by omega) (Nat.le_of_ble_eq_true rfl) rfl rfl ?_
    show EvG _ _ _ _ _ _ _ _ _ _ _ 68 [(0, .ref t), (1, .ref a1), (2, .int x2)] [] h16
    replace HF := bd_n HF
    obtain ⟨v18, ev18, HF⟩ := HF
    refine ev_iinc (v := v18) (lv' := [(2, .int v18), (0, .ref t), (1, .ref a1)]) 2 dX6_start_68 rfl (by rw [ev18]; rfl) (by decide) (rfl) ?_
    refine ev_goto (tgt := 52) dX6_start_71 (by decide) ?_
    exact Ev.sub [1, 2, 0] rfl (ih t a1 v18 _ HF)

set_option maxRecDepth 20000 in
theorem lk_X6_start {g : aG} {l : Launch} {d : Nat} (hdd : 2 ≤ d) {t : Nat} {a1 : Nat} {h : aH} {r : aH} (hT : hK h t = 8) (HF : F_X6_start t a1 h = some r) : MA g l yX6_start cX6_start 3 (none) d [.ref t, .ref a1] h (none, r) := by
  refine MA.of (lv0 := [(0, .ref t), (1, .ref a1)]) (by decide +kernel) (rfl) (Nat.le_of_ble_eq_true rfl) ?_
  unfold F_X6_start at HF
  refine ev_aload_n 0 dX6_start_0 rfl ?_
  refine ev_aload_n 1 dX6_start_1 rfl ?_
  replace HF := bind_ck HF
  obtain ⟨c1, HF⟩ := HF
  refine ev_gIN (f := 402) cl_X3 (k := 2) (by decide) fi_X3_2 rfl fl_X6_149 dX6_start_2 c1 ?_
  refine ev_pI (f := 702) cl_X6 (k := 2) (by decide) fi_X6_2 rfl fl_X6_96 rfl rfl rfl dX6_start_5 hT ?_
  replace HF := bd_n HF
  obtain ⟨h2, eh2, HF⟩ := HF
  refine ev_heap eh2 ?_
  have c3 : hK h2 t = 8 := by rw [eh2]; exact hT
  have c4 : hK h2 a1 = 5 := by rw [eh2]; exact c1
  refine ev_aload_n 0 dX6_start_8 rfl ?_
  refine ev_iconst (v := 2) dX6_start_9 (by decide) ?_
  refine ev_aload_n 1 dX6_start_10 rfl ?_
  show EvG _ _ _ _ _ _ _ _ _ _ _ 11 _ _ _
  refine ev_gIN (f := 403) cl_X3 (k := 3) (by decide) fi_X3_3 rfl fl_X6_152 dX6_start_11 c4 ?_
  refine ev_imul dX6_start_14 ?_
  refine ev_iconst (v := 1) dX6_start_15 (by decide) ?_
  refine ev_isub dX6_start_16 ?_
  refine ev_pI (f := 703) cl_X6 (k := 3) (by decide) fi_X6_3 rfl fl_X6_93 rfl rfl rfl dX6_start_17 c3 ?_
  replace HF := bd_n HF
  obtain ⟨h5, eh5, HF⟩ := HF
  refine ev_heap eh5 ?_
  have c6 : hK h5 t = 8 := by rw [eh5]; exact c3
  have c7 : hK h5 a1 = 5 := by rw [eh5]; exact c4
  refine ev_aload_n 0 dX6_start_20 rfl ?_
  refine ev_iconst (v := (-1)) dX6_start_21 (by decide) ?_
  refine ev_pI (f := 704) cl_X6 (k := 4) (by decide) fi_X6_4 rfl fl_X6_22 rfl rfl rfl dX6_start_22 c6 ?_
  replace HF := bd_n HF
  obtain ⟨h8, eh8, HF⟩ := HF
  refine ev_heap eh8 ?_
  have c9 : hK h8 t = 8 := by rw [eh8]; exact c6
  have c10 : hK h8 a1 = 5 := by rw [eh8]; exact c7
  show EvG _ _ _ _ _ _ _ _ _ _ _ 25 _ _ _
  refine ev_aload_n 0 dX6_start_25 rfl ?_
  refine ev_iconst (v := 0) dX6_start_26 (by decide) ?_
  refine ev_pI (f := 705) cl_X6 (k := 5) (by decide) fi_X6_5 rfl fl_X6_90 rfl rfl rfl dX6_start_27 c9 ?_
  replace HF := bd_n HF
  obtain ⟨h11, eh11, HF⟩ := HF
  refine ev_heap eh11 ?_
  have c12 : hK h11 t = 8 := by rw [eh11]; exact c9
  have c13 : hK h11 a1 = 5 := by rw [eh11]; exact c10
  refine ev_aload_n 0 dX6_start_30 rfl ?_
  refine ev_iconst (v := 0) dX6_start_31 (by decide) ?_
  refine ev_pI (f := 706) cl_X6 (k := 6) (by decide) fi_X6_6 rfl fl_X6_105 rfl rfl rfl dX6_start_32 c12 ?_
  replace HF := bd_n HF
  obtain ⟨h14, eh14, HF⟩ := HF
  refine ev_heap eh14 ?_
  have c15 : hK h14 t = 8 := by rw [eh14]; exact c12
  have c16 : hK h14 a1 = 5 := by rw [eh14]; exact c13
  refine ev_aload_n 0 dX6_start_35 rfl ?_
  refine ev_iconst (v := (-1)) dX6_start_36 (by decide) ?_
  show EvG _ _ _ _ _ _ _ _ _ _ _ 37 _ _ _
  refine ev_pI (f := 707) cl_X6 (k := 7) (by decide) fi_X6_7 rfl fl_X6_108 rfl rfl rfl dX6_start_37 c15 ?_
  replace HF := bd_n HF
  obtain ⟨h17, eh17, HF⟩ := HF
  refine ev_heap eh17 ?_
  have c18 : hK h17 t = 8 := by rw [eh17]; exact c15
  have c19 : hK h17 a1 = 5 := by rw [eh17]; exact c16
  refine ev_aload_n 0 dX6_start_40 rfl ?_
  refine ev_iconst (v := (-1)) dX6_start_41 (by decide) ?_
  refine ev_pI (f := 708) cl_X6 (k := 8) (by decide) fi_X6_8 rfl fl_X6_111 rfl rfl rfl dX6_start_42 c18 ?_
  replace HF := bd_n HF
  obtain ⟨h20, eh20, HF⟩ := HF
  refine ev_heap eh20 ?_
  have c21 : hK h20 t = 8 := by rw [eh20]; exact c18
  have c22 : hK h20 a1 = 5 := by rw [eh20]; exact c19
  refine ev_aload_n 0 dX6_start_45 rfl ?_
  refine ev_iconst (v := (-1)) dX6_start_46 (by decide) ?_
  refine ev_pI (f := 709) cl_X6 (k := 9) (by decide) fi_X6_9 rfl fl_X6_114 rfl rfl rfl dX6_start_47 c21 ?_
  replace HF := bd_n HF
  obtain ⟨h23, eh23, HF⟩ := HF
  refine ev_heap eh23 ?_
  have c24 : hK h23 t = 8 := by rw [eh23]; exact c21
  have c25 : hK h23 a1 = 5 := by rw [eh23]; exact c22
  refine ev_iconst (v := 0) dX6_start_50 (by decide) ?_
  show EvG _ _ _ _ _ _ _ _ _ _ _ 51 _ _ _
  refine ev_istore_n (lv' := [(2, .int 0), (0, .ref t), (1, .ref a1)]) dX6_start_51 (by decide) (rfl) ?_
  exact Ev.sub [1, 2, 0] rfl (lk_X6_start_52 hdd  fu t a1 0 _ HF)

set_option maxRecDepth 20000 in
theorem lk_X6_ruleOfTurn_19 {g : aG} {l : Launch} {d : Nat} {h0 : aH} (hdd : 1 ≤ d) {r : Int32 × aH} (t : Nat) (x1 : Int32) (h : aH) (HF : F_X6_ruleOfTurn_19  t x1 h = some r) : Ev g l cX6_ruleOfTurn 2 yX6_ruleOfTurn (some .int) d h0 (some (.int r.1), r.2) 19 [(0, .ref t), (1, .int x1)] [] h := by
  unfold F_X6_ruleOfTurn_19 at HF
  refine ev_aload_n 0 dX6_ruleOfTurn_19 rfl ?_
  replace HF := bind_ck HF
  obtain ⟨c1, HF⟩ := HF
  refine ev_gI (f := 705) cl_X6 (k := 5) (by decide) fi_X6_5 rfl fl_X6_90 dX6_ruleOfTurn_20 c1 ?_
  by_cases c2 : hF h 705 t = 0
  · replace HF := ite_T c2 HF
    refine ev_if_neF (tgt := 34) dX6_ruleOfTurn_23 (by decide) c2 ?_
    refine ev_iload_n 1 dX6_ruleOfTurn_26 rfl ?_
    refine ev_aload_n 0 dX6_ruleOfTurn_27 rfl ?_
    refine ev_gI (f := 703) cl_X6 (k := 3) (by decide) fi_X6_3 rfl fl_X6_93 dX6_ruleOfTurn_28 c1 ?_
    by_cases c3 : x1 ≤ hF h 703 t
    · replace HF := ite_T c3 HF
      refine ev_icmp_leT (tgt := 38) dX6_ruleOfTurn_31 (by decide) c3 ?_
      refine ev_iconst (v := 0) dX6_ruleOfTurn_38 (by decide) ?_
      obtain rfl := Option.some.inj HF
      exact ev_iret dX6_ruleOfTurn_39
    · replace HF := ite_F c3 HF
      refine ev_icmp_leF (tgt := 38) dX6_ruleOfTurn_31 (by decide) c3 ?_
      refine ev_iconst (v := 2) dX6_ruleOfTurn_34 (by decide) ?_
      refine ev_goto (tgt := 39) dX6_ruleOfTurn_35 (by decide) ?_
      obtain rfl := Option.some.inj HF
      exact ev_iret dX6_ruleOfTurn_39
  · replace HF := ite_F c2 HF
    refine ev_if_neT (tgt := 34) dX6_ruleOfTurn_23 (by decide) c2 ?_
    refine ev_iconst (v := 2) dX6_ruleOfTurn_34 (by decide) ?_
    refine ev_goto (tgt := 39) dX6_ruleOfTurn_35 (by decide) ?_
    obtain rfl := Option.some.inj HF
    exact ev_iret dX6_ruleOfTurn_39

set_option maxRecDepth 20000 in
theorem lk_X6_ruleOfTurn {g : aG} {l : Launch} {d : Nat} (hdd : 1 ≤ d) {t : Nat} {x1 : Int32} {h : aH} {r : Int32 × aH} (hT : hK h t = 8) (HF : F_X6_ruleOfTurn t x1 h = some r) : MA g l yX6_ruleOfTurn cX6_ruleOfTurn 2 (some .int) d [.ref t, .int x1] h (some (.int r.1), r.2) := by
  refine MA.of (lv0 := [(0, .ref t), (1, .int x1)]) (by decide +kernel) (rfl) (Nat.le_of_ble_eq_true rfl) ?_
  unfold F_X6_ruleOfTurn at HF
  refine ev_iload_n 1 dX6_ruleOfTurn_0 rfl ?_
  by_cases c1 : x1 ≤ 0
  · replace HF := ite_T c1 HF
    refine ev_if_leT (tgt := 19) dX6_ruleOfTurn_1 (by decide) c1 ?_
    exact Ev.sub [0, 1] rfl (lk_X6_ruleOfTurn_19 hdd  t x1 _ HF)
  · replace HF := ite_F c1 HF
    refine ev_if_leF (tgt := 19) dX6_ruleOfTurn_1 (by decide) c1 ?_
    refine ev_aload_n 0 dX6_ruleOfTurn_4 rfl ?_
    refine ev_iload_n 1 dX6_ruleOfTurn_5 rfl ?_
    refine ev_iconst (v := 1) dX6_ruleOfTurn_6 (by decide) ?_
    refine ev_isub dX6_ruleOfTurn_7 ?_
    replace HF := bind_o HF
    obtain ⟨⟨o4, h3⟩, e2, HF⟩ := HF
    replace HF := bd_o (bd_o HF)
    dsimp only at HF
    refine ev_callV (As := [.int (x1 - 1)]) (R1 := (some (va_rf o4), h3)) (lk_X6_tallyAt (d := 0) (Nat.le_refl _) hT e2) ce_X6_tallyAt im_X6_tallyAt sl_X6_tallyAt ml_X6_63 cl_X6 hT dX6_ruleOfTurn_8 (by omega) (Nat.le_of_ble_eq_true rfl) rfl rfl ?_
    show EvG _ _ _ _ _ _ _ _ _ _ _ 11 [(0, .ref t), (1, .int x1)] [va_rf o4] h3
    replace HF := bind_o HF
    obtain ⟨b6, e7, HF⟩ := HF
    subst e7
    replace HF := bind_ck HF
    obtain ⟨c8, HF⟩ := HF
    refine ev_gIN (f := 1010) cl_X9 (k := 10) (by decide) fi_X9_10 rfl fl_X6_87 dX6_ruleOfTurn_11 c8 ?_
    by_cases c9 : hF h3 1010 b6 = 0
    · replace HF := ite_T c9 HF
      refine ev_if_neF (tgt := 19) dX6_ruleOfTurn_14 (by decide) c9 ?_
      refine ev_iconst (v := 1) dX6_ruleOfTurn_17 (by decide) ?_
      obtain rfl := Option.some.inj HF
      exact ev_iret dX6_ruleOfTurn_18
    · replace HF := ite_F c9 HF
      refine ev_if_neT (tgt := 19) dX6_ruleOfTurn_14 (by decide) c9 ?_
      exact Ev.sub [0, 1] rfl (lk_X6_ruleOfTurn_19 hdd  t x1 _ HF)

set_option maxRecDepth 20000 in
theorem lk_X6_stops {g : aG} {l : Launch} {d : Nat} (hdd : 0 ≤ d) {t : Nat} {x1 : Int32} {x2 : Int32} {x3 : Int32} {x4 : Int32} {h : aH} {r : Int32 × aH} (hT : hK h t = 8) (HF : F_X6_stops t x1 x2 x3 x4 h = some r) : MA g l yX6_stops cX6_stops 5 (some .boolean) d [.ref t, .int x1, .int x2, .int x3, .int x4] h (some (.int r.1), r.2) := by
  refine MA.of (lv0 := [(0, .ref t), (1, .int x1), (2, .int x2), (3, .int x3), (4, .int x4)]) (by decide +kernel) (rfl) (Nat.le_of_ble_eq_true rfl) ?_
  unfold F_X6_stops at HF
  refine ev_iload_n 1 dX6_stops_0 rfl ?_
  by_cases c1 : x1 = 0
  · replace HF := ite_T c1 HF
    refine ev_if_neF (tgt := 6) dX6_stops_1 (by decide) c1 ?_
    refine ev_iconst (v := 0) dX6_stops_4 (by decide) ?_
    obtain rfl := Option.some.inj HF
    exact ev_zret (v := 0) narrow_b0 dX6_stops_5
  · replace HF := ite_F c1 HF
    refine ev_if_neT (tgt := 6) dX6_stops_1 (by decide) c1 ?_
    refine ev_aload_n 0 dX6_stops_6 rfl ?_
    refine ev_iload_n 1 dX6_stops_7 rfl ?_
    refine ev_pI (f := 706) cl_X6 (k := 6) (by decide) fi_X6_6 rfl fl_X6_105 rfl rfl rfl dX6_stops_8 hT ?_
    replace HF := bd_n HF
    obtain ⟨h2, eh2, HF⟩ := HF
    refine ev_heap eh2 ?_
    have c3 : hK h2 t = 8 := by rw [eh2]; exact hT
    refine ev_aload_n 0 dX6_stops_11 rfl ?_
    refine ev_iload_n 2 dX6_stops_12 rfl ?_
    refine ev_pI (f := 707) cl_X6 (k := 7) (by decide) fi_X6_7 rfl fl_X6_108 rfl rfl rfl dX6_stops_13 c3 ?_
    replace HF := bd_n HF
    obtain ⟨h4, eh4, HF⟩ := HF
    refine ev_heap eh4 ?_
    have c5 : hK h4 t = 8 := by rw [eh4]; exact c3
    refine ev_aload_n 0 dX6_stops_16 rfl ?_
    show EvG _ _ _ _ _ _ _ _ _ _ _ 17 _ _ _
    refine ev_iload_n 3 dX6_stops_17 rfl ?_
    refine ev_pI (f := 708) cl_X6 (k := 8) (by decide) fi_X6_8 rfl fl_X6_111 rfl rfl rfl dX6_stops_18 c5 ?_
    replace HF := bd_n HF
    obtain ⟨h6, eh6, HF⟩ := HF
    refine ev_heap eh6 ?_
    have c7 : hK h6 t = 8 := by rw [eh6]; exact c5
    refine ev_aload_n 0 dX6_stops_21 rfl ?_
    refine ev_iload 4 dX6_stops_22 rfl ?_
    refine ev_pI (f := 709) cl_X6 (k := 9) (by decide) fi_X6_9 rfl fl_X6_114 rfl rfl rfl dX6_stops_24 c7 ?_
    replace HF := bd_n HF
    obtain ⟨h8, eh8, HF⟩ := HF
    refine ev_heap eh8 ?_
    have c9 : hK h8 t = 8 := by rw [eh8]; exact c7
    refine ev_iconst (v := 1) dX6_stops_27 (by decide) ?_
    obtain rfl := Option.some.inj HF
    exact ev_zret (v := 1) narrow_b1 dX6_stops_28

set_option maxRecDepth 20000 in
theorem lk_X11_table {g : aG} {l : Launch} {d : Nat} (hdd : 0 ≤ d) {x0 : Int32} {x1 : Int32} {h : aH} {r : Int32 × aH} (HF : F_X11_table x0 x1 h = some r) : MA g l yX11_table cX11_table 2 (some .int) d [.int x0, .int x1] h (some (.int r.1), r.2) := by
  refine MA.of (lv0 := [(0, .int x0), (1, .int x1)]) (by decide +kernel) (rfl) (Nat.le_of_ble_eq_true rfl) ?_
  unfold F_X11_table at HF
  refine ev_ldc2 kc_X11_372 dX11_table_0 ?_
  refine ev_bipush (v := 100) dX11_table_3 (by decide) ?_
  refine ev_iload_n 1 dX11_table_5 rfl ?_
  refine ev_iload_n 1 dX11_table_6 rfl ?_
  refine ev_imul dX11_table_7 ?_
  refine ev_isub dX11_table_8 ?_
  refine ev_i2l dX11_table_9 ?_
  show EvG _ _ _ _ _ _ _ _ _ _ _ 10 _ _ _
  refine ev_lmul dX11_table_10 ?_
  refine ev_iload_n 0 dX11_table_11 rfl ?_
  refine ev_i2l dX11_table_12 ?_
  refine ev_lmul dX11_table_13 ?_
  refine ev_sipush (v := 1440) dX11_table_14 (by decide) ?_
  refine ev_iload_n 0 dX11_table_17 rfl ?_
  refine ev_isub dX11_table_18 ?_
  refine ev_i2l dX11_table_19 ?_
  show EvG _ _ _ _ _ _ _ _ _ _ _ 20 _ _ _
  refine ev_lmul dX11_table_20 ?_
  refine ev_ldc2 kc_X11_374 dX11_table_21 ?_
  refine ev_ldiv dX11_table_24 (by decide) ?_
  refine ev_l2i dX11_table_25 ?_
  obtain rfl := Option.some.inj HF
  exact ev_iret dX11_table_26

set_option maxRecDepth 20000 in
theorem lk_X9_begin {g : aG} {l : Launch} {d : Nat} (hdd : 2 ≤ d) {t : Nat} {x1 : Int32} {h : aH} {r : aH} (hT : hK h t = 11) (HF : F_X9_begin t x1 h = some r) : MA g l yX9_begin cX9_begin 2 (none) d [.ref t, .int x1] h (none, r) := by
  refine MA.of (lv0 := [(0, .ref t), (1, .int x1)]) (by decide +kernel) (rfl) (Nat.le_of_ble_eq_true rfl) ?_
  unfold F_X9_begin at HF
  refine ev_aload_n 0 dX9_begin_0 rfl ?_
  refine ev_iconst (v := 1) dX9_begin_1 (by decide) ?_
  refine ev_pI (f := 1003) cl_X9 (k := 3) (by decide) fi_X9_3 rfl fl_X9_26 rfl rfl rfl dX9_begin_2 hT ?_
  replace HF := bd_n HF
  obtain ⟨h1, eh1, HF⟩ := HF
  refine ev_heap eh1 ?_
  have c2 : hK h1 t = 11 := by rw [eh1]; exact hT
  refine ev_aload_n 0 dX9_begin_5 rfl ?_
  refine ev_iload_n 1 dX9_begin_6 rfl ?_
  refine ev_pI (f := 1008) cl_X9 (k := 8) (by decide) fi_X9_8 rfl fl_X9_56 rfl rfl rfl dX9_begin_7 c2 ?_
  replace HF := bd_n HF
  obtain ⟨h3, eh3, HF⟩ := HF
  refine ev_heap eh3 ?_
  have c4 : hK h3 t = 11 := by rw [eh3]; exact c2
  refine ev_aload_n 0 dX9_begin_10 rfl ?_
  show EvG _ _ _ _ _ _ _ _ _ _ _ 11 _ _ _
  refine ev_bipush (v := 6) dX9_begin_11 (by decide) ?_
  refine ev_aload_n 0 dX9_begin_13 rfl ?_
  refine ev_gI (f := 1008) cl_X9 (k := 8) (by decide) fi_X9_8 rfl fl_X9_56 dX9_begin_14 c4 ?_
  refine ev_imul dX9_begin_17 ?_
  refine ev_iconst (v := 0) dX9_begin_18 (by decide) ?_
  replace HF := bind_o HF
  obtain ⟨⟨z7, h6⟩, e5, HF⟩ := HF
  replace HF := bd_o (bd_o HF)
  dsimp only at HF
  refine ev_callSN (As := [.int (6 * (hF h3 1008 t)), .int 0]) (R1 := (some (.int z7), h6)) (lk_X11_table (d := 0) (Nat.le_refl _) e5) ce_X11_table st_X11_table ml_X9_80 dX9_begin_19 (by omega) (Nat.le_of_ble_eq_true rfl) rfl rfl ?_
  show EvG _ _ _ _ _ _ _ _ _ _ _ 22 [(0, .ref t), (1, .int x1)] [.int z7, .ref t] h6
  replace HF := bind_ck HF
  obtain ⟨c9, HF⟩ := HF
  refine ev_pI (f := 1009) cl_X9 (k := 9) (by decide) fi_X9_9 rfl fl_X9_59 rfl rfl rfl dX9_begin_22 c9 ?_
  replace HF := bd_n HF
  obtain ⟨h10, eh10, HF⟩ := HF
  refine ev_heap eh10 ?_
  have c11 : hK h10 t = 11 := by rw [eh10]; exact c9
  refine ev_aload_n 0 dX9_begin_25 rfl ?_
  show EvG _ _ _ _ _ _ _ _ _ _ _ 26 _ _ _
  refine ev_iconst (v := 0) dX9_begin_26 (by decide) ?_
  refine ev_pI (f := 1016) cl_X9 (k := 16) (by decide) fi_X9_16 rfl fl_X9_34 rfl rfl rfl dX9_begin_27 c11 ?_
  replace HF := bd_n HF
  obtain ⟨h12, eh12, HF⟩ := HF
  refine ev_heap eh12 ?_
  have c13 : hK h12 t = 11 := by rw [eh12]; exact c11
  refine ev_aload_n 0 dX9_begin_30 rfl ?_
  refine ev_iconst (v := 1) dX9_begin_31 (by decide) ?_
  refine ev_pI (f := 1017) cl_X9 (k := 17) (by decide) fi_X9_17 rfl fl_X9_37 rfl rfl rfl dX9_begin_32 c13 ?_
  replace HF := bd_n HF
  obtain ⟨h14, eh14, HF⟩ := HF
  refine ev_heap eh14 ?_
  have c15 : hK h14 t = 11 := by rw [eh14]; exact c13
  refine ev_aload_n 0 dX9_begin_35 rfl ?_
  refine ev_iconst (v := 2) dX9_begin_36 (by decide) ?_
  refine ev_pI (f := 1018) cl_X9 (k := 18) (by decide) fi_X9_18 rfl fl_X9_77 rfl rfl rfl dX9_begin_37 c15 ?_
  replace HF := bd_n HF
  obtain ⟨h16, eh16, HF⟩ := HF
  refine ev_heap eh16 ?_
  have c17 : hK h16 t = 11 := by rw [eh16]; exact c15
  show EvG _ _ _ _ _ _ _ _ _ _ _ 40 _ _ _
  refine ev_aload_n 0 dX9_begin_40 rfl ?_
  replace HF := bind_o HF
  obtain ⟨b18, e19, HF⟩ := HF
  refine ev_gS (f := 1000) cl_X9 (k := 0) (by decide) fi_X9_0 rfl fl_X9_14 dX9_begin_41 c17 e19 ?_
  refine ev_aload_n 0 dX9_begin_44 rfl ?_
  refine ev_gI (f := 1016) cl_X9 (k := 16) (by decide) fi_X9_16 rfl fl_X9_34 dX9_begin_45 c17 ?_
  refine ev_iconst (v := 2) dX9_begin_48 (by decide) ?_
  refine ev_iconst (v := 1) dX9_begin_49 (by decide) ?_
  replace HF := bind_ck HF
  obtain ⟨c20, HF⟩ := HF
  replace HF := bind_o HF
  obtain ⟨h22, e21, HF⟩ := HF
  refine ev_callV (As := [.int (hF h16 1016 t), .int 2, .int 1]) (R1 := (none, h22)) (lk_X4_set (d := 1) (Nat.le_refl _) c20 e21) ce_X4_set im_X4_set sl_X4_set ml_X9_84 cl_X4 c20 dX9_begin_50 (by omega) (Nat.le_of_ble_eq_true rfl) rfl rfl ?_
  show EvG _ _ _ _ _ _ _ _ _ _ _ 53 [(0, .ref t), (1, .int x1)] [] h22
  refine ev_aload_n 0 dX9_begin_53 rfl ?_
  show EvG _ _ _ _ _ _ _ _ _ _ _ 54 _ _ _
  replace HF := bind_ck HF
  obtain ⟨c24, HF⟩ := HF
  replace HF := bind_o HF
  obtain ⟨b25, e26, HF⟩ := HF
  refine ev_gS (f := 1000) cl_X9 (k := 0) (by decide) fi_X9_0 rfl fl_X9_14 dX9_begin_54 c24 e26 ?_
  refine ev_aload_n 0 dX9_begin_57 rfl ?_
  refine ev_gI (f := 1017) cl_X9 (k := 17) (by decide) fi_X9_17 rfl fl_X9_37 dX9_begin_58 c24 ?_
  refine ev_iconst (v := 2) dX9_begin_61 (by decide) ?_
  refine ev_iconst (v := 1) dX9_begin_62 (by decide) ?_
  replace HF := bind_ck HF
  obtain ⟨c27, HF⟩ := HF
  replace HF := bind_o HF
  obtain ⟨h29, e28, HF⟩ := HF
  refine ev_callV (As := [.int (hF h22 1017 t), .int 2, .int 1]) (R1 := (none, h29)) (lk_X4_set (d := 1) (Nat.le_refl _) c27 e28) ce_X4_set im_X4_set sl_X4_set ml_X9_84 cl_X4 c27 dX9_begin_63 (by omega) (Nat.le_of_ble_eq_true rfl) rfl rfl ?_
  show EvG _ _ _ _ _ _ _ _ _ _ _ 66 [(0, .ref t), (1, .int x1)] [] h29
  obtain rfl := Option.some.inj HF
  exact ev_vret dX9_begin_66

set_option maxRecDepth 20000 in
theorem lk_X6_beginTurn_23 {g : aG} {l : Launch} {d : Nat} {h0 : aH} (hdd : 3 ≤ d) {r : aH} (t : Nat) (x1 : Int32) (y0 : Int32) (h : aH) (HF : F_X6_beginTurn_23  t x1 y0 h = some r) : Ev g l cX6_beginTurn 3 yX6_beginTurn (none) d h0 (none, r) 23 [(0, .ref t), (1, .int x1)] [.int y0] h := by
  unfold F_X6_beginTurn_23 at HF
  refine ev_istore_n (lv' := [(2, .int y0), (0, .ref t), (1, .int x1)]) dX6_beginTurn_23 (by decide) (rfl) ?_
  refine ev_aload_n 1 dX6_beginTurn_24 rfl ?_
  refine ev_iload_n 2 dX6_beginTurn_25 rfl ?_
  replace HF := bind_ck HF
  obtain ⟨c1, HF⟩ := HF
  replace HF := bind_o HF
  obtain ⟨⟨o4, h3⟩, e2, HF⟩ := HF
  replace HF := bd_o (bd_o HF)
  dsimp only at HF
  refine ev_callV (As := [.int x1]) (R1 := (some (va_rf o4), h3)) (lk_X6_tallyAt (d := 0) (Nat.le_refl _) c1 e2) ce_X6_tallyAt im_X6_tallyAt sl_X6_tallyAt ml_X6_63 cl_X6 c1 dX6_beginTurn_26 (by omega) (Nat.le_of_ble_eq_true rfl) rfl rfl ?_
  show EvG _ _ _ _ _ _ _ _ _ _ _ 29 [(2, .int y0), (0, .ref t), (1, .int x1)] [va_rf o4] h3
  refine ev_iload_n 0 dX6_beginTurn_29 rfl ?_
  by_cases c6 : y0 = 0
  · replace HF := ite_T c6 HF
    refine ev_if_eqT (tgt := 44) dX6_beginTurn_30 (by decide) c6 ?_
    refine ev_aload_n 1 dX6_beginTurn_44 rfl ?_
    replace HF := bind_ck HF
    obtain ⟨c7, HF⟩ := HF
    refine ev_gI (f := 702) cl_X6 (k := 2) (by decide) fi_X6_2 rfl fl_X6_96 dX6_beginTurn_45 c7 ?_
    replace HF := bind_o HF
    obtain ⟨b8, e9, HF⟩ := HF
    subst e9
    replace HF := bind_ck HF
    obtain ⟨c10, HF⟩ := HF
    replace HF := bind_o HF
    obtain ⟨h12, e11, HF⟩ := HF
    refine ev_callV (As := [.int (hF h3 702 t)]) (R1 := (none, h12)) (lk_X9_begin (d := 2) (Nat.le_refl _) c10 e11) ce_X9_begin im_X9_begin sl_X9_begin ml_X6_161 cl_X9 c10 dX6_beginTurn_48 (by omega) (Nat.le_of_ble_eq_true rfl) rfl rfl ?_
    show EvG _ _ _ _ _ _ _ _ _ _ _ 51 [(2, .int y0), (0, .ref t), (1, .int x1)] [] h12
    obtain rfl := Option.some.inj HF
    exact ev_vret dX6_beginTurn_51
  · replace HF := ite_F c6 HF
    refine ev_if_eqF (tgt := 44) dX6_beginTurn_30 (by decide) c6 ?_
    refine ev_aload_n 1 dX6_beginTurn_33 rfl ?_
    refine ev_iconst (v := 0) dX6_beginTurn_34 (by decide) ?_
    replace HF := bind_ck HF
    obtain ⟨c14, HF⟩ := HF
    replace HF := bind_o HF
    obtain ⟨⟨o17, h16⟩, e15, HF⟩ := HF
    replace HF := bd_o (bd_o HF)
    dsimp only at HF
    refine ev_callV (As := [.int 0]) (R1 := (some (va_rf o17), h16)) (lk_X6_tallyAt (d := 0) (Nat.le_refl _) c14 e15) ce_X6_tallyAt im_X6_tallyAt sl_X6_tallyAt ml_X6_63 cl_X6 c14 dX6_beginTurn_35 (by omega) (by cases o4 <;> exact Nat.le_of_ble_eq_true rfl) rfl rfl ?_
    show EvG _ _ _ _ _ _ _ _ _ _ _ 38 [(2, .int y0), (0, .ref t), (1, .int x1)] [va_rf o17, va_rf o4] h16
    replace HF := bind_o HF
    obtain ⟨b19, e20, HF⟩ := HF
    subst e20
    replace HF := bind_ck HF
    obtain ⟨c21, HF⟩ := HF
    refine ev_gIN (f := 1008) cl_X9 (k := 8) (by decide) fi_X9_8 rfl fl_X6_158 dX6_beginTurn_38 c21 ?_
    refine ev_goto (tgt := 48) dX6_beginTurn_41 (by decide) ?_
    replace HF := bind_o HF
    obtain ⟨b22, e23, HF⟩ := HF
    subst e23
    replace HF := bind_ck HF
    obtain ⟨c24, HF⟩ := HF
    replace HF := bind_o HF
    obtain ⟨h26, e25, HF⟩ := HF
    refine ev_callV (As := [.int (hF h16 1008 b19)]) (R1 := (none, h26)) (lk_X9_begin (d := 2) (Nat.le_refl _) c24 e25) ce_X9_begin im_X9_begin sl_X9_begin ml_X6_161 cl_X9 c24 dX6_beginTurn_48 (by omega) (Nat.le_of_ble_eq_true rfl) rfl rfl ?_
    show EvG _ _ _ _ _ _ _ _ _ _ _ 51 [(2, .int y0), (0, .ref t), (1, .int x1)] [] h26
    obtain rfl := Option.some.inj HF
    exact ev_vret dX6_beginTurn_51

set_option maxRecDepth 20000 in
theorem lk_X6_beginTurn_22 {g : aG} {l : Launch} {d : Nat} {h0 : aH} (hdd : 3 ≤ d) {r : aH} (t : Nat) (x1 : Int32) (h : aH) (HF : F_X6_beginTurn_22  t x1 h = some r) : Ev g l cX6_beginTurn 3 yX6_beginTurn (none) d h0 (none, r) 22 [(0, .ref t), (1, .int x1)] [] h := by
  unfold F_X6_beginTurn_22 at HF
  refine ev_iconst (v := 0) dX6_beginTurn_22 (by decide) ?_
  exact Ev.sub [0, 1] rfl (lk_X6_beginTurn_23 hdd  t x1 0 _ HF)

set_option maxRecDepth 20000 in
theorem lk_X6_beginTurn {g : aG} {l : Launch} {d : Nat} (hdd : 3 ≤ d) {t : Nat} {x1 : Int32} {h : aH} {r : aH} (hT : hK h t = 8) (HF : F_X6_beginTurn t x1 h = some r) : MA g l yX6_beginTurn cX6_beginTurn 3 (none) d [.ref t, .int x1] h (none, r) := by
  refine MA.of (lv0 := [(0, .ref t), (1, .int x1)]) (by decide +kernel) (rfl) (Nat.le_of_ble_eq_true rfl) ?_
  unfold F_X6_beginTurn at HF
  refine ev_aload_n 0 dX6_beginTurn_0 rfl ?_
  refine ev_iload_n 1 dX6_beginTurn_1 rfl ?_
  refine ev_pI (f := 704) cl_X6 (k := 4) (by decide) fi_X6_4 rfl fl_X6_22 rfl rfl rfl dX6_beginTurn_2 hT ?_
  replace HF := bd_n HF
  obtain ⟨h1, eh1, HF⟩ := HF
  refine ev_heap eh1 ?_
  have c2 : hK h1 t = 8 := by rw [eh1]; exact hT
  refine ev_iload_n 1 dX6_beginTurn_5 rfl ?_
  refine ev_iconst (v := 1) dX6_beginTurn_6 (by decide) ?_
  by_cases c3 : x1 = 1
  · replace HF := ite_T c3 HF
    refine ev_icmp_neF (tgt := 22) dX6_beginTurn_7 (by decide) c3 ?_
    refine ev_aload_n 0 dX6_beginTurn_10 rfl ?_
    refine ev_gI (f := 703) cl_X6 (k := 3) (by decide) fi_X6_3 rfl fl_X6_93 dX6_beginTurn_11 c2 ?_
    refine ev_iconst (v := 1) dX6_beginTurn_14 (by decide) ?_
    by_cases c4 : hF h1 703 t = 1
    · replace HF := ite_T c4 HF
      refine ev_icmp_neF (tgt := 22) dX6_beginTurn_15 (by decide) c4 ?_
      refine ev_iconst (v := 1) dX6_beginTurn_18 (by decide) ?_
      refine ev_goto (tgt := 23) dX6_beginTurn_19 (by decide) ?_
      exact Ev.sub [0, 1] rfl (lk_X6_beginTurn_23 hdd  t x1 1 _ HF)
    · replace HF := ite_F c4 HF
      refine ev_icmp_neT (tgt := 22) dX6_beginTurn_15 (by decide) c4 ?_
      exact Ev.sub [0, 1] rfl (lk_X6_beginTurn_22 hdd  t x1 _ HF)
  · replace HF := ite_F c3 HF
    refine ev_icmp_neT (tgt := 22) dX6_beginTurn_7 (by decide) c3 ?_
    exact Ev.sub [0, 1] rfl (lk_X6_beginTurn_22 hdd  t x1 _ HF)

set_option maxRecDepth 20000 in
theorem lk_X9_ruleOfOver {g : aG} {l : Launch} {d : Nat} (hdd : 2 ≤ d) {t : Nat} {x1 : Int32} {x2 : Int32} {h : aH} {r : Int32 × aH} (hT : hK h t = 11) (HF : F_X9_ruleOfOver t x1 x2 h = some r) : MA g l yX9_ruleOfOver cX9_ruleOfOver 3 (some .int) d [.ref t, .int x1, .int x2] h (some (.int r.1), r.2) := by
  refine MA.of (lv0 := [(0, .ref t), (1, .int x1), (2, .int x2)]) (by decide +kernel) (rfl) (Nat.le_of_ble_eq_true rfl) ?_
  unfold F_X9_ruleOfOver at HF
  refine ev_aload_n 0 dX9_ruleOfOver_0 rfl ?_
  refine ev_gI (f := 1010) cl_X9 (k := 10) (by decide) fi_X9_10 rfl fl_X9_62 dX9_ruleOfOver_1 hT ?_
  by_cases c1 : hF h 1010 t = 0
  · replace HF := ite_T c1 HF
    refine ev_if_neF (tgt := 18) dX9_ruleOfOver_4 (by decide) c1 ?_
    refine ev_aload_n 0 dX9_ruleOfOver_7 rfl ?_
    refine ev_gI (f := 1011) cl_X9 (k := 11) (by decide) fi_X9_11 rfl fl_X9_65 dX9_ruleOfOver_8 hT ?_
    refine ev_aload_n 0 dX9_ruleOfOver_11 rfl ?_
    refine ev_gI (f := 1008) cl_X9 (k := 8) (by decide) fi_X9_8 rfl fl_X9_56 dX9_ruleOfOver_12 hT ?_
    by_cases c2 : hF h 1011 t < hF h 1008 t
    · replace HF := ite_T c2 HF
      refine ev_icmp_ltT (tgt := 20) dX9_ruleOfOver_15 (by decide) c2 ?_
      refine ev_iload_n 1 dX9_ruleOfOver_20 rfl ?_
      by_cases c3 : x1 < 0
      · replace HF := ite_T c3 HF
        refine ev_if_ltT (tgt := 30) dX9_ruleOfOver_21 (by decide) c3 ?_
        refine ev_iconst (v := 4) dX9_ruleOfOver_30 (by decide) ?_
        obtain rfl := Option.some.inj HF
        exact ev_iret dX9_ruleOfOver_31
      · replace HF := ite_F c3 HF
        refine ev_if_ltF (tgt := 30) dX9_ruleOfOver_21 (by decide) c3 ?_
        refine ev_iload_n 1 dX9_ruleOfOver_24 rfl ?_
        refine ev_bipush (v := 11) dX9_ruleOfOver_25 (by decide) ?_
        by_cases c4 : x1 < 11
        · replace HF := ite_T c4 HF
          refine ev_icmp_ltT (tgt := 32) dX9_ruleOfOver_27 (by decide) c4 ?_
          refine ev_iload_n 1 dX9_ruleOfOver_32 rfl ?_
          refine ev_aload_n 0 dX9_ruleOfOver_33 rfl ?_
          refine ev_gI (f := 1015) cl_X9 (k := 15) (by decide) fi_X9_15 rfl fl_X9_30 dX9_ruleOfOver_34 hT ?_
          by_cases c5 : x1 = hF h 1015 t
          · replace HF := ite_T c5 HF
            refine ev_icmp_neF (tgt := 42) dX9_ruleOfOver_37 (by decide) c5 ?_
            refine ev_iconst (v := 5) dX9_ruleOfOver_40 (by decide) ?_
            obtain rfl := Option.some.inj HF
            exact ev_iret dX9_ruleOfOver_41
          · replace HF := ite_F c5 HF
            refine ev_icmp_neT (tgt := 42) dX9_ruleOfOver_37 (by decide) c5 ?_
            refine ev_aload_n 0 dX9_ruleOfOver_42 rfl ?_
            replace HF := bind_o HF
            obtain ⟨b6, e7, HF⟩ := HF
            refine ev_gS (f := 1001) cl_X9 (k := 1) (by decide) fi_X9_1 rfl fl_X9_20 dX9_ruleOfOver_43 hT e7 ?_
            refine ev_iload_n 1 dX9_ruleOfOver_46 rfl ?_
            refine ev_iconst (v := 0) dX9_ruleOfOver_47 (by decide) ?_
            replace HF := bind_ck HF
            obtain ⟨c8, HF⟩ := HF
            replace HF := bind_o HF
            obtain ⟨⟨z11, h10⟩, e9, HF⟩ := HF
            replace HF := bd_o (bd_o HF)
            dsimp only at HF
            refine ev_callV (As := [.int x1, .int 0]) (R1 := (some (.int z11), h10)) (lk_X4_at (d := 1) (Nat.le_refl _) c8 e9) ce_X4_at im_X4_at sl_X4_at ml_X9_88 cl_X4 c8 dX9_ruleOfOver_48 (by omega) (Nat.le_of_ble_eq_true rfl) rfl rfl ?_
            show EvG _ _ _ _ _ _ _ _ _ _ _ 51 [(0, .ref t), (1, .int x1), (2, .int x2)] [.int z11] h10
            refine ev_iload_n 2 dX9_ruleOfOver_51 rfl ?_
            by_cases c13 : z11 < x2
            · replace HF := ite_T c13 HF
              refine ev_icmp_ltT (tgt := 60) dX9_ruleOfOver_52 (by decide) c13 ?_
              refine ev_iconst (v := 0) dX9_ruleOfOver_60 (by decide) ?_
              obtain rfl := Option.some.inj HF
              exact ev_iret dX9_ruleOfOver_61
            · replace HF := ite_F c13 HF
              refine ev_icmp_ltF (tgt := 60) dX9_ruleOfOver_52 (by decide) c13 ?_
              refine ev_bipush (v := 6) dX9_ruleOfOver_55 (by decide) ?_
              refine ev_goto (tgt := 61) dX9_ruleOfOver_57 (by decide) ?_
              obtain rfl := Option.some.inj HF
              exact ev_iret dX9_ruleOfOver_61
        · replace HF := ite_F c4 HF
          refine ev_icmp_ltF (tgt := 32) dX9_ruleOfOver_27 (by decide) c4 ?_
          refine ev_iconst (v := 4) dX9_ruleOfOver_30 (by decide) ?_
          obtain rfl := Option.some.inj HF
          exact ev_iret dX9_ruleOfOver_31
    · replace HF := ite_F c2 HF
      refine ev_icmp_ltF (tgt := 20) dX9_ruleOfOver_15 (by decide) c2 ?_
      refine ev_iconst (v := 3) dX9_ruleOfOver_18 (by decide) ?_
      obtain rfl := Option.some.inj HF
      exact ev_iret dX9_ruleOfOver_19
  · replace HF := ite_F c1 HF
    refine ev_if_neT (tgt := 18) dX9_ruleOfOver_4 (by decide) c1 ?_
    refine ev_iconst (v := 3) dX9_ruleOfOver_18 (by decide) ?_
    obtain rfl := Option.some.inj HF
    exact ev_iret dX9_ruleOfOver_19

set_option maxRecDepth 20000 in
theorem lk_X6_ruleOfOver {g : aG} {l : Launch} {d : Nat} (hdd : 3 ≤ d) {t : Nat} {x1 : Int32} {h : aH} {r : Int32 × aH} (hT : hK h t = 8) (HF : F_X6_ruleOfOver t x1 h = some r) : MA g l yX6_ruleOfOver cX6_ruleOfOver 2 (some .int) d [.ref t, .int x1] h (some (.int r.1), r.2) := by
  refine MA.of (lv0 := [(0, .ref t), (1, .int x1)]) (by decide +kernel) (rfl) (Nat.le_of_ble_eq_true rfl) ?_
  unfold F_X6_ruleOfOver at HF
  refine ev_aload_n 0 dX6_ruleOfOver_0 rfl ?_
  refine ev_aload_n 0 dX6_ruleOfOver_1 rfl ?_
  refine ev_gI (f := 704) cl_X6 (k := 4) (by decide) fi_X6_4 rfl fl_X6_22 dX6_ruleOfOver_2 hT ?_
  replace HF := bind_o HF
  obtain ⟨⟨o3, h2⟩, e1, HF⟩ := HF
  replace HF := bd_o (bd_o HF)
  dsimp only at HF
  refine ev_callV (As := [.int (hF h 704 t)]) (R1 := (some (va_rf o3), h2)) (lk_X6_tallyAt (d := 0) (Nat.le_refl _) hT e1) ce_X6_tallyAt im_X6_tallyAt sl_X6_tallyAt ml_X6_63 cl_X6 hT dX6_ruleOfOver_5 (by omega) (Nat.le_of_ble_eq_true rfl) rfl rfl ?_
  show EvG _ _ _ _ _ _ _ _ _ _ _ 8 [(0, .ref t), (1, .int x1)] [va_rf o3] h2
  refine ev_iload_n 1 dX6_ruleOfOver_8 rfl ?_
  refine ev_aload_n 0 dX6_ruleOfOver_9 rfl ?_
  replace HF := bind_ck HF
  obtain ⟨c5, HF⟩ := HF
  refine ev_gI (f := 702) cl_X6 (k := 2) (by decide) fi_X6_2 rfl fl_X6_96 dX6_ruleOfOver_10 c5 ?_
  show EvG _ _ _ _ _ _ _ _ _ _ _ 13 _ _ _
  refine ev_iconst (v := 4) dX6_ruleOfOver_13 (by decide) ?_
  refine ev_iadd dX6_ruleOfOver_14 ?_
  refine ev_iconst (v := 5) dX6_ruleOfOver_15 (by decide) ?_
  refine ev_idiv dX6_ruleOfOver_16 (by decide) ?_
  replace HF := bind_o HF
  obtain ⟨b6, e7, HF⟩ := HF
  subst e7
  replace HF := bind_ck HF
  obtain ⟨c8, HF⟩ := HF
  replace HF := bind_o HF
  obtain ⟨⟨z11, h10⟩, e9, HF⟩ := HF
  replace HF := bd_o (bd_o HF)
  dsimp only at HF
  refine ev_callV (As := [.int x1, .int (((hF h2 702 t) + 4) / 5)]) (R1 := (some (.int z11), h10)) (lk_X9_ruleOfOver (d := 2) (Nat.le_refl _) c8 e9) ce_X9_ruleOfOver im_X9_ruleOfOver sl_X9_ruleOfOver ml_X6_99 cl_X9 c8 dX6_ruleOfOver_17 (by omega) (Nat.le_of_ble_eq_true rfl) rfl rfl ?_
  show EvG _ _ _ _ _ _ _ _ _ _ _ 20 [(0, .ref t), (1, .int x1)] [.int z11] h10
  obtain rfl := Option.some.inj HF
  exact ev_iret dX6_ruleOfOver_20

set_option maxRecDepth 20000 in
theorem lk_X9_changeEnds {g : aG} {l : Launch} {d : Nat} (hdd : 0 ≤ d) {t : Nat} {h : aH} {r : aH} (hT : hK h t = 11) (HF : F_X9_changeEnds t h = some r) : MA g l yX9_changeEnds cX9_changeEnds 2 (none) d [.ref t] h (none, r) := by
  refine MA.of (lv0 := [(0, .ref t)]) (by decide +kernel) (rfl) (Nat.le_of_ble_eq_true rfl) ?_
  unfold F_X9_changeEnds at HF
  refine ev_aload_n 0 dX9_changeEnds_0 rfl ?_
  refine ev_gI (f := 1016) cl_X9 (k := 16) (by decide) fi_X9_16 rfl fl_X9_34 dX9_changeEnds_1 hT ?_
  replace HF := bd_n HF
  obtain ⟨v1, ev1, HF⟩ := HF
  refine ev_topI ev1 ?_
  refine ev_istore_n (lv' := [(1, .int v1), (0, .ref t)]) dX9_changeEnds_4 (by decide) (rfl) ?_
  refine ev_aload_n 1 dX9_changeEnds_5 rfl ?_
  refine ev_aload_n 1 dX9_changeEnds_6 rfl ?_
  refine ev_gI (f := 1017) cl_X9 (k := 17) (by decide) fi_X9_17 rfl fl_X9_37 dX9_changeEnds_7 hT ?_
  refine ev_pI (f := 1016) cl_X9 (k := 16) (by decide) fi_X9_16 rfl fl_X9_34 rfl rfl rfl dX9_changeEnds_10 hT ?_
  replace HF := bd_n HF
  obtain ⟨h2, eh2, HF⟩ := HF
  refine ev_heap eh2 ?_
  have c3 : hK h2 t = 11 := by rw [eh2]; exact hT
  show EvG _ _ _ _ _ _ _ _ _ _ _ 13 _ _ _
  refine ev_aload_n 1 dX9_changeEnds_13 rfl ?_
  refine ev_iload_n 0 dX9_changeEnds_14 rfl ?_
  refine ev_pI (f := 1017) cl_X9 (k := 17) (by decide) fi_X9_17 rfl fl_X9_37 rfl rfl rfl dX9_changeEnds_15 c3 ?_
  replace HF := bd_n HF
  obtain ⟨h4, eh4, HF⟩ := HF
  refine ev_heap eh4 ?_
  have c5 : hK h4 t = 11 := by rw [eh4]; exact c3
  obtain rfl := Option.some.inj HF
  exact ev_vret dX9_changeEnds_18

set_option maxRecDepth 20000 in
theorem lk_X9_endOver_44 {g : aG} {l : Launch} {d : Nat} {h0 : aH} (hdd : 2 ≤ d) {r : aH} (t : Nat) (h : aH) (HF : F_X9_endOver_44  t h = some r) : Ev g l cX9_endOver 2 yX9_endOver (none) d h0 (none, r) 44 [(0, .ref t)] [] h := by
  unfold F_X9_endOver_44 at HF
  refine ev_aload_n 0 dX9_endOver_44 rfl ?_
  refine ev_dup dX9_endOver_45 rfl ?_
  replace HF := bind_ck HF
  obtain ⟨c1, HF⟩ := HF
  refine ev_gI (f := 1012) cl_X9 (k := 12) (by decide) fi_X9_12 rfl fl_X9_68 dX9_endOver_46 c1 ?_
  refine ev_iconst (v := 1) dX9_endOver_49 (by decide) ?_
  refine ev_iadd dX9_endOver_50 ?_
  refine ev_pI (f := 1012) cl_X9 (k := 12) (by decide) fi_X9_12 rfl fl_X9_68 rfl rfl rfl dX9_endOver_51 c1 ?_
  replace HF := bd_n HF
  obtain ⟨h2, eh2, HF⟩ := HF
  refine ev_heap eh2 ?_
  have c3 : hK h2 t = 11 := by rw [eh2]; exact c1
  refine ev_aload_n 0 dX9_endOver_54 rfl ?_
  show EvG _ _ _ _ _ _ _ _ _ _ _ 55 _ _ _
  refine ev_iconst (v := 0) dX9_endOver_55 (by decide) ?_
  refine ev_pI (f := 1014) cl_X9 (k := 14) (by decide) fi_X9_14 rfl fl_X9_74 rfl rfl rfl dX9_endOver_56 c3 ?_
  replace HF := bd_n HF
  obtain ⟨h4, eh4, HF⟩ := HF
  refine ev_heap eh4 ?_
  have c5 : hK h4 t = 11 := by rw [eh4]; exact c3
  refine ev_aload_n 0 dX9_endOver_59 rfl ?_
  replace HF := bind_o HF
  obtain ⟨h7, e6, HF⟩ := HF
  refine ev_callV (As := []) (R1 := (none, h7)) (lk_X9_changeEnds (d := 0) (Nat.le_refl _) c5 e6) ce_X9_changeEnds im_X9_changeEnds sl_X9_changeEnds ml_X9_148 cl_X9 c5 dX9_endOver_60 (by omega) (Nat.le_of_ble_eq_true rfl) rfl rfl ?_
  show EvG _ _ _ _ _ _ _ _ _ _ _ 63 [(0, .ref t)] [] h7
  obtain rfl := Option.some.inj HF
  exact ev_vret dX9_endOver_63

set_option maxRecDepth 20000 in
theorem lk_X9_endOver {g : aG} {l : Launch} {d : Nat} (hdd : 2 ≤ d) {t : Nat} {x1 : Int32} {h : aH} {r : aH} (hT : hK h t = 11) (HF : F_X9_endOver t x1 h = some r) : MA g l yX9_endOver cX9_endOver 2 (none) d [.ref t, .int x1] h (none, r) := by
  refine MA.of (lv0 := [(0, .ref t), (1, .int x1)]) (by decide +kernel) (rfl) (Nat.le_of_ble_eq_true rfl) ?_
  unfold F_X9_endOver at HF
  refine ev_aload_n 0 dX9_endOver_0 rfl ?_
  replace HF := bind_o HF
  obtain ⟨b1, e2, HF⟩ := HF
  refine ev_gS (f := 1002) cl_X9 (k := 2) (by decide) fi_X9_2 rfl fl_X9_23 dX9_endOver_1 hT e2 ?_
  refine ev_aload_n 0 dX9_endOver_4 rfl ?_
  refine ev_gI (f := 1011) cl_X9 (k := 11) (by decide) fi_X9_11 rfl fl_X9_65 dX9_endOver_5 hT ?_
  refine ev_iconst (v := 1) dX9_endOver_8 (by decide) ?_
  refine ev_isub dX9_endOver_9 ?_
  refine ev_iconst (v := 3) dX9_endOver_10 (by decide) ?_
  show EvG _ _ _ _ _ _ _ _ _ _ _ 11 _ _ _
  refine ev_iconst (v := 1) dX9_endOver_11 (by decide) ?_
  replace HF := bind_ck HF
  obtain ⟨c3, HF⟩ := HF
  replace HF := bind_o HF
  obtain ⟨h5, e4, HF⟩ := HF
  refine ev_callV (As := [.int ((hF h 1011 t) - 1), .int 3, .int 1]) (R1 := (none, h5)) (lk_X4_set (d := 1) (Nat.le_refl _) c3 e4) ce_X4_set im_X4_set sl_X4_set ml_X9_84 cl_X4 c3 dX9_endOver_12 (by omega) (Nat.le_of_ble_eq_true rfl) rfl rfl ?_
  show EvG _ _ _ _ _ _ _ _ _ _ _ 15 [(0, .ref t), (1, .int x1)] [] h5
  refine ev_iload_n 1 dX9_endOver_15 rfl ?_
  by_cases c7 : x1 = 0
  · replace HF := ite_T c7 HF
    refine ev_if_eqT (tgt := 44) dX9_endOver_16 (by decide) c7 ?_
    exact Ev.sub [0] rfl (lk_X9_endOver_44 hdd  t _ HF)
  · replace HF := ite_F c7 HF
    refine ev_if_eqF (tgt := 44) dX9_endOver_16 (by decide) c7 ?_
    refine ev_aload_n 0 dX9_endOver_19 rfl ?_
    replace HF := bind_ck HF
    obtain ⟨c8, HF⟩ := HF
    replace HF := bind_o HF
    obtain ⟨b9, e10, HF⟩ := HF
    refine ev_gS (f := 1002) cl_X9 (k := 2) (by decide) fi_X9_2 rfl fl_X9_23 dX9_endOver_20 c8 e10 ?_
    refine ev_aload_n 0 dX9_endOver_23 rfl ?_
    refine ev_gI (f := 1011) cl_X9 (k := 11) (by decide) fi_X9_11 rfl fl_X9_65 dX9_endOver_24 c8 ?_
    refine ev_iconst (v := 1) dX9_endOver_27 (by decide) ?_
    refine ev_isub dX9_endOver_28 ?_
    refine ev_iconst (v := 4) dX9_endOver_29 (by decide) ?_
    show EvG _ _ _ _ _ _ _ _ _ _ _ 30 _ _ _
    refine ev_iconst (v := 1) dX9_endOver_30 (by decide) ?_
    replace HF := bind_ck HF
    obtain ⟨c11, HF⟩ := HF
    replace HF := bind_o HF
    obtain ⟨h13, e12, HF⟩ := HF
    refine ev_callV (As := [.int ((hF h5 1011 t) - 1), .int 4, .int 1]) (R1 := (none, h13)) (lk_X4_set (d := 1) (Nat.le_refl _) c11 e12) ce_X4_set im_X4_set sl_X4_set ml_X9_84 cl_X4 c11 dX9_endOver_31 (by omega) (Nat.le_of_ble_eq_true rfl) rfl rfl ?_
    show EvG _ _ _ _ _ _ _ _ _ _ _ 34 [(0, .ref t), (1, .int x1)] [] h13
    refine ev_aload_n 0 dX9_endOver_34 rfl ?_
    refine ev_dup dX9_endOver_35 rfl ?_
    replace HF := bind_ck HF
    obtain ⟨c15, HF⟩ := HF
    refine ev_gI (f := 1013) cl_X9 (k := 13) (by decide) fi_X9_13 rfl fl_X9_71 dX9_endOver_36 c15 ?_
    refine ev_iconst (v := 1) dX9_endOver_39 (by decide) ?_
    refine ev_iadd dX9_endOver_40 ?_
    refine ev_pI (f := 1013) cl_X9 (k := 13) (by decide) fi_X9_13 rfl fl_X9_71 rfl rfl rfl dX9_endOver_41 c15 ?_
    replace HF := bd_n HF
    obtain ⟨h16, eh16, HF⟩ := HF
    refine ev_heap eh16 ?_
    have c17 : hK h16 t = 11 := by rw [eh16]; exact c15
    exact Ev.sub [0] rfl (lk_X9_endOver_44 hdd  t _ HF)

set_option maxRecDepth 20000 in
theorem lk_X9_beginOver_16 {g : aG} {l : Launch} {d : Nat} {h0 : aH} (hdd : 3 ≤ d) {r : aH} (t : Nat) (a1 : Nat) (h : aH) (HF : F_X9_beginOver_16  t a1 h = some r) : Ev g l cX9_beginOver 2 yX9_beginOver (none) d h0 (none, r) 16 [(0, .ref t), (1, .ref a1)] [] h := by
  unfold F_X9_beginOver_16 at HF
  refine ev_aload_n 0 dX9_beginOver_16 rfl ?_
  replace HF := bind_ck HF
  obtain ⟨c1, HF⟩ := HF
  replace HF := bind_o HF
  obtain ⟨b2, e3, HF⟩ := HF
  refine ev_gS (f := 1002) cl_X9 (k := 2) (by decide) fi_X9_2 rfl fl_X9_23 dX9_beginOver_17 c1 e3 ?_
  refine ev_aload_n 0 dX9_beginOver_20 rfl ?_
  refine ev_gI (f := 1011) cl_X9 (k := 11) (by decide) fi_X9_11 rfl fl_X9_65 dX9_beginOver_21 c1 ?_
  refine ev_iconst (v := 0) dX9_beginOver_24 (by decide) ?_
  replace HF := bind_ck HF
  obtain ⟨c4, HF⟩ := HF
  replace HF := bind_o HF
  obtain ⟨h6, e5, HF⟩ := HF
  refine ev_callV (As := [.int (hF h 1011 t), .int 0]) (R1 := (none, h6)) (lk_X4_fillRow (d := 2) (Nat.le_refl _) c4 e5) ce_X4_fillRow im_X4_fillRow sl_X4_fillRow ml_X9_95 cl_X4 c4 dX9_beginOver_25 (by omega) (Nat.le_of_ble_eq_true rfl) rfl rfl ?_
  show EvG _ _ _ _ _ _ _ _ _ _ _ 28 [(0, .ref t), (1, .ref a1)] [] h6
  refine ev_aload_n 0 dX9_beginOver_28 rfl ?_
  show EvG _ _ _ _ _ _ _ _ _ _ _ 29 _ _ _
  refine ev_dup dX9_beginOver_29 rfl ?_
  replace HF := bind_ck HF
  obtain ⟨c8, HF⟩ := HF
  refine ev_gI (f := 1011) cl_X9 (k := 11) (by decide) fi_X9_11 rfl fl_X9_65 dX9_beginOver_30 c8 ?_
  refine ev_iconst (v := 1) dX9_beginOver_33 (by decide) ?_
  refine ev_iadd dX9_beginOver_34 ?_
  refine ev_pI (f := 1011) cl_X9 (k := 11) (by decide) fi_X9_11 rfl fl_X9_65 rfl rfl rfl dX9_beginOver_35 c8 ?_
  replace HF := bd_n HF
  obtain ⟨h9, eh9, HF⟩ := HF
  refine ev_heap eh9 ?_
  have c10 : hK h9 t = 11 := by rw [eh9]; exact c8
  refine ev_aload_n 0 dX9_beginOver_38 rfl ?_
  refine ev_aload_n 1 dX9_beginOver_39 rfl ?_
  replace HF := bind_ck HF
  obtain ⟨c11, HF⟩ := HF
  refine ev_gIN (f := 601) cl_X5 (k := 1) (by decide) fi_X5_1 rfl fl_X9_98 dX9_beginOver_40 c11 ?_
  show EvG _ _ _ _ _ _ _ _ _ _ _ 43 _ _ _
  refine ev_pI (f := 1015) cl_X9 (k := 15) (by decide) fi_X9_15 rfl fl_X9_30 rfl rfl rfl dX9_beginOver_43 c10 ?_
  replace HF := bd_n HF
  obtain ⟨h12, eh12, HF⟩ := HF
  refine ev_heap eh12 ?_
  have c13 : hK h12 t = 11 := by rw [eh12]; exact c10
  have c14 : hK h12 a1 = 7 := by rw [eh12]; exact c11
  refine ev_aload_n 0 dX9_beginOver_46 rfl ?_
  replace HF := bind_o HF
  obtain ⟨b15, e16, HF⟩ := HF
  refine ev_gS (f := 1001) cl_X9 (k := 1) (by decide) fi_X9_1 rfl fl_X9_20 dX9_beginOver_47 c13 e16 ?_
  refine ev_aload_n 0 dX9_beginOver_50 rfl ?_
  refine ev_gI (f := 1015) cl_X9 (k := 15) (by decide) fi_X9_15 rfl fl_X9_30 dX9_beginOver_51 c13 ?_
  refine ev_iconst (v := 0) dX9_beginOver_54 (by decide) ?_
  refine ev_iconst (v := 1) dX9_beginOver_55 (by decide) ?_
  replace HF := bind_ck HF
  obtain ⟨c17, HF⟩ := HF
  replace HF := bind_o HF
  obtain ⟨h19, e18, HF⟩ := HF
  refine ev_callV (As := [.int (hF h12 1015 t), .int 0, .int 1]) (R1 := (none, h19)) (lk_X4_add (d := 1) (Nat.le_refl _) c17 e18) ce_X4_add im_X4_add sl_X4_add ml_X9_101 cl_X4 c17 dX9_beginOver_56 (by omega) (Nat.le_of_ble_eq_true rfl) rfl rfl ?_
  show EvG _ _ _ _ _ _ _ _ _ _ _ 59 [(0, .ref t), (1, .ref a1)] [] h19
  show EvG _ _ _ _ _ _ _ _ _ _ _ 59 _ _ _
  refine ev_aload_n 1 dX9_beginOver_59 rfl ?_
  replace HF := bind_ck HF
  obtain ⟨c21, HF⟩ := HF
  replace HF := bind_o HF
  obtain ⟨⟨z24, h23⟩, e22, HF⟩ := HF
  replace HF := bd_o (bd_o HF)
  dsimp only at HF
  refine ev_callV (As := []) (R1 := (some (.int z24), h23)) (lk_X5_isMissing (d := 0) (Nat.le_refl _) c21 e22) ce_X5_isMissing im_X5_isMissing sl_X5_isMissing ml_X9_104 cl_X5 c21 dX9_beginOver_60 (by omega) (Nat.le_of_ble_eq_true rfl) rfl rfl ?_
  show EvG _ _ _ _ _ _ _ _ _ _ _ 63 [(0, .ref t), (1, .ref a1)] [.int z24] h23
  by_cases c26 : z24 = 0
  · replace HF := ite_T c26 HF
    refine ev_if_eqT (tgt := 71) dX9_beginOver_63 (by decide) c26 ?_
    obtain rfl := Option.some.inj HF
    exact ev_vret dX9_beginOver_71
  · replace HF := ite_F c26 HF
    refine ev_if_eqF (tgt := 71) dX9_beginOver_63 (by decide) c26 ?_
    refine ev_aload_n 0 dX9_beginOver_66 rfl ?_
    refine ev_iconst (v := 1) dX9_beginOver_67 (by decide) ?_
    replace HF := bind_ck HF
    obtain ⟨c27, HF⟩ := HF
    replace HF := bind_o HF
    obtain ⟨h29, e28, HF⟩ := HF
    refine ev_callV (As := [.int 1]) (R1 := (none, h29)) (lk_X9_endOver (d := 2) (Nat.le_refl _) c27 e28) ce_X9_endOver im_X9_endOver sl_X9_endOver ml_X9_91 cl_X9 c27 dX9_beginOver_68 (by omega) (Nat.le_of_ble_eq_true rfl) rfl rfl ?_
    show EvG _ _ _ _ _ _ _ _ _ _ _ 71 [(0, .ref t), (1, .ref a1)] [] h29
    obtain rfl := Option.some.inj HF
    exact ev_vret dX9_beginOver_71

set_option maxRecDepth 20000 in
theorem lk_X9_beginOver {g : aG} {l : Launch} {d : Nat} (hdd : 3 ≤ d) {t : Nat} {a1 : Nat} {h : aH} {r : aH} (hT : hK h t = 11) (HF : F_X9_beginOver t a1 h = some r) : MA g l yX9_beginOver cX9_beginOver 2 (none) d [.ref t, .ref a1] h (none, r) := by
  refine MA.of (lv0 := [(0, .ref t), (1, .ref a1)]) (by decide +kernel) (rfl) (Nat.le_of_ble_eq_true rfl) ?_
  unfold F_X9_beginOver at HF
  refine ev_aload_n 0 dX9_beginOver_0 rfl ?_
  refine ev_gI (f := 1012) cl_X9 (k := 12) (by decide) fi_X9_12 rfl fl_X9_68 dX9_beginOver_1 hT ?_
  refine ev_aload_n 0 dX9_beginOver_4 rfl ?_
  refine ev_gI (f := 1011) cl_X9 (k := 11) (by decide) fi_X9_11 rfl fl_X9_65 dX9_beginOver_5 hT ?_
  by_cases c1 : hF h 1011 t ≤ hF h 1012 t
  · replace HF := ite_T c1 HF
    refine ev_icmp_geT (tgt := 16) dX9_beginOver_8 (by decide) c1 ?_
    exact Ev.sub [0, 1] rfl (lk_X9_beginOver_16 hdd  t a1 _ HF)
  · replace HF := ite_F c1 HF
    refine ev_icmp_geF (tgt := 16) dX9_beginOver_8 (by decide) c1 ?_
    refine ev_aload_n 0 dX9_beginOver_11 rfl ?_
    refine ev_iconst (v := 1) dX9_beginOver_12 (by decide) ?_
    replace HF := bind_o HF
    obtain ⟨h3, e2, HF⟩ := HF
    refine ev_callV (As := [.int 1]) (R1 := (none, h3)) (lk_X9_endOver (d := 2) (Nat.le_refl _) hT e2) ce_X9_endOver im_X9_endOver sl_X9_endOver ml_X9_91 cl_X9 hT dX9_beginOver_13 (by omega) (Nat.le_of_ble_eq_true rfl) rfl rfl ?_
    show EvG _ _ _ _ _ _ _ _ _ _ _ 16 [(0, .ref t), (1, .ref a1)] [] h3
    exact Ev.sub [0, 1] rfl (lk_X9_beginOver_16 hdd  t a1 _ HF)

set_option maxRecDepth 20000 in
theorem lk_X6_target {g : aG} {l : Launch} {d : Nat} (hdd : 1 ≤ d) {t : Nat} {h : aH} {r : Int32 × aH} (hT : hK h t = 8) (HF : F_X6_target t h = some r) : MA g l yX6_target cX6_target 4 (some .int) d [.ref t] h (some (.int r.1), r.2) := by
  refine MA.of (lv0 := [(0, .ref t)]) (by decide +kernel) (rfl) (Nat.le_of_ble_eq_true rfl) ?_
  unfold F_X6_target at HF
  refine ev_aload_n 0 dX6_target_0 rfl ?_
  refine ev_gI (f := 703) cl_X6 (k := 3) (by decide) fi_X6_3 rfl fl_X6_93 dX6_target_1 hT ?_
  refine ev_iconst (v := 1) dX6_target_4 (by decide) ?_
  by_cases c1 : hF h 703 t ≤ 1
  · replace HF := ite_T c1 HF
    refine ev_icmp_leT (tgt := 37) dX6_target_5 (by decide) c1 ?_
    refine ev_aload_n 0 dX6_target_37 rfl ?_
    refine ev_iconst (v := 0) dX6_target_38 (by decide) ?_
    replace HF := bind_o HF
    obtain ⟨⟨o4, h3⟩, e2, HF⟩ := HF
    replace HF := bd_o (bd_o HF)
    dsimp only at HF
    refine ev_callV (As := [.int 0]) (R1 := (some (va_rf o4), h3)) (lk_X6_tallyAt (d := 0) (Nat.le_refl _) hT e2) ce_X6_tallyAt im_X6_tallyAt sl_X6_tallyAt ml_X6_63 cl_X6 hT dX6_target_39 (by omega) (Nat.le_of_ble_eq_true rfl) rfl rfl ?_
    show EvG _ _ _ _ _ _ _ _ _ _ _ 42 [(0, .ref t)] [va_rf o4] h3
    replace HF := bind_o HF
    obtain ⟨b6, e7, HF⟩ := HF
    subst e7
    replace HF := bind_ck HF
    obtain ⟨c8, HF⟩ := HF
    refine ev_gIN (f := 1004) cl_X9 (k := 4) (by decide) fi_X9_4 rfl fl_X6_130 dX6_target_42 c8 ?_
    replace HF := bd_n HF
    obtain ⟨v9, ev9, HF⟩ := HF
    refine ev_topI ev9 ?_
    refine ev_istore_n (lv' := [(1, .int v9), (0, .ref t)]) dX6_target_45 (by decide) (rfl) ?_
    refine ev_aload_n 1 dX6_target_46 rfl ?_
    refine ev_iconst (v := 0) dX6_target_47 (by decide) ?_
    show EvG _ _ _ _ _ _ _ _ _ _ _ 48 _ _ _
    replace HF := bind_ck HF
    obtain ⟨c10, HF⟩ := HF
    replace HF := bind_o HF
    obtain ⟨⟨o13, h12⟩, e11, HF⟩ := HF
    replace HF := bd_o (bd_o HF)
    dsimp only at HF
    refine ev_callV (As := [.int 0]) (R1 := (some (va_rf o13), h12)) (lk_X6_tallyAt (d := 0) (Nat.le_refl _) c10 e11) ce_X6_tallyAt im_X6_tallyAt sl_X6_tallyAt ml_X6_63 cl_X6 c10 dX6_target_48 (by omega) (Nat.le_of_ble_eq_true rfl) rfl rfl ?_
    show EvG _ _ _ _ _ _ _ _ _ _ _ 51 [(1, .int v9), (0, .ref t)] [va_rf o13] h12
    replace HF := bind_o HF
    obtain ⟨b15, e16, HF⟩ := HF
    subst e16
    replace HF := bind_ck HF
    obtain ⟨c17, HF⟩ := HF
    refine ev_gIN (f := 1009) cl_X9 (k := 9) (by decide) fi_X9_9 rfl fl_X6_164 dX6_target_51 c17 ?_
    replace HF := bd_n HF
    obtain ⟨v18, ev18, HF⟩ := HF
    refine ev_topI ev18 ?_
    refine ev_istore_n (lv' := [(2, .int v18), (1, .int v9), (0, .ref t)]) dX6_target_54 (by decide) (rfl) ?_
    refine ev_aload_n 2 dX6_target_55 rfl ?_
    refine ev_iconst (v := 1) dX6_target_56 (by decide) ?_
    replace HF := bind_ck HF
    obtain ⟨c19, HF⟩ := HF
    replace HF := bind_o HF
    obtain ⟨⟨o22, h21⟩, e20, HF⟩ := HF
    replace HF := bd_o (bd_o HF)
    dsimp only at HF
    refine ev_callV (As := [.int 1]) (R1 := (some (va_rf o22), h21)) (lk_X6_tallyAt (d := 0) (Nat.le_refl _) c19 e20) ce_X6_tallyAt im_X6_tallyAt sl_X6_tallyAt ml_X6_63 cl_X6 c19 dX6_target_57 (by omega) (Nat.le_of_ble_eq_true rfl) rfl rfl ?_
    show EvG _ _ _ _ _ _ _ _ _ _ _ 60 [(2, .int v18), (1, .int v9), (0, .ref t)] [va_rf o22] h21
    replace HF := bind_o HF
    obtain ⟨b24, e25, HF⟩ := HF
    subst e25
    replace HF := bind_ck HF
    obtain ⟨c26, HF⟩ := HF
    refine ev_gIN (f := 1009) cl_X9 (k := 9) (by decide) fi_X9_9 rfl fl_X6_164 dX6_target_60 c26 ?_
    replace HF := bd_n HF
    obtain ⟨v27, ev27, HF⟩ := HF
    refine ev_topI ev27 ?_
    refine ev_istore_n (lv' := [(3, .int v27), (2, .int v18), (1, .int v9), (0, .ref t)]) dX6_target_63 (by decide) (rfl) ?_
    show EvG _ _ _ _ _ _ _ _ _ _ _ 64 _ _ _
    refine ev_iload_n 0 dX6_target_64 rfl ?_
    refine ev_iload_n 1 dX6_target_65 rfl ?_
    by_cases c28 : v27 ≤ v18
    · replace HF := ite_T c28 HF
      refine ev_icmp_leT (tgt := 85) dX6_target_66 (by decide) c28 ?_
      refine ev_iload_n 1 dX6_target_85 rfl ?_
      by_cases c29 : v18 ≤ 0
      · replace HF := ite_T c29 HF
        refine ev_if_leT (tgt := 99) dX6_target_86 (by decide) c29 ?_
        refine ev_iconst (v := 1) dX6_target_99 (by decide) ?_
        obtain rfl := Option.some.inj HF
        exact ev_iret dX6_target_100
      · replace HF := ite_F c29 HF
        refine ev_if_leF (tgt := 99) dX6_target_86 (by decide) c29 ?_
        refine ev_iload_n 2 dX6_target_89 rfl ?_
        refine ev_iload_n 0 dX6_target_90 rfl ?_
        refine ev_imul dX6_target_91 ?_
        refine ev_iload_n 1 dX6_target_92 rfl ?_
        replace HF := bind_ck HF
        obtain ⟨c30, HF⟩ := HF
        refine ev_idiv dX6_target_93 c30 ?_
        refine ev_iconst (v := 1) dX6_target_94 (by decide) ?_
        refine ev_iadd dX6_target_95 ?_
        show EvG _ _ _ _ _ _ _ _ _ _ _ 96 _ _ _
        refine ev_goto (tgt := 100) dX6_target_96 (by decide) ?_
        obtain rfl := Option.some.inj HF
        exact ev_iret dX6_target_100
    · replace HF := ite_F c28 HF
      refine ev_icmp_leF (tgt := 85) dX6_target_66 (by decide) c28 ?_
      refine ev_iload_n 2 dX6_target_69 rfl ?_
      refine ev_sipush (v := 200) dX6_target_70 (by decide) ?_
      refine ev_iload_n 0 dX6_target_73 rfl ?_
      refine ev_iload_n 1 dX6_target_74 rfl ?_
      refine ev_isub dX6_target_75 ?_
      refine ev_imul dX6_target_76 ?_
      refine ev_sipush (v := 1000) dX6_target_77 (by decide) ?_
      show EvG _ _ _ _ _ _ _ _ _ _ _ 80 _ _ _
      refine ev_idiv dX6_target_80 (by decide) ?_
      refine ev_iadd dX6_target_81 ?_
      refine ev_iconst (v := 1) dX6_target_82 (by decide) ?_
      refine ev_iadd dX6_target_83 ?_
      obtain rfl := Option.some.inj HF
      exact ev_iret dX6_target_84
  · replace HF := ite_F c1 HF
    refine ev_icmp_leF (tgt := 37) dX6_target_5 (by decide) c1 ?_
    refine ev_aload_n 0 dX6_target_8 rfl ?_
    refine ev_iconst (v := 0) dX6_target_9 (by decide) ?_
    replace HF := bind_o HF
    obtain ⟨⟨o33, h32⟩, e31, HF⟩ := HF
    replace HF := bd_o (bd_o HF)
    dsimp only at HF
    refine ev_callV (As := [.int 0]) (R1 := (some (va_rf o33), h32)) (lk_X6_tallyAt (d := 0) (Nat.le_refl _) hT e31) ce_X6_tallyAt im_X6_tallyAt sl_X6_tallyAt ml_X6_63 cl_X6 hT dX6_target_10 (by omega) (Nat.le_of_ble_eq_true rfl) rfl rfl ?_
    show EvG _ _ _ _ _ _ _ _ _ _ _ 13 [(0, .ref t)] [va_rf o33] h32
    replace HF := bind_o HF
    obtain ⟨b35, e36, HF⟩ := HF
    subst e36
    replace HF := bind_ck HF
    obtain ⟨c37, HF⟩ := HF
    refine ev_gIN (f := 1004) cl_X9 (k := 4) (by decide) fi_X9_4 rfl fl_X6_130 dX6_target_13 c37 ?_
    refine ev_aload_n 0 dX6_target_16 rfl ?_
    refine ev_iconst (v := 2) dX6_target_17 (by decide) ?_
    replace HF := bind_ck HF
    obtain ⟨c38, HF⟩ := HF
    replace HF := bind_o HF
    obtain ⟨⟨o41, h40⟩, e39, HF⟩ := HF
    replace HF := bd_o (bd_o HF)
    dsimp only at HF
    refine ev_callV (As := [.int 2]) (R1 := (some (va_rf o41), h40)) (lk_X6_tallyAt (d := 0) (Nat.le_refl _) c38 e39) ce_X6_tallyAt im_X6_tallyAt sl_X6_tallyAt ml_X6_63 cl_X6 c38 dX6_target_18 (by omega) (Nat.le_of_ble_eq_true rfl) rfl rfl ?_
    show EvG _ _ _ _ _ _ _ _ _ _ _ 21 [(0, .ref t)] [va_rf o41, .int (hF h32 1004 b35)] h40
    show EvG _ _ _ _ _ _ _ _ _ _ _ 21 _ _ _
    replace HF := bind_o HF
    obtain ⟨b43, e44, HF⟩ := HF
    subst e44
    replace HF := bind_ck HF
    obtain ⟨c45, HF⟩ := HF
    refine ev_gIN (f := 1004) cl_X9 (k := 4) (by decide) fi_X9_4 rfl fl_X6_130 dX6_target_21 c45 ?_
    refine ev_iadd dX6_target_24 ?_
    refine ev_aload_n 0 dX6_target_25 rfl ?_
    refine ev_iconst (v := 1) dX6_target_26 (by decide) ?_
    replace HF := bind_ck HF
    obtain ⟨c46, HF⟩ := HF
    replace HF := bind_o HF
    obtain ⟨⟨o49, h48⟩, e47, HF⟩ := HF
    replace HF := bd_o (bd_o HF)
    dsimp only at HF
    refine ev_callV (As := [.int 1]) (R1 := (some (va_rf o49), h48)) (lk_X6_tallyAt (d := 0) (Nat.le_refl _) c46 e47) ce_X6_tallyAt im_X6_tallyAt sl_X6_tallyAt ml_X6_63 cl_X6 c46 dX6_target_27 (by omega) (Nat.le_of_ble_eq_true rfl) rfl rfl ?_
    show EvG _ _ _ _ _ _ _ _ _ _ _ 30 [(0, .ref t)] [va_rf o49, .int ((hF h32 1004 b35) + (hF h40 1004 b43))] h48
    replace HF := bind_o HF
    obtain ⟨b51, e52, HF⟩ := HF
    subst e52
    replace HF := bind_ck HF
    obtain ⟨c53, HF⟩ := HF
    refine ev_gIN (f := 1004) cl_X9 (k := 4) (by decide) fi_X9_4 rfl fl_X6_130 dX6_target_30 c53 ?_
    refine ev_isub dX6_target_33 ?_
    refine ev_iconst (v := 1) dX6_target_34 (by decide) ?_
    show EvG _ _ _ _ _ _ _ _ _ _ _ 35 _ _ _
    refine ev_iadd dX6_target_35 ?_
    obtain rfl := Option.some.inj HF
    exact ev_iret dX6_target_36

set_option maxRecDepth 20000 in
theorem lk_X6_findWinner {g : aG} {l : Launch} {d : Nat} (hdd : 2 ≤ d) {t : Nat} {a1 : Nat} {h : aH} {r : aH} (hT : hK h t = 8) (HF : F_X6_findWinner t a1 h = some r) : MA g l yX6_findWinner cX6_findWinner 3 (none) d [.ref t, .ref a1] h (none, r) := by
  refine MA.of (lv0 := [(0, .ref t), (1, .ref a1)]) (by decide +kernel) (rfl) (Nat.le_of_ble_eq_true rfl) ?_
  unfold F_X6_findWinner at HF
  refine ev_aload_n 0 dX6_findWinner_0 rfl ?_
  refine ev_gI (f := 704) cl_X6 (k := 4) (by decide) fi_X6_4 rfl fl_X6_22 dX6_findWinner_1 hT ?_
  refine ev_aload_n 0 dX6_findWinner_4 rfl ?_
  refine ev_gI (f := 703) cl_X6 (k := 3) (by decide) fi_X6_3 rfl fl_X6_93 dX6_findWinner_5 hT ?_
  by_cases c1 : hF h 704 t = hF h 703 t
  · replace HF := ite_T c1 HF
    refine ev_icmp_neF (tgt := 46) dX6_findWinner_8 (by decide) c1 ?_
    refine ev_aload_n 0 dX6_findWinner_11 rfl ?_
    replace HF := bind_o HF
    obtain ⟨⟨z4, h3⟩, e2, HF⟩ := HF
    replace HF := bd_o (bd_o HF)
    dsimp only at HF
    refine ev_callV (As := []) (R1 := (some (.int z4), h3)) (lk_X6_target (d := 1) (Nat.le_refl _) hT e2) ce_X6_target im_X6_target sl_X6_target ml_X6_141 cl_X6 hT dX6_findWinner_12 (by omega) (Nat.le_of_ble_eq_true rfl) rfl rfl ?_
    show EvG _ _ _ _ _ _ _ _ _ _ _ 15 [(0, .ref t), (1, .ref a1)] [.int z4] h3
    refine ev_aload_n 1 dX6_findWinner_15 rfl ?_
    replace HF := bind_ck HF
    obtain ⟨c6, HF⟩ := HF
    refine ev_gIN (f := 1004) cl_X9 (k := 4) (by decide) fi_X9_4 rfl fl_X6_130 dX6_findWinner_16 c6 ?_
    refine ev_isub dX6_findWinner_19 ?_
    replace HF := bd_n HF
    obtain ⟨v7, ev7, HF⟩ := HF
    refine ev_topI ev7 ?_
    refine ev_istore_n (lv' := [(2, .int v7), (0, .ref t), (1, .ref a1)]) dX6_findWinner_20 (by decide) (rfl) ?_
    refine ev_aload_n 1 dX6_findWinner_21 rfl ?_
    show EvG _ _ _ _ _ _ _ _ _ _ _ 22 _ _ _
    refine ev_iload_n 0 dX6_findWinner_22 rfl ?_
    by_cases c8 : 0 < v7
    · replace HF := ite_T c8 HF
      refine ev_if_gtT (tgt := 30) dX6_findWinner_23 (by decide) c8 ?_
      refine ev_iload_n 0 dX6_findWinner_30 rfl ?_
      refine ev_iconst (v := 1) dX6_findWinner_31 (by decide) ?_
      by_cases c9 : v7 = 1
      · replace HF := ite_T c9 HF
        refine ev_icmp_neF (tgt := 39) dX6_findWinner_32 (by decide) c9 ?_
        refine ev_iconst (v := 3) dX6_findWinner_35 (by decide) ?_
        refine ev_goto (tgt := 40) dX6_findWinner_36 (by decide) ?_
        replace HF := bind_ck HF
        obtain ⟨c10, HF⟩ := HF
        refine ev_pI (f := 705) cl_X6 (k := 5) (by decide) fi_X6_5 rfl fl_X6_90 rfl rfl rfl dX6_findWinner_40 c10 ?_
        replace HF := bd_n HF
        obtain ⟨h11, eh11, HF⟩ := HF
        refine ev_heap eh11 ?_
        have c12 : hK h11 a1 = 11 := by rw [eh11]; exact c6
        have c13 : hK h11 t = 8 := by rw [eh11]; exact c10
        refine ev_goto (tgt := 67) dX6_findWinner_43 (by decide) ?_
        obtain rfl := Option.some.inj HF
        exact ev_vret dX6_findWinner_67
      · replace HF := ite_F c9 HF
        refine ev_icmp_neT (tgt := 39) dX6_findWinner_32 (by decide) c9 ?_
        refine ev_iconst (v := 1) dX6_findWinner_39 (by decide) ?_
        replace HF := bind_ck HF
        obtain ⟨c14, HF⟩ := HF
        refine ev_pI (f := 705) cl_X6 (k := 5) (by decide) fi_X6_5 rfl fl_X6_90 rfl rfl rfl dX6_findWinner_40 c14 ?_
        replace HF := bd_n HF
        obtain ⟨h15, eh15, HF⟩ := HF
        refine ev_heap eh15 ?_
        have c16 : hK h15 a1 = 11 := by rw [eh15]; exact c6
        have c17 : hK h15 t = 8 := by rw [eh15]; exact c14
        refine ev_goto (tgt := 67) dX6_findWinner_43 (by decide) ?_
        obtain rfl := Option.some.inj HF
        exact ev_vret dX6_findWinner_67
    · replace HF := ite_F c8 HF
      refine ev_if_gtF (tgt := 30) dX6_findWinner_23 (by decide) c8 ?_
      refine ev_iconst (v := 2) dX6_findWinner_26 (by decide) ?_
      refine ev_goto (tgt := 40) dX6_findWinner_27 (by decide) ?_
      replace HF := bind_ck HF
      obtain ⟨c18, HF⟩ := HF
      refine ev_pI (f := 705) cl_X6 (k := 5) (by decide) fi_X6_5 rfl fl_X6_90 rfl rfl rfl dX6_findWinner_40 c18 ?_
      replace HF := bd_n HF
      obtain ⟨h19, eh19, HF⟩ := HF
      refine ev_heap eh19 ?_
      have c20 : hK h19 a1 = 11 := by rw [eh19]; exact c6
      have c21 : hK h19 t = 8 := by rw [eh19]; exact c18
      refine ev_goto (tgt := 67) dX6_findWinner_43 (by decide) ?_
      obtain rfl := Option.some.inj HF
      exact ev_vret dX6_findWinner_67
  · replace HF := ite_F c1 HF
    refine ev_icmp_neT (tgt := 46) dX6_findWinner_8 (by decide) c1 ?_
    refine ev_aload_n 0 dX6_findWinner_46 rfl ?_
    refine ev_gI (f := 704) cl_X6 (k := 4) (by decide) fi_X6_4 rfl fl_X6_22 dX6_findWinner_47 hT ?_
    refine ev_iconst (v := 2) dX6_findWinner_50 (by decide) ?_
    by_cases c22 : hF h 704 t = 2
    · replace HF := ite_T c22 HF
      refine ev_icmp_neF (tgt := 67) dX6_findWinner_51 (by decide) c22 ?_
      refine ev_aload_n 0 dX6_findWinner_54 rfl ?_
      replace HF := bind_o HF
      obtain ⟨⟨z25, h24⟩, e23, HF⟩ := HF
      replace HF := bd_o (bd_o HF)
      dsimp only at HF
      refine ev_callV (As := []) (R1 := (some (.int z25), h24)) (lk_X6_target (d := 1) (Nat.le_refl _) hT e23) ce_X6_target im_X6_target sl_X6_target ml_X6_141 cl_X6 hT dX6_findWinner_55 (by omega) (Nat.le_of_ble_eq_true rfl) rfl rfl ?_
      show EvG _ _ _ _ _ _ _ _ _ _ _ 58 [(0, .ref t), (1, .ref a1)] [.int z25] h24
      refine ev_iconst (v := 1) dX6_findWinner_58 (by decide) ?_
      by_cases c27 : 1 ≤ z25
      · replace HF := ite_T c27 HF
        refine ev_icmp_geT (tgt := 67) dX6_findWinner_59 (by decide) c27 ?_
        obtain rfl := Option.some.inj HF
        exact ev_vret dX6_findWinner_67
      · replace HF := ite_F c27 HF
        refine ev_icmp_geF (tgt := 67) dX6_findWinner_59 (by decide) c27 ?_
        refine ev_aload_n 0 dX6_findWinner_62 rfl ?_
        refine ev_iconst (v := 2) dX6_findWinner_63 (by decide) ?_
        replace HF := bind_ck HF
        obtain ⟨c28, HF⟩ := HF
        refine ev_pI (f := 705) cl_X6 (k := 5) (by decide) fi_X6_5 rfl fl_X6_90 rfl rfl rfl dX6_findWinner_64 c28 ?_
        replace HF := bd_n HF
        obtain ⟨h29, eh29, HF⟩ := HF
        refine ev_heap eh29 ?_
        have c30 : hK h29 t = 8 := by rw [eh29]; exact c28
        obtain rfl := Option.some.inj HF
        exact ev_vret dX6_findWinner_67
    · replace HF := ite_F c22 HF
      refine ev_icmp_neT (tgt := 67) dX6_findWinner_51 (by decide) c22 ?_
      obtain rfl := Option.some.inj HF
      exact ev_vret dX6_findWinner_67

set_option maxRecDepth 20000 in
theorem lk_X6_endTurn_84 {g : aG} {l : Launch} {d : Nat} {h0 : aH} (hdd : 3 ≤ d) {r : aH} (t : Nat) (x2 : Option Nat) (h : aH) (HF : F_X6_endTurn_84  t x2 h = some r) : Ev g l cX6_endTurn 3 yX6_endTurn (none) d h0 (none, r) 84 [(0, .ref t), (2, va_rf x2)] [] h := by
  unfold F_X6_endTurn_84 at HF
  refine ev_aload_nr 1 dX6_endTurn_84 rfl ?_
  replace HF := bind_o HF
  obtain ⟨b1, e2, HF⟩ := HF
  subst e2
  replace HF := bind_ck HF
  obtain ⟨c3, HF⟩ := HF
  refine ev_gIN (f := 1010) cl_X9 (k := 10) (by decide) fi_X9_10 rfl fl_X6_87 dX6_endTurn_85 c3 ?_
  by_cases c4 : hF h 1010 b1 = 0
  · replace HF := ite_T c4 HF
    refine ev_if_eqT (tgt := 96) dX6_endTurn_88 (by decide) c4 ?_
    obtain rfl := Option.some.inj HF
    exact ev_vret dX6_endTurn_96
  · replace HF := ite_F c4 HF
    refine ev_if_eqF (tgt := 96) dX6_endTurn_88 (by decide) c4 ?_
    refine ev_aload_n 0 dX6_endTurn_91 rfl ?_
    refine ev_aload_n 1 dX6_endTurn_92 rfl ?_
    replace HF := bind_ck HF
    obtain ⟨c5, HF⟩ := HF
    replace HF := bind_o HF
    obtain ⟨h7, e6, HF⟩ := HF
    refine ev_callV (As := [.ref b1]) (R1 := (none, h7)) (lk_X6_findWinner (d := 2) (Nat.le_refl _) c5 e6) ce_X6_findWinner im_X6_findWinner sl_X6_findWinner ml_X6_173 cl_X6 c5 dX6_endTurn_93 (by omega) (Nat.le_of_ble_eq_true rfl) rfl rfl ?_
    show EvG _ _ _ _ _ _ _ _ _ _ _ 96 [(0, .ref t), (2, .ref b1)] [] h7
    obtain rfl := Option.some.inj HF
    exact ev_vret dX6_endTurn_96

set_option maxRecDepth 20000 in
theorem lk_X6_endTurn_39 {g : aG} {l : Launch} {d : Nat} {h0 : aH} (hdd : 3 ≤ d) {r : aH} (t : Nat) (x1 : Int32) (x2 : Option Nat) (h : aH) (HF : F_X6_endTurn_39  t x1 x2 h = some r) : Ev g l cX6_endTurn 3 yX6_endTurn (none) d h0 (none, r) 39 [(0, .ref t), (1, .int x1), (2, va_rf x2)] [] h := by
  unfold F_X6_endTurn_39 at HF
  refine ev_aload_nr 2 dX6_endTurn_39 rfl ?_
  replace HF := bind_o HF
  obtain ⟨b1, e2, HF⟩ := HF
  subst e2
  replace HF := bind_ck HF
  obtain ⟨c3, HF⟩ := HF
  refine ev_gIN (f := 1005) cl_X9 (k := 5) (by decide) fi_X9_5 rfl fl_X6_167 dX6_endTurn_40 c3 ?_
  refine ev_bipush (v := 10) dX6_endTurn_43 (by decide) ?_
  by_cases c4 : hF h 1005 b1 < 10
  · replace HF := ite_T c4 HF
    refine ev_icmp_ltT (tgt := 56) dX6_endTurn_45 (by decide) c4 ?_
    refine ev_iload_n 1 dX6_endTurn_56 rfl ?_
    by_cases c5 : x1 = 0
    · replace HF := ite_T c5 HF
      refine ev_if_eqT (tgt := 68) dX6_endTurn_57 (by decide) c5 ?_
      refine ev_aload_n 2 dX6_endTurn_68 rfl ?_
      refine ev_gIN (f := 1012) cl_X9 (k := 12) (by decide) fi_X9_12 rfl fl_X6_170 dX6_endTurn_69 c3 ?_
      refine ev_aload_n 2 dX6_endTurn_72 rfl ?_
      refine ev_gIN (f := 1008) cl_X9 (k := 8) (by decide) fi_X9_8 rfl fl_X6_158 dX6_endTurn_73 c3 ?_
      by_cases c6 : hF h 1012 b1 < hF h 1008 b1
      · replace HF := ite_T c6 HF
        refine ev_icmp_ltT (tgt := 84) dX6_endTurn_76 (by decide) c6 ?_
        exact Ev.sub [0, 2] rfl (lk_X6_endTurn_84 hdd  t (some b1) _ HF)
      · replace HF := ite_F c6 HF
        refine ev_icmp_ltF (tgt := 84) dX6_endTurn_76 (by decide) c6 ?_
        refine ev_aload_n 2 dX6_endTurn_79 rfl ?_
        refine ev_iconst (v := 2) dX6_endTurn_80 (by decide) ?_
        refine ev_pIN (f := 1010) cl_X9 (k := 10) (by decide) fi_X9_10 rfl fl_X6_87 rfl rfl rfl dX6_endTurn_81 c3 ?_
        replace HF := bd_n HF
        obtain ⟨h7, eh7, HF⟩ := HF
        refine ev_heap eh7 ?_
        have c8 : hK h7 b1 = 11 := by rw [eh7]; exact c3
        exact Ev.sub [0, 2] rfl (lk_X6_endTurn_84 hdd  t (some b1) _ HF)
    · replace HF := ite_F c5 HF
      refine ev_if_eqF (tgt := 68) dX6_endTurn_57 (by decide) c5 ?_
      refine ev_aload_n 2 dX6_endTurn_60 rfl ?_
      refine ev_iconst (v := 3) dX6_endTurn_61 (by decide) ?_
      refine ev_pIN (f := 1010) cl_X9 (k := 10) (by decide) fi_X9_10 rfl fl_X6_87 rfl rfl rfl dX6_endTurn_62 c3 ?_
      replace HF := bd_n HF
      obtain ⟨h9, eh9, HF⟩ := HF
      refine ev_heap eh9 ?_
      have c10 : hK h9 b1 = 11 := by rw [eh9]; exact c3
      refine ev_goto (tgt := 84) dX6_endTurn_65 (by decide) ?_
      exact Ev.sub [0, 2] rfl (lk_X6_endTurn_84 hdd  t (some b1) _ HF)
  · replace HF := ite_F c4 HF
    refine ev_icmp_ltF (tgt := 56) dX6_endTurn_45 (by decide) c4 ?_
    refine ev_aload_n 2 dX6_endTurn_48 rfl ?_
    refine ev_iconst (v := 1) dX6_endTurn_49 (by decide) ?_
    refine ev_pIN (f := 1010) cl_X9 (k := 10) (by decide) fi_X9_10 rfl fl_X6_87 rfl rfl rfl dX6_endTurn_50 c3 ?_
    replace HF := bd_n HF
    obtain ⟨h11, eh11, HF⟩ := HF
    refine ev_heap eh11 ?_
    have c12 : hK h11 b1 = 11 := by rw [eh11]; exact c3
    refine ev_goto (tgt := 84) dX6_endTurn_53 (by decide) ?_
    exact Ev.sub [0, 2] rfl (lk_X6_endTurn_84 hdd  t (some b1) _ HF)

set_option maxRecDepth 20000 in
theorem lk_X6_endTurn {g : aG} {l : Launch} {d : Nat} (hdd : 3 ≤ d) {t : Nat} {x1 : Int32} {h : aH} {r : aH} (hT : hK h t = 8) (HF : F_X6_endTurn t x1 h = some r) : MA g l yX6_endTurn cX6_endTurn 3 (none) d [.ref t, .int x1] h (none, r) := by
  refine MA.of (lv0 := [(0, .ref t), (1, .int x1)]) (by decide +kernel) (rfl) (Nat.le_of_ble_eq_true rfl) ?_
  unfold F_X6_endTurn at HF
  refine ev_aload_n 0 dX6_endTurn_0 rfl ?_
  refine ev_aload_n 0 dX6_endTurn_1 rfl ?_
  refine ev_gI (f := 704) cl_X6 (k := 4) (by decide) fi_X6_4 rfl fl_X6_22 dX6_endTurn_2 hT ?_
  replace HF := bind_o HF
  obtain ⟨⟨o3, h2⟩, e1, HF⟩ := HF
  replace HF := bd_o (bd_o HF)
  dsimp only at HF
  refine ev_callV (As := [.int (hF h 704 t)]) (R1 := (some (va_rf o3), h2)) (lk_X6_tallyAt (d := 0) (Nat.le_refl _) hT e1) ce_X6_tallyAt im_X6_tallyAt sl_X6_tallyAt ml_X6_63 cl_X6 hT dX6_endTurn_5 (by omega) (Nat.le_of_ble_eq_true rfl) rfl rfl ?_
  show EvG _ _ _ _ _ _ _ _ _ _ _ 8 [(0, .ref t), (1, .int x1)] [va_rf o3] h2
  refine ev_astore_nr (lv' := [(2, va_rf o3), (0, .ref t), (1, .int x1)]) dX6_endTurn_8 (by decide) (rfl) ?_
  refine ev_aload_n 1 dX6_endTurn_9 rfl ?_
  replace HF := bind_ck HF
  obtain ⟨c5, HF⟩ := HF
  refine ev_gI (f := 704) cl_X6 (k := 4) (by decide) fi_X6_4 rfl fl_X6_22 dX6_endTurn_10 c5 ?_
  show EvG _ _ _ _ _ _ _ _ _ _ _ 13 _ _ _
  refine ev_aload_n 1 dX6_endTurn_13 rfl ?_
  refine ev_gI (f := 703) cl_X6 (k := 3) (by decide) fi_X6_3 rfl fl_X6_93 dX6_endTurn_14 c5 ?_
  by_cases c6 : hF h2 704 t = hF h2 703 t
  · replace HF := ite_T c6 HF
    refine ev_icmp_neF (tgt := 39) dX6_endTurn_17 (by decide) c6 ?_
    refine ev_aload_nr 0 dX6_endTurn_20 rfl ?_
    replace HF := bind_o HF
    obtain ⟨b7, e8, HF⟩ := HF
    subst e8
    replace HF := bind_ck HF
    obtain ⟨c9, HF⟩ := HF
    refine ev_gIN (f := 1004) cl_X9 (k := 4) (by decide) fi_X9_4 rfl fl_X6_130 dX6_endTurn_21 c9 ?_
    refine ev_aload_n 1 dX6_endTurn_24 rfl ?_
    replace HF := bind_o HF
    obtain ⟨⟨z12, h11⟩, e10, HF⟩ := HF
    replace HF := bd_o (bd_o HF)
    dsimp only at HF
    refine ev_callV (As := []) (R1 := (some (.int z12), h11)) (lk_X6_target (d := 1) (Nat.le_refl _) c5 e10) ce_X6_target im_X6_target sl_X6_target ml_X6_141 cl_X6 c5 dX6_endTurn_25 (by omega) (Nat.le_of_ble_eq_true rfl) rfl rfl ?_
    show EvG _ _ _ _ _ _ _ _ _ _ _ 28 [(2, .ref b7), (0, .ref t), (1, .int x1)] [.int z12, .int (hF h2 1004 b7)] h11
    by_cases c14 : hF h2 1004 b7 < z12
    · replace HF := ite_T c14 HF
      refine ev_icmp_ltT (tgt := 39) dX6_endTurn_28 (by decide) c14 ?_
      exact Ev.sub [1, 2, 0] rfl (lk_X6_endTurn_39 hdd  t x1 (some b7) _ HF)
    · replace HF := ite_F c14 HF
      refine ev_icmp_ltF (tgt := 39) dX6_endTurn_28 (by decide) c14 ?_
      refine ev_aload_n 0 dX6_endTurn_31 rfl ?_
      refine ev_iconst (v := 4) dX6_endTurn_32 (by decide) ?_
      replace HF := bind_ck HF
      obtain ⟨c15, HF⟩ := HF
      refine ev_pIN (f := 1010) cl_X9 (k := 10) (by decide) fi_X9_10 rfl fl_X6_87 rfl rfl rfl dX6_endTurn_33 c15 ?_
      replace HF := bd_n HF
      obtain ⟨h16, eh16, HF⟩ := HF
      refine ev_heap eh16 ?_
      have c17 : hK h16 b7 = 11 := by rw [eh16]; exact c15
      refine ev_goto (tgt := 84) dX6_endTurn_36 (by decide) ?_
      exact Ev.sub [1, 0] rfl (lk_X6_endTurn_84 hdd  t (some b7) _ HF)
  · replace HF := ite_F c6 HF
    refine ev_icmp_neT (tgt := 39) dX6_endTurn_17 (by decide) c6 ?_
    exact Ev.sub [1, 2, 0] rfl (lk_X6_endTurn_39 hdd  t x1 o3 _ HF)

set_option maxRecDepth 20000 in
theorem lk_X11_counts {g : aG} {l : Launch} {d : Nat} (hdd : 0 ≤ d) {x0 : Int32} {h : aH} {r : Int32 × aH} (HF : F_X11_counts x0 h = some r) : MA g l yX11_counts cX11_counts 1 (some .boolean) d [.int x0] h (some (.int r.1), r.2) := by
  refine MA.of (lv0 := [(0, .int x0)]) (by decide +kernel) (rfl) (Nat.le_of_ble_eq_true rfl) ?_
  unfold F_X11_counts at HF
  refine ev_iload_n 0 dX11_counts_0 rfl ?_
  by_cases c1 : x0 = 0
  · replace HF := ite_T c1 HF
    refine ev_if_eqT (tgt := 20) dX11_counts_1 (by decide) c1 ?_
    refine ev_iconst (v := 1) dX11_counts_20 (by decide) ?_
    refine ev_goto (tgt := 25) dX11_counts_21 (by decide) ?_
    obtain rfl := Option.some.inj HF
    exact ev_zret (v := 1) narrow_b1 dX11_counts_25
  · replace HF := ite_F c1 HF
    refine ev_if_eqF (tgt := 20) dX11_counts_1 (by decide) c1 ?_
    refine ev_iload_n 0 dX11_counts_4 rfl ?_
    refine ev_iconst (v := 3) dX11_counts_5 (by decide) ?_
    by_cases c2 : x0 = 3
    · replace HF := ite_T c2 HF
      refine ev_icmp_eqT (tgt := 20) dX11_counts_6 (by decide) c2 ?_
      refine ev_iconst (v := 1) dX11_counts_20 (by decide) ?_
      refine ev_goto (tgt := 25) dX11_counts_21 (by decide) ?_
      obtain rfl := Option.some.inj HF
      exact ev_zret (v := 1) narrow_b1 dX11_counts_25
    · replace HF := ite_F c2 HF
      refine ev_icmp_eqF (tgt := 20) dX11_counts_6 (by decide) c2 ?_
      refine ev_iload_n 0 dX11_counts_9 rfl ?_
      refine ev_iconst (v := 4) dX11_counts_10 (by decide) ?_
      by_cases c3 : x0 = 4
      · replace HF := ite_T c3 HF
        refine ev_icmp_eqT (tgt := 20) dX11_counts_11 (by decide) c3 ?_
        refine ev_iconst (v := 1) dX11_counts_20 (by decide) ?_
        refine ev_goto (tgt := 25) dX11_counts_21 (by decide) ?_
        obtain rfl := Option.some.inj HF
        exact ev_zret (v := 1) narrow_b1 dX11_counts_25
      · replace HF := ite_F c3 HF
        refine ev_icmp_eqF (tgt := 20) dX11_counts_11 (by decide) c3 ?_
        refine ev_iload_n 0 dX11_counts_14 rfl ?_
        refine ev_bipush (v := 6) dX11_counts_15 (by decide) ?_
        by_cases c4 : x0 = 6
        · replace HF := ite_T c4 HF
          refine ev_icmp_neF (tgt := 24) dX11_counts_17 (by decide) c4 ?_
          refine ev_iconst (v := 1) dX11_counts_20 (by decide) ?_
          refine ev_goto (tgt := 25) dX11_counts_21 (by decide) ?_
          obtain rfl := Option.some.inj HF
          exact ev_zret (v := 1) narrow_b1 dX11_counts_25
        · replace HF := ite_F c4 HF
          refine ev_icmp_neT (tgt := 24) dX11_counts_17 (by decide) c4 ?_
          refine ev_iconst (v := 0) dX11_counts_24 (by decide) ?_
          obtain rfl := Option.some.inj HF
          exact ev_zret (v := 0) narrow_b0 dX11_counts_25

set_option maxRecDepth 20000 in
theorem lk_X9_ruleOfEntry_85 {g : aG} {l : Launch} {d : Nat} {h0 : aH} (hdd : 1 ≤ d) {r : Int32 × aH} (t : Nat) (x2 : Int32) (x3 : Int32) (x4 : Int32) (h : aH) (HF : F_X9_ruleOfEntry_85  t x2 x3 x4 h = some r) : Ev g l cX9_ruleOfEntry 5 yX9_ruleOfEntry (some .int) d h0 (some (.int r.1), r.2) 85 [(0, .ref t), (2, .int x2), (3, .int x3), (4, .int x4)] [] h := by
  unfold F_X9_ruleOfEntry_85 at HF
  refine ev_iload_n 2 dX9_ruleOfEntry_85 rfl ?_
  refine ev_bipush (v := 8) dX9_ruleOfEntry_86 (by decide) ?_
  by_cases c1 : x3 = 8
  · replace HF := ite_T c1 HF
    refine ev_icmp_neF (tgt := 114) dX9_ruleOfEntry_88 (by decide) c1 ?_
    refine ev_iload_n 1 dX9_ruleOfEntry_91 rfl ?_
    by_cases c2 : x2 = 0
    · replace HF := ite_T c2 HF
      refine ev_if_eqT (tgt := 109) dX9_ruleOfEntry_92 (by decide) c2 ?_
      refine ev_bipush (v := 10) dX9_ruleOfEntry_109 (by decide) ?_
      refine ev_goto (tgt := 115) dX9_ruleOfEntry_111 (by decide) ?_
      obtain rfl := Option.some.inj HF
      exact ev_iret dX9_ruleOfEntry_115
    · replace HF := ite_F c2 HF
      refine ev_if_eqF (tgt := 109) dX9_ruleOfEntry_92 (by decide) c2 ?_
      refine ev_aload_n 0 dX9_ruleOfEntry_95 rfl ?_
      replace HF := bind_ck HF
      obtain ⟨c3, HF⟩ := HF
      refine ev_gI (f := 1008) cl_X9 (k := 8) (by decide) fi_X9_8 rfl fl_X9_56 dX9_ruleOfEntry_96 c3 ?_
      refine ev_iload 3 dX9_ruleOfEntry_99 rfl ?_
      refine ev_isub dX9_ruleOfEntry_101 ?_
      refine ev_aload_n 0 dX9_ruleOfEntry_102 rfl ?_
      refine ev_gI (f := 1011) cl_X9 (k := 11) (by decide) fi_X9_11 rfl fl_X9_65 dX9_ruleOfEntry_103 c3 ?_
      by_cases c4 : hF h 1011 t ≤ (hF h 1008 t) - x4
      · replace HF := ite_T c4 HF
        refine ev_icmp_geT (tgt := 114) dX9_ruleOfEntry_106 (by decide) c4 ?_
        refine ev_iconst (v := 0) dX9_ruleOfEntry_114 (by decide) ?_
        obtain rfl := Option.some.inj HF
        exact ev_iret dX9_ruleOfEntry_115
      · replace HF := ite_F c4 HF
        refine ev_icmp_geF (tgt := 114) dX9_ruleOfEntry_106 (by decide) c4 ?_
        refine ev_bipush (v := 10) dX9_ruleOfEntry_109 (by decide) ?_
        refine ev_goto (tgt := 115) dX9_ruleOfEntry_111 (by decide) ?_
        obtain rfl := Option.some.inj HF
        exact ev_iret dX9_ruleOfEntry_115
  · replace HF := ite_F c1 HF
    refine ev_icmp_neT (tgt := 114) dX9_ruleOfEntry_88 (by decide) c1 ?_
    refine ev_iconst (v := 0) dX9_ruleOfEntry_114 (by decide) ?_
    obtain rfl := Option.some.inj HF
    exact ev_iret dX9_ruleOfEntry_115

set_option maxRecDepth 20000 in
theorem lk_X9_ruleOfEntry {g : aG} {l : Launch} {d : Nat} (hdd : 1 ≤ d) {t : Nat} {x1 : Int32} {x2 : Int32} {h : aH} {r : Int32 × aH} (hT : hK h t = 11) (HF : F_X9_ruleOfEntry t x1 x2 h = some r) : MA g l yX9_ruleOfEntry cX9_ruleOfEntry 5 (some .int) d [.ref t, .int x1, .int x2] h (some (.int r.1), r.2) := by
  refine MA.of (lv0 := [(0, .ref t), (1, .int x1), (2, .int x2)]) (by decide +kernel) (rfl) (Nat.le_of_ble_eq_true rfl) ?_
  unfold F_X9_ruleOfEntry at HF
  refine ev_iload_n 1 dX9_ruleOfEntry_0 rfl ?_
  refine ev_bipush (v := 16) dX9_ruleOfEntry_1 (by decide) ?_
  refine ev_idiv dX9_ruleOfEntry_3 (by decide) ?_
  replace HF := bd_n HF
  obtain ⟨v1, ev1, HF⟩ := HF
  refine ev_topI ev1 ?_
  refine ev_istore_n (lv' := [(3, .int v1), (0, .ref t), (1, .int x1), (2, .int x2)]) dX9_ruleOfEntry_4 (by decide) (rfl) ?_
  refine ev_iload_n 2 dX9_ruleOfEntry_5 rfl ?_
  refine ev_bipush (v := 16) dX9_ruleOfEntry_6 (by decide) ?_
  refine ev_irem dX9_ruleOfEntry_8 (by decide) ?_
  show EvG _ _ _ _ _ _ _ _ _ _ _ 9 _ _ _
  replace HF := bd_n HF
  obtain ⟨v2, ev2, HF⟩ := HF
  refine ev_topI ev2 ?_
  refine ev_istore (lv' := [(4, .int v2), (3, .int v1), (0, .ref t), (1, .int x1), (2, .int x2)]) dX9_ruleOfEntry_9 (by decide) (rfl) ?_
  refine ev_iload_n 1 dX9_ruleOfEntry_11 rfl ?_
  by_cases c3 : v1 < 0
  · replace HF := ite_T c3 HF
    refine ev_if_ltT (tgt := 41) dX9_ruleOfEntry_12 (by decide) c3 ?_
    refine ev_bipush (v := 7) dX9_ruleOfEntry_41 (by decide) ?_
    obtain rfl := Option.some.inj HF
    exact ev_iret dX9_ruleOfEntry_43
  · replace HF := ite_F c3 HF
    refine ev_if_ltF (tgt := 41) dX9_ruleOfEntry_12 (by decide) c3 ?_
    refine ev_iload_n 1 dX9_ruleOfEntry_15 rfl ?_
    refine ev_bipush (v := 9) dX9_ruleOfEntry_16 (by decide) ?_
    by_cases c4 : 9 < v1
    · replace HF := ite_T c4 HF
      refine ev_icmp_gtT (tgt := 41) dX9_ruleOfEntry_18 (by decide) c4 ?_
      refine ev_bipush (v := 7) dX9_ruleOfEntry_41 (by decide) ?_
      obtain rfl := Option.some.inj HF
      exact ev_iret dX9_ruleOfEntry_43
    · replace HF := ite_F c4 HF
      refine ev_icmp_gtF (tgt := 41) dX9_ruleOfEntry_18 (by decide) c4 ?_
      refine ev_iload 0 dX9_ruleOfEntry_21 rfl ?_
      refine ev_gst1 gs_X9_108 dX9_ruleOfEntry_23 ?_
      refine ev_iload_n 1 dX9_ruleOfEntry_26 rfl ?_
      replace HF := bind_ck HF
      obtain ⟨c5, HF⟩ := HF
      refine ev_tl1 dX9_ruleOfEntry_27 c5 ?_
      by_cases c6 : v2 < lvLi v1.toNatClampNeg
      · replace HF := ite_T c6 HF
        refine ev_icmp_ltT (tgt := 41) dX9_ruleOfEntry_28 (by decide) c6 ?_
        refine ev_bipush (v := 7) dX9_ruleOfEntry_41 (by decide) ?_
        obtain rfl := Option.some.inj HF
        exact ev_iret dX9_ruleOfEntry_43
      · replace HF := ite_F c6 HF
        refine ev_icmp_ltF (tgt := 41) dX9_ruleOfEntry_28 (by decide) c6 ?_
        refine ev_iload 0 dX9_ruleOfEntry_31 rfl ?_
        refine ev_gst2 gs_X9_112 dX9_ruleOfEntry_33 ?_
        refine ev_iload_n 1 dX9_ruleOfEntry_36 rfl ?_
        refine ev_tl2 dX9_ruleOfEntry_37 c5 ?_
        by_cases c7 : v2 ≤ lvMi v1.toNatClampNeg
        · replace HF := ite_T c7 HF
          refine ev_icmp_leT (tgt := 44) dX9_ruleOfEntry_38 (by decide) c7 ?_
          refine ev_aload_n 2 dX9_ruleOfEntry_44 rfl ?_
          refine ev_gI (f := 1010) cl_X9 (k := 10) (by decide) fi_X9_10 rfl fl_X9_62 dX9_ruleOfEntry_45 hT ?_
          by_cases c8 : hF h 1010 t = 0
          · replace HF := ite_T c8 HF
            refine ev_if_eqT (tgt := 54) dX9_ruleOfEntry_48 (by decide) c8 ?_
            refine ev_aload_n 2 dX9_ruleOfEntry_54 rfl ?_
            refine ev_gI (f := 1012) cl_X9 (k := 12) (by decide) fi_X9_12 rfl fl_X9_68 dX9_ruleOfEntry_55 hT ?_
            refine ev_aload_n 2 dX9_ruleOfEntry_58 rfl ?_
            refine ev_gI (f := 1011) cl_X9 (k := 11) (by decide) fi_X9_11 rfl fl_X9_65 dX9_ruleOfEntry_59 hT ?_
            by_cases c9 : hF h 1012 t = hF h 1011 t
            · replace HF := ite_T c9 HF
              refine ev_icmp_neF (tgt := 85) dX9_ruleOfEntry_62 (by decide) c9 ?_
              refine ev_iload_n 1 dX9_ruleOfEntry_65 rfl ?_
              replace HF := bind_o HF
              obtain ⟨⟨z12, h11⟩, e10, HF⟩ := HF
              replace HF := bd_o (bd_o HF)
              dsimp only at HF
              refine ev_callSN (As := [.int v1]) (R1 := (some (.int z12), h11)) (lk_X11_counts (d := 0) (Nat.le_refl _) e10) ce_X11_counts st_X11_counts ml_X9_115 dX9_ruleOfEntry_66 (by omega) (Nat.le_of_ble_eq_true rfl) rfl rfl ?_
              show EvG _ _ _ _ _ _ _ _ _ _ _ 69 [(4, .int v2), (3, .int v1), (0, .ref t), (1, .int x1), (2, .int x2)] [.int z12] h11
              by_cases c14 : z12 = 0
              · replace HF := ite_T c14 HF
                refine ev_if_neF (tgt := 82) dX9_ruleOfEntry_69 (by decide) c14 ?_
                refine ev_iload_n 1 dX9_ruleOfEntry_72 rfl ?_
                refine ev_iconst (v := 1) dX9_ruleOfEntry_73 (by decide) ?_
                by_cases c15 : v1 = 1
                · replace HF := ite_T c15 HF
                  refine ev_icmp_eqT (tgt := 82) dX9_ruleOfEntry_74 (by decide) c15 ?_
                  refine ev_bipush (v := 9) dX9_ruleOfEntry_82 (by decide) ?_
                  obtain rfl := Option.some.inj HF
                  exact ev_iret dX9_ruleOfEntry_84
                · replace HF := ite_F c15 HF
                  refine ev_icmp_eqF (tgt := 82) dX9_ruleOfEntry_74 (by decide) c15 ?_
                  refine ev_iload_n 1 dX9_ruleOfEntry_77 rfl ?_
                  refine ev_iconst (v := 2) dX9_ruleOfEntry_78 (by decide) ?_
                  by_cases c16 : v1 = 2
                  · replace HF := ite_T c16 HF
                    refine ev_icmp_neF (tgt := 85) dX9_ruleOfEntry_79 (by decide) c16 ?_
                    refine ev_bipush (v := 9) dX9_ruleOfEntry_82 (by decide) ?_
                    obtain rfl := Option.some.inj HF
                    exact ev_iret dX9_ruleOfEntry_84
                  · replace HF := ite_F c16 HF
                    refine ev_icmp_neT (tgt := 85) dX9_ruleOfEntry_79 (by decide) c16 ?_
                    exact Ev.sub [2, 4, 1, 0] rfl (lk_X9_ruleOfEntry_85 hdd  t x2 v1 v2 _ HF)
              · replace HF := ite_F c14 HF
                refine ev_if_neT (tgt := 82) dX9_ruleOfEntry_69 (by decide) c14 ?_
                refine ev_bipush (v := 9) dX9_ruleOfEntry_82 (by decide) ?_
                obtain rfl := Option.some.inj HF
                exact ev_iret dX9_ruleOfEntry_84
            · replace HF := ite_F c9 HF
              refine ev_icmp_neT (tgt := 85) dX9_ruleOfEntry_62 (by decide) c9 ?_
              exact Ev.sub [2, 4, 1, 0] rfl (lk_X9_ruleOfEntry_85 hdd  t x2 v1 v2 _ HF)
          · replace HF := ite_F c8 HF
            refine ev_if_eqF (tgt := 54) dX9_ruleOfEntry_48 (by decide) c8 ?_
            refine ev_bipush (v := 8) dX9_ruleOfEntry_51 (by decide) ?_
            obtain rfl := Option.some.inj HF
            exact ev_iret dX9_ruleOfEntry_53
        · replace HF := ite_F c7 HF
          refine ev_icmp_leF (tgt := 44) dX9_ruleOfEntry_38 (by decide) c7 ?_
          refine ev_bipush (v := 7) dX9_ruleOfEntry_41 (by decide) ?_
          obtain rfl := Option.some.inj HF
          exact ev_iret dX9_ruleOfEntry_43

set_option maxRecDepth 20000 in
theorem lk_X6_ruleOfEntry {g : aG} {l : Launch} {d : Nat} (hdd : 2 ≤ d) {t : Nat} {x1 : Int32} {h : aH} {r : Int32 × aH} (hT : hK h t = 8) (HF : F_X6_ruleOfEntry t x1 h = some r) : MA g l yX6_ruleOfEntry cX6_ruleOfEntry 2 (some .int) d [.ref t, .int x1] h (some (.int r.1), r.2) := by
  refine MA.of (lv0 := [(0, .ref t), (1, .int x1)]) (by decide +kernel) (rfl) (Nat.le_of_ble_eq_true rfl) ?_
  unfold F_X6_ruleOfEntry at HF
  refine ev_aload_n 0 dX6_ruleOfEntry_0 rfl ?_
  refine ev_aload_n 0 dX6_ruleOfEntry_1 rfl ?_
  refine ev_gI (f := 704) cl_X6 (k := 4) (by decide) fi_X6_4 rfl fl_X6_22 dX6_ruleOfEntry_2 hT ?_
  replace HF := bind_o HF
  obtain ⟨⟨o3, h2⟩, e1, HF⟩ := HF
  replace HF := bd_o (bd_o HF)
  dsimp only at HF
  refine ev_callV (As := [.int (hF h 704 t)]) (R1 := (some (va_rf o3), h2)) (lk_X6_tallyAt (d := 0) (Nat.le_refl _) hT e1) ce_X6_tallyAt im_X6_tallyAt sl_X6_tallyAt ml_X6_63 cl_X6 hT dX6_ruleOfEntry_5 (by omega) (Nat.le_of_ble_eq_true rfl) rfl rfl ?_
  show EvG _ _ _ _ _ _ _ _ _ _ _ 8 [(0, .ref t), (1, .int x1)] [va_rf o3] h2
  refine ev_iload_n 1 dX6_ruleOfEntry_8 rfl ?_
  refine ev_aload_n 0 dX6_ruleOfEntry_9 rfl ?_
  replace HF := bind_ck HF
  obtain ⟨c5, HF⟩ := HF
  refine ev_gI (f := 703) cl_X6 (k := 3) (by decide) fi_X6_3 rfl fl_X6_93 dX6_ruleOfEntry_10 c5 ?_
  show EvG _ _ _ _ _ _ _ _ _ _ _ 13 _ _ _
  refine ev_iconst (v := 1) dX6_ruleOfEntry_13 (by decide) ?_
  by_cases c6 : hF h2 703 t = 1
  · replace HF := ite_T c6 HF
    refine ev_icmp_neF (tgt := 21) dX6_ruleOfEntry_14 (by decide) c6 ?_
    refine ev_iconst (v := 1) dX6_ruleOfEntry_17 (by decide) ?_
    refine ev_goto (tgt := 22) dX6_ruleOfEntry_18 (by decide) ?_
    replace HF := bind_o HF
    obtain ⟨b7, e8, HF⟩ := HF
    subst e8
    replace HF := bind_ck HF
    obtain ⟨c9, HF⟩ := HF
    replace HF := bind_o HF
    obtain ⟨⟨z12, h11⟩, e10, HF⟩ := HF
    replace HF := bd_o (bd_o HF)
    dsimp only at HF
    refine ev_callV (As := [.int x1, .int 1]) (R1 := (some (.int z12), h11)) (lk_X9_ruleOfEntry (d := 1) (Nat.le_refl _) c9 e10) ce_X9_ruleOfEntry im_X9_ruleOfEntry sl_X9_ruleOfEntry ml_X6_102 cl_X9 c9 dX6_ruleOfEntry_22 (by omega) (Nat.le_of_ble_eq_true rfl) rfl rfl ?_
    show EvG _ _ _ _ _ _ _ _ _ _ _ 25 [(0, .ref t), (1, .int x1)] [.int z12] h11
    obtain rfl := Option.some.inj HF
    exact ev_iret dX6_ruleOfEntry_25
  · replace HF := ite_F c6 HF
    refine ev_icmp_neT (tgt := 21) dX6_ruleOfEntry_14 (by decide) c6 ?_
    refine ev_iconst (v := 0) dX6_ruleOfEntry_21 (by decide) ?_
    replace HF := bind_o HF
    obtain ⟨b14, e15, HF⟩ := HF
    subst e15
    replace HF := bind_ck HF
    obtain ⟨c16, HF⟩ := HF
    replace HF := bind_o HF
    obtain ⟨⟨z19, h18⟩, e17, HF⟩ := HF
    replace HF := bd_o (bd_o HF)
    dsimp only at HF
    refine ev_callV (As := [.int x1, .int 0]) (R1 := (some (.int z19), h18)) (lk_X9_ruleOfEntry (d := 1) (Nat.le_refl _) c16 e17) ce_X9_ruleOfEntry im_X9_ruleOfEntry sl_X9_ruleOfEntry ml_X6_102 cl_X9 c16 dX6_ruleOfEntry_22 (by omega) (Nat.le_of_ble_eq_true rfl) rfl rfl ?_
    show EvG _ _ _ _ _ _ _ _ _ _ _ 25 [(0, .ref t), (1, .int x1)] [.int z19] h18
    obtain rfl := Option.some.inj HF
    exact ev_iret dX6_ruleOfEntry_25

set_option maxRecDepth 20000 in
theorem lk_X9_cross {g : aG} {l : Launch} {d : Nat} (hdd : 1 ≤ d) {t : Nat} {x1 : Int32} {h : aH} {r : aH} (hT : hK h t = 11) (HF : F_X9_cross t x1 h = some r) : MA g l yX9_cross cX9_cross 2 (none) d [.ref t, .int x1] h (none, r) := by
  refine MA.of (lv0 := [(0, .ref t), (1, .int x1)]) (by decide +kernel) (rfl) (Nat.le_of_ble_eq_true rfl) ?_
  unfold F_X9_cross at HF
  refine ev_iload_n 1 dX9_cross_0 rfl ?_
  refine ev_iconst (v := 2) dX9_cross_1 (by decide) ?_
  refine ev_irem dX9_cross_2 (by decide) ?_
  by_cases c1 : x1 - x1 / 2 * 2 = 0
  · replace HF := ite_T c1 HF
    refine ev_if_eqT (tgt := 10) dX9_cross_3 (by decide) c1 ?_
    obtain rfl := Option.some.inj HF
    exact ev_vret dX9_cross_10
  · replace HF := ite_F c1 HF
    refine ev_if_eqF (tgt := 10) dX9_cross_3 (by decide) c1 ?_
    refine ev_aload_n 0 dX9_cross_6 rfl ?_
    replace HF := bind_o HF
    obtain ⟨h3, e2, HF⟩ := HF
    refine ev_callV (As := []) (R1 := (none, h3)) (lk_X9_changeEnds (d := 0) (Nat.le_refl _) hT e2) ce_X9_changeEnds im_X9_changeEnds sl_X9_changeEnds ml_X9_148 cl_X9 hT dX9_cross_7 (by omega) (Nat.le_of_ble_eq_true rfl) rfl rfl ?_
    show EvG _ _ _ _ _ _ _ _ _ _ _ 10 [(0, .ref t), (1, .int x1)] [] h3
    obtain rfl := Option.some.inj HF
    exact ev_vret dX9_cross_10

set_option maxRecDepth 20000 in
theorem lk_X9_hit {g : aG} {l : Launch} {d : Nat} (hdd : 2 ≤ d) {t : Nat} {x1 : Int32} {h : aH} {r : aH} (hT : hK h t = 11) (HF : F_X9_hit t x1 h = some r) : MA g l yX9_hit cX9_hit 2 (none) d [.ref t, .int x1] h (none, r) := by
  refine MA.of (lv0 := [(0, .ref t), (1, .int x1)]) (by decide +kernel) (rfl) (Nat.le_of_ble_eq_true rfl) ?_
  unfold F_X9_hit at HF
  refine ev_aload_n 0 dX9_hit_0 rfl ?_
  replace HF := bind_o HF
  obtain ⟨b1, e2, HF⟩ := HF
  refine ev_gS (f := 1000) cl_X9 (k := 0) (by decide) fi_X9_0 rfl fl_X9_14 dX9_hit_1 hT e2 ?_
  refine ev_aload_n 0 dX9_hit_4 rfl ?_
  refine ev_gI (f := 1016) cl_X9 (k := 16) (by decide) fi_X9_16 rfl fl_X9_34 dX9_hit_5 hT ?_
  refine ev_iconst (v := 0) dX9_hit_8 (by decide) ?_
  refine ev_iload_n 1 dX9_hit_9 rfl ?_
  replace HF := bind_ck HF
  obtain ⟨c3, HF⟩ := HF
  replace HF := bind_o HF
  obtain ⟨h5, e4, HF⟩ := HF
  refine ev_callV (As := [.int (hF h 1016 t), .int 0, .int x1]) (R1 := (none, h5)) (lk_X4_add (d := 1) (Nat.le_refl _) c3 e4) ce_X4_add im_X4_add sl_X4_add ml_X9_101 cl_X4 c3 dX9_hit_10 (by omega) (Nat.le_of_ble_eq_true rfl) rfl rfl ?_
  show EvG _ _ _ _ _ _ _ _ _ _ _ 13 [(0, .ref t), (1, .int x1)] [] h5
  show EvG _ _ _ _ _ _ _ _ _ _ _ 13 _ _ _
  refine ev_aload_n 0 dX9_hit_13 rfl ?_
  replace HF := bind_ck HF
  obtain ⟨c7, HF⟩ := HF
  replace HF := bind_o HF
  obtain ⟨b8, e9, HF⟩ := HF
  refine ev_gS (f := 1001) cl_X9 (k := 1) (by decide) fi_X9_1 rfl fl_X9_20 dX9_hit_14 c7 e9 ?_
  refine ev_aload_n 0 dX9_hit_17 rfl ?_
  refine ev_gI (f := 1015) cl_X9 (k := 15) (by decide) fi_X9_15 rfl fl_X9_30 dX9_hit_18 c7 ?_
  refine ev_iconst (v := 1) dX9_hit_21 (by decide) ?_
  refine ev_iload_n 1 dX9_hit_22 rfl ?_
  replace HF := bind_ck HF
  obtain ⟨c10, HF⟩ := HF
  replace HF := bind_o HF
  obtain ⟨h12, e11, HF⟩ := HF
  refine ev_callV (As := [.int (hF h5 1015 t), .int 1, .int x1]) (R1 := (none, h12)) (lk_X4_add (d := 1) (Nat.le_refl _) c10 e11) ce_X4_add im_X4_add sl_X4_add ml_X9_101 cl_X4 c10 dX9_hit_23 (by omega) (Nat.le_of_ble_eq_true rfl) rfl rfl ?_
  show EvG _ _ _ _ _ _ _ _ _ _ _ 26 [(0, .ref t), (1, .int x1)] [] h12
  refine ev_aload_n 0 dX9_hit_26 rfl ?_
  show EvG _ _ _ _ _ _ _ _ _ _ _ 27 _ _ _
  refine ev_dup dX9_hit_27 rfl ?_
  replace HF := bind_ck HF
  obtain ⟨c14, HF⟩ := HF
  refine ev_gI (f := 1004) cl_X9 (k := 4) (by decide) fi_X9_4 rfl fl_X9_44 dX9_hit_28 c14 ?_
  refine ev_iload_n 1 dX9_hit_31 rfl ?_
  refine ev_iadd dX9_hit_32 ?_
  refine ev_pI (f := 1004) cl_X9 (k := 4) (by decide) fi_X9_4 rfl fl_X9_44 rfl rfl rfl dX9_hit_33 c14 ?_
  replace HF := bd_n HF
  obtain ⟨h15, eh15, HF⟩ := HF
  refine ev_heap eh15 ?_
  have c16 : hK h15 t = 11 := by rw [eh15]; exact c14
  refine ev_aload_n 0 dX9_hit_36 rfl ?_
  refine ev_iload_n 1 dX9_hit_37 rfl ?_
  replace HF := bind_o HF
  obtain ⟨h18, e17, HF⟩ := HF
  refine ev_callV (As := [.int x1]) (R1 := (none, h18)) (lk_X9_cross (d := 1) (Nat.le_refl _) c16 e17) ce_X9_cross im_X9_cross sl_X9_cross ml_X9_145 cl_X9 c16 dX9_hit_38 (by omega) (Nat.le_of_ble_eq_true rfl) rfl rfl ?_
  show EvG _ _ _ _ _ _ _ _ _ _ _ 41 [(0, .ref t), (1, .int x1)] [] h18
  show EvG _ _ _ _ _ _ _ _ _ _ _ 41 _ _ _
  obtain rfl := Option.some.inj HF
  exact ev_vret dX9_hit_41

set_option maxRecDepth 20000 in
theorem lk_X9_concede {g : aG} {l : Launch} {d : Nat} (hdd : 2 ≤ d) {t : Nat} {h : aH} {r : aH} (hT : hK h t = 11) (HF : F_X9_concede t h = some r) : MA g l yX9_concede cX9_concede 1 (none) d [.ref t] h (none, r) := by
  refine MA.of (lv0 := [(0, .ref t)]) (by decide +kernel) (rfl) (Nat.le_of_ble_eq_true rfl) ?_
  unfold F_X9_concede at HF
  refine ev_aload_n 0 dX9_concede_0 rfl ?_
  replace HF := bind_o HF
  obtain ⟨b1, e2, HF⟩ := HF
  refine ev_gS (f := 1001) cl_X9 (k := 1) (by decide) fi_X9_1 rfl fl_X9_20 dX9_concede_1 hT e2 ?_
  refine ev_aload_n 0 dX9_concede_4 rfl ?_
  refine ev_gI (f := 1015) cl_X9 (k := 15) (by decide) fi_X9_15 rfl fl_X9_30 dX9_concede_5 hT ?_
  refine ev_iconst (v := 1) dX9_concede_8 (by decide) ?_
  refine ev_iconst (v := 1) dX9_concede_9 (by decide) ?_
  replace HF := bind_ck HF
  obtain ⟨c3, HF⟩ := HF
  replace HF := bind_o HF
  obtain ⟨h5, e4, HF⟩ := HF
  refine ev_callV (As := [.int (hF h 1015 t), .int 1, .int 1]) (R1 := (none, h5)) (lk_X4_add (d := 1) (Nat.le_refl _) c3 e4) ce_X4_add im_X4_add sl_X4_add ml_X9_101 cl_X4 c3 dX9_concede_10 (by omega) (Nat.le_of_ble_eq_true rfl) rfl rfl ?_
  show EvG _ _ _ _ _ _ _ _ _ _ _ 13 [(0, .ref t)] [] h5
  show EvG _ _ _ _ _ _ _ _ _ _ _ 13 _ _ _
  refine ev_aload_n 0 dX9_concede_13 rfl ?_
  refine ev_dup dX9_concede_14 rfl ?_
  replace HF := bind_ck HF
  obtain ⟨c7, HF⟩ := HF
  refine ev_gI (f := 1006) cl_X9 (k := 6) (by decide) fi_X9_6 rfl fl_X9_50 dX9_concede_15 c7 ?_
  refine ev_iconst (v := 1) dX9_concede_18 (by decide) ?_
  refine ev_iadd dX9_concede_19 ?_
  refine ev_pI (f := 1006) cl_X9 (k := 6) (by decide) fi_X9_6 rfl fl_X9_50 rfl rfl rfl dX9_concede_20 c7 ?_
  replace HF := bd_n HF
  obtain ⟨h8, eh8, HF⟩ := HF
  refine ev_heap eh8 ?_
  have c9 : hK h8 t = 11 := by rw [eh8]; exact c7
  refine ev_aload_n 0 dX9_concede_23 rfl ?_
  refine ev_dup dX9_concede_24 rfl ?_
  show EvG _ _ _ _ _ _ _ _ _ _ _ 25 _ _ _
  refine ev_gI (f := 1004) cl_X9 (k := 4) (by decide) fi_X9_4 rfl fl_X9_44 dX9_concede_25 c9 ?_
  refine ev_iconst (v := 1) dX9_concede_28 (by decide) ?_
  refine ev_iadd dX9_concede_29 ?_
  refine ev_pI (f := 1004) cl_X9 (k := 4) (by decide) fi_X9_4 rfl fl_X9_44 rfl rfl rfl dX9_concede_30 c9 ?_
  replace HF := bd_n HF
  obtain ⟨h10, eh10, HF⟩ := HF
  refine ev_heap eh10 ?_
  have c11 : hK h10 t = 11 := by rw [eh10]; exact c9
  obtain rfl := Option.some.inj HF
  exact ev_vret dX9_concede_33

set_option maxRecDepth 20000 in
theorem lk_X9_runOfNobody {g : aG} {l : Launch} {d : Nat} (hdd : 2 ≤ d) {t : Nat} {x1 : Int32} {h : aH} {r : aH} (hT : hK h t = 11) (HF : F_X9_runOfNobody t x1 h = some r) : MA g l yX9_runOfNobody cX9_runOfNobody 2 (none) d [.ref t, .int x1] h (none, r) := by
  refine MA.of (lv0 := [(0, .ref t), (1, .int x1)]) (by decide +kernel) (rfl) (Nat.le_of_ble_eq_true rfl) ?_
  unfold F_X9_runOfNobody at HF
  refine ev_aload_n 0 dX9_runOfNobody_0 rfl ?_
  refine ev_dup dX9_runOfNobody_1 rfl ?_
  refine ev_gI (f := 1007) cl_X9 (k := 7) (by decide) fi_X9_7 rfl fl_X9_53 dX9_runOfNobody_2 hT ?_
  refine ev_iload_n 1 dX9_runOfNobody_5 rfl ?_
  refine ev_iadd dX9_runOfNobody_6 ?_
  refine ev_pI (f := 1007) cl_X9 (k := 7) (by decide) fi_X9_7 rfl fl_X9_53 rfl rfl rfl dX9_runOfNobody_7 hT ?_
  replace HF := bd_n HF
  obtain ⟨h1, eh1, HF⟩ := HF
  refine ev_heap eh1 ?_
  have c2 : hK h1 t = 11 := by rw [eh1]; exact hT
  refine ev_aload_n 0 dX9_runOfNobody_10 rfl ?_
  show EvG _ _ _ _ _ _ _ _ _ _ _ 11 _ _ _
  refine ev_dup dX9_runOfNobody_11 rfl ?_
  refine ev_gI (f := 1006) cl_X9 (k := 6) (by decide) fi_X9_6 rfl fl_X9_50 dX9_runOfNobody_12 c2 ?_
  refine ev_iload_n 1 dX9_runOfNobody_15 rfl ?_
  refine ev_iadd dX9_runOfNobody_16 ?_
  refine ev_pI (f := 1006) cl_X9 (k := 6) (by decide) fi_X9_6 rfl fl_X9_50 rfl rfl rfl dX9_runOfNobody_17 c2 ?_
  replace HF := bd_n HF
  obtain ⟨h3, eh3, HF⟩ := HF
  refine ev_heap eh3 ?_
  have c4 : hK h3 t = 11 := by rw [eh3]; exact c2
  refine ev_aload_n 0 dX9_runOfNobody_20 rfl ?_
  refine ev_dup dX9_runOfNobody_21 rfl ?_
  refine ev_gI (f := 1004) cl_X9 (k := 4) (by decide) fi_X9_4 rfl fl_X9_44 dX9_runOfNobody_22 c4 ?_
  show EvG _ _ _ _ _ _ _ _ _ _ _ 25 _ _ _
  refine ev_iload_n 1 dX9_runOfNobody_25 rfl ?_
  refine ev_iadd dX9_runOfNobody_26 ?_
  refine ev_pI (f := 1004) cl_X9 (k := 4) (by decide) fi_X9_4 rfl fl_X9_44 rfl rfl rfl dX9_runOfNobody_27 c4 ?_
  replace HF := bd_n HF
  obtain ⟨h5, eh5, HF⟩ := HF
  refine ev_heap eh5 ?_
  have c6 : hK h5 t = 11 := by rw [eh5]; exact c4
  refine ev_aload_n 0 dX9_runOfNobody_30 rfl ?_
  refine ev_iload_n 1 dX9_runOfNobody_31 rfl ?_
  replace HF := bind_o HF
  obtain ⟨h8, e7, HF⟩ := HF
  refine ev_callV (As := [.int x1]) (R1 := (none, h8)) (lk_X9_cross (d := 1) (Nat.le_refl _) c6 e7) ce_X9_cross im_X9_cross sl_X9_cross ml_X9_145 cl_X9 c6 dX9_runOfNobody_32 (by omega) (Nat.le_of_ble_eq_true rfl) rfl rfl ?_
  show EvG _ _ _ _ _ _ _ _ _ _ _ 35 [(0, .ref t), (1, .int x1)] [] h8
  obtain rfl := Option.some.inj HF
  exact ev_vret dX9_runOfNobody_35

set_option maxRecDepth 20000 in
theorem lk_X9_leave_85 {g : aG} {l : Launch} {d : Nat} {h0 : aH} (hdd : 2 ≤ d) {r : aH} (t : Nat) (x1 : Int32) (x3 : Int32) (h : aH) (HF : F_X9_leave_85  t x1 x3 h = some r) : Ev g l cX9_leave 4 yX9_leave (none) d h0 (none, r) 85 [(0, .ref t), (1, .int x1), (3, .int x3)] [] h := by
  unfold F_X9_leave_85 at HF
  refine ev_iload_n 1 dX9_leave_85 rfl ?_
  by_cases c1 : x1 = 0
  · replace HF := ite_T c1 HF
    refine ev_if_eqT (tgt := 97) dX9_leave_86 (by decide) c1 ?_
    refine ev_aload_n 0 dX9_leave_97 rfl ?_
    refine ev_iload_n 2 dX9_leave_98 rfl ?_
    replace HF := bind_ck HF
    obtain ⟨c2, HF⟩ := HF
    refine ev_pI (f := 1017) cl_X9 (k := 17) (by decide) fi_X9_17 rfl fl_X9_37 rfl rfl rfl dX9_leave_99 c2 ?_
    replace HF := bd_n HF
    obtain ⟨h3, eh3, HF⟩ := HF
    refine ev_heap eh3 ?_
    have c4 : hK h3 t = 11 := by rw [eh3]; exact c2
    obtain rfl := Option.some.inj HF
    exact ev_vret dX9_leave_102
  · replace HF := ite_F c1 HF
    refine ev_if_eqF (tgt := 97) dX9_leave_86 (by decide) c1 ?_
    refine ev_aload_n 0 dX9_leave_89 rfl ?_
    refine ev_iload_n 2 dX9_leave_90 rfl ?_
    replace HF := bind_ck HF
    obtain ⟨c5, HF⟩ := HF
    refine ev_pI (f := 1016) cl_X9 (k := 16) (by decide) fi_X9_16 rfl fl_X9_34 rfl rfl rfl dX9_leave_91 c5 ?_
    replace HF := bd_n HF
    obtain ⟨h6, eh6, HF⟩ := HF
    refine ev_heap eh6 ?_
    have c7 : hK h6 t = 11 := by rw [eh6]; exact c5
    refine ev_goto (tgt := 102) dX9_leave_94 (by decide) ?_
    obtain rfl := Option.some.inj HF
    exact ev_vret dX9_leave_102

set_option maxRecDepth 20000 in
theorem lk_X9_leave {g : aG} {l : Launch} {d : Nat} (hdd : 2 ≤ d) {t : Nat} {x1 : Int32} {x2 : Int32} {h : aH} {r : aH} (hT : hK h t = 11) (HF : F_X9_leave t x1 x2 h = some r) : MA g l yX9_leave cX9_leave 4 (none) d [.ref t, .int x1, .int x2] h (none, r) := by
  refine MA.of (lv0 := [(0, .ref t), (1, .int x1), (2, .int x2)]) (by decide +kernel) (rfl) (Nat.le_of_ble_eq_true rfl) ?_
  unfold F_X9_leave at HF
  refine ev_aload_n 0 dX9_leave_0 rfl ?_
  replace HF := bind_o HF
  obtain ⟨b1, e2, HF⟩ := HF
  refine ev_gS (f := 1000) cl_X9 (k := 0) (by decide) fi_X9_0 rfl fl_X9_14 dX9_leave_1 hT e2 ?_
  refine ev_iload_n 1 dX9_leave_4 rfl ?_
  by_cases c3 : x1 = 0
  · replace HF := ite_T c3 HF
    refine ev_if_eqT (tgt := 15) dX9_leave_5 (by decide) c3 ?_
    refine ev_aload_n 0 dX9_leave_15 rfl ?_
    refine ev_gI (f := 1017) cl_X9 (k := 17) (by decide) fi_X9_17 rfl fl_X9_37 dX9_leave_16 hT ?_
    refine ev_iconst (v := 2) dX9_leave_19 (by decide) ?_
    refine ev_iload_n 2 dX9_leave_20 rfl ?_
    replace HF := bind_ck HF
    obtain ⟨c4, HF⟩ := HF
    replace HF := bind_o HF
    obtain ⟨h6, e5, HF⟩ := HF
    refine ev_callV (As := [.int (hF h 1017 t), .int 2, .int x2]) (R1 := (none, h6)) (lk_X4_set (d := 1) (Nat.le_refl _) c4 e5) ce_X4_set im_X4_set sl_X4_set ml_X9_84 cl_X4 c4 dX9_leave_21 (by omega) (Nat.le_of_ble_eq_true rfl) rfl rfl ?_
    show EvG _ _ _ _ _ _ _ _ _ _ _ 24 [(0, .ref t), (1, .int x1), (2, .int x2)] [] h6
    refine ev_aload_n 0 dX9_leave_24 rfl ?_
    refine ev_dup dX9_leave_25 rfl ?_
    show EvG _ _ _ _ _ _ _ _ _ _ _ 26 _ _ _
    replace HF := bind_ck HF
    obtain ⟨c8, HF⟩ := HF
    refine ev_gI (f := 1005) cl_X9 (k := 5) (by decide) fi_X9_5 rfl fl_X9_47 dX9_leave_26 c8 ?_
    refine ev_iconst (v := 1) dX9_leave_29 (by decide) ?_
    refine ev_iadd dX9_leave_30 ?_
    refine ev_pI (f := 1005) cl_X9 (k := 5) (by decide) fi_X9_5 rfl fl_X9_47 rfl rfl rfl dX9_leave_31 c8 ?_
    replace HF := bd_n HF
    obtain ⟨h9, eh9, HF⟩ := HF
    refine ev_heap eh9 ?_
    have c10 : hK h9 t = 11 := by rw [eh9]; exact c8
    refine ev_aload_n 0 dX9_leave_34 rfl ?_
    replace HF := bind_o HF
    obtain ⟨b11, e12, HF⟩ := HF
    refine ev_gS (f := 1002) cl_X9 (k := 2) (by decide) fi_X9_2 rfl fl_X9_23 dX9_leave_35 c10 e12 ?_
    refine ev_aload_n 0 dX9_leave_38 rfl ?_
    refine ev_gI (f := 1011) cl_X9 (k := 11) (by decide) fi_X9_11 rfl fl_X9_65 dX9_leave_39 c10 ?_
    show EvG _ _ _ _ _ _ _ _ _ _ _ 42 _ _ _
    refine ev_iconst (v := 1) dX9_leave_42 (by decide) ?_
    refine ev_isub dX9_leave_43 ?_
    refine ev_iconst (v := 1) dX9_leave_44 (by decide) ?_
    refine ev_iconst (v := 1) dX9_leave_45 (by decide) ?_
    replace HF := bind_ck HF
    obtain ⟨c13, HF⟩ := HF
    replace HF := bind_o HF
    obtain ⟨h15, e14, HF⟩ := HF
    refine ev_callV (As := [.int ((hF h9 1011 t) - 1), .int 1, .int 1]) (R1 := (none, h15)) (lk_X4_add (d := 1) (Nat.le_refl _) c13 e14) ce_X4_add im_X4_add sl_X4_add ml_X9_101 cl_X4 c13 dX9_leave_46 (by omega) (Nat.le_of_ble_eq_true rfl) rfl rfl ?_
    show EvG _ _ _ _ _ _ _ _ _ _ _ 49 [(0, .ref t), (1, .int x1), (2, .int x2)] [] h15
    refine ev_iconst (v := (-1)) dX9_leave_49 (by decide) ?_
    refine ev_istore_n (lv' := [(3, .int ((-1))), (0, .ref t), (1, .int x1), (2, .int x2)]) dX9_leave_50 (by decide) (rfl) ?_
    refine ev_aload_n 1 dX9_leave_51 rfl ?_
    show EvG _ _ _ _ _ _ _ _ _ _ _ 52 _ _ _
    replace HF := bind_ck HF
    obtain ⟨c17, HF⟩ := HF
    refine ev_gI (f := 1005) cl_X9 (k := 5) (by decide) fi_X9_5 rfl fl_X9_47 dX9_leave_52 c17 ?_
    refine ev_bipush (v := 10) dX9_leave_55 (by decide) ?_
    by_cases c18 : 10 ≤ hF h15 1005 t
    · replace HF := ite_T c18 HF
      refine ev_icmp_geT (tgt := 85) dX9_leave_57 (by decide) c18 ?_
      exact Ev.sub [1, 2, 0] rfl (lk_X9_leave_85 hdd  t x1 ((-1)) _ HF)
    · replace HF := ite_F c18 HF
      refine ev_icmp_geF (tgt := 85) dX9_leave_57 (by decide) c18 ?_
      refine ev_aload_n 1 dX9_leave_60 rfl ?_
      refine ev_gI (f := 1018) cl_X9 (k := 18) (by decide) fi_X9_18 rfl fl_X9_77 dX9_leave_61 c17 ?_
      replace HF := bd_n HF
      obtain ⟨v19, ev19, HF⟩ := HF
      refine ev_topI ev19 ?_
      refine ev_istore_n (lv' := [(3, .int v19), (0, .ref t), (1, .int x1), (2, .int x2)]) dX9_leave_64 (by decide) (rfl) ?_
      refine ev_aload_n 1 dX9_leave_65 rfl ?_
      refine ev_dup dX9_leave_66 rfl ?_
      refine ev_gI (f := 1018) cl_X9 (k := 18) (by decide) fi_X9_18 rfl fl_X9_77 dX9_leave_67 c17 ?_
      refine ev_iconst (v := 1) dX9_leave_70 (by decide) ?_
      show EvG _ _ _ _ _ _ _ _ _ _ _ 71 _ _ _
      refine ev_iadd dX9_leave_71 ?_
      refine ev_pI (f := 1018) cl_X9 (k := 18) (by decide) fi_X9_18 rfl fl_X9_77 rfl rfl rfl dX9_leave_72 c17 ?_
      replace HF := bd_n HF
      obtain ⟨h20, eh20, HF⟩ := HF
      refine ev_heap eh20 ?_
      have c21 : hK h20 t = 11 := by rw [eh20]; exact c17
      refine ev_aload_n 1 dX9_leave_75 rfl ?_
      replace HF := bind_o HF
      obtain ⟨b22, e23, HF⟩ := HF
      refine ev_gS (f := 1000) cl_X9 (k := 0) (by decide) fi_X9_0 rfl fl_X9_14 dX9_leave_76 c21 e23 ?_
      refine ev_iload_n 0 dX9_leave_79 rfl ?_
      refine ev_iconst (v := 2) dX9_leave_80 (by decide) ?_
      refine ev_iconst (v := 1) dX9_leave_81 (by decide) ?_
      replace HF := bind_ck HF
      obtain ⟨c24, HF⟩ := HF
      replace HF := bind_o HF
      obtain ⟨h26, e25, HF⟩ := HF
      refine ev_callV (As := [.int v19, .int 2, .int 1]) (R1 := (none, h26)) (lk_X4_set (d := 1) (Nat.le_refl _) c24 e25) ce_X4_set im_X4_set sl_X4_set ml_X9_84 cl_X4 c24 dX9_leave_82 (by omega) (Nat.le_of_ble_eq_true rfl) rfl rfl ?_
      show EvG _ _ _ _ _ _ _ _ _ _ _ 85 [(3, .int v19), (0, .ref t), (1, .int x1), (2, .int x2)] [] h26
      exact Ev.sub [1, 2, 0] rfl (lk_X9_leave_85 hdd  t x1 v19 _ HF)
  · replace HF := ite_F c3 HF
    refine ev_if_eqF (tgt := 15) dX9_leave_5 (by decide) c3 ?_
    refine ev_aload_n 0 dX9_leave_8 rfl ?_
    refine ev_gI (f := 1016) cl_X9 (k := 16) (by decide) fi_X9_16 rfl fl_X9_34 dX9_leave_9 hT ?_
    refine ev_goto (tgt := 19) dX9_leave_12 (by decide) ?_
    refine ev_iconst (v := 2) dX9_leave_19 (by decide) ?_
    refine ev_iload_n 2 dX9_leave_20 rfl ?_
    replace HF := bind_ck HF
    obtain ⟨c28, HF⟩ := HF
    replace HF := bind_o HF
    obtain ⟨h30, e29, HF⟩ := HF
    refine ev_callV (As := [.int (hF h 1016 t), .int 2, .int x2]) (R1 := (none, h30)) (lk_X4_set (d := 1) (Nat.le_refl _) c28 e29) ce_X4_set im_X4_set sl_X4_set ml_X9_84 cl_X4 c28 dX9_leave_21 (by omega) (Nat.le_of_ble_eq_true rfl) rfl rfl ?_
    show EvG _ _ _ _ _ _ _ _ _ _ _ 24 [(0, .ref t), (1, .int x1), (2, .int x2)] [] h30
    refine ev_aload_n 0 dX9_leave_24 rfl ?_
    show EvG _ _ _ _ _ _ _ _ _ _ _ 25 _ _ _
    refine ev_dup dX9_leave_25 rfl ?_
    replace HF := bind_ck HF
    obtain ⟨c32, HF⟩ := HF
    refine ev_gI (f := 1005) cl_X9 (k := 5) (by decide) fi_X9_5 rfl fl_X9_47 dX9_leave_26 c32 ?_
    refine ev_iconst (v := 1) dX9_leave_29 (by decide) ?_
    refine ev_iadd dX9_leave_30 ?_
    refine ev_pI (f := 1005) cl_X9 (k := 5) (by decide) fi_X9_5 rfl fl_X9_47 rfl rfl rfl dX9_leave_31 c32 ?_
    replace HF := bd_n HF
    obtain ⟨h33, eh33, HF⟩ := HF
    refine ev_heap eh33 ?_
    have c34 : hK h33 t = 11 := by rw [eh33]; exact c32
    refine ev_aload_n 0 dX9_leave_34 rfl ?_
    replace HF := bind_o HF
    obtain ⟨b35, e36, HF⟩ := HF
    refine ev_gS (f := 1002) cl_X9 (k := 2) (by decide) fi_X9_2 rfl fl_X9_23 dX9_leave_35 c34 e36 ?_
    refine ev_aload_n 0 dX9_leave_38 rfl ?_
    show EvG _ _ _ _ _ _ _ _ _ _ _ 39 _ _ _
    refine ev_gI (f := 1011) cl_X9 (k := 11) (by decide) fi_X9_11 rfl fl_X9_65 dX9_leave_39 c34 ?_
    refine ev_iconst (v := 1) dX9_leave_42 (by decide) ?_
    refine ev_isub dX9_leave_43 ?_
    refine ev_iconst (v := 1) dX9_leave_44 (by decide) ?_
    refine ev_iconst (v := 1) dX9_leave_45 (by decide) ?_
    replace HF := bind_ck HF
    obtain ⟨c37, HF⟩ := HF
    replace HF := bind_o HF
    obtain ⟨h39, e38, HF⟩ := HF
    refine ev_callV (As := [.int ((hF h33 1011 t) - 1), .int 1, .int 1]) (R1 := (none, h39)) (lk_X4_add (d := 1) (Nat.le_refl _) c37 e38) ce_X4_add im_X4_add sl_X4_add ml_X9_101 cl_X4 c37 dX9_leave_46 (by omega) (Nat.le_of_ble_eq_true rfl) rfl rfl ?_
    show EvG _ _ _ _ _ _ _ _ _ _ _ 49 [(0, .ref t), (1, .int x1), (2, .int x2)] [] h39
    refine ev_iconst (v := (-1)) dX9_leave_49 (by decide) ?_
    refine ev_istore_n (lv' := [(3, .int ((-1))), (0, .ref t), (1, .int x1), (2, .int x2)]) dX9_leave_50 (by decide) (rfl) ?_
    show EvG _ _ _ _ _ _ _ _ _ _ _ 51 _ _ _
    refine ev_aload_n 1 dX9_leave_51 rfl ?_
    replace HF := bind_ck HF
    obtain ⟨c41, HF⟩ := HF
    refine ev_gI (f := 1005) cl_X9 (k := 5) (by decide) fi_X9_5 rfl fl_X9_47 dX9_leave_52 c41 ?_
    refine ev_bipush (v := 10) dX9_leave_55 (by decide) ?_
    by_cases c42 : 10 ≤ hF h39 1005 t
    · replace HF := ite_T c42 HF
      refine ev_icmp_geT (tgt := 85) dX9_leave_57 (by decide) c42 ?_
      exact Ev.sub [1, 2, 0] rfl (lk_X9_leave_85 hdd  t x1 ((-1)) _ HF)
    · replace HF := ite_F c42 HF
      refine ev_icmp_geF (tgt := 85) dX9_leave_57 (by decide) c42 ?_
      refine ev_aload_n 1 dX9_leave_60 rfl ?_
      refine ev_gI (f := 1018) cl_X9 (k := 18) (by decide) fi_X9_18 rfl fl_X9_77 dX9_leave_61 c41 ?_
      replace HF := bd_n HF
      obtain ⟨v43, ev43, HF⟩ := HF
      refine ev_topI ev43 ?_
      refine ev_istore_n (lv' := [(3, .int v43), (0, .ref t), (1, .int x1), (2, .int x2)]) dX9_leave_64 (by decide) (rfl) ?_
      refine ev_aload_n 1 dX9_leave_65 rfl ?_
      refine ev_dup dX9_leave_66 rfl ?_
      refine ev_gI (f := 1018) cl_X9 (k := 18) (by decide) fi_X9_18 rfl fl_X9_77 dX9_leave_67 c41 ?_
      refine ev_iconst (v := 1) dX9_leave_70 (by decide) ?_
      show EvG _ _ _ _ _ _ _ _ _ _ _ 71 _ _ _
      refine ev_iadd dX9_leave_71 ?_
      refine ev_pI (f := 1018) cl_X9 (k := 18) (by decide) fi_X9_18 rfl fl_X9_77 rfl rfl rfl dX9_leave_72 c41 ?_
      replace HF := bd_n HF
      obtain ⟨h44, eh44, HF⟩ := HF
      refine ev_heap eh44 ?_
      have c45 : hK h44 t = 11 := by rw [eh44]; exact c41
      refine ev_aload_n 1 dX9_leave_75 rfl ?_
      replace HF := bind_o HF
      obtain ⟨b46, e47, HF⟩ := HF
      refine ev_gS (f := 1000) cl_X9 (k := 0) (by decide) fi_X9_0 rfl fl_X9_14 dX9_leave_76 c45 e47 ?_
      refine ev_iload_n 0 dX9_leave_79 rfl ?_
      refine ev_iconst (v := 2) dX9_leave_80 (by decide) ?_
      refine ev_iconst (v := 1) dX9_leave_81 (by decide) ?_
      replace HF := bind_ck HF
      obtain ⟨c48, HF⟩ := HF
      replace HF := bind_o HF
      obtain ⟨h50, e49, HF⟩ := HF
      refine ev_callV (As := [.int v43, .int 2, .int 1]) (R1 := (none, h50)) (lk_X4_set (d := 1) (Nat.le_refl _) c48 e49) ce_X4_set im_X4_set sl_X4_set ml_X9_84 cl_X4 c48 dX9_leave_82 (by omega) (Nat.le_of_ble_eq_true rfl) rfl rfl ?_
      show EvG _ _ _ _ _ _ _ _ _ _ _ 85 [(3, .int v43), (0, .ref t), (1, .int x1), (2, .int x2)] [] h50
      exact Ev.sub [1, 2, 0] rfl (lk_X9_leave_85 hdd  t x1 v43 _ HF)

set_option maxRecDepth 20000 in
theorem lk_X9_ballsLeft {g : aG} {l : Launch} {d : Nat} (hdd : 0 ≤ d) {t : Nat} {h : aH} {r : Int32 × aH} (hT : hK h t = 11) (HF : F_X9_ballsLeft t h = some r) : MA g l yX9_ballsLeft cX9_ballsLeft 1 (some .int) d [.ref t] h (some (.int r.1), r.2) := by
  refine MA.of (lv0 := [(0, .ref t)]) (by decide +kernel) (rfl) (Nat.le_of_ble_eq_true rfl) ?_
  unfold F_X9_ballsLeft at HF
  refine ev_bipush (v := 6) dX9_ballsLeft_0 (by decide) ?_
  refine ev_aload_n 0 dX9_ballsLeft_2 rfl ?_
  refine ev_gI (f := 1008) cl_X9 (k := 8) (by decide) fi_X9_8 rfl fl_X9_56 dX9_ballsLeft_3 hT ?_
  refine ev_aload_n 0 dX9_ballsLeft_6 rfl ?_
  refine ev_gI (f := 1012) cl_X9 (k := 12) (by decide) fi_X9_12 rfl fl_X9_68 dX9_ballsLeft_7 hT ?_
  refine ev_isub dX9_ballsLeft_10 ?_
  refine ev_imul dX9_ballsLeft_11 ?_
  show EvG _ _ _ _ _ _ _ _ _ _ _ 12 _ _ _
  refine ev_aload_n 0 dX9_ballsLeft_12 rfl ?_
  refine ev_gI (f := 1014) cl_X9 (k := 14) (by decide) fi_X9_14 rfl fl_X9_74 dX9_ballsLeft_13 hT ?_
  refine ev_isub dX9_ballsLeft_16 ?_
  obtain rfl := Option.some.inj HF
  exact ev_iret dX9_ballsLeft_17

set_option maxRecDepth 20000 in
theorem lk_X9_takeAway {g : aG} {l : Launch} {d : Nat} (hdd : 1 ≤ d) {t : Nat} {x1 : Int32} {h : aH} {r : aH} (hT : hK h t = 11) (HF : F_X9_takeAway t x1 h = some r) : MA g l yX9_takeAway cX9_takeAway 3 (none) d [.ref t, .int x1] h (none, r) := by
  refine MA.of (lv0 := [(0, .ref t), (1, .int x1)]) (by decide +kernel) (rfl) (Nat.le_of_ble_eq_true rfl) ?_
  unfold F_X9_takeAway at HF
  refine ev_aload_n 0 dX9_takeAway_0 rfl ?_
  replace HF := bind_o HF
  obtain ⟨⟨z3, h2⟩, e1, HF⟩ := HF
  replace HF := bd_o (bd_o HF)
  dsimp only at HF
  refine ev_callV (As := []) (R1 := (some (.int z3), h2)) (lk_X9_ballsLeft (d := 0) (Nat.le_refl _) hT e1) ce_X9_ballsLeft im_X9_ballsLeft sl_X9_ballsLeft ml_X9_151 cl_X9 hT dX9_takeAway_1 (by omega) (Nat.le_of_ble_eq_true rfl) rfl rfl ?_
  show EvG _ _ _ _ _ _ _ _ _ _ _ 4 [(0, .ref t), (1, .int x1)] [.int z3] h2
  refine ev_aload_n 0 dX9_takeAway_4 rfl ?_
  replace HF := bind_ck HF
  obtain ⟨c5, HF⟩ := HF
  refine ev_gI (f := 1005) cl_X9 (k := 5) (by decide) fi_X9_5 rfl fl_X9_47 dX9_takeAway_5 c5 ?_
  replace HF := bind_o HF
  obtain ⟨⟨z8, h7⟩, e6, HF⟩ := HF
  replace HF := bd_o (bd_o HF)
  dsimp only at HF
  refine ev_callSN (As := [.int z3, .int (hF h2 1005 t)]) (R1 := (some (.int z8), h7)) (lk_X11_table (d := 0) (Nat.le_refl _) e6) ce_X11_table st_X11_table ml_X9_80 dX9_takeAway_8 (by omega) (Nat.le_of_ble_eq_true rfl) rfl rfl ?_
  show EvG _ _ _ _ _ _ _ _ _ _ _ 11 [(0, .ref t), (1, .int x1)] [.int z8] h7
  refine ev_istore_n (lv' := [(2, .int z8), (0, .ref t), (1, .int x1)]) dX9_takeAway_11 (by decide) (rfl) ?_
  refine ev_aload_n 1 dX9_takeAway_12 rfl ?_
  show EvG _ _ _ _ _ _ _ _ _ _ _ 13 _ _ _
  refine ev_dup dX9_takeAway_13 rfl ?_
  replace HF := bind_ck HF
  obtain ⟨c10, HF⟩ := HF
  refine ev_gI (f := 1008) cl_X9 (k := 8) (by decide) fi_X9_8 rfl fl_X9_56 dX9_takeAway_14 c10 ?_
  refine ev_iload_n 2 dX9_takeAway_17 rfl ?_
  refine ev_isub dX9_takeAway_18 ?_
  refine ev_pI (f := 1008) cl_X9 (k := 8) (by decide) fi_X9_8 rfl fl_X9_56 rfl rfl rfl dX9_takeAway_19 c10 ?_
  replace HF := bd_n HF
  obtain ⟨h11, eh11, HF⟩ := HF
  refine ev_heap eh11 ?_
  have c12 : hK h11 t = 11 := by rw [eh11]; exact c10
  refine ev_aload_n 1 dX9_takeAway_22 rfl ?_
  refine ev_dup dX9_takeAway_23 rfl ?_
  refine ev_gI (f := 1009) cl_X9 (k := 9) (by decide) fi_X9_9 rfl fl_X9_59 dX9_takeAway_24 c12 ?_
  show EvG _ _ _ _ _ _ _ _ _ _ _ 27 _ _ _
  refine ev_iload_n 0 dX9_takeAway_27 rfl ?_
  refine ev_aload_n 1 dX9_takeAway_28 rfl ?_
  replace HF := bind_o HF
  obtain ⟨⟨z15, h14⟩, e13, HF⟩ := HF
  replace HF := bd_o (bd_o HF)
  dsimp only at HF
  refine ev_callV (As := []) (R1 := (some (.int z15), h14)) (lk_X9_ballsLeft (d := 0) (Nat.le_refl _) c12 e13) ce_X9_ballsLeft im_X9_ballsLeft sl_X9_ballsLeft ml_X9_151 cl_X9 c12 dX9_takeAway_29 (by omega) (Nat.le_of_ble_eq_true rfl) rfl rfl ?_
  show EvG _ _ _ _ _ _ _ _ _ _ _ 32 [(2, .int z8), (0, .ref t), (1, .int x1)] [.int z15, .int z8, .int (hF h11 1009 t), .ref t] h14
  refine ev_aload_n 1 dX9_takeAway_32 rfl ?_
  replace HF := bind_ck HF
  obtain ⟨c17, HF⟩ := HF
  refine ev_gI (f := 1005) cl_X9 (k := 5) (by decide) fi_X9_5 rfl fl_X9_47 dX9_takeAway_33 c17 ?_
  replace HF := bind_o HF
  obtain ⟨⟨z20, h19⟩, e18, HF⟩ := HF
  replace HF := bd_o (bd_o HF)
  dsimp only at HF
  refine ev_callSN (As := [.int z15, .int (hF h14 1005 t)]) (R1 := (some (.int z20), h19)) (lk_X11_table (d := 0) (Nat.le_refl _) e18) ce_X11_table st_X11_table ml_X9_80 dX9_takeAway_36 (by omega) (Nat.le_of_ble_eq_true rfl) rfl rfl ?_
  show EvG _ _ _ _ _ _ _ _ _ _ _ 39 [(2, .int z8), (0, .ref t), (1, .int x1)] [.int z20, .int z8, .int (hF h11 1009 t), .ref t] h19
  refine ev_isub dX9_takeAway_39 ?_
  refine ev_isub dX9_takeAway_40 ?_
  show EvG _ _ _ _ _ _ _ _ _ _ _ 41 _ _ _
  replace HF := bind_ck HF
  obtain ⟨c22, HF⟩ := HF
  refine ev_pI (f := 1009) cl_X9 (k := 9) (by decide) fi_X9_9 rfl fl_X9_59 rfl rfl rfl dX9_takeAway_41 c22 ?_
  replace HF := bd_n HF
  obtain ⟨h23, eh23, HF⟩ := HF
  refine ev_heap eh23 ?_
  have c24 : hK h23 t = 11 := by rw [eh23]; exact c22
  obtain rfl := Option.some.inj HF
  exact ev_vret dX9_takeAway_44

set_option maxRecDepth 20000 in
theorem lk_X9_playEntry_247 {g : aG} {l : Launch} {d : Nat} {h0 : aH} (hdd : 3 ≤ d) {r : aH} (t : Nat) (h : aH) (HF : F_X9_playEntry_247  t h = some r) : Ev g l cX9_playEntry 5 yX9_playEntry (none) d h0 (none, r) 247 [(0, .ref t)] [] h := by
  unfold F_X9_playEntry_247 at HF
  refine ev_aload_n 0 dX9_playEntry_247 rfl ?_
  replace HF := bind_ck HF
  obtain ⟨c1, HF⟩ := HF
  refine ev_gI (f := 1014) cl_X9 (k := 14) (by decide) fi_X9_14 rfl fl_X9_74 dX9_playEntry_248 c1 ?_
  refine ev_bipush (v := 6) dX9_playEntry_251 (by decide) ?_
  by_cases c2 : hF h 1014 t = 6
  · replace HF := ite_T c2 HF
    refine ev_icmp_neF (tgt := 261) dX9_playEntry_253 (by decide) c2 ?_
    refine ev_aload_n 0 dX9_playEntry_256 rfl ?_
    refine ev_iconst (v := 0) dX9_playEntry_257 (by decide) ?_
    replace HF := bind_o HF
    obtain ⟨h4, e3, HF⟩ := HF
    refine ev_callV (As := [.int 0]) (R1 := (none, h4)) (lk_X9_endOver (d := 2) (Nat.le_refl _) c1 e3) ce_X9_endOver im_X9_endOver sl_X9_endOver ml_X9_91 cl_X9 c1 dX9_playEntry_258 (by omega) (Nat.le_of_ble_eq_true rfl) rfl rfl ?_
    show EvG _ _ _ _ _ _ _ _ _ _ _ 261 [(0, .ref t)] [] h4
    obtain rfl := Option.some.inj HF
    exact ev_vret dX9_playEntry_261
  · replace HF := ite_F c2 HF
    refine ev_icmp_neT (tgt := 261) dX9_playEntry_253 (by decide) c2 ?_
    obtain rfl := Option.some.inj HF
    exact ev_vret dX9_playEntry_261

set_option maxRecDepth 20000 in
theorem lk_X9_playEntry_191 {g : aG} {l : Launch} {d : Nat} {h0 : aH} (hdd : 3 ≤ d) {r : aH} (t : Nat) (x2 : Int32) (x4 : Int32) (h : aH) (HF : F_X9_playEntry_191  t x2 x4 h = some r) : Ev g l cX9_playEntry 5 yX9_playEntry (none) d h0 (none, r) 191 [(0, .ref t), (2, .int x2), (4, .int x4)] [] h := by
  unfold F_X9_playEntry_191 at HF
  refine ev_aload_n 0 dX9_playEntry_191 rfl ?_
  replace HF := bind_ck HF
  obtain ⟨c1, HF⟩ := HF
  replace HF := bind_o HF
  obtain ⟨b2, e3, HF⟩ := HF
  refine ev_gS (f := 1002) cl_X9 (k := 2) (by decide) fi_X9_2 rfl fl_X9_23 dX9_playEntry_192 c1 e3 ?_
  refine ev_aload_n 0 dX9_playEntry_195 rfl ?_
  refine ev_gI (f := 1011) cl_X9 (k := 11) (by decide) fi_X9_11 rfl fl_X9_65 dX9_playEntry_196 c1 ?_
  refine ev_iconst (v := 1) dX9_playEntry_199 (by decide) ?_
  refine ev_isub dX9_playEntry_200 ?_
  refine ev_iconst (v := 0) dX9_playEntry_201 (by decide) ?_
  show EvG _ _ _ _ _ _ _ _ _ _ _ 202 _ _ _
  refine ev_aload_n 0 dX9_playEntry_202 rfl ?_
  refine ev_gI (f := 1004) cl_X9 (k := 4) (by decide) fi_X9_4 rfl fl_X9_44 dX9_playEntry_203 c1 ?_
  refine ev_iload 2 dX9_playEntry_206 rfl ?_
  refine ev_isub dX9_playEntry_208 ?_
  replace HF := bind_ck HF
  obtain ⟨c4, HF⟩ := HF
  replace HF := bind_o HF
  obtain ⟨h6, e5, HF⟩ := HF
  refine ev_callV (As := [.int ((hF h 1011 t) - 1), .int 0, .int ((hF h 1004 t) - x4)]) (R1 := (none, h6)) (lk_X4_add (d := 1) (Nat.le_refl _) c4 e5) ce_X4_add im_X4_add sl_X4_add ml_X9_101 cl_X4 c4 dX9_playEntry_209 (by omega) (Nat.le_of_ble_eq_true rfl) rfl rfl ?_
  show EvG _ _ _ _ _ _ _ _ _ _ _ 212 [(0, .ref t), (2, .int x2), (4, .int x4)] [] h6
  refine ev_iload_n 1 dX9_playEntry_212 rfl ?_
  replace HF := bind_o HF
  obtain ⟨⟨z10, h9⟩, e8, HF⟩ := HF
  replace HF := bd_o (bd_o HF)
  dsimp only at HF
  refine ev_callSN (As := [.int x2]) (R1 := (some (.int z10), h9)) (lk_X11_counts (d := 0) (Nat.le_refl _) e8) ce_X11_counts st_X11_counts ml_X9_115 dX9_playEntry_213 (by omega) (Nat.le_of_ble_eq_true rfl) rfl rfl ?_
  show EvG _ _ _ _ _ _ _ _ _ _ _ 216 [(0, .ref t), (2, .int x2), (4, .int x4)] [.int z10] h9
  by_cases c12 : z10 = 0
  · replace HF := ite_T c12 HF
    refine ev_if_eqT (tgt := 247) dX9_playEntry_216 (by decide) c12 ?_
    exact Ev.sub [0] rfl (lk_X9_playEntry_247 hdd  t _ HF)
  · replace HF := ite_F c12 HF
    refine ev_if_eqF (tgt := 247) dX9_playEntry_216 (by decide) c12 ?_
    refine ev_aload_n 0 dX9_playEntry_219 rfl ?_
    refine ev_dup dX9_playEntry_220 rfl ?_
    replace HF := bind_ck HF
    obtain ⟨c13, HF⟩ := HF
    refine ev_gI (f := 1014) cl_X9 (k := 14) (by decide) fi_X9_14 rfl fl_X9_74 dX9_playEntry_221 c13 ?_
    refine ev_iconst (v := 1) dX9_playEntry_224 (by decide) ?_
    refine ev_iadd dX9_playEntry_225 ?_
    refine ev_pI (f := 1014) cl_X9 (k := 14) (by decide) fi_X9_14 rfl fl_X9_74 rfl rfl rfl dX9_playEntry_226 c13 ?_
    replace HF := bd_n HF
    obtain ⟨h14, eh14, HF⟩ := HF
    refine ev_heap eh14 ?_
    have c15 : hK h14 t = 11 := by rw [eh14]; exact c13
    refine ev_aload_n 0 dX9_playEntry_229 rfl ?_
    show EvG _ _ _ _ _ _ _ _ _ _ _ 230 _ _ _
    replace HF := bind_o HF
    obtain ⟨b16, e17, HF⟩ := HF
    refine ev_gS (f := 1002) cl_X9 (k := 2) (by decide) fi_X9_2 rfl fl_X9_23 dX9_playEntry_230 c15 e17 ?_
    refine ev_aload_n 0 dX9_playEntry_233 rfl ?_
    refine ev_gI (f := 1011) cl_X9 (k := 11) (by decide) fi_X9_11 rfl fl_X9_65 dX9_playEntry_234 c15 ?_
    refine ev_iconst (v := 1) dX9_playEntry_237 (by decide) ?_
    refine ev_isub dX9_playEntry_238 ?_
    refine ev_iconst (v := 2) dX9_playEntry_239 (by decide) ?_
    refine ev_aload_n 0 dX9_playEntry_240 rfl ?_
    refine ev_gI (f := 1014) cl_X9 (k := 14) (by decide) fi_X9_14 rfl fl_X9_74 dX9_playEntry_241 c15 ?_
    show EvG _ _ _ _ _ _ _ _ _ _ _ 244 _ _ _
    replace HF := bind_ck HF
    obtain ⟨c18, HF⟩ := HF
    replace HF := bind_o HF
    obtain ⟨h20, e19, HF⟩ := HF
    refine ev_callV (As := [.int ((hF h14 1011 t) - 1), .int 2, .int (hF h14 1014 t)]) (R1 := (none, h20)) (lk_X4_set (d := 1) (Nat.le_refl _) c18 e19) ce_X4_set im_X4_set sl_X4_set ml_X9_84 cl_X4 c18 dX9_playEntry_244 (by omega) (Nat.le_of_ble_eq_true rfl) rfl rfl ?_
    show EvG _ _ _ _ _ _ _ _ _ _ _ 247 [(0, .ref t), (2, .int x2), (4, .int x4)] [] h20
    exact Ev.sub [0] rfl (lk_X9_playEntry_247 hdd  t _ HF)

set_option maxRecDepth 20000 in
theorem lk_X9_playEntry_41 {g : aG} {l : Launch} {d : Nat} {h0 : aH} (hdd : 3 ≤ d) {r : aH} (t : Nat) (x2 : Int32) (x3 : Int32) (x4 : Int32) (h : aH) (HF : F_X9_playEntry_41  t x2 x3 x4 h = some r) : Ev g l cX9_playEntry 5 yX9_playEntry (none) d h0 (none, r) 41 [(0, .ref t), (2, .int x2), (3, .int x3), (4, .int x4)] [] h := by
  unfold F_X9_playEntry_41 at HF
  refine ev_iload_n 1 dX9_playEntry_41 rfl ?_
  by_cases c1 : x2 = 0
  · replace HF := ite_T c1 HF
    refine ev_swT (kk := 0) (tgt := 92) dX9_playEntry_42 c1 (by decide +kernel) (by decide +kernel) ?_
    refine ev_aload_n 0 dX9_playEntry_92 rfl ?_
    refine ev_iload_n 2 dX9_playEntry_93 rfl ?_
    replace HF := bind_ck HF
    obtain ⟨c2, HF⟩ := HF
    replace HF := bind_o HF
    obtain ⟨h4, e3, HF⟩ := HF
    refine ev_callV (As := [.int x3]) (R1 := (none, h4)) (lk_X9_hit (d := 2) (Nat.le_refl _) c2 e3) ce_X9_hit im_X9_hit sl_X9_hit ml_X9_119 cl_X9 c2 dX9_playEntry_94 (by omega) (Nat.le_of_ble_eq_true rfl) rfl rfl ?_
    show EvG _ _ _ _ _ _ _ _ _ _ _ 97 [(0, .ref t), (2, .int x2), (3, .int x3), (4, .int x4)] [] h4
    refine ev_goto (tgt := 191) dX9_playEntry_97 (by decide) ?_
    exact Ev.sub [0, 1, 3] rfl (lk_X9_playEntry_191 hdd  t x2 x4 _ HF)
  replace HF := ite_F c1 HF
  by_cases c6 : x2 = 1
  · replace HF := ite_T c6 HF
    refine ev_swT (kk := 1) (tgt := 100) dX9_playEntry_42 c6 (by decide +kernel) (by decide +kernel) ?_
    refine ev_aload_n 0 dX9_playEntry_100 rfl ?_
    replace HF := bind_ck HF
    obtain ⟨c7, HF⟩ := HF
    replace HF := bind_o HF
    obtain ⟨h9, e8, HF⟩ := HF
    refine ev_callV (As := []) (R1 := (none, h9)) (lk_X9_concede (d := 2) (Nat.le_refl _) c7 e8) ce_X9_concede im_X9_concede sl_X9_concede ml_X9_122 cl_X9 c7 dX9_playEntry_101 (by omega) (Nat.le_of_ble_eq_true rfl) rfl rfl ?_
    show EvG _ _ _ _ _ _ _ _ _ _ _ 104 [(0, .ref t), (2, .int x2), (3, .int x3), (4, .int x4)] [] h9
    refine ev_aload_n 0 dX9_playEntry_104 rfl ?_
    refine ev_iload_n 2 dX9_playEntry_105 rfl ?_
    replace HF := bind_ck HF
    obtain ⟨c11, HF⟩ := HF
    replace HF := bind_o HF
    obtain ⟨h13, e12, HF⟩ := HF
    refine ev_callV (As := [.int x3]) (R1 := (none, h13)) (lk_X9_runOfNobody (d := 2) (Nat.le_refl _) c11 e12) ce_X9_runOfNobody im_X9_runOfNobody sl_X9_runOfNobody ml_X9_125 cl_X9 c11 dX9_playEntry_106 (by omega) (Nat.le_of_ble_eq_true rfl) rfl rfl ?_
    show EvG _ _ _ _ _ _ _ _ _ _ _ 109 [(0, .ref t), (2, .int x2), (3, .int x3), (4, .int x4)] [] h13
    refine ev_goto (tgt := 191) dX9_playEntry_109 (by decide) ?_
    exact Ev.sub [0, 1, 3] rfl (lk_X9_playEntry_191 hdd  t x2 x4 _ HF)
  replace HF := ite_F c6 HF
  by_cases c15 : x2 = 2
  · replace HF := ite_T c15 HF
    refine ev_swT (kk := 2) (tgt := 112) dX9_playEntry_42 c15 (by decide +kernel) (by decide +kernel) ?_
    refine ev_aload_n 0 dX9_playEntry_112 rfl ?_
    replace HF := bind_ck HF
    obtain ⟨c16, HF⟩ := HF
    replace HF := bind_o HF
    obtain ⟨h18, e17, HF⟩ := HF
    refine ev_callV (As := []) (R1 := (none, h18)) (lk_X9_concede (d := 2) (Nat.le_refl _) c16 e17) ce_X9_concede im_X9_concede sl_X9_concede ml_X9_122 cl_X9 c16 dX9_playEntry_113 (by omega) (Nat.le_of_ble_eq_true rfl) rfl rfl ?_
    show EvG _ _ _ _ _ _ _ _ _ _ _ 116 [(0, .ref t), (2, .int x2), (3, .int x3), (4, .int x4)] [] h18
    refine ev_aload_n 0 dX9_playEntry_116 rfl ?_
    refine ev_iload_n 2 dX9_playEntry_117 rfl ?_
    replace HF := bind_ck HF
    obtain ⟨c20, HF⟩ := HF
    replace HF := bind_o HF
    obtain ⟨h22, e21, HF⟩ := HF
    refine ev_callV (As := [.int x3]) (R1 := (none, h22)) (lk_X9_hit (d := 2) (Nat.le_refl _) c20 e21) ce_X9_hit im_X9_hit sl_X9_hit ml_X9_119 cl_X9 c20 dX9_playEntry_118 (by omega) (Nat.le_of_ble_eq_true rfl) rfl rfl ?_
    show EvG _ _ _ _ _ _ _ _ _ _ _ 121 [(0, .ref t), (2, .int x2), (3, .int x3), (4, .int x4)] [] h22
    refine ev_goto (tgt := 191) dX9_playEntry_121 (by decide) ?_
    exact Ev.sub [0, 1, 3] rfl (lk_X9_playEntry_191 hdd  t x2 x4 _ HF)
  replace HF := ite_F c15 HF
  by_cases c24 : x2 = 3
  · replace HF := ite_T c24 HF
    refine ev_swT (kk := 3) (tgt := 124) dX9_playEntry_42 c24 (by decide +kernel) (by decide +kernel) ?_
    refine ev_aload_n 0 dX9_playEntry_124 rfl ?_
    replace HF := bind_ck HF
    obtain ⟨c25, HF⟩ := HF
    replace HF := bind_o HF
    obtain ⟨b26, e27, HF⟩ := HF
    refine ev_gS (f := 1001) cl_X9 (k := 1) (by decide) fi_X9_1 rfl fl_X9_20 dX9_playEntry_125 c25 e27 ?_
    refine ev_aload_n 0 dX9_playEntry_128 rfl ?_
    refine ev_gI (f := 1015) cl_X9 (k := 15) (by decide) fi_X9_15 rfl fl_X9_30 dX9_playEntry_129 c25 ?_
    refine ev_iconst (v := 2) dX9_playEntry_132 (by decide) ?_
    refine ev_iconst (v := 1) dX9_playEntry_133 (by decide) ?_
    replace HF := bind_ck HF
    obtain ⟨c28, HF⟩ := HF
    replace HF := bind_o HF
    obtain ⟨h30, e29, HF⟩ := HF
    refine ev_callV (As := [.int (hF h 1015 t), .int 2, .int 1]) (R1 := (none, h30)) (lk_X4_add (d := 1) (Nat.le_refl _) c28 e29) ce_X4_add im_X4_add sl_X4_add ml_X9_101 cl_X4 c28 dX9_playEntry_134 (by omega) (Nat.le_of_ble_eq_true rfl) rfl rfl ?_
    show EvG _ _ _ _ _ _ _ _ _ _ _ 137 [(0, .ref t), (2, .int x2), (3, .int x3), (4, .int x4)] [] h30
    show EvG _ _ _ _ _ _ _ _ _ _ _ 137 _ _ _
    refine ev_aload_n 0 dX9_playEntry_137 rfl ?_
    refine ev_iconst (v := 1) dX9_playEntry_138 (by decide) ?_
    refine ev_iconst (v := 2) dX9_playEntry_139 (by decide) ?_
    refine ev_iload_n 2 dX9_playEntry_140 rfl ?_
    refine ev_iadd dX9_playEntry_141 ?_
    replace HF := bind_ck HF
    obtain ⟨c32, HF⟩ := HF
    replace HF := bind_o HF
    obtain ⟨h34, e33, HF⟩ := HF
    refine ev_callV (As := [.int 1, .int (2 + x3)]) (R1 := (none, h34)) (lk_X9_leave (d := 2) (Nat.le_refl _) c32 e33) ce_X9_leave im_X9_leave sl_X9_leave ml_X9_128 cl_X9 c32 dX9_playEntry_142 (by omega) (Nat.le_of_ble_eq_true rfl) rfl rfl ?_
    show EvG _ _ _ _ _ _ _ _ _ _ _ 145 [(0, .ref t), (2, .int x2), (3, .int x3), (4, .int x4)] [] h34
    refine ev_goto (tgt := 191) dX9_playEntry_145 (by decide) ?_
    exact Ev.sub [0, 1, 3] rfl (lk_X9_playEntry_191 hdd  t x2 x4 _ HF)
  replace HF := ite_F c24 HF
  by_cases c36 : x2 = 4
  · replace HF := ite_T c36 HF
    refine ev_swT (kk := 4) (tgt := 148) dX9_playEntry_42 c36 (by decide +kernel) (by decide +kernel) ?_
    refine ev_aload_n 0 dX9_playEntry_148 rfl ?_
    refine ev_iload_n 2 dX9_playEntry_149 rfl ?_
    refine ev_iconst (v := 2) dX9_playEntry_150 (by decide) ?_
    refine ev_idiv dX9_playEntry_151 (by decide) ?_
    replace HF := bind_ck HF
    obtain ⟨c37, HF⟩ := HF
    replace HF := bind_o HF
    obtain ⟨h39, e38, HF⟩ := HF
    refine ev_callV (As := [.int (x3 / 2)]) (R1 := (none, h39)) (lk_X9_hit (d := 2) (Nat.le_refl _) c37 e38) ce_X9_hit im_X9_hit sl_X9_hit ml_X9_119 cl_X9 c37 dX9_playEntry_152 (by omega) (Nat.le_of_ble_eq_true rfl) rfl rfl ?_
    show EvG _ _ _ _ _ _ _ _ _ _ _ 155 [(0, .ref t), (2, .int x2), (3, .int x3), (4, .int x4)] [] h39
    refine ev_aload_n 0 dX9_playEntry_155 rfl ?_
    refine ev_iload_n 2 dX9_playEntry_156 rfl ?_
    show EvG _ _ _ _ _ _ _ _ _ _ _ 157 _ _ _
    refine ev_iconst (v := 2) dX9_playEntry_157 (by decide) ?_
    refine ev_irem dX9_playEntry_158 (by decide) ?_
    by_cases c41 : x3 - x3 / 2 * 2 = 0
    · replace HF := ite_T c41 HF
      refine ev_if_neF (tgt := 166) dX9_playEntry_159 (by decide) c41 ?_
      refine ev_iconst (v := 1) dX9_playEntry_162 (by decide) ?_
      refine ev_goto (tgt := 167) dX9_playEntry_163 (by decide) ?_
      refine ev_bipush (v := 6) dX9_playEntry_167 (by decide) ?_
      replace HF := bind_ck HF
      obtain ⟨c42, HF⟩ := HF
      replace HF := bind_o HF
      obtain ⟨h44, e43, HF⟩ := HF
      refine ev_callV (As := [.int 1, .int 6]) (R1 := (none, h44)) (lk_X9_leave (d := 2) (Nat.le_refl _) c42 e43) ce_X9_leave im_X9_leave sl_X9_leave ml_X9_128 cl_X9 c42 dX9_playEntry_169 (by omega) (Nat.le_of_ble_eq_true rfl) rfl rfl ?_
      show EvG _ _ _ _ _ _ _ _ _ _ _ 172 [(0, .ref t), (2, .int x2), (3, .int x3), (4, .int x4)] [] h44
      refine ev_goto (tgt := 191) dX9_playEntry_172 (by decide) ?_
      exact Ev.sub [0, 1, 3] rfl (lk_X9_playEntry_191 hdd  t x2 x4 _ HF)
    · replace HF := ite_F c41 HF
      refine ev_if_neT (tgt := 166) dX9_playEntry_159 (by decide) c41 ?_
      refine ev_iconst (v := 0) dX9_playEntry_166 (by decide) ?_
      refine ev_bipush (v := 6) dX9_playEntry_167 (by decide) ?_
      replace HF := bind_ck HF
      obtain ⟨c46, HF⟩ := HF
      replace HF := bind_o HF
      obtain ⟨h48, e47, HF⟩ := HF
      refine ev_callV (As := [.int 0, .int 6]) (R1 := (none, h48)) (lk_X9_leave (d := 2) (Nat.le_refl _) c46 e47) ce_X9_leave im_X9_leave sl_X9_leave ml_X9_128 cl_X9 c46 dX9_playEntry_169 (by omega) (Nat.le_of_ble_eq_true rfl) rfl rfl ?_
      show EvG _ _ _ _ _ _ _ _ _ _ _ 172 [(0, .ref t), (2, .int x2), (3, .int x3), (4, .int x4)] [] h48
      refine ev_goto (tgt := 191) dX9_playEntry_172 (by decide) ?_
      exact Ev.sub [0, 1, 3] rfl (lk_X9_playEntry_191 hdd  t x2 x4 _ HF)
  replace HF := ite_F c36 HF
  by_cases c50 : x2 = 6
  · replace HF := ite_T c50 HF
    refine ev_swT (kk := 6) (tgt := 175) dX9_playEntry_42 c50 (by decide +kernel) (by decide +kernel) ?_
    refine ev_aload_n 0 dX9_playEntry_175 rfl ?_
    refine ev_iload_n 2 dX9_playEntry_176 rfl ?_
    replace HF := bind_ck HF
    obtain ⟨c51, HF⟩ := HF
    replace HF := bind_o HF
    obtain ⟨h53, e52, HF⟩ := HF
    refine ev_callV (As := [.int x3]) (R1 := (none, h53)) (lk_X9_runOfNobody (d := 2) (Nat.le_refl _) c51 e52) ce_X9_runOfNobody im_X9_runOfNobody sl_X9_runOfNobody ml_X9_125 cl_X9 c51 dX9_playEntry_177 (by omega) (Nat.le_of_ble_eq_true rfl) rfl rfl ?_
    show EvG _ _ _ _ _ _ _ _ _ _ _ 180 [(0, .ref t), (2, .int x2), (3, .int x3), (4, .int x4)] [] h53
    refine ev_goto (tgt := 191) dX9_playEntry_180 (by decide) ?_
    exact Ev.sub [0, 1, 3] rfl (lk_X9_playEntry_191 hdd  t x2 x4 _ HF)
  replace HF := ite_F c50 HF
  by_cases c55 : x2 = 8
  · replace HF := ite_T c55 HF
    refine ev_swT (kk := 8) (tgt := 183) dX9_playEntry_42 c55 (by decide +kernel) (by decide +kernel) ?_
    refine ev_aload_n 0 dX9_playEntry_183 rfl ?_
    refine ev_iload_n 2 dX9_playEntry_184 rfl ?_
    replace HF := bind_ck HF
    obtain ⟨c56, HF⟩ := HF
    replace HF := bind_o HF
    obtain ⟨h58, e57, HF⟩ := HF
    refine ev_callV (As := [.int x3]) (R1 := (none, h58)) (lk_X9_takeAway (d := 1) (Nat.le_refl _) c56 e57) ce_X9_takeAway im_X9_takeAway sl_X9_takeAway ml_X9_132 cl_X9 c56 dX9_playEntry_185 (by omega) (Nat.le_of_ble_eq_true rfl) rfl rfl ?_
    show EvG _ _ _ _ _ _ _ _ _ _ _ 188 [(0, .ref t), (2, .int x2), (3, .int x3), (4, .int x4)] [] h58
    refine ev_goto (tgt := 191) dX9_playEntry_188 (by decide) ?_
    exact Ev.sub [0, 1, 3] rfl (lk_X9_playEntry_191 hdd  t x2 x4 _ HF)
  replace HF := ite_F c55 HF
  refine ev_swTd (ks := [0, 1, 2, 3, 4, 6, 8]) (tgt := 191) dX9_playEntry_42 (by simp only [List.mem_cons, List.not_mem_nil, or_false, forall_eq_or_imp, forall_eq]; exact ⟨c1, c6, c15, c24, c36, c50, c55⟩) (by decide +kernel) (by decide) ?_
  exact Ev.sub [0, 1, 3] rfl (lk_X9_playEntry_191 hdd  t x2 x4 _ HF)

set_option maxRecDepth 20000 in
theorem lk_X9_playEntry_28 {g : aG} {l : Launch} {d : Nat} {h0 : aH} (hdd : 3 ≤ d) {r : aH} (t : Nat) (x2 : Int32) (x3 : Int32) (x4 : Int32) (h : aH) (HF : F_X9_playEntry_28  t x2 x3 x4 h = some r) : Ev g l cX9_playEntry 5 yX9_playEntry (none) d h0 (none, r) 28 [(0, .ref t), (2, .int x2), (3, .int x3), (4, .int x4)] [] h := by
  unfold F_X9_playEntry_28 at HF
  refine ev_aload_n 0 dX9_playEntry_28 rfl ?_
  replace HF := bind_ck HF
  obtain ⟨c1, HF⟩ := HF
  replace HF := bind_o HF
  obtain ⟨b2, e3, HF⟩ := HF
  refine ev_gS (f := 1000) cl_X9 (k := 0) (by decide) fi_X9_0 rfl fl_X9_14 dX9_playEntry_29 c1 e3 ?_
  refine ev_aload_n 0 dX9_playEntry_32 rfl ?_
  refine ev_gI (f := 1016) cl_X9 (k := 16) (by decide) fi_X9_16 rfl fl_X9_34 dX9_playEntry_33 c1 ?_
  refine ev_iconst (v := 1) dX9_playEntry_36 (by decide) ?_
  refine ev_iconst (v := 1) dX9_playEntry_37 (by decide) ?_
  replace HF := bind_ck HF
  obtain ⟨c4, HF⟩ := HF
  replace HF := bind_o HF
  obtain ⟨h6, e5, HF⟩ := HF
  refine ev_callV (As := [.int (hF h 1016 t), .int 1, .int 1]) (R1 := (none, h6)) (lk_X4_add (d := 1) (Nat.le_refl _) c4 e5) ce_X4_add im_X4_add sl_X4_add ml_X9_101 cl_X4 c4 dX9_playEntry_38 (by omega) (Nat.le_of_ble_eq_true rfl) rfl rfl ?_
  show EvG _ _ _ _ _ _ _ _ _ _ _ 41 [(0, .ref t), (2, .int x2), (3, .int x3), (4, .int x4)] [] h6
  exact Ev.sub [0, 1, 2, 3] rfl (lk_X9_playEntry_41 hdd  t x2 x3 x4 _ HF)

set_option maxRecDepth 20000 in
theorem lk_X9_playEntry {g : aG} {l : Launch} {d : Nat} (hdd : 3 ≤ d) {t : Nat} {x1 : Int32} {h : aH} {r : aH} (hT : hK h t = 11) (HF : F_X9_playEntry t x1 h = some r) : MA g l yX9_playEntry cX9_playEntry 5 (none) d [.ref t, .int x1] h (none, r) := by
  refine MA.of (lv0 := [(0, .ref t), (1, .int x1)]) (by decide +kernel) (rfl) (Nat.le_of_ble_eq_true rfl) ?_
  unfold F_X9_playEntry at HF
  refine ev_iload_n 1 dX9_playEntry_0 rfl ?_
  refine ev_bipush (v := 16) dX9_playEntry_1 (by decide) ?_
  refine ev_idiv dX9_playEntry_3 (by decide) ?_
  replace HF := bd_n HF
  obtain ⟨v1, ev1, HF⟩ := HF
  refine ev_topI ev1 ?_
  refine ev_istore_n (lv' := [(2, .int v1), (0, .ref t), (1, .int x1)]) dX9_playEntry_4 (by decide) (rfl) ?_
  refine ev_iload_n 2 dX9_playEntry_5 rfl ?_
  refine ev_bipush (v := 16) dX9_playEntry_6 (by decide) ?_
  refine ev_irem dX9_playEntry_8 (by decide) ?_
  show EvG _ _ _ _ _ _ _ _ _ _ _ 9 _ _ _
  replace HF := bd_n HF
  obtain ⟨v2, ev2, HF⟩ := HF
  refine ev_topI ev2 ?_
  refine ev_istore_n (lv' := [(3, .int v2), (2, .int v1), (0, .ref t), (1, .int x1)]) dX9_playEntry_9 (by decide) (rfl) ?_
  refine ev_aload_n 2 dX9_playEntry_10 rfl ?_
  refine ev_gI (f := 1004) cl_X9 (k := 4) (by decide) fi_X9_4 rfl fl_X9_44 dX9_playEntry_11 hT ?_
  replace HF := bd_n HF
  obtain ⟨v3, ev3, HF⟩ := HF
  refine ev_topI ev3 ?_
  refine ev_istore (lv' := [(4, .int v3), (3, .int v2), (2, .int v1), (0, .ref t), (1, .int x1)]) dX9_playEntry_14 (by decide) (rfl) ?_
  refine ev_iload_n 2 dX9_playEntry_16 rfl ?_
  replace HF := bind_o HF
  obtain ⟨⟨z6, h5⟩, e4, HF⟩ := HF
  replace HF := bd_o (bd_o HF)
  dsimp only at HF
  refine ev_callSN (As := [.int v1]) (R1 := (some (.int z6), h5)) (lk_X11_counts (d := 0) (Nat.le_refl _) e4) ce_X11_counts st_X11_counts ml_X9_115 dX9_playEntry_17 (by omega) (Nat.le_of_ble_eq_true rfl) rfl rfl ?_
  show EvG _ _ _ _ _ _ _ _ _ _ _ 20 [(4, .int v3), (3, .int v2), (2, .int v1), (0, .ref t), (1, .int x1)] [.int z6] h5
  by_cases c8 : z6 = 0
  · replace HF := ite_T c8 HF
    refine ev_if_neF (tgt := 28) dX9_playEntry_20 (by decide) c8 ?_
    refine ev_iload_n 2 dX9_playEntry_23 rfl ?_
    refine ev_iconst (v := 2) dX9_playEntry_24 (by decide) ?_
    by_cases c9 : v1 = 2
    · replace HF := ite_T c9 HF
      refine ev_icmp_neF (tgt := 41) dX9_playEntry_25 (by decide) c9 ?_
      exact Ev.sub [3, 2, 1, 0] rfl (lk_X9_playEntry_28 hdd  t v1 v2 v3 _ HF)
    · replace HF := ite_F c9 HF
      refine ev_icmp_neT (tgt := 41) dX9_playEntry_25 (by decide) c9 ?_
      exact Ev.sub [3, 2, 1, 0] rfl (lk_X9_playEntry_41 hdd  t v1 v2 v3 _ HF)
  · replace HF := ite_F c8 HF
    refine ev_if_neT (tgt := 28) dX9_playEntry_20 (by decide) c8 ?_
    exact Ev.sub [3, 2, 1, 0] rfl (lk_X9_playEntry_28 hdd  t v1 v2 v3 _ HF)

set_option maxRecDepth 20000 in
theorem lk_X6_replay_98 {g : aG} {l : Launch} {d : Nat} {h0 : aH} (hdd : 5 ≤ d) {r : aH} (k7 : Nat → Nat → Int32 → aH → Option (aH)) (hk7 : ∀ (t : Nat) (a1 : Nat) (x2 : Int32) (h : aH), k7 t a1 x2 h = some r → Ev g l cX6_replay 6 yX6_replay (none) d h0 (none, r) 7 [(0, .ref t), (1, .ref a1), (2, .int x2)] [] h) (k38 : Nat → Nat → Int32 → Int32 → aH → Option (aH)) (hk38 : ∀ (t : Nat) (a1 : Nat) (x2 : Int32) (x3 : Int32) (h : aH), k38 t a1 x2 x3 h = some r → Ev g l cX6_replay 6 yX6_replay (none) d h0 (none, r) 38 [(0, .ref t), (1, .ref a1), (2, .int x2), (3, .int x3)] [] h) : ∀ (n : Nat) (t : Nat) (a1 : Nat) (x2 : Int32) (x3 : Int32) (a4 : Nat) (x5 : Int32) (h : aH), F_X6_replay_98 k7 k38 n t a1 x2 x3 a4 x5 h = some r → Ev g l cX6_replay 6 yX6_replay (none) d h0 (none, r) 98 [(0, .ref t), (1, .ref a1), (2, .int x2), (3, .int x3), (4, .ref a4), (5, .int x5)] [] h := by
  intro n
  induction n with
  | zero => intro t a1 x2 x3 a4 x5 h HF; cases HF
  | succ n ih =>
  intro t a1 x2 x3 a4 x5 h HF
  unfold F_X6_replay_98 at HF
  refine ev_iload 5 dX6_replay_98 rfl ?_
  refine ev_aload 4 dX6_replay_100 rfl ?_
  replace HF := bind_ck HF
  obtain ⟨c1, HF⟩ := HF
  refine ev_gIN (f := 602) cl_X5 (k := 2) (by decide) fi_X5_2 rfl fl_X6_75 dX6_replay_102 c1 ?_
  by_cases c2 : hF h 602 a4 ≤ x5
  · replace HF := ite_T c2 HF
    refine ev_icmp_geT (tgt := 176) dX6_replay_105 (by decide) c2 ?_
    replace HF := bd_n HF
    obtain ⟨v3, ev3, HF⟩ := HF
    refine ev_iinc (v := v3) (lv' := [(3, .int v3), (0, .ref t), (1, .ref a1), (2, .int x2), (4, .ref a4), (5, .int x5)]) 3 dX6_replay_176 rfl (by rw [ev3]; rfl) (by decide) (rfl) ?_
    refine ev_goto (tgt := 38) dX6_replay_179 (by decide) ?_
    exact Ev.sub [1, 2, 3, 0] rfl (hk38 t a1 x2 v3 _ HF)
  · replace HF := ite_F c2 HF
    refine ev_icmp_geF (tgt := 176) dX6_replay_105 (by decide) c2 ?_
    refine ev_aload_n 0 dX6_replay_108 rfl ?_
    refine ev_aload_n 0 dX6_replay_109 rfl ?_
    refine ev_aload 4 dX6_replay_110 rfl ?_
    refine ev_iload 5 dX6_replay_112 rfl ?_
    replace HF := bind_o HF
    obtain ⟨⟨z6, h5⟩, e4, HF⟩ := HF
    replace HF := bd_o (bd_o HF)
    dsimp only at HF
    refine ev_callV (As := [.int x5]) (R1 := (some (.int z6), h5)) (lk_X5_at (d := 1) (Nat.le_refl _) c1 e4) ce_X5_at im_X5_at sl_X5_at ml_X6_78 cl_X5 c1 dX6_replay_114 (by omega) (Nat.le_of_ble_eq_true rfl) rfl rfl ?_
    show EvG _ _ _ _ _ _ _ _ _ _ _ 117 [(0, .ref t), (1, .ref a1), (2, .int x2), (3, .int x3), (4, .ref a4), (5, .int x5)] [.int z6, .ref t, .ref t] h5
    replace HF := bind_ck HF
    obtain ⟨c8, HF⟩ := HF
    replace HF := bind_o HF
    obtain ⟨⟨z11, h10⟩, e9, HF⟩ := HF
    replace HF := bd_o (bd_o HF)
    dsimp only at HF
    refine ev_callV (As := [.int z6]) (R1 := (some (.int z11), h10)) (lk_X6_ruleOfEntry (d := 2) (Nat.le_refl _) c8 e9) ce_X6_ruleOfEntry im_X6_ruleOfEntry sl_X6_ruleOfEntry ml_X6_81 cl_X6 c8 dX6_replay_117 (by omega) (Nat.le_of_ble_eq_true rfl) rfl rfl ?_
    show EvG _ _ _ _ _ _ _ _ _ _ _ 120 [(0, .ref t), (1, .ref a1), (2, .int x2), (3, .int x3), (4, .ref a4), (5, .int x5)] [.int z11, .ref t] h10
    refine ev_iload_n 2 dX6_replay_120 rfl ?_
    show EvG _ _ _ _ _ _ _ _ _ _ _ 121 _ _ _
    refine ev_iload_n 3 dX6_replay_121 rfl ?_
    refine ev_iload 5 dX6_replay_122 rfl ?_
    replace HF := bind_ck HF
    obtain ⟨c13, HF⟩ := HF
    replace HF := bind_o HF
    obtain ⟨⟨z16, h15⟩, e14, HF⟩ := HF
    replace HF := bd_o (bd_o HF)
    dsimp only at HF
    refine ev_callV (As := [.int z11, .int x2, .int x3, .int x5]) (R1 := (some (.int z16), h15)) (lk_X6_stops (d := 0) (Nat.le_refl _) c13 e14) ce_X6_stops im_X6_stops sl_X6_stops ml_X6_40 cl_X6 c13 dX6_replay_124 (by omega) (Nat.le_of_ble_eq_true rfl) rfl rfl ?_
    show EvG _ _ _ _ _ _ _ _ _ _ _ 127 [(0, .ref t), (1, .ref a1), (2, .int x2), (3, .int x3), (4, .ref a4), (5, .int x5)] [.int z16] h15
    by_cases c18 : z16 = 0
    · replace HF := ite_T c18 HF
      refine ev_if_eqT (tgt := 131) dX6_replay_127 (by decide) c18 ?_
      refine ev_aload_n 0 dX6_replay_131 rfl ?_
      refine ev_iload_n 2 dX6_replay_132 rfl ?_
      replace HF := bind_ck HF
      obtain ⟨c19, HF⟩ := HF
      replace HF := bind_o HF
      obtain ⟨⟨o22, h21⟩, e20, HF⟩ := HF
      replace HF := bd_o (bd_o HF)
      dsimp only at HF
      refine ev_callV (As := [.int x2]) (R1 := (some (va_rf o22), h21)) (lk_X6_tallyAt (d := 0) (Nat.le_refl _) c19 e20) ce_X6_tallyAt im_X6_tallyAt sl_X6_tallyAt ml_X6_63 cl_X6 c19 dX6_replay_133 (by omega) (Nat.le_of_ble_eq_true rfl) rfl rfl ?_
      show EvG _ _ _ _ _ _ _ _ _ _ _ 136 [(0, .ref t), (1, .ref a1), (2, .int x2), (3, .int x3), (4, .ref a4), (5, .int x5)] [va_rf o22] h21
      refine ev_aload 4 dX6_replay_136 rfl ?_
      refine ev_iload 5 dX6_replay_138 rfl ?_
      replace HF := bind_ck HF
      obtain ⟨c24, HF⟩ := HF
      replace HF := bind_o HF
      obtain ⟨⟨z27, h26⟩, e25, HF⟩ := HF
      replace HF := bd_o (bd_o HF)
      dsimp only at HF
      refine ev_callV (As := [.int x5]) (R1 := (some (.int z27), h26)) (lk_X5_at (d := 1) (Nat.le_refl _) c24 e25) ce_X5_at im_X5_at sl_X5_at ml_X6_78 cl_X5 c24 dX6_replay_140 (by omega) (by cases o22 <;> exact Nat.le_of_ble_eq_true rfl) rfl rfl ?_
      show EvG _ _ _ _ _ _ _ _ _ _ _ 143 [(0, .ref t), (1, .ref a1), (2, .int x2), (3, .int x3), (4, .ref a4), (5, .int x5)] [.int z27, va_rf o22] h26
      replace HF := bind_o HF
      obtain ⟨b29, e30, HF⟩ := HF
      subst e30
      replace HF := bind_ck HF
      obtain ⟨c31, HF⟩ := HF
      replace HF := bind_o HF
      obtain ⟨h33, e32, HF⟩ := HF
      refine ev_callV (As := [.int z27]) (R1 := (none, h33)) (lk_X9_playEntry (d := 3) (Nat.le_refl _) c31 e32) ce_X9_playEntry im_X9_playEntry sl_X9_playEntry ml_X6_84 cl_X9 c31 dX6_replay_143 (by omega) (Nat.le_of_ble_eq_true rfl) rfl rfl ?_
      show EvG _ _ _ _ _ _ _ _ _ _ _ 146 [(0, .ref t), (1, .ref a1), (2, .int x2), (3, .int x3), (4, .ref a4), (5, .int x5)] [] h33
      show EvG _ _ _ _ _ _ _ _ _ _ _ 146 _ _ _
      refine ev_aload_n 0 dX6_replay_146 rfl ?_
      refine ev_aload 4 dX6_replay_147 rfl ?_
      refine ev_iload 5 dX6_replay_149 rfl ?_
      replace HF := bind_ck HF
      obtain ⟨c35, HF⟩ := HF
      replace HF := bind_o HF
      obtain ⟨⟨z38, h37⟩, e36, HF⟩ := HF
      replace HF := bd_o (bd_o HF)
      dsimp only at HF
      refine ev_callV (As := [.int x5]) (R1 := (some (.int z38), h37)) (lk_X5_at (d := 1) (Nat.le_refl _) c35 e36) ce_X5_at im_X5_at sl_X5_at ml_X6_78 cl_X5 c35 dX6_replay_151 (by omega) (Nat.le_of_ble_eq_true rfl) rfl rfl ?_
      show EvG _ _ _ _ _ _ _ _ _ _ _ 154 [(0, .ref t), (1, .ref a1), (2, .int x2), (3, .int x3), (4, .ref a4), (5, .int x5)] [.int z38, .ref t] h37
      refine ev_bipush (v := 16) dX6_replay_154 (by decide) ?_
      refine ev_idiv dX6_replay_156 (by decide) ?_
      refine ev_bipush (v := 9) dX6_replay_157 (by decide) ?_
      by_cases c40 : z38 / 16 = 9
      · replace HF := ite_T c40 HF
        refine ev_icmp_neF (tgt := 166) dX6_replay_159 (by decide) c40 ?_
        refine ev_iconst (v := 1) dX6_replay_162 (by decide) ?_
        refine ev_goto (tgt := 167) dX6_replay_163 (by decide) ?_
        replace HF := bind_ck HF
        obtain ⟨c41, HF⟩ := HF
        replace HF := bind_o HF
        obtain ⟨h43, e42, HF⟩ := HF
        refine ev_callV (As := [.int 1]) (R1 := (none, h43)) (lk_X6_endTurn (d := 3) (Nat.le_refl _) c41 e42) ce_X6_endTurn im_X6_endTurn sl_X6_endTurn ml_X6_71 cl_X6 c41 dX6_replay_167 (by omega) (Nat.le_of_ble_eq_true rfl) rfl rfl ?_
        show EvG _ _ _ _ _ _ _ _ _ _ _ 170 [(0, .ref t), (1, .ref a1), (2, .int x2), (3, .int x3), (4, .ref a4), (5, .int x5)] [] h43
        replace HF := bd_n HF
        obtain ⟨v45, ev45, HF⟩ := HF
        refine ev_iinc (v := v45) (lv' := [(5, .int v45), (0, .ref t), (1, .ref a1), (2, .int x2), (3, .int x3), (4, .ref a4)]) 5 dX6_replay_170 rfl (by rw [ev45]; rfl) (by decide) (rfl) ?_
        refine ev_goto (tgt := 98) dX6_replay_173 (by decide) ?_
        exact Ev.sub [1, 2, 3, 4, 5, 0] rfl (ih t a1 x2 x3 a4 v45 _ HF)
      · replace HF := ite_F c40 HF
        refine ev_icmp_neT (tgt := 166) dX6_replay_159 (by decide) c40 ?_
        refine ev_iconst (v := 0) dX6_replay_166 (by decide) ?_
        replace HF := bind_ck HF
        obtain ⟨c46, HF⟩ := HF
        replace HF := bind_o HF
        obtain ⟨h48, e47, HF⟩ := HF
        refine ev_callV (As := [.int 0]) (R1 := (none, h48)) (lk_X6_endTurn (d := 3) (Nat.le_refl _) c46 e47) ce_X6_endTurn im_X6_endTurn sl_X6_endTurn ml_X6_71 cl_X6 c46 dX6_replay_167 (by omega) (Nat.le_of_ble_eq_true rfl) rfl rfl ?_
        show EvG _ _ _ _ _ _ _ _ _ _ _ 170 [(0, .ref t), (1, .ref a1), (2, .int x2), (3, .int x3), (4, .ref a4), (5, .int x5)] [] h48
        replace HF := bd_n HF
        obtain ⟨v50, ev50, HF⟩ := HF
        refine ev_iinc (v := v50) (lv' := [(5, .int v50), (0, .ref t), (1, .ref a1), (2, .int x2), (3, .int x3), (4, .ref a4)]) 5 dX6_replay_170 rfl (by rw [ev50]; rfl) (by decide) (rfl) ?_
        refine ev_goto (tgt := 98) dX6_replay_173 (by decide) ?_
        exact Ev.sub [1, 2, 3, 4, 5, 0] rfl (ih t a1 x2 x3 a4 v50 _ HF)
    · replace HF := ite_F c18 HF
      refine ev_if_eqF (tgt := 131) dX6_replay_127 (by decide) c18 ?_
      obtain rfl := Option.some.inj HF
      exact ev_vret dX6_replay_130

set_option maxRecDepth 20000 in
theorem lk_X6_replay_38 {g : aG} {l : Launch} {d : Nat} {h0 : aH} (hdd : 5 ≤ d) {r : aH} (k7 : Nat → Nat → Int32 → aH → Option (aH)) (hk7 : ∀ (t : Nat) (a1 : Nat) (x2 : Int32) (h : aH), k7 t a1 x2 h = some r → Ev g l cX6_replay 6 yX6_replay (none) d h0 (none, r) 7 [(0, .ref t), (1, .ref a1), (2, .int x2)] [] h) : ∀ (n : Nat) (t : Nat) (a1 : Nat) (x2 : Int32) (x3 : Int32) (h : aH), F_X6_replay_38 k7 n t a1 x2 x3 h = some r → Ev g l cX6_replay 6 yX6_replay (none) d h0 (none, r) 38 [(0, .ref t), (1, .ref a1), (2, .int x2), (3, .int x3)] [] h := by
  intro n
  induction n with
  | zero => intro t a1 x2 x3 h HF; cases HF
  | succ n ih =>
  intro t a1 x2 x3 h HF
  unfold F_X6_replay_38 at HF
  refine ev_iload_n 3 dX6_replay_38 rfl ?_
  refine ev_aload_n 1 dX6_replay_39 rfl ?_
  refine ev_iload_n 2 dX6_replay_40 rfl ?_
  replace HF := bind_ck HF
  obtain ⟨c1, HF⟩ := HF
  replace HF := bind_o HF
  obtain ⟨⟨z4, h3⟩, e2, HF⟩ := HF
  replace HF := bd_o (bd_o HF)
  dsimp only at HF
  refine ev_callV (As := [.int x2]) (R1 := (some (.int z4), h3)) (lk_X3_overCountOf (d := 4) (Nat.le_refl _) c1 e2) ce_X3_overCountOf im_X3_overCountOf sl_X3_overCountOf ml_X6_48 cl_X3 c1 dX6_replay_41 (by omega) (Nat.le_of_ble_eq_true rfl) rfl rfl ?_
  show EvG _ _ _ _ _ _ _ _ _ _ _ 44 [(0, .ref t), (1, .ref a1), (2, .int x2), (3, .int x3)] [.int z4, .int x3] h3
  by_cases c6 : z4 ≤ x3
  · replace HF := ite_T c6 HF
    refine ev_icmp_geT (tgt := 182) dX6_replay_44 (by decide) c6 ?_
    replace HF := bd_n HF
    obtain ⟨v7, ev7, HF⟩ := HF
    refine ev_iinc (v := v7) (lv' := [(2, .int v7), (0, .ref t), (1, .ref a1), (3, .int x3)]) 2 dX6_replay_182 rfl (by rw [ev7]; rfl) (by decide) (rfl) ?_
    refine ev_goto (tgt := 7) dX6_replay_185 (by decide) ?_
    exact Ev.sub [1, 2, 0] rfl (hk7 t a1 v7 _ HF)
  · replace HF := ite_F c6 HF
    refine ev_icmp_geF (tgt := 182) dX6_replay_44 (by decide) c6 ?_
    refine ev_aload_n 1 dX6_replay_47 rfl ?_
    refine ev_iload_n 2 dX6_replay_48 rfl ?_
    refine ev_iload_n 3 dX6_replay_49 rfl ?_
    replace HF := bind_ck HF
    obtain ⟨c8, HF⟩ := HF
    replace HF := bind_o HF
    obtain ⟨⟨o11, h10⟩, e9, HF⟩ := HF
    replace HF := bd_o (bd_o HF)
    dsimp only at HF
    refine ev_callV (As := [.int x2, .int x3]) (R1 := (some (va_rf o11), h10)) (lk_X3_overAt (d := 4) (Nat.le_refl _) c8 e9) ce_X3_overAt im_X3_overAt sl_X3_overAt ml_X6_51 cl_X3 c8 dX6_replay_50 (by omega) (Nat.le_of_ble_eq_true rfl) rfl rfl ?_
    show EvG _ _ _ _ _ _ _ _ _ _ _ 53 [(0, .ref t), (1, .ref a1), (2, .int x2), (3, .int x3)] [va_rf o11] h10
    refine ev_astorer (lv' := [(4, va_rf o11), (0, .ref t), (1, .ref a1), (2, .int x2), (3, .int x3)]) dX6_replay_53 (by decide) (rfl) ?_
    refine ev_aloadr 0 dX6_replay_55 rfl ?_
    cases o11 with
    | none =>
      refine ev_ifnullN (tgt := 79) dX6_replay_57 (by decide) ?_
      obtain rfl := Option.some.inj HF
      exact ev_vret dX6_replay_79
    | some b13 =>
      refine ev_ifnullS dX6_replay_57 ?_
      refine ev_aload_n 1 dX6_replay_60 rfl ?_
      refine ev_aload_n 1 dX6_replay_61 rfl ?_
      refine ev_aload 0 dX6_replay_62 rfl ?_
      replace HF := bind_ck HF
      obtain ⟨c14, HF⟩ := HF
      refine ev_gIN (f := 601) cl_X5 (k := 1) (by decide) fi_X5_1 rfl fl_X6_55 dX6_replay_64 c14 ?_
      replace HF := bind_ck HF
      obtain ⟨c15, HF⟩ := HF
      replace HF := bind_o HF
      obtain ⟨⟨z18, h17⟩, e16, HF⟩ := HF
      replace HF := bd_o (bd_o HF)
      dsimp only at HF
      refine ev_callV (As := [.int (hF h10 601 b13)]) (R1 := (some (.int z18), h17)) (lk_X6_ruleOfOver (d := 3) (Nat.le_refl _) c15 e16) ce_X6_ruleOfOver im_X6_ruleOfOver sl_X6_ruleOfOver ml_X6_60 cl_X6 c15 dX6_replay_67 (by omega) (Nat.le_of_ble_eq_true rfl) rfl rfl ?_
      show EvG _ _ _ _ _ _ _ _ _ _ _ 70 [(4, .ref b13), (0, .ref t), (1, .ref a1), (2, .int x2), (3, .int x3)] [.int z18, .ref t] h17
      refine ev_iload_n 3 dX6_replay_70 rfl ?_
      refine ev_iload_n 4 dX6_replay_71 rfl ?_
      show EvG _ _ _ _ _ _ _ _ _ _ _ 72 _ _ _
      refine ev_iconst (v := (-1)) dX6_replay_72 (by decide) ?_
      replace HF := bind_ck HF
      obtain ⟨c20, HF⟩ := HF
      replace HF := bind_o HF
      obtain ⟨⟨z23, h22⟩, e21, HF⟩ := HF
      replace HF := bd_o (bd_o HF)
      dsimp only at HF
      refine ev_callV (As := [.int z18, .int x2, .int x3, .int ((-1))]) (R1 := (some (.int z23), h22)) (lk_X6_stops (d := 0) (Nat.le_refl _) c20 e21) ce_X6_stops im_X6_stops sl_X6_stops ml_X6_40 cl_X6 c20 dX6_replay_73 (by omega) (Nat.le_of_ble_eq_true rfl) rfl rfl ?_
      show EvG _ _ _ _ _ _ _ _ _ _ _ 76 [(4, .ref b13), (0, .ref t), (1, .ref a1), (2, .int x2), (3, .int x3)] [.int z23] h22
      by_cases c25 : z23 = 0
      · replace HF := ite_T c25 HF
        refine ev_if_eqT (tgt := 80) dX6_replay_76 (by decide) c25 ?_
        refine ev_aload_n 1 dX6_replay_80 rfl ?_
        refine ev_iload_n 3 dX6_replay_81 rfl ?_
        replace HF := bind_ck HF
        obtain ⟨c26, HF⟩ := HF
        replace HF := bind_o HF
        obtain ⟨⟨o29, h28⟩, e27, HF⟩ := HF
        replace HF := bd_o (bd_o HF)
        dsimp only at HF
        refine ev_callV (As := [.int x2]) (R1 := (some (va_rf o29), h28)) (lk_X6_tallyAt (d := 0) (Nat.le_refl _) c26 e27) ce_X6_tallyAt im_X6_tallyAt sl_X6_tallyAt ml_X6_63 cl_X6 c26 dX6_replay_82 (by omega) (Nat.le_of_ble_eq_true rfl) rfl rfl ?_
        show EvG _ _ _ _ _ _ _ _ _ _ _ 85 [(4, .ref b13), (0, .ref t), (1, .ref a1), (2, .int x2), (3, .int x3)] [va_rf o29] h28
        refine ev_aload 0 dX6_replay_85 rfl ?_
        replace HF := bind_o HF
        obtain ⟨b31, e32, HF⟩ := HF
        subst e32
        replace HF := bind_ck HF
        obtain ⟨c33, HF⟩ := HF
        replace HF := bind_o HF
        obtain ⟨h35, e34, HF⟩ := HF
        refine ev_callV (As := [.ref b13]) (R1 := (none, h35)) (lk_X9_beginOver (d := 3) (Nat.le_refl _) c33 e34) ce_X9_beginOver im_X9_beginOver sl_X9_beginOver ml_X6_67 cl_X9 c33 dX6_replay_87 (by omega) (Nat.le_of_ble_eq_true rfl) rfl rfl ?_
        show EvG _ _ _ _ _ _ _ _ _ _ _ 90 [(4, .ref b13), (0, .ref t), (1, .ref a1), (2, .int x2), (3, .int x3)] [] h35
        refine ev_aload_n 1 dX6_replay_90 rfl ?_
        refine ev_iconst (v := 0) dX6_replay_91 (by decide) ?_
        show EvG _ _ _ _ _ _ _ _ _ _ _ 92 _ _ _
        replace HF := bind_ck HF
        obtain ⟨c37, HF⟩ := HF
        replace HF := bind_o HF
        obtain ⟨h39, e38, HF⟩ := HF
        refine ev_callV (As := [.int 0]) (R1 := (none, h39)) (lk_X6_endTurn (d := 3) (Nat.le_refl _) c37 e38) ce_X6_endTurn im_X6_endTurn sl_X6_endTurn ml_X6_71 cl_X6 c37 dX6_replay_92 (by omega) (Nat.le_of_ble_eq_true rfl) rfl rfl ?_
        show EvG _ _ _ _ _ _ _ _ _ _ _ 95 [(4, .ref b13), (0, .ref t), (1, .ref a1), (2, .int x2), (3, .int x3)] [] h39
        refine ev_iconst (v := 0) dX6_replay_95 (by decide) ?_
        refine ev_istore (lv' := [(5, .int 0), (4, .ref b13), (0, .ref t), (1, .ref a1), (2, .int x2), (3, .int x3)]) dX6_replay_96 (by decide) (rfl) ?_
        exact Ev.sub [2, 3, 4, 5, 1, 0] rfl (lk_X6_replay_98 hdd k7 hk7 (F_X6_replay_38 k7 n) ih fu t a1 x2 x3 b13 0 _ HF)
      · replace HF := ite_F c25 HF
        refine ev_if_eqF (tgt := 80) dX6_replay_76 (by decide) c25 ?_
        obtain rfl := Option.some.inj HF
        exact ev_vret dX6_replay_79

set_option maxRecDepth 20000 in
theorem lk_X6_replay_7 {g : aG} {l : Launch} {d : Nat} {h0 : aH} (hdd : 5 ≤ d) {r : aH} : ∀ (n : Nat) (t : Nat) (a1 : Nat) (x2 : Int32) (h : aH), F_X6_replay_7  n t a1 x2 h = some r → Ev g l cX6_replay 6 yX6_replay (none) d h0 (none, r) 7 [(0, .ref t), (1, .ref a1), (2, .int x2)] [] h := by
  intro n
  induction n with
  | zero => intro t a1 x2 h HF; cases HF
  | succ n ih =>
  intro t a1 x2 h HF
  unfold F_X6_replay_7 at HF
  refine ev_iload_n 2 dX6_replay_7 rfl ?_
  refine ev_aload_n 1 dX6_replay_8 rfl ?_
  replace HF := bind_ck HF
  obtain ⟨c1, HF⟩ := HF
  replace HF := bind_o HF
  obtain ⟨⟨z4, h3⟩, e2, HF⟩ := HF
  replace HF := bd_o (bd_o HF)
  dsimp only at HF
  refine ev_callV (As := []) (R1 := (some (.int z4), h3)) (lk_X3_turnCount (d := 1) (Nat.le_refl _) c1 e2) ce_X3_turnCount im_X3_turnCount sl_X3_turnCount ml_X6_30 cl_X3 c1 dX6_replay_9 (by omega) (Nat.le_of_ble_eq_true rfl) rfl rfl ?_
  show EvG _ _ _ _ _ _ _ _ _ _ _ 12 [(0, .ref t), (1, .ref a1), (2, .int x2)] [.int z4, .int x2] h3
  by_cases c6 : z4 ≤ x2
  · replace HF := ite_T c6 HF
    refine ev_icmp_geT (tgt := 188) dX6_replay_12 (by decide) c6 ?_
    obtain rfl := Option.some.inj HF
    exact ev_vret dX6_replay_188
  · replace HF := ite_F c6 HF
    refine ev_icmp_geF (tgt := 188) dX6_replay_12 (by decide) c6 ?_
    refine ev_aload_n 0 dX6_replay_15 rfl ?_
    refine ev_aload_n 0 dX6_replay_16 rfl ?_
    refine ev_iload_n 2 dX6_replay_17 rfl ?_
    replace HF := bind_ck HF
    obtain ⟨c7, HF⟩ := HF
    replace HF := bind_o HF
    obtain ⟨⟨z10, h9⟩, e8, HF⟩ := HF
    replace HF := bd_o (bd_o HF)
    dsimp only at HF
    refine ev_callV (As := [.int x2]) (R1 := (some (.int z10), h9)) (lk_X6_ruleOfTurn (d := 1) (Nat.le_refl _) c7 e8) ce_X6_ruleOfTurn im_X6_ruleOfTurn sl_X6_ruleOfTurn ml_X6_36 cl_X6 c7 dX6_replay_18 (by omega) (Nat.le_of_ble_eq_true rfl) rfl rfl ?_
    show EvG _ _ _ _ _ _ _ _ _ _ _ 21 [(0, .ref t), (1, .ref a1), (2, .int x2)] [.int z10, .ref t] h9
    refine ev_iload_n 2 dX6_replay_21 rfl ?_
    refine ev_iconst (v := (-1)) dX6_replay_22 (by decide) ?_
    refine ev_iconst (v := (-1)) dX6_replay_23 (by decide) ?_
    show EvG _ _ _ _ _ _ _ _ _ _ _ 24 _ _ _
    replace HF := bind_ck HF
    obtain ⟨c12, HF⟩ := HF
    replace HF := bind_o HF
    obtain ⟨⟨z15, h14⟩, e13, HF⟩ := HF
    replace HF := bd_o (bd_o HF)
    dsimp only at HF
    refine ev_callV (As := [.int z10, .int x2, .int ((-1)), .int ((-1))]) (R1 := (some (.int z15), h14)) (lk_X6_stops (d := 0) (Nat.le_refl _) c12 e13) ce_X6_stops im_X6_stops sl_X6_stops ml_X6_40 cl_X6 c12 dX6_replay_24 (by omega) (Nat.le_of_ble_eq_true rfl) rfl rfl ?_
    show EvG _ _ _ _ _ _ _ _ _ _ _ 27 [(0, .ref t), (1, .ref a1), (2, .int x2)] [.int z15] h14
    by_cases c17 : z15 = 0
    · replace HF := ite_T c17 HF
      refine ev_if_eqT (tgt := 31) dX6_replay_27 (by decide) c17 ?_
      refine ev_aload_n 0 dX6_replay_31 rfl ?_
      refine ev_iload_n 2 dX6_replay_32 rfl ?_
      replace HF := bind_ck HF
      obtain ⟨c18, HF⟩ := HF
      replace HF := bind_o HF
      obtain ⟨h20, e19, HF⟩ := HF
      refine ev_callV (As := [.int x2]) (R1 := (none, h20)) (lk_X6_beginTurn (d := 3) (Nat.le_refl _) c18 e19) ce_X6_beginTurn im_X6_beginTurn sl_X6_beginTurn ml_X6_44 cl_X6 c18 dX6_replay_33 (by omega) (Nat.le_of_ble_eq_true rfl) rfl rfl ?_
      show EvG _ _ _ _ _ _ _ _ _ _ _ 36 [(0, .ref t), (1, .ref a1), (2, .int x2)] [] h20
      refine ev_iconst (v := 0) dX6_replay_36 (by decide) ?_
      refine ev_istore_n (lv' := [(3, .int 0), (0, .ref t), (1, .ref a1), (2, .int x2)]) dX6_replay_37 (by decide) (rfl) ?_
      exact Ev.sub [1, 2, 3, 0] rfl (lk_X6_replay_38 hdd (F_X6_replay_7 n) ih fu t a1 x2 0 _ HF)
    · replace HF := ite_F c17 HF
      refine ev_if_eqF (tgt := 31) dX6_replay_27 (by decide) c17 ?_
      obtain rfl := Option.some.inj HF
      exact ev_vret dX6_replay_30

set_option maxRecDepth 20000 in
theorem lk_X6_replay {g : aG} {l : Launch} {d : Nat} (hdd : 5 ≤ d) {t : Nat} {a1 : Nat} {h : aH} {r : aH} (hT : hK h t = 8) (HF : F_X6_replay t a1 h = some r) : MA g l yX6_replay cX6_replay 6 (none) d [.ref t, .ref a1] h (none, r) := by
  refine MA.of (lv0 := [(0, .ref t), (1, .ref a1)]) (by decide +kernel) (rfl) (Nat.le_of_ble_eq_true rfl) ?_
  unfold F_X6_replay at HF
  refine ev_aload_n 0 dX6_replay_0 rfl ?_
  refine ev_aload_n 1 dX6_replay_1 rfl ?_
  replace HF := bind_o HF
  obtain ⟨h2, e1, HF⟩ := HF
  refine ev_callV (As := [.ref a1]) (R1 := (none, h2)) (lk_X6_start (d := 2) (Nat.le_refl _) hT e1) ce_X6_start im_X6_start sl_X6_start ml_X6_26 cl_X6 hT dX6_replay_2 (by omega) (Nat.le_of_ble_eq_true rfl) rfl rfl ?_
  show EvG _ _ _ _ _ _ _ _ _ _ _ 5 [(0, .ref t), (1, .ref a1)] [] h2
  refine ev_iconst (v := 0) dX6_replay_5 (by decide) ?_
  refine ev_istore_n (lv' := [(2, .int 0), (0, .ref t), (1, .ref a1)]) dX6_replay_6 (by decide) (rfl) ?_
  exact Ev.sub [1, 2, 0] rfl (lk_X6_replay_7 hdd  fu t a1 0 _ HF)

set_option maxRecDepth 20000 in
theorem lk_X6_stillToBeHad {g : aG} {l : Launch} {d : Nat} (hdd : 1 ≤ d) {t : Nat} {a1 : Nat} {h : aH} {r : Int32 × aH} (hT : hK h t = 8) (HF : F_X6_stillToBeHad t a1 h = some r) : MA g l yX6_stillToBeHad cX6_stillToBeHad 2 (some .int) d [.ref t, .ref a1] h (some (.int r.1), r.2) := by
  refine MA.of (lv0 := [(0, .ref t), (1, .ref a1)]) (by decide +kernel) (rfl) (Nat.le_of_ble_eq_true rfl) ?_
  unfold F_X6_stillToBeHad at HF
  refine ev_aload_n 1 dX6_stillToBeHad_0 rfl ?_
  replace HF := bind_ck HF
  obtain ⟨c1, HF⟩ := HF
  refine ev_gIN (f := 1010) cl_X9 (k := 10) (by decide) fi_X9_10 rfl fl_X6_87 dX6_stillToBeHad_1 c1 ?_
  by_cases c2 : hF h 1010 a1 = 0
  · replace HF := ite_T c2 HF
    refine ev_if_eqT (tgt := 11) dX6_stillToBeHad_4 (by decide) c2 ?_
    refine ev_bipush (v := 6) dX6_stillToBeHad_11 (by decide) ?_
    refine ev_aload_n 1 dX6_stillToBeHad_13 rfl ?_
    replace HF := bind_o HF
    obtain ⟨⟨z5, h4⟩, e3, HF⟩ := HF
    replace HF := bd_o (bd_o HF)
    dsimp only at HF
    refine ev_callV (As := []) (R1 := (some (.int z5), h4)) (lk_X9_ballsLeft (d := 0) (Nat.le_refl _) c1 e3) ce_X9_ballsLeft im_X9_ballsLeft sl_X9_ballsLeft ml_X6_127 cl_X9 c1 dX6_stillToBeHad_14 (by omega) (Nat.le_of_ble_eq_true rfl) rfl rfl ?_
    show EvG _ _ _ _ _ _ _ _ _ _ _ 17 [(0, .ref t), (1, .ref a1)] [.int z5, .int 6] h4
    refine ev_imul dX6_stillToBeHad_17 ?_
    obtain rfl := Option.some.inj HF
    exact ev_iret dX6_stillToBeHad_18
  · replace HF := ite_F c2 HF
    refine ev_if_eqF (tgt := 11) dX6_stillToBeHad_4 (by decide) c2 ?_
    refine ev_iconst (v := 0) dX6_stillToBeHad_7 (by decide) ?_
    refine ev_goto (tgt := 18) dX6_stillToBeHad_8 (by decide) ?_
    obtain rfl := Option.some.inj HF
    exact ev_iret dX6_stillToBeHad_18

set_option maxRecDepth 20000 in
theorem lk_X6_figureOfChase {g : aG} {l : Launch} {d : Nat} (hdd : 2 ≤ d) {t : Nat} {a1 : Nat} {x2 : Int32} {h : aH} {r : Int32 × aH} (hT : hK h t = 8) (HF : F_X6_figureOfChase t a1 x2 h = some r) : MA g l yX6_figureOfChase cX6_figureOfChase 4 (some .int) d [.ref t, .ref a1, .int x2] h (some (.int r.1), r.2) := by
  refine MA.of (lv0 := [(0, .ref t), (1, .ref a1), (2, .int x2)]) (by decide +kernel) (rfl) (Nat.le_of_ble_eq_true rfl) ?_
  unfold F_X6_figureOfChase at HF
  refine ev_aload_n 0 dX6_figureOfChase_0 rfl ?_
  replace HF := bind_o HF
  obtain ⟨⟨z3, h2⟩, e1, HF⟩ := HF
  replace HF := bd_o (bd_o HF)
  dsimp only at HF
  refine ev_callV (As := []) (R1 := (some (.int z3), h2)) (lk_X6_target (d := 1) (Nat.le_refl _) hT e1) ce_X6_target im_X6_target sl_X6_target ml_X6_141 cl_X6 hT dX6_figureOfChase_1 (by omega) (Nat.le_of_ble_eq_true rfl) rfl rfl ?_
  show EvG _ _ _ _ _ _ _ _ _ _ _ 4 [(0, .ref t), (1, .ref a1), (2, .int x2)] [.int z3] h2
  refine ev_aload_n 1 dX6_figureOfChase_4 rfl ?_
  replace HF := bind_ck HF
  obtain ⟨c5, HF⟩ := HF
  refine ev_gIN (f := 1004) cl_X9 (k := 4) (by decide) fi_X9_4 rfl fl_X6_130 dX6_figureOfChase_5 c5 ?_
  refine ev_isub dX6_figureOfChase_8 ?_
  refine ev_iconst (v := 0) dX6_figureOfChase_9 (by decide) ?_
  refine ev_max ml_X6_144 dX6_figureOfChase_10 (by omega) (Nat.le_of_ble_eq_true rfl) ?_
  replace HF := bd_n HF
  obtain ⟨z6, ez6, HF⟩ := HF
  refine ev_topI ez6 ?_
  show EvG _ _ _ _ _ _ _ _ _ _ _ 13 _ _ _
  refine ev_istore_n (lv' := [(3, .int z6), (0, .ref t), (1, .ref a1), (2, .int x2)]) dX6_figureOfChase_13 (by decide) (rfl) ?_
  refine ev_iload_n 3 dX6_figureOfChase_14 rfl ?_
  by_cases c7 : x2 = 6
  · replace HF := ite_T c7 HF
    refine ev_swL (kk := 6) (tgt := 40) dX6_figureOfChase_15 c7 (by decide +kernel) (by decide +kernel) ?_
    refine ev_aload_n 1 dX6_figureOfChase_40 rfl ?_
    replace HF := bind_ck HF
    obtain ⟨c8, HF⟩ := HF
    replace HF := bind_o HF
    obtain ⟨⟨z11, h10⟩, e9, HF⟩ := HF
    replace HF := bd_o (bd_o HF)
    dsimp only at HF
    refine ev_callV (As := []) (R1 := (some (.int z11), h10)) (lk_X6_target (d := 1) (Nat.le_refl _) c8 e9) ce_X6_target im_X6_target sl_X6_target ml_X6_141 cl_X6 c8 dX6_figureOfChase_41 (by omega) (Nat.le_of_ble_eq_true rfl) rfl rfl ?_
    show EvG _ _ _ _ _ _ _ _ _ _ _ 44 [(3, .int z6), (0, .ref t), (1, .ref a1), (2, .int x2)] [.int z11] h10
    obtain rfl := Option.some.inj HF
    exact ev_iret dX6_figureOfChase_44
  replace HF := ite_F c7 HF
  by_cases c13 : x2 = 7
  · replace HF := ite_T c13 HF
    refine ev_swL (kk := 7) (tgt := 45) dX6_figureOfChase_15 c13 (by decide +kernel) (by decide +kernel) ?_
    refine ev_iload_n 0 dX6_figureOfChase_45 rfl ?_
    obtain rfl := Option.some.inj HF
    exact ev_iret dX6_figureOfChase_46
  replace HF := ite_F c13 HF
  refine ev_swLd (ks := [6, 7]) (tgt := 47) dX6_figureOfChase_15 (by simp only [List.mem_cons, List.not_mem_nil, or_false, forall_eq_or_imp, forall_eq]; exact ⟨c7, c13⟩) (by decide +kernel) (by decide) ?_
  refine ev_iload_n 0 dX6_figureOfChase_47 rfl ?_
  refine ev_aload_n 1 dX6_figureOfChase_48 rfl ?_
  refine ev_aload_n 2 dX6_figureOfChase_49 rfl ?_
  replace HF := bind_ck HF
  obtain ⟨c14, HF⟩ := HF
  replace HF := bind_o HF
  obtain ⟨⟨z17, h16⟩, e15, HF⟩ := HF
  replace HF := bd_o (bd_o HF)
  dsimp only at HF
  refine ev_callV (As := [.ref a1]) (R1 := (some (.int z17), h16)) (lk_X6_stillToBeHad (d := 1) (Nat.le_refl _) c14 e15) ce_X6_stillToBeHad im_X6_stillToBeHad sl_X6_stillToBeHad ml_X6_133 cl_X6 c14 dX6_figureOfChase_50 (by omega) (Nat.le_of_ble_eq_true rfl) rfl rfl ?_
  show EvG _ _ _ _ _ _ _ _ _ _ _ 53 [(3, .int z6), (0, .ref t), (1, .ref a1), (2, .int x2)] [.int z17, .int z6] h16
  by_cases c19 : z17 < z6
  · replace HF := ite_T c19 HF
    refine ev_icmp_gtT (tgt := 60) dX6_figureOfChase_53 (by decide) c19 ?_
    refine ev_iconst (v := 0) dX6_figureOfChase_60 (by decide) ?_
    obtain rfl := Option.some.inj HF
    exact ev_iret dX6_figureOfChase_61
  · replace HF := ite_F c19 HF
    refine ev_icmp_gtF (tgt := 60) dX6_figureOfChase_53 (by decide) c19 ?_
    refine ev_iconst (v := 1) dX6_figureOfChase_56 (by decide) ?_
    refine ev_goto (tgt := 61) dX6_figureOfChase_57 (by decide) ?_
    obtain rfl := Option.some.inj HF
    exact ev_iret dX6_figureOfChase_61

set_option maxRecDepth 20000 in
theorem lk_X6_figureAtHand {g : aG} {l : Launch} {d : Nat} (hdd : 3 ≤ d) {t : Nat} {x1 : Int32} {h : aH} {r : Int32 × aH} (hT : hK h t = 8) (HF : F_X6_figureAtHand t x1 h = some r) : MA g l yX6_figureAtHand cX6_figureAtHand 3 (some .int) d [.ref t, .int x1] h (some (.int r.1), r.2) := by
  refine MA.of (lv0 := [(0, .ref t), (1, .int x1)]) (by decide +kernel) (rfl) (Nat.le_of_ble_eq_true rfl) ?_
  unfold F_X6_figureAtHand at HF
  refine ev_aload_n 0 dX6_figureAtHand_0 rfl ?_
  refine ev_aload_n 0 dX6_figureAtHand_1 rfl ?_
  refine ev_gI (f := 704) cl_X6 (k := 4) (by decide) fi_X6_4 rfl fl_X6_22 dX6_figureAtHand_2 hT ?_
  replace HF := bind_o HF
  obtain ⟨⟨o3, h2⟩, e1, HF⟩ := HF
  replace HF := bd_o (bd_o HF)
  dsimp only at HF
  refine ev_callV (As := [.int (hF h 704 t)]) (R1 := (some (va_rf o3), h2)) (lk_X6_tallyAt (d := 0) (Nat.le_refl _) hT e1) ce_X6_tallyAt im_X6_tallyAt sl_X6_tallyAt ml_X6_63 cl_X6 hT dX6_figureAtHand_5 (by omega) (Nat.le_of_ble_eq_true rfl) rfl rfl ?_
  show EvG _ _ _ _ _ _ _ _ _ _ _ 8 [(0, .ref t), (1, .int x1)] [va_rf o3] h2
  refine ev_astore_nr (lv' := [(2, va_rf o3), (0, .ref t), (1, .int x1)]) dX6_figureAtHand_8 (by decide) (rfl) ?_
  refine ev_iload_n 2 dX6_figureAtHand_9 rfl ?_
  by_cases c5 : x1 = 1
  · replace HF := ite_T c5 HF
    refine ev_swT (kk := 1) (tgt := 60) dX6_figureAtHand_10 c5 (by decide +kernel) (by decide +kernel) ?_
    refine ev_aload_nr 0 dX6_figureAtHand_60 rfl ?_
    replace HF := bind_o HF
    obtain ⟨b6, e7, HF⟩ := HF
    subst e7
    replace HF := bind_ck HF
    obtain ⟨c8, HF⟩ := HF
    refine ev_gIN (f := 1016) cl_X9 (k := 16) (by decide) fi_X9_16 rfl fl_X6_120 dX6_figureAtHand_61 c8 ?_
    obtain rfl := Option.some.inj HF
    exact ev_iret dX6_figureAtHand_64
  replace HF := ite_F c5 HF
  by_cases c9 : x1 = 2
  · replace HF := ite_T c9 HF
    refine ev_swT (kk := 2) (tgt := 65) dX6_figureAtHand_10 c9 (by decide +kernel) (by decide +kernel) ?_
    refine ev_aload_nr 0 dX6_figureAtHand_65 rfl ?_
    replace HF := bind_o HF
    obtain ⟨b10, e11, HF⟩ := HF
    subst e11
    replace HF := bind_ck HF
    obtain ⟨c12, HF⟩ := HF
    refine ev_gIN (f := 1017) cl_X9 (k := 17) (by decide) fi_X9_17 rfl fl_X6_123 dX6_figureAtHand_66 c12 ?_
    obtain rfl := Option.some.inj HF
    exact ev_iret dX6_figureAtHand_69
  replace HF := ite_F c9 HF
  by_cases c13 : x1 = 3
  · replace HF := ite_T c13 HF
    refine ev_swT (kk := 3) (tgt := 70) dX6_figureAtHand_10 c13 (by decide +kernel) (by decide +kernel) ?_
    refine ev_aload_nr 0 dX6_figureAtHand_70 rfl ?_
    replace HF := bind_o HF
    obtain ⟨b14, e15, HF⟩ := HF
    subst e15
    replace HF := bind_ck HF
    obtain ⟨c16, HF⟩ := HF
    refine ev_gIN (f := 1015) cl_X9 (k := 15) (by decide) fi_X9_15 rfl fl_X6_126 dX6_figureAtHand_71 c16 ?_
    obtain rfl := Option.some.inj HF
    exact ev_iret dX6_figureAtHand_74
  replace HF := ite_F c13 HF
  by_cases c17 : x1 = 4
  · replace HF := ite_T c17 HF
    refine ev_swT (kk := 4) (tgt := 75) dX6_figureAtHand_10 c17 (by decide +kernel) (by decide +kernel) ?_
    refine ev_aload_nr 0 dX6_figureAtHand_75 rfl ?_
    replace HF := bind_o HF
    obtain ⟨b18, e19, HF⟩ := HF
    subst e19
    replace HF := bind_ck HF
    obtain ⟨c20, HF⟩ := HF
    replace HF := bind_o HF
    obtain ⟨⟨z23, h22⟩, e21, HF⟩ := HF
    replace HF := bd_o (bd_o HF)
    dsimp only at HF
    refine ev_callV (As := []) (R1 := (some (.int z23), h22)) (lk_X9_ballsLeft (d := 0) (Nat.le_refl _) c20 e21) ce_X9_ballsLeft im_X9_ballsLeft sl_X9_ballsLeft ml_X6_127 cl_X9 c20 dX6_figureAtHand_76 (by omega) (Nat.le_of_ble_eq_true rfl) rfl rfl ?_
    show EvG _ _ _ _ _ _ _ _ _ _ _ 79 [(2, .ref b18), (0, .ref t), (1, .int x1)] [.int z23] h22
    obtain rfl := Option.some.inj HF
    exact ev_iret dX6_figureAtHand_79
  replace HF := ite_F c17 HF
  by_cases c25 : x1 = 5
  · replace HF := ite_T c25 HF
    refine ev_swT (kk := 5) (tgt := 80) dX6_figureAtHand_10 c25 (by decide +kernel) (by decide +kernel) ?_
    refine ev_aload_nr 0 dX6_figureAtHand_80 rfl ?_
    replace HF := bind_o HF
    obtain ⟨b26, e27, HF⟩ := HF
    subst e27
    replace HF := bind_ck HF
    obtain ⟨c28, HF⟩ := HF
    refine ev_gIN (f := 1010) cl_X9 (k := 10) (by decide) fi_X9_10 rfl fl_X6_87 dX6_figureAtHand_81 c28 ?_
    obtain rfl := Option.some.inj HF
    exact ev_iret dX6_figureAtHand_84
  replace HF := ite_F c25 HF
  by_cases c29 : x1 = 9
  · replace HF := ite_T c29 HF
    refine ev_swT (kk := 9) (tgt := 85) dX6_figureAtHand_10 c29 (by decide +kernel) (by decide +kernel) ?_
    refine ev_aload_nr 0 dX6_figureAtHand_85 rfl ?_
    replace HF := bind_o HF
    obtain ⟨b30, e31, HF⟩ := HF
    subst e31
    replace HF := bind_ck HF
    obtain ⟨c32, HF⟩ := HF
    refine ev_gIN (f := 1004) cl_X9 (k := 4) (by decide) fi_X9_4 rfl fl_X6_130 dX6_figureAtHand_86 c32 ?_
    refine ev_aload_n 1 dX6_figureAtHand_89 rfl ?_
    refine ev_aload_n 0 dX6_figureAtHand_90 rfl ?_
    replace HF := bind_ck HF
    obtain ⟨c33, HF⟩ := HF
    replace HF := bind_o HF
    obtain ⟨⟨z36, h35⟩, e34, HF⟩ := HF
    replace HF := bd_o (bd_o HF)
    dsimp only at HF
    refine ev_callV (As := [.ref b30]) (R1 := (some (.int z36), h35)) (lk_X6_stillToBeHad (d := 1) (Nat.le_refl _) c33 e34) ce_X6_stillToBeHad im_X6_stillToBeHad sl_X6_stillToBeHad ml_X6_133 cl_X6 c33 dX6_figureAtHand_91 (by omega) (Nat.le_of_ble_eq_true rfl) rfl rfl ?_
    show EvG _ _ _ _ _ _ _ _ _ _ _ 94 [(2, .ref b30), (0, .ref t), (1, .int x1)] [.int z36, .int (hF h2 1004 b30)] h35
    refine ev_iadd dX6_figureAtHand_94 ?_
    obtain rfl := Option.some.inj HF
    exact ev_iret dX6_figureAtHand_95
  replace HF := ite_F c29 HF
  refine ev_swTd (ks := [1, 2, 3, 4, 5, 9]) (tgt := 96) dX6_figureAtHand_10 (by simp only [List.mem_cons, List.not_mem_nil, or_false, forall_eq_or_imp, forall_eq]; exact ⟨c5, c9, c13, c17, c25, c29⟩) (by decide +kernel) (by decide) ?_
  show EvG _ _ _ _ _ _ _ _ _ _ _ 96 _ _ _
  refine ev_aload_n 1 dX6_figureAtHand_96 rfl ?_
  replace HF := bind_ck HF
  obtain ⟨c38, HF⟩ := HF
  refine ev_gI (f := 704) cl_X6 (k := 4) (by decide) fi_X6_4 rfl fl_X6_22 dX6_figureAtHand_97 c38 ?_
  refine ev_aload_n 1 dX6_figureAtHand_100 rfl ?_
  refine ev_gI (f := 703) cl_X6 (k := 3) (by decide) fi_X6_3 rfl fl_X6_93 dX6_figureAtHand_101 c38 ?_
  by_cases c39 : hF h2 704 t = hF h2 703 t
  · replace HF := ite_T c39 HF
    refine ev_icmp_neF (tgt := 116) dX6_figureAtHand_104 (by decide) c39 ?_
    refine ev_aload_n 1 dX6_figureAtHand_107 rfl ?_
    refine ev_aload_nr 0 dX6_figureAtHand_108 rfl ?_
    refine ev_iload_n 2 dX6_figureAtHand_109 rfl ?_
    replace HF := bind_o HF
    obtain ⟨b40, e41, HF⟩ := HF
    subst e41
    replace HF := bind_o HF
    obtain ⟨⟨z44, h43⟩, e42, HF⟩ := HF
    replace HF := bd_o (bd_o HF)
    dsimp only at HF
    refine ev_callV (As := [.ref b40, .int x1]) (R1 := (some (.int z44), h43)) (lk_X6_figureOfChase (d := 2) (Nat.le_refl _) c38 e42) ce_X6_figureOfChase im_X6_figureOfChase sl_X6_figureOfChase ml_X6_137 cl_X6 c38 dX6_figureAtHand_110 (by omega) (Nat.le_of_ble_eq_true rfl) rfl rfl ?_
    show EvG _ _ _ _ _ _ _ _ _ _ _ 113 [(2, .ref b40), (0, .ref t), (1, .int x1)] [.int z44] h43
    refine ev_goto (tgt := 117) dX6_figureAtHand_113 (by decide) ?_
    obtain rfl := Option.some.inj HF
    exact ev_iret dX6_figureAtHand_117
  · replace HF := ite_F c39 HF
    refine ev_icmp_neT (tgt := 116) dX6_figureAtHand_104 (by decide) c39 ?_
    refine ev_iconst (v := (-1)) dX6_figureAtHand_116 (by decide) ?_
    obtain rfl := Option.some.inj HF
    exact ev_iret dX6_figureAtHand_117

set_option maxRecDepth 20000 in
theorem lk_X6_figure {g : aG} {l : Launch} {d : Nat} (hdd : 4 ≤ d) {t : Nat} {x1 : Int32} {h : aH} {r : Int32 × aH} (hT : hK h t = 8) (HF : F_X6_figure t x1 h = some r) : MA g l yX6_figure cX6_figure 2 (some .int) d [.ref t, .int x1] h (some (.int r.1), r.2) := by
  refine MA.of (lv0 := [(0, .ref t), (1, .int x1)]) (by decide +kernel) (rfl) (Nat.le_of_ble_eq_true rfl) ?_
  unfold F_X6_figure at HF
  refine ev_iload_n 1 dX6_figure_0 rfl ?_
  by_cases c1 : x1 = 0
  · replace HF := ite_T c1 HF
    refine ev_swT (kk := 0) (tgt := 76) dX6_figure_1 c1 (by decide +kernel) (by decide +kernel) ?_
    refine ev_aload_n 0 dX6_figure_76 rfl ?_
    refine ev_gI (f := 704) cl_X6 (k := 4) (by decide) fi_X6_4 rfl fl_X6_22 dX6_figure_77 hT ?_
    obtain rfl := Option.some.inj HF
    exact ev_iret dX6_figure_80
  replace HF := ite_F c1 HF
  by_cases c2 : x1 = 10
  · replace HF := ite_T c2 HF
    refine ev_swT (kk := 10) (tgt := 81) dX6_figure_1 c2 (by decide +kernel) (by decide +kernel) ?_
    refine ev_aload_n 0 dX6_figure_81 rfl ?_
    refine ev_gI (f := 705) cl_X6 (k := 5) (by decide) fi_X6_5 rfl fl_X6_90 dX6_figure_82 hT ?_
    obtain rfl := Option.some.inj HF
    exact ev_iret dX6_figure_85
  replace HF := ite_F c2 HF
  by_cases c3 : x1 = 11
  · replace HF := ite_T c3 HF
    refine ev_swT (kk := 11) (tgt := 86) dX6_figure_1 c3 (by decide +kernel) (by decide +kernel) ?_
    refine ev_aload_n 0 dX6_figure_86 rfl ?_
    refine ev_gI (f := 706) cl_X6 (k := 6) (by decide) fi_X6_6 rfl fl_X6_105 dX6_figure_87 hT ?_
    obtain rfl := Option.some.inj HF
    exact ev_iret dX6_figure_90
  replace HF := ite_F c3 HF
  by_cases c4 : x1 = 12
  · replace HF := ite_T c4 HF
    refine ev_swT (kk := 12) (tgt := 91) dX6_figure_1 c4 (by decide +kernel) (by decide +kernel) ?_
    refine ev_aload_n 0 dX6_figure_91 rfl ?_
    refine ev_gI (f := 707) cl_X6 (k := 7) (by decide) fi_X6_7 rfl fl_X6_108 dX6_figure_92 hT ?_
    obtain rfl := Option.some.inj HF
    exact ev_iret dX6_figure_95
  replace HF := ite_F c4 HF
  by_cases c5 : x1 = 13
  · replace HF := ite_T c5 HF
    refine ev_swT (kk := 13) (tgt := 96) dX6_figure_1 c5 (by decide +kernel) (by decide +kernel) ?_
    refine ev_aload_n 0 dX6_figure_96 rfl ?_
    refine ev_gI (f := 708) cl_X6 (k := 8) (by decide) fi_X6_8 rfl fl_X6_111 dX6_figure_97 hT ?_
    obtain rfl := Option.some.inj HF
    exact ev_iret dX6_figure_100
  replace HF := ite_F c5 HF
  by_cases c6 : x1 = 14
  · replace HF := ite_T c6 HF
    refine ev_swT (kk := 14) (tgt := 101) dX6_figure_1 c6 (by decide +kernel) (by decide +kernel) ?_
    refine ev_aload_n 0 dX6_figure_101 rfl ?_
    refine ev_gI (f := 709) cl_X6 (k := 9) (by decide) fi_X6_9 rfl fl_X6_114 dX6_figure_102 hT ?_
    obtain rfl := Option.some.inj HF
    exact ev_iret dX6_figure_105
  replace HF := ite_F c6 HF
  refine ev_swTd (ks := [0, 10, 11, 12, 13, 14]) (tgt := 106) dX6_figure_1 (by simp only [List.mem_cons, List.not_mem_nil, or_false, forall_eq_or_imp, forall_eq]; exact ⟨c1, c2, c3, c4, c5, c6⟩) (by decide +kernel) (by decide) ?_
  refine ev_aload_n 0 dX6_figure_106 rfl ?_
  refine ev_gI (f := 704) cl_X6 (k := 4) (by decide) fi_X6_4 rfl fl_X6_22 dX6_figure_107 hT ?_
  refine ev_iconst (v := (-1)) dX6_figure_110 (by decide) ?_
  by_cases c7 : hF h 704 t = (-1)
  · replace HF := ite_T c7 HF
    refine ev_icmp_neF (tgt := 118) dX6_figure_111 (by decide) c7 ?_
    refine ev_iconst (v := (-1)) dX6_figure_114 (by decide) ?_
    refine ev_goto (tgt := 123) dX6_figure_115 (by decide) ?_
    obtain rfl := Option.some.inj HF
    exact ev_iret dX6_figure_123
  · replace HF := ite_F c7 HF
    refine ev_icmp_neT (tgt := 118) dX6_figure_111 (by decide) c7 ?_
    refine ev_aload_n 0 dX6_figure_118 rfl ?_
    refine ev_iload_n 1 dX6_figure_119 rfl ?_
    replace HF := bind_o HF
    obtain ⟨⟨z10, h9⟩, e8, HF⟩ := HF
    replace HF := bd_o (bd_o HF)
    dsimp only at HF
    refine ev_callV (As := [.int x1]) (R1 := (some (.int z10), h9)) (lk_X6_figureAtHand (d := 3) (Nat.le_refl _) hT e8) ce_X6_figureAtHand im_X6_figureAtHand sl_X6_figureAtHand ml_X6_117 cl_X6 hT dX6_figure_120 (by omega) (Nat.le_of_ble_eq_true rfl) rfl rfl ?_
    show EvG _ _ _ _ _ _ _ _ _ _ _ 123 [(0, .ref t), (1, .int x1)] [.int z10] h9
    obtain rfl := Option.some.inj HF
    exact ev_iret dX6_figure_123

set_option maxRecDepth 20000 in
theorem lk_X7_init {g : aG} {l : Launch} {d : Nat} (hdd : 1 ≤ d) {t : Nat} {h : aH} {r : aH} (hT : hK h t = 9) (HF : F_X7_init t h = some r) : MA g l yX7_init cX7_init 1 (none) d [.ref t] h (none, r) := by
  refine MA.of (lv0 := [(0, .ref t)]) (by decide +kernel) (rfl) (Nat.le_of_ble_eq_true rfl) ?_
  unfold F_X7_init at HF
  refine ev_aload_n 0 dX7_init_0 rfl ?_
  refine ev_obj ml_X7_3 im_obj cd_obj dX7_init_1 (by omega) (Nat.le_of_ble_eq_true rfl) ?_
  refine ev_aload_n 0 dX7_init_4 rfl ?_
  refine ev_iconst (v := 4) dX7_init_5 (by decide) ?_
  refine ev_newI (n' := 4) ar_int dX7_init_6 (by decide) (by decide) (by decide) ?_
  replace HF := bd_n HF
  obtain ⟨b1, eb1, HF⟩ := HF
  refine ev_topR eb1 ?_
  replace HF := bd_n HF
  obtain ⟨h2, eh2, HF⟩ := HF
  refine ev_heap eh2 ?_
  replace HF := bind_ck HF
  obtain ⟨c3, HF⟩ := HF
  refine ev_pSF (f := 800) cl_X7 (k := 0) (by decide) fi_X7_0 rfl fl_X7_9 rfl rfl rfl rfl dX7_init_8 c3 ?_
  replace HF := bd_n HF
  obtain ⟨h4, eh4, HF⟩ := HF
  refine ev_heap eh4 ?_
  have c5 : hK h4 t = 9 := by rw [eh4]; exact c3
  refine ev_aload_n 0 dX7_init_11 rfl ?_
  show EvG _ _ _ _ _ _ _ _ _ _ _ 12 _ _ _
  refine ev_null dX7_init_12 ?_
  refine ev_pG (f := 801) cl_X7 (k := 1) (by decide) fi_X7_1 rfl fl_X7_15 rfl rfl dX7_init_13 c5 ?_
  replace HF := bd_n HF
  obtain ⟨h6, eh6, HF⟩ := HF
  refine ev_heap eh6 ?_
  have c7 : hK h6 t = 9 := by rw [eh6]; exact c5
  refine ev_aload_n 0 dX7_init_16 rfl ?_
  refine ev_iconst (v := (-1)) dX7_init_17 (by decide) ?_
  refine ev_pI (f := 804) cl_X7 (k := 4) (by decide) fi_X7_4 rfl fl_X7_19 rfl rfl rfl dX7_init_18 c7 ?_
  replace HF := bd_n HF
  obtain ⟨h8, eh8, HF⟩ := HF
  refine ev_heap eh8 ?_
  have c9 : hK h8 t = 9 := by rw [eh8]; exact c7
  obtain rfl := Option.some.inj HF
  exact ev_vret dX7_init_21

set_option maxRecDepth 20000 in
theorem lk_X7_start {g : aG} {l : Launch} {d : Nat} (hdd : 0 ≤ d) {t : Nat} {a1 : Nat} {x2 : Int32} {h : aH} {r : aH} (hT : hK h t = 9) (HF : F_X7_start t a1 x2 h = some r) : MA g l yX7_start cX7_start 3 (none) d [.ref t, .ref a1, .int x2] h (none, r) := by
  refine MA.of (lv0 := [(0, .ref t), (1, .ref a1), (2, .int x2)]) (by decide +kernel) (rfl) (Nat.le_of_ble_eq_true rfl) ?_
  unfold F_X7_start at HF
  refine ev_aload_n 0 dX7_start_0 rfl ?_
  refine ev_aload_n 1 dX7_start_1 rfl ?_
  refine ev_pS (f := 801) cl_X7 (k := 1) (by decide) fi_X7_1 rfl fl_X7_15 rfl rfl dX7_start_2 hT ?_
  replace HF := bd_n HF
  obtain ⟨h1, eh1, HF⟩ := HF
  refine ev_heap eh1 ?_
  have c2 : hK h1 t = 9 := by rw [eh1]; exact hT
  refine ev_aload_n 0 dX7_start_5 rfl ?_
  refine ev_iload_n 2 dX7_start_6 rfl ?_
  refine ev_pI (f := 802) cl_X7 (k := 2) (by decide) fi_X7_2 rfl fl_X7_23 rfl rfl rfl dX7_start_7 c2 ?_
  replace HF := bd_n HF
  obtain ⟨h3, eh3, HF⟩ := HF
  refine ev_heap eh3 ?_
  have c4 : hK h3 t = 9 := by rw [eh3]; exact c2
  refine ev_aload_n 0 dX7_start_10 rfl ?_
  show EvG _ _ _ _ _ _ _ _ _ _ _ 11 _ _ _
  refine ev_iconst (v := 0) dX7_start_11 (by decide) ?_
  refine ev_pI (f := 803) cl_X7 (k := 3) (by decide) fi_X7_3 rfl fl_X7_26 rfl rfl rfl dX7_start_12 c4 ?_
  replace HF := bd_n HF
  obtain ⟨h5, eh5, HF⟩ := HF
  refine ev_heap eh5 ?_
  have c6 : hK h5 t = 9 := by rw [eh5]; exact c4
  refine ev_aload_n 0 dX7_start_15 rfl ?_
  refine ev_iconst (v := (-1)) dX7_start_16 (by decide) ?_
  refine ev_pI (f := 804) cl_X7 (k := 4) (by decide) fi_X7_4 rfl fl_X7_19 rfl rfl rfl dX7_start_17 c6 ?_
  replace HF := bd_n HF
  obtain ⟨h7, eh7, HF⟩ := HF
  refine ev_heap eh7 ?_
  have c8 : hK h7 t = 9 := by rw [eh7]; exact c6
  obtain rfl := Option.some.inj HF
  exact ev_vret dX7_start_20

set_option maxRecDepth 20000 in
theorem lk_X7_isRight {g : aG} {l : Launch} {d : Nat} (hdd : 0 ≤ d) {t : Nat} {h : aH} {r : Int32 × aH} (hT : hK h t = 9) (HF : F_X7_isRight t h = some r) : MA g l yX7_isRight cX7_isRight 1 (some .boolean) d [.ref t] h (some (.int r.1), r.2) := by
  refine MA.of (lv0 := [(0, .ref t)]) (by decide +kernel) (rfl) (Nat.le_of_ble_eq_true rfl) ?_
  unfold F_X7_isRight at HF
  refine ev_aload_n 0 dX7_isRight_0 rfl ?_
  refine ev_gI (f := 804) cl_X7 (k := 4) (by decide) fi_X7_4 rfl fl_X7_19 dX7_isRight_1 hT ?_
  refine ev_iconst (v := (-1)) dX7_isRight_4 (by decide) ?_
  by_cases c1 : hF h 804 t = (-1)
  · replace HF := ite_T c1 HF
    refine ev_icmp_neF (tgt := 12) dX7_isRight_5 (by decide) c1 ?_
    refine ev_iconst (v := 1) dX7_isRight_8 (by decide) ?_
    refine ev_goto (tgt := 13) dX7_isRight_9 (by decide) ?_
    obtain rfl := Option.some.inj HF
    exact ev_zret (v := 1) narrow_b1 dX7_isRight_13
  · replace HF := ite_F c1 HF
    refine ev_icmp_neT (tgt := 12) dX7_isRight_5 (by decide) c1 ?_
    refine ev_iconst (v := 0) dX7_isRight_12 (by decide) ?_
    obtain rfl := Option.some.inj HF
    exact ev_zret (v := 0) narrow_b0 dX7_isRight_13

set_option maxRecDepth 20000 in
theorem lk_X7_fail {g : aG} {l : Launch} {d : Nat} (hdd : 0 ≤ d) {t : Nat} {x1 : Int32} {h : aH} {r : aH} (hT : hK h t = 9) (HF : F_X7_fail t x1 h = some r) : MA g l yX7_fail cX7_fail 2 (none) d [.ref t, .int x1] h (none, r) := by
  refine MA.of (lv0 := [(0, .ref t), (1, .int x1)]) (by decide +kernel) (rfl) (Nat.le_of_ble_eq_true rfl) ?_
  unfold F_X7_fail at HF
  refine ev_aload_n 0 dX7_fail_0 rfl ?_
  refine ev_gI (f := 804) cl_X7 (k := 4) (by decide) fi_X7_4 rfl fl_X7_19 dX7_fail_1 hT ?_
  refine ev_iconst (v := (-1)) dX7_fail_4 (by decide) ?_
  by_cases c1 : hF h 804 t = (-1)
  · replace HF := ite_T c1 HF
    refine ev_icmp_neF (tgt := 13) dX7_fail_5 (by decide) c1 ?_
    refine ev_aload_n 0 dX7_fail_8 rfl ?_
    refine ev_iload_n 1 dX7_fail_9 rfl ?_
    refine ev_pI (f := 804) cl_X7 (k := 4) (by decide) fi_X7_4 rfl fl_X7_19 rfl rfl rfl dX7_fail_10 hT ?_
    replace HF := bd_n HF
    obtain ⟨h2, eh2, HF⟩ := HF
    refine ev_heap eh2 ?_
    have c3 : hK h2 t = 9 := by rw [eh2]; exact hT
    obtain rfl := Option.some.inj HF
    exact ev_vret dX7_fail_13
  · replace HF := ite_F c1 HF
    refine ev_icmp_neT (tgt := 13) dX7_fail_5 (by decide) c1 ?_
    obtain rfl := Option.some.inj HF
    exact ev_vret dX7_fail_13

set_option maxRecDepth 20000 in
theorem lk_X7_next_53 {g : aG} {l : Launch} {d : Nat} {h0 : aH} (hdd : 1 ≤ d) {r : Int32 × aH} (t : Nat) (x1 : Int32) (h : aH) (HF : F_X7_next_53  t x1 h = some r) : Ev g l cX7_next 4 yX7_next (some .int) d h0 (some (.int r.1), r.2) 53 [(0, .ref t), (1, .int x1)] [] h := by
  unfold F_X7_next_53 at HF
  refine ev_aload_n 0 dX7_next_53 rfl ?_
  refine ev_aload_n 0 dX7_next_54 rfl ?_
  replace HF := bind_ck HF
  obtain ⟨c1, HF⟩ := HF
  refine ev_gI (f := 803) cl_X7 (k := 3) (by decide) fi_X7_3 rfl fl_X7_26 dX7_next_55 c1 ?_
  replace HF := bind_o HF
  obtain ⟨h3, e2, HF⟩ := HF
  refine ev_callV (As := [.int (hF h 803 t)]) (R1 := (none, h3)) (lk_X7_fail (d := 0) (Nat.le_refl _) c1 e2) ce_X7_fail im_X7_fail sl_X7_fail ml_X7_33 cl_X7 c1 dX7_next_58 (by omega) (Nat.le_of_ble_eq_true rfl) rfl rfl ?_
  show EvG _ _ _ _ _ _ _ _ _ _ _ 61 [(0, .ref t), (1, .int x1)] [] h3
  refine ev_iload_n 1 dX7_next_61 rfl ?_
  obtain rfl := Option.some.inj HF
  exact ev_iret dX7_next_62

set_option maxRecDepth 20000 in
theorem lk_X7_next_42 {g : aG} {l : Launch} {d : Nat} {h0 : aH} (hdd : 1 ≤ d) {r : Int32 × aH} (t : Nat) (x1 : Int32) (x2 : Int32) (y0 : Int32) (h : aH) (HF : F_X7_next_42  t x1 x2 y0 h = some r) : Ev g l cX7_next 4 yX7_next (some .int) d h0 (some (.int r.1), r.2) 42 [(0, .ref t), (1, .int x1), (2, .int x2)] [.int y0] h := by
  unfold F_X7_next_42 at HF
  refine ev_istore_n (lv' := [(3, .int y0), (0, .ref t), (1, .int x1), (2, .int x2)]) dX7_next_42 (by decide) (rfl) ?_
  refine ev_iload_n 0 dX7_next_43 rfl ?_
  refine ev_iload_n 2 dX7_next_44 rfl ?_
  by_cases c1 : y0 < x1
  · replace HF := ite_T c1 HF
    refine ev_icmp_ltT (tgt := 53) dX7_next_45 (by decide) c1 ?_
    exact Ev.sub [1, 2] rfl (lk_X7_next_53 hdd  t x1 _ HF)
  · replace HF := ite_F c1 HF
    refine ev_icmp_ltF (tgt := 53) dX7_next_45 (by decide) c1 ?_
    refine ev_iload_n 0 dX7_next_48 rfl ?_
    refine ev_iload_n 3 dX7_next_49 rfl ?_
    by_cases c2 : y0 ≤ x2
    · replace HF := ite_T c2 HF
      refine ev_icmp_leT (tgt := 63) dX7_next_50 (by decide) c2 ?_
      refine ev_aload_n 1 dX7_next_63 rfl ?_
      refine ev_dup dX7_next_64 rfl ?_
      replace HF := bind_ck HF
      obtain ⟨c3, HF⟩ := HF
      refine ev_gI (f := 803) cl_X7 (k := 3) (by decide) fi_X7_3 rfl fl_X7_26 dX7_next_65 c3 ?_
      refine ev_iconst (v := 1) dX7_next_68 (by decide) ?_
      refine ev_iadd dX7_next_69 ?_
      refine ev_pI (f := 803) cl_X7 (k := 3) (by decide) fi_X7_3 rfl fl_X7_26 rfl rfl rfl dX7_next_70 c3 ?_
      replace HF := bd_n HF
      obtain ⟨h4, eh4, HF⟩ := HF
      refine ev_heap eh4 ?_
      have c5 : hK h4 t = 9 := by rw [eh4]; exact c3
      refine ev_iload_n 0 dX7_next_73 rfl ?_
      show EvG _ _ _ _ _ _ _ _ _ _ _ 74 _ _ _
      obtain rfl := Option.some.inj HF
      exact ev_iret dX7_next_74
    · replace HF := ite_F c2 HF
      refine ev_icmp_leF (tgt := 63) dX7_next_50 (by decide) c2 ?_
      exact Ev.sub [1, 2] rfl (lk_X7_next_53 hdd  t x1 _ HF)

set_option maxRecDepth 20000 in
theorem lk_X7_next {g : aG} {l : Launch} {d : Nat} (hdd : 1 ≤ d) {t : Nat} {x1 : Int32} {x2 : Int32} {h : aH} {r : Int32 × aH} (hT : hK h t = 9) (HF : F_X7_next t x1 x2 h = some r) : MA g l yX7_next cX7_next 4 (some .int) d [.ref t, .int x1, .int x2] h (some (.int r.1), r.2) := by
  refine MA.of (lv0 := [(0, .ref t), (1, .int x1), (2, .int x2)]) (by decide +kernel) (rfl) (Nat.le_of_ble_eq_true rfl) ?_
  unfold F_X7_next at HF
  refine ev_aload_n 0 dX7_next_0 rfl ?_
  replace HF := bind_o HF
  obtain ⟨⟨z3, h2⟩, e1, HF⟩ := HF
  replace HF := bd_o (bd_o HF)
  dsimp only at HF
  refine ev_callV (As := []) (R1 := (some (.int z3), h2)) (lk_X7_isRight (d := 0) (Nat.le_refl _) hT e1) ce_X7_isRight im_X7_isRight sl_X7_isRight ml_X7_53 cl_X7 hT dX7_next_1 (by omega) (Nat.le_of_ble_eq_true rfl) rfl rfl ?_
  show EvG _ _ _ _ _ _ _ _ _ _ _ 4 [(0, .ref t), (1, .int x1), (2, .int x2)] [.int z3] h2
  by_cases c5 : z3 = 0
  · replace HF := ite_T c5 HF
    refine ev_if_eqT (tgt := 14) dX7_next_4 (by decide) c5 ?_
    refine ev_iload_n 1 dX7_next_14 rfl ?_
    obtain rfl := Option.some.inj HF
    exact ev_iret dX7_next_15
  · replace HF := ite_F c5 HF
    refine ev_if_eqF (tgt := 14) dX7_next_4 (by decide) c5 ?_
    refine ev_aload_n 0 dX7_next_7 rfl ?_
    replace HF := bind_ck HF
    obtain ⟨c6, HF⟩ := HF
    refine ev_gG (f := 801) cl_X7 (k := 1) (by decide) fi_X7_1 rfl fl_X7_15 dX7_next_8 c6 ?_
    replace HF := bd_n HF
    obtain ⟨o7, eo7, HF⟩ := HF
    refine ev_topO eo7 ?_
    cases o7 with
    | none =>
      refine ev_ifnonnullN dX7_next_11 ?_
      refine ev_iload_n 1 dX7_next_14 rfl ?_
      obtain rfl := Option.some.inj HF
      exact ev_iret dX7_next_15
    | some b8 =>
      refine ev_ifnonnullS (tgt := 16) dX7_next_11 (by decide) ?_
      refine ev_aload_n 0 dX7_next_16 rfl ?_
      refine ev_gI (f := 803) cl_X7 (k := 3) (by decide) fi_X7_3 rfl fl_X7_26 dX7_next_17 c6 ?_
      refine ev_aload_n 0 dX7_next_20 rfl ?_
      refine ev_gI (f := 802) cl_X7 (k := 2) (by decide) fi_X7_2 rfl fl_X7_23 dX7_next_21 c6 ?_
      by_cases c9 : hF h2 802 t ≤ hF h2 803 t
      · replace HF := ite_T c9 HF
        refine ev_icmp_geT (tgt := 41) dX7_next_24 (by decide) c9 ?_
        refine ev_iconst (v := (-1)) dX7_next_41 (by decide) ?_
        exact Ev.sub [0, 1, 2] rfl (lk_X7_next_42 hdd  t x1 x2 ((-1)) _ HF)
      · replace HF := ite_F c9 HF
        refine ev_icmp_geF (tgt := 41) dX7_next_24 (by decide) c9 ?_
        refine ev_aload_n 0 dX7_next_27 rfl ?_
        refine ev_gG (f := 801) cl_X7 (k := 1) (by decide) fi_X7_1 rfl fl_X7_15 dX7_next_28 c6 ?_
        replace HF := bd_n HF
        obtain ⟨o10, eo10, HF⟩ := HF
        refine ev_topO eo10 ?_
        refine ev_aload_n 0 dX7_next_31 rfl ?_
        refine ev_gI (f := 803) cl_X7 (k := 3) (by decide) fi_X7_3 rfl fl_X7_26 dX7_next_32 c6 ?_
        replace HF := bind_o HF
        obtain ⟨b11, e12, HF⟩ := HF
        subst e12
        replace HF := bind_ck HF
        obtain ⟨c13, HF⟩ := HF
        replace HF := bind_o HF
        obtain ⟨⟨z16, h15⟩, e14, HF⟩ := HF
        replace HF := bd_o (bd_o HF)
        dsimp only at HF
        refine ev_callV (As := [.int (hF h2 803 t)]) (R1 := (some (.int z16), h15)) (lk_X0_at (d := 0) (Nat.le_refl _) c13 e14) ce_X0_at im_X0_at sl_X0_at ml_X7_131 cl_X0 c13 dX7_next_35 (by omega) (Nat.le_of_ble_eq_true rfl) rfl rfl ?_
        show EvG _ _ _ _ _ _ _ _ _ _ _ 38 [(0, .ref t), (1, .int x1), (2, .int x2)] [.int z16] h15
        refine ev_goto (tgt := 42) dX7_next_38 (by decide) ?_
        exact Ev.sub [0, 1, 2] rfl (lk_X7_next_42 hdd  t x1 x2 z16 _ HF)

set_option maxRecDepth 20000 in
theorem lk_X7_readPlayers_59 {g : aG} {l : Launch} {d : Nat} {h0 : aH} (hdd : 3 ≤ d) {r : aH} (k3 : Nat → Nat → Int32 → Int32 → Int32 → aH → Option (aH)) (hk3 : ∀ (t : Nat) (a1 : Nat) (x2 : Int32) (x3 : Int32) (x4 : Int32) (h : aH), k3 t a1 x2 x3 x4 h = some r → Ev g l cX7_readPlayers 7 yX7_readPlayers (none) d h0 (none, r) 3 [(0, .ref t), (1, .ref a1), (2, .int x2), (3, .int x3), (4, .int x4)] [] h) (k30 : Nat → Nat → Int32 → Int32 → Int32 → Int32 → Int32 → aH → Option (aH)) (hk30 : ∀ (t : Nat) (a1 : Nat) (x2 : Int32) (x3 : Int32) (x4 : Int32) (x5 : Int32) (x6 : Int32) (h : aH), k30 t a1 x2 x3 x4 x5 x6 h = some r → Ev g l cX7_readPlayers 7 yX7_readPlayers (none) d h0 (none, r) 30 [(0, .ref t), (1, .ref a1), (2, .int x2), (3, .int x3), (4, .int x4), (5, .int x5), (6, .int x6)] [] h) (t : Nat) (a1 : Nat) (x2 : Int32) (x3 : Int32) (x4 : Int32) (x5 : Int32) (x6 : Int32) (h : aH) (HF : F_X7_readPlayers_59 k3 k30 t a1 x2 x3 x4 x5 x6 h = some r) : Ev g l cX7_readPlayers 7 yX7_readPlayers (none) d h0 (none, r) 59 [(0, .ref t), (1, .ref a1), (2, .int x2), (3, .int x3), (4, .int x4), (5, .int x5), (6, .int x6)] [] h := by
  unfold F_X7_readPlayers_59 at HF
  replace HF := bd_n HF
  obtain ⟨v1, ev1, HF⟩ := HF
  refine ev_iinc (v := v1) (lv' := [(6, .int v1), (0, .ref t), (1, .ref a1), (2, .int x2), (3, .int x3), (4, .int x4), (5, .int x5)]) 6 dX7_readPlayers_59 rfl (by rw [ev1]; rfl) (by decide) (rfl) ?_
  refine ev_goto (tgt := 30) dX7_readPlayers_62 (by decide) ?_
  exact Ev.sub [1, 2, 3, 4, 5, 6, 0] rfl (hk30 t a1 x2 x3 x4 x5 v1 _ HF)

set_option maxRecDepth 20000 in
theorem lk_X7_readPlayers_30 {g : aG} {l : Launch} {d : Nat} {h0 : aH} (hdd : 3 ≤ d) {r : aH} (k3 : Nat → Nat → Int32 → Int32 → Int32 → aH → Option (aH)) (hk3 : ∀ (t : Nat) (a1 : Nat) (x2 : Int32) (x3 : Int32) (x4 : Int32) (h : aH), k3 t a1 x2 x3 x4 h = some r → Ev g l cX7_readPlayers 7 yX7_readPlayers (none) d h0 (none, r) 3 [(0, .ref t), (1, .ref a1), (2, .int x2), (3, .int x3), (4, .int x4)] [] h) : ∀ (n : Nat) (t : Nat) (a1 : Nat) (x2 : Int32) (x3 : Int32) (x4 : Int32) (x5 : Int32) (x6 : Int32) (h : aH), F_X7_readPlayers_30 k3 n t a1 x2 x3 x4 x5 x6 h = some r → Ev g l cX7_readPlayers 7 yX7_readPlayers (none) d h0 (none, r) 30 [(0, .ref t), (1, .ref a1), (2, .int x2), (3, .int x3), (4, .int x4), (5, .int x5), (6, .int x6)] [] h := by
  intro n
  induction n with
  | zero => intro t a1 x2 x3 x4 x5 x6 h HF; cases HF
  | succ n ih =>
  intro t a1 x2 x3 x4 x5 x6 h HF
  unfold F_X7_readPlayers_30 at HF
  refine ev_iload 6 dX7_readPlayers_30 rfl ?_
  refine ev_iload 4 dX7_readPlayers_32 rfl ?_
  by_cases c1 : x4 ≤ x6
  · replace HF := ite_T c1 HF
    refine ev_icmp_geT (tgt := 65) dX7_readPlayers_34 (by decide) c1 ?_
    refine ev_aload_n 1 dX7_readPlayers_65 rfl ?_
    replace HF := bind_ck HF
    obtain ⟨c2, HF⟩ := HF
    replace HF := bind_o HF
    obtain ⟨b3, e4, HF⟩ := HF
    refine ev_gSN (f := 404) cl_X3 (k := 4) (by decide) fi_X3_4 rfl fl_X7_104 dX7_readPlayers_66 c2 e4 ?_
    refine ev_iload_n 2 dX7_readPlayers_69 rfl ?_
    refine ev_iload 4 dX7_readPlayers_70 rfl ?_
    refine ev_iload 5 dX7_readPlayers_72 rfl ?_
    replace HF := bind_ck HF
    obtain ⟨c5, HF⟩ := HF
    replace HF := bind_o HF
    obtain ⟨h7, e6, HF⟩ := HF
    refine ev_callV (As := [.int x2, .int x4, .int x5]) (R1 := (none, h7)) (lk_X4_set (d := 1) (Nat.le_refl _) c5 e6) ce_X4_set im_X4_set sl_X4_set ml_X7_108 cl_X4 c5 dX7_readPlayers_74 (by omega) (Nat.le_of_ble_eq_true rfl) rfl rfl ?_
    show EvG _ _ _ _ _ _ _ _ _ _ _ 77 [(0, .ref t), (1, .ref a1), (2, .int x2), (3, .int x3), (4, .int x4), (5, .int x5), (6, .int x6)] [] h7
    replace HF := bd_n HF
    obtain ⟨v9, ev9, HF⟩ := HF
    refine ev_iinc (v := v9) (lv' := [(4, .int v9), (0, .ref t), (1, .ref a1), (2, .int x2), (3, .int x3), (5, .int x5), (6, .int x6)]) 4 dX7_readPlayers_77 rfl (by rw [ev9]; rfl) (by decide) (rfl) ?_
    show EvG _ _ _ _ _ _ _ _ _ _ _ 80 _ _ _
    refine ev_goto (tgt := 3) dX7_readPlayers_80 (by decide) ?_
    exact Ev.sub [1, 2, 3, 4, 0] rfl (hk3 t a1 x2 x3 v9 _ HF)
  · replace HF := ite_F c1 HF
    refine ev_icmp_geF (tgt := 65) dX7_readPlayers_34 (by decide) c1 ?_
    refine ev_aload_n 1 dX7_readPlayers_37 rfl ?_
    refine ev_iload_n 2 dX7_readPlayers_38 rfl ?_
    refine ev_iload 6 dX7_readPlayers_39 rfl ?_
    replace HF := bind_ck HF
    obtain ⟨c10, HF⟩ := HF
    replace HF := bind_o HF
    obtain ⟨⟨z13, h12⟩, e11, HF⟩ := HF
    replace HF := bd_o (bd_o HF)
    dsimp only at HF
    refine ev_callV (As := [.int x2, .int x6]) (R1 := (some (.int z13), h12)) (lk_X3_playerAt (d := 2) (Nat.le_refl _) c10 e11) ce_X3_playerAt im_X3_playerAt sl_X3_playerAt ml_X7_101 cl_X3 c10 dX7_readPlayers_41 (by omega) (Nat.le_of_ble_eq_true rfl) rfl rfl ?_
    show EvG _ _ _ _ _ _ _ _ _ _ _ 44 [(0, .ref t), (1, .ref a1), (2, .int x2), (3, .int x3), (4, .int x4), (5, .int x5), (6, .int x6)] [.int z13] h12
    refine ev_iload 5 dX7_readPlayers_44 rfl ?_
    by_cases c15 : z13 = x5
    · replace HF := ite_T c15 HF
      refine ev_icmp_neF (tgt := 59) dX7_readPlayers_46 (by decide) c15 ?_
      refine ev_aload_n 0 dX7_readPlayers_49 rfl ?_
      refine ev_aload_n 0 dX7_readPlayers_50 rfl ?_
      replace HF := bind_ck HF
      obtain ⟨c16, HF⟩ := HF
      refine ev_gI (f := 803) cl_X7 (k := 3) (by decide) fi_X7_3 rfl fl_X7_26 dX7_readPlayers_51 c16 ?_
      refine ev_iconst (v := 1) dX7_readPlayers_54 (by decide) ?_
      refine ev_isub dX7_readPlayers_55 ?_
      replace HF := bind_o HF
      obtain ⟨h18, e17, HF⟩ := HF
      refine ev_callV (As := [.int ((hF h12 803 t) - 1)]) (R1 := (none, h18)) (lk_X7_fail (d := 0) (Nat.le_refl _) c16 e17) ce_X7_fail im_X7_fail sl_X7_fail ml_X7_33 cl_X7 c16 dX7_readPlayers_56 (by omega) (Nat.le_of_ble_eq_true rfl) rfl rfl ?_
      show EvG _ _ _ _ _ _ _ _ _ _ _ 59 [(0, .ref t), (1, .ref a1), (2, .int x2), (3, .int x3), (4, .int x4), (5, .int x5), (6, .int x6)] [] h18
      exact Ev.sub [0, 1, 2, 3, 4, 5, 6] rfl (lk_X7_readPlayers_59 hdd k3 hk3 (F_X7_readPlayers_30 k3 n) ih t a1 x2 x3 x4 x5 x6 _ HF)
    · replace HF := ite_F c15 HF
      refine ev_icmp_neT (tgt := 59) dX7_readPlayers_46 (by decide) c15 ?_
      exact Ev.sub [0, 1, 2, 3, 4, 5, 6] rfl (lk_X7_readPlayers_59 hdd k3 hk3 (F_X7_readPlayers_30 k3 n) ih t a1 x2 x3 x4 x5 x6 _ HF)

set_option maxRecDepth 20000 in
theorem lk_X7_readPlayers_3 {g : aG} {l : Launch} {d : Nat} {h0 : aH} (hdd : 3 ≤ d) {r : aH} : ∀ (n : Nat) (t : Nat) (a1 : Nat) (x2 : Int32) (x3 : Int32) (x4 : Int32) (h : aH), F_X7_readPlayers_3  n t a1 x2 x3 x4 h = some r → Ev g l cX7_readPlayers 7 yX7_readPlayers (none) d h0 (none, r) 3 [(0, .ref t), (1, .ref a1), (2, .int x2), (3, .int x3), (4, .int x4)] [] h := by
  intro n
  induction n with
  | zero => intro t a1 x2 x3 x4 h HF; cases HF
  | succ n ih =>
  intro t a1 x2 x3 x4 h HF
  unfold F_X7_readPlayers_3 at HF
  refine ev_iload 4 dX7_readPlayers_3 rfl ?_
  refine ev_bipush (v := 11) dX7_readPlayers_5 (by decide) ?_
  by_cases c1 : 11 ≤ x4
  · replace HF := ite_T c1 HF
    refine ev_icmp_geT (tgt := 83) dX7_readPlayers_7 (by decide) c1 ?_
    obtain rfl := Option.some.inj HF
    exact ev_vret dX7_readPlayers_83
  · replace HF := ite_F c1 HF
    refine ev_icmp_geF (tgt := 83) dX7_readPlayers_7 (by decide) c1 ?_
    refine ev_aload_n 0 dX7_readPlayers_10 rfl ?_
    replace HF := bind_ck HF
    obtain ⟨c2, HF⟩ := HF
    replace HF := bind_o HF
    obtain ⟨⟨z5, h4⟩, e3, HF⟩ := HF
    replace HF := bd_o (bd_o HF)
    dsimp only at HF
    refine ev_callV (As := []) (R1 := (some (.int z5), h4)) (lk_X7_isRight (d := 0) (Nat.le_refl _) c2 e3) ce_X7_isRight im_X7_isRight sl_X7_isRight ml_X7_53 cl_X7 c2 dX7_readPlayers_11 (by omega) (Nat.le_of_ble_eq_true rfl) rfl rfl ?_
    show EvG _ _ _ _ _ _ _ _ _ _ _ 14 [(0, .ref t), (1, .ref a1), (2, .int x2), (3, .int x3), (4, .int x4)] [.int z5] h4
    by_cases c7 : z5 = 0
    · replace HF := ite_T c7 HF
      refine ev_if_eqT (tgt := 83) dX7_readPlayers_14 (by decide) c7 ?_
      obtain rfl := Option.some.inj HF
      exact ev_vret dX7_readPlayers_83
    · replace HF := ite_F c7 HF
      refine ev_if_eqF (tgt := 83) dX7_readPlayers_14 (by decide) c7 ?_
      refine ev_aload_n 0 dX7_readPlayers_17 rfl ?_
      refine ev_iconst (v := 0) dX7_readPlayers_18 (by decide) ?_
      refine ev_iload_n 3 dX7_readPlayers_19 rfl ?_
      refine ev_iconst (v := 1) dX7_readPlayers_20 (by decide) ?_
      refine ev_isub dX7_readPlayers_21 ?_
      replace HF := bind_ck HF
      obtain ⟨c8, HF⟩ := HF
      replace HF := bind_o HF
      obtain ⟨⟨z11, h10⟩, e9, HF⟩ := HF
      replace HF := bd_o (bd_o HF)
      dsimp only at HF
      refine ev_callV (As := [.int 0, .int (x3 - 1)]) (R1 := (some (.int z11), h10)) (lk_X7_next (d := 1) (Nat.le_refl _) c8 e9) ce_X7_next im_X7_next sl_X7_next ml_X7_29 cl_X7 c8 dX7_readPlayers_22 (by omega) (Nat.le_of_ble_eq_true rfl) rfl rfl ?_
      show EvG _ _ _ _ _ _ _ _ _ _ _ 25 [(0, .ref t), (1, .ref a1), (2, .int x2), (3, .int x3), (4, .int x4)] [.int z11] h10
      refine ev_istore (lv' := [(5, .int z11), (0, .ref t), (1, .ref a1), (2, .int x2), (3, .int x3), (4, .int x4)]) dX7_readPlayers_25 (by decide) (rfl) ?_
      show EvG _ _ _ _ _ _ _ _ _ _ _ 27 _ _ _
      refine ev_iconst (v := 0) dX7_readPlayers_27 (by decide) ?_
      refine ev_istore (lv' := [(6, .int 0), (5, .int z11), (0, .ref t), (1, .ref a1), (2, .int x2), (3, .int x3), (4, .int x4)]) dX7_readPlayers_28 (by decide) (rfl) ?_
      exact Ev.sub [2, 3, 4, 5, 6, 1, 0] rfl (lk_X7_readPlayers_30 hdd (F_X7_readPlayers_3 n) ih fu t a1 x2 x3 x4 z11 0 _ HF)

set_option maxRecDepth 20000 in
theorem lk_X7_readPlayers {g : aG} {l : Launch} {d : Nat} (hdd : 3 ≤ d) {t : Nat} {a1 : Nat} {x2 : Int32} {x3 : Int32} {h : aH} {r : aH} (hT : hK h t = 9) (HF : F_X7_readPlayers t a1 x2 x3 h = some r) : MA g l yX7_readPlayers cX7_readPlayers 7 (none) d [.ref t, .ref a1, .int x2, .int x3] h (none, r) := by
  refine MA.of (lv0 := [(0, .ref t), (1, .ref a1), (2, .int x2), (3, .int x3)]) (by decide +kernel) (rfl) (Nat.le_of_ble_eq_true rfl) ?_
  unfold F_X7_readPlayers at HF
  refine ev_iconst (v := 0) dX7_readPlayers_0 (by decide) ?_
  refine ev_istore (lv' := [(4, .int 0), (0, .ref t), (1, .ref a1), (2, .int x2), (3, .int x3)]) dX7_readPlayers_1 (by decide) (rfl) ?_
  exact Ev.sub [1, 2, 3, 4, 0] rfl (lk_X7_readPlayers_3 hdd  fu t a1 x2 x3 0 _ HF)

set_option maxRecDepth 20000 in
theorem lk_X7_readHead_120 {g : aG} {l : Launch} {d : Nat} {h0 : aH} (hdd : 5 ≤ d) {r : Option Nat × aH} (k80 : Nat → Nat → Nat → Int32 → aH → Option (Option Nat × aH)) (hk80 : ∀ (t : Nat) (a1 : Nat) (a7 : Nat) (x8 : Int32) (h : aH), k80 t a1 a7 x8 h = some r → Ev g l cX7_readHead 10 yX7_readHead (some (.object "BallBook$Game")) d h0 (some (va_rf r.1), r.2) 80 [(0, .ref t), (1, .ref a1), (7, .ref a7), (8, .int x8)] [] h) (t : Nat) (a1 : Nat) (a7 : Nat) (x8 : Int32) (y0 : Nat) (y1 : Nat) (y2 : Int32) (y3 : Int32) (h : aH) (HF : F_X7_readHead_120 k80 t a1 a7 x8 y0 y1 y2 y3 h = some r) : Ev g l cX7_readHead 10 yX7_readHead (some (.object "BallBook$Game")) d h0 (some (va_rf r.1), r.2) 120 [(0, .ref t), (1, .ref a1), (7, .ref a7), (8, .int x8)] [.int y3, .int y2, .ref y1, .ref y0] h := by
  unfold F_X7_readHead_120 at HF
  replace HF := bind_ck HF
  obtain ⟨c1, HF⟩ := HF
  replace HF := bind_o HF
  obtain ⟨h3, e2, HF⟩ := HF
  refine ev_callV (As := [.ref y1, .int y2, .int y3]) (R1 := (none, h3)) (lk_X7_readPlayers (d := 3) (Nat.le_refl _) c1 e2) ce_X7_readPlayers im_X7_readPlayers sl_X7_readPlayers ml_X7_46 cl_X7 c1 dX7_readHead_120 (by omega) (Nat.le_of_ble_eq_true rfl) rfl rfl ?_
  show EvG _ _ _ _ _ _ _ _ _ _ _ 123 [(0, .ref t), (1, .ref a1), (7, .ref a7), (8, .int x8)] [] h3
  replace HF := bd_n HF
  obtain ⟨v5, ev5, HF⟩ := HF
  refine ev_iinc (v := v5) (lv' := [(8, .int v5), (0, .ref t), (1, .ref a1), (7, .ref a7)]) 3 dX7_readHead_123 rfl (by rw [ev5]; rfl) (by decide) (rfl) ?_
  refine ev_goto (tgt := 80) dX7_readHead_126 (by decide) ?_
  exact Ev.sub [1, 2, 3, 0] rfl (hk80 t a1 a7 v5 _ HF)

set_option maxRecDepth 20000 in
theorem lk_X7_readHead_119 {g : aG} {l : Launch} {d : Nat} {h0 : aH} (hdd : 5 ≤ d) {r : Option Nat × aH} (k80 : Nat → Nat → Nat → Int32 → aH → Option (Option Nat × aH)) (hk80 : ∀ (t : Nat) (a1 : Nat) (a7 : Nat) (x8 : Int32) (h : aH), k80 t a1 a7 x8 h = some r → Ev g l cX7_readHead 10 yX7_readHead (some (.object "BallBook$Game")) d h0 (some (va_rf r.1), r.2) 80 [(0, .ref t), (1, .ref a1), (7, .ref a7), (8, .int x8)] [] h) (t : Nat) (a1 : Nat) (a7 : Nat) (x8 : Int32) (y0 : Nat) (y1 : Nat) (y2 : Int32) (h : aH) (HF : F_X7_readHead_119 k80 t a1 a7 x8 y0 y1 y2 h = some r) : Ev g l cX7_readHead 10 yX7_readHead (some (.object "BallBook$Game")) d h0 (some (va_rf r.1), r.2) 119 [(0, .ref t), (1, .ref a1), (7, .ref a7), (8, .int x8)] [.int y2, .ref y1, .ref y0] h := by
  unfold F_X7_readHead_119 at HF
  refine ev_iconst (v := 0) dX7_readHead_119 (by decide) ?_
  exact Ev.sub [0, 1, 2, 3] rfl (lk_X7_readHead_120 hdd k80 hk80 t a1 a7 x8 y0 y1 y2 0 _ HF)

set_option maxRecDepth 20000 in
theorem lk_X7_readHead_80 {g : aG} {l : Launch} {d : Nat} {h0 : aH} (hdd : 5 ≤ d) {r : Option Nat × aH} : ∀ (n : Nat) (t : Nat) (a1 : Nat) (a7 : Nat) (x8 : Int32) (h : aH), F_X7_readHead_80  n t a1 a7 x8 h = some r → Ev g l cX7_readHead 10 yX7_readHead (some (.object "BallBook$Game")) d h0 (some (va_rf r.1), r.2) 80 [(0, .ref t), (1, .ref a1), (7, .ref a7), (8, .int x8)] [] h := by
  intro n
  induction n with
  | zero => intro t a1 a7 x8 h HF; cases HF
  | succ n ih =>
  intro t a1 a7 x8 h HF
  unfold F_X7_readHead_80 at HF
  refine ev_iload 3 dX7_readHead_80 rfl ?_
  refine ev_iconst (v := 2) dX7_readHead_82 (by decide) ?_
  by_cases c1 : 2 ≤ x8
  · replace HF := ite_T c1 HF
    refine ev_icmp_geT (tgt := 129) dX7_readHead_83 (by decide) c1 ?_
    refine ev_aload 2 dX7_readHead_129 rfl ?_
    obtain rfl := Option.some.inj HF
    exact ev_aret (r := some a7) (Or.inl ⟨_, rfl⟩) dX7_readHead_131
  · replace HF := ite_F c1 HF
    refine ev_icmp_geF (tgt := 129) dX7_readHead_83 (by decide) c1 ?_
    refine ev_aload 2 dX7_readHead_86 rfl ?_
    refine ev_iload 3 dX7_readHead_88 rfl ?_
    replace HF := bind_ck HF
    obtain ⟨c2, HF⟩ := HF
    replace HF := bind_o HF
    obtain ⟨⟨z5, h4⟩, e3, HF⟩ := HF
    replace HF := bd_o (bd_o HF)
    dsimp only at HF
    refine ev_callV (As := [.int x8]) (R1 := (some (.int z5), h4)) (lk_X3_sideAt (d := 0) (Nat.le_refl _) c2 e3) ce_X3_sideAt im_X3_sideAt sl_X3_sideAt ml_X7_42 cl_X3 c2 dX7_readHead_90 (by omega) (Nat.le_of_ble_eq_true rfl) rfl rfl ?_
    show EvG _ _ _ _ _ _ _ _ _ _ _ 93 [(0, .ref t), (1, .ref a1), (7, .ref a7), (8, .int x8)] [.int z5] h4
    refine ev_istore (lv' := [(9, .int z5), (0, .ref t), (1, .ref a1), (7, .ref a7), (8, .int x8)]) dX7_readHead_93 (by decide) (rfl) ?_
    refine ev_aload_n 1 dX7_readHead_95 rfl ?_
    refine ev_aload 3 dX7_readHead_96 rfl ?_
    refine ev_iload 4 dX7_readHead_98 rfl ?_
    show EvG _ _ _ _ _ _ _ _ _ _ _ 100 _ _ _
    refine ev_iload 0 dX7_readHead_100 rfl ?_
    by_cases c7 : z5 < 0
    · replace HF := ite_T c7 HF
      refine ev_if_ltT (tgt := 119) dX7_readHead_102 (by decide) c7 ?_
      exact Ev.sub [1, 2, 3, 4] rfl (lk_X7_readHead_119 hdd (F_X7_readHead_80 n) ih t a1 a7 x8 t a7 x8 _ HF)
    · replace HF := ite_F c7 HF
      refine ev_if_ltF (tgt := 119) dX7_readHead_102 (by decide) c7 ?_
      refine ev_iload 0 dX7_readHead_105 rfl ?_
      refine ev_aload_n 2 dX7_readHead_107 rfl ?_
      replace HF := bind_ck HF
      obtain ⟨c8, HF⟩ := HF
      refine ev_alen dX7_readHead_108 (by decide) (by decide) c8 rfl ?_
      by_cases c9 : Int32.ofNat (hN h4 a1) ≤ z5
      · replace HF := ite_T c9 HF
        refine ev_icmp_geT (tgt := 119) dX7_readHead_109 (by decide) c9 ?_
        exact Ev.sub [1, 2, 3, 4] rfl (lk_X7_readHead_119 hdd (F_X7_readHead_80 n) ih t a1 a7 x8 t a7 x8 _ HF)
      · replace HF := ite_F c9 HF
        refine ev_icmp_geF (tgt := 119) dX7_readHead_109 (by decide) c9 ?_
        refine ev_aload_n 2 dX7_readHead_112 rfl ?_
        refine ev_iload 0 dX7_readHead_113 rfl ?_
        replace HF := bind_ck HF
        obtain ⟨c10, HF⟩ := HF
        refine ev_iald dX7_readHead_115 c10.1 c10.2 ?_
        refine ev_goto (tgt := 120) dX7_readHead_116 (by decide) ?_
        exact Ev.sub [1, 2, 3, 4] rfl (lk_X7_readHead_120 hdd (F_X7_readHead_80 n) ih t a1 a7 x8 t a7 x8 (hI h4 a1 z5.toNatClampNeg) _ HF)

set_option maxRecDepth 20000 in
theorem lk_X7_readHead_44 {g : aG} {l : Launch} {d : Nat} {h0 : aH} (hdd : 5 ≤ d) {r : Option Nat × aH} (t : Nat) (a1 : Nat) (x3 : Int32) (x4 : Int32) (h : aH) (HF : F_X7_readHead_44  t a1 x3 x4 h = some r) : Ev g l cX7_readHead 10 yX7_readHead (some (.object "BallBook$Game")) d h0 (some (va_rf r.1), r.2) 44 [(0, .ref t), (1, .ref a1), (3, .int x3), (4, .int x4)] [] h := by
  unfold F_X7_readHead_44 at HF
  refine ev_aload_n 0 dX7_readHead_44 rfl ?_
  refine ev_iconst (v := 1) dX7_readHead_45 (by decide) ?_
  refine ev_bipush (v := 120) dX7_readHead_46 (by decide) ?_
  replace HF := bind_ck HF
  obtain ⟨c1, HF⟩ := HF
  replace HF := bind_o HF
  obtain ⟨⟨z4, h3⟩, e2, HF⟩ := HF
  replace HF := bd_o (bd_o HF)
  dsimp only at HF
  refine ev_callV (As := [.int 1, .int 120]) (R1 := (some (.int z4), h3)) (lk_X7_next (d := 1) (Nat.le_refl _) c1 e2) ce_X7_next im_X7_next sl_X7_next ml_X7_29 cl_X7 c1 dX7_readHead_48 (by omega) (Nat.le_of_ble_eq_true rfl) rfl rfl ?_
  show EvG _ _ _ _ _ _ _ _ _ _ _ 51 [(0, .ref t), (1, .ref a1), (3, .int x3), (4, .int x4)] [.int z4] h3
  refine ev_istore (lv' := [(5, .int z4), (0, .ref t), (1, .ref a1), (3, .int x3), (4, .int x4)]) dX7_readHead_51 (by decide) (rfl) ?_
  refine ev_aload_n 1 dX7_readHead_53 rfl ?_
  refine ev_iconst (v := 1) dX7_readHead_54 (by decide) ?_
  show EvG _ _ _ _ _ _ _ _ _ _ _ 55 _ _ _
  refine ev_iconst (v := 2) dX7_readHead_55 (by decide) ?_
  replace HF := bind_ck HF
  obtain ⟨c6, HF⟩ := HF
  replace HF := bind_o HF
  obtain ⟨⟨z9, h8⟩, e7, HF⟩ := HF
  replace HF := bd_o (bd_o HF)
  dsimp only at HF
  refine ev_callV (As := [.int 1, .int 2]) (R1 := (some (.int z9), h8)) (lk_X7_next (d := 1) (Nat.le_refl _) c6 e7) ce_X7_next im_X7_next sl_X7_next ml_X7_29 cl_X7 c6 dX7_readHead_56 (by omega) (Nat.le_of_ble_eq_true rfl) rfl rfl ?_
  show EvG _ _ _ _ _ _ _ _ _ _ _ 59 [(5, .int z4), (0, .ref t), (1, .ref a1), (3, .int x3), (4, .int x4)] [.int z9] h8
  refine ev_istore (lv' := [(6, .int z9), (5, .int z4), (0, .ref t), (1, .ref a1), (3, .int x3), (4, .int x4)]) dX7_readHead_59 (by decide) (rfl) ?_
  refine ev_new cl_X3 kl_X7_37 ins_X3 ini_X3 df_X3 dX7_readHead_61 ?_
  replace HF := bd_n HF
  obtain ⟨b11, eb11, HF⟩ := HF
  refine ev_topR eb11 ?_
  replace HF := bd_n HF
  obtain ⟨h12, eh12, HF⟩ := HF
  refine ev_heap eh12 ?_
  refine ev_dup dX7_readHead_64 rfl ?_
  refine ev_iload_n 4 dX7_readHead_65 rfl ?_
  refine ev_iload 5 dX7_readHead_66 rfl ?_
  refine ev_iload 1 dX7_readHead_68 rfl ?_
  show EvG _ _ _ _ _ _ _ _ _ _ _ 70 _ _ _
  refine ev_iload 0 dX7_readHead_70 rfl ?_
  replace HF := bind_ck HF
  obtain ⟨c13, HF⟩ := HF
  replace HF := bind_o HF
  obtain ⟨h15, e14, HF⟩ := HF
  refine ev_callI (As := [.int x3, .int x4, .int z4, .int z9]) (R1 := (none, h15)) (lk_X3_init (d := 4) (Nat.le_refl _) c13 e14) ce_X3_init rfl im_X3_init ml_X7_39 dX7_readHead_72 (by omega) (Nat.le_of_ble_eq_true rfl) rfl rfl ?_
  show EvG _ _ _ _ _ _ _ _ _ _ _ 75 [(6, .int z9), (5, .int z4), (0, .ref t), (1, .ref a1), (3, .int x3), (4, .int x4)] [.ref b11] h15
  refine ev_astore (lv' := [(7, .ref b11), (6, .int z9), (5, .int z4), (0, .ref t), (1, .ref a1), (3, .int x3), (4, .int x4)]) dX7_readHead_75 (by decide) (rfl) ?_
  refine ev_iconst (v := 0) dX7_readHead_77 (by decide) ?_
  refine ev_istore (lv' := [(8, .int 0), (7, .ref b11), (6, .int z9), (5, .int z4), (0, .ref t), (1, .ref a1), (3, .int x3), (4, .int x4)]) dX7_readHead_78 (by decide) (rfl) ?_
  exact Ev.sub [4, 5, 1, 0] rfl (lk_X7_readHead_80 hdd  fu t a1 b11 0 _ HF)

set_option maxRecDepth 20000 in
theorem lk_X7_readHead {g : aG} {l : Launch} {d : Nat} (hdd : 5 ≤ d) {t : Nat} {a1 : Nat} {x2 : Int32} {h : aH} {r : Option Nat × aH} (hT : hK h t = 9) (HF : F_X7_readHead t a1 x2 h = some r) : MA g l yX7_readHead cX7_readHead 10 (some (.object "BallBook$Game")) d [.ref t, .ref a1, .int x2] h (some (va_rf r.1), r.2) := by
  refine MA.of (lv0 := [(0, .ref t), (1, .ref a1), (2, .int x2)]) (by decide +kernel) (rfl) (Nat.le_of_ble_eq_true rfl) ?_
  unfold F_X7_readHead at HF
  refine ev_aload_n 0 dX7_readHead_0 rfl ?_
  refine ev_bipush (v := 66) dX7_readHead_1 (by decide) ?_
  refine ev_bipush (v := 66) dX7_readHead_3 (by decide) ?_
  replace HF := bind_o HF
  obtain ⟨⟨z3, h2⟩, e1, HF⟩ := HF
  replace HF := bd_o (bd_o HF)
  dsimp only at HF
  refine ev_callV (As := [.int 66, .int 66]) (R1 := (some (.int z3), h2)) (lk_X7_next (d := 1) (Nat.le_refl _) hT e1) ce_X7_next im_X7_next sl_X7_next ml_X7_29 cl_X7 hT dX7_readHead_5 (by omega) (Nat.le_of_ble_eq_true rfl) rfl rfl ?_
  show EvG _ _ _ _ _ _ _ _ _ _ _ 8 [(0, .ref t), (1, .ref a1), (2, .int x2)] [.int z3] h2
  refine ev_pop dX7_readHead_8 (by first | rfl | exact va_cat _) ?_
  refine ev_aload_n 0 dX7_readHead_9 rfl ?_
  refine ev_iconst (v := 0) dX7_readHead_10 (by decide) ?_
  show EvG _ _ _ _ _ _ _ _ _ _ _ 11 _ _ _
  refine ev_iload_n 2 dX7_readHead_11 rfl ?_
  refine ev_iconst (v := 1) dX7_readHead_12 (by decide) ?_
  refine ev_isub dX7_readHead_13 ?_
  replace HF := bind_ck HF
  obtain ⟨c5, HF⟩ := HF
  replace HF := bind_o HF
  obtain ⟨⟨z8, h7⟩, e6, HF⟩ := HF
  replace HF := bd_o (bd_o HF)
  dsimp only at HF
  refine ev_callV (As := [.int 0, .int (x2 - 1)]) (R1 := (some (.int z8), h7)) (lk_X7_next (d := 1) (Nat.le_refl _) c5 e6) ce_X7_next im_X7_next sl_X7_next ml_X7_29 cl_X7 c5 dX7_readHead_14 (by omega) (Nat.le_of_ble_eq_true rfl) rfl rfl ?_
  show EvG _ _ _ _ _ _ _ _ _ _ _ 17 [(0, .ref t), (1, .ref a1), (2, .int x2)] [.int z8] h7
  refine ev_istore_n (lv' := [(3, .int z8), (0, .ref t), (1, .ref a1), (2, .int x2)]) dX7_readHead_17 (by decide) (rfl) ?_
  refine ev_aload_n 1 dX7_readHead_18 rfl ?_
  refine ev_iconst (v := 0) dX7_readHead_19 (by decide) ?_
  refine ev_iload_n 3 dX7_readHead_20 rfl ?_
  show EvG _ _ _ _ _ _ _ _ _ _ _ 21 _ _ _
  refine ev_iconst (v := 1) dX7_readHead_21 (by decide) ?_
  refine ev_isub dX7_readHead_22 ?_
  replace HF := bind_ck HF
  obtain ⟨c10, HF⟩ := HF
  replace HF := bind_o HF
  obtain ⟨⟨z13, h12⟩, e11, HF⟩ := HF
  replace HF := bd_o (bd_o HF)
  dsimp only at HF
  refine ev_callV (As := [.int 0, .int (x2 - 1)]) (R1 := (some (.int z13), h12)) (lk_X7_next (d := 1) (Nat.le_refl _) c10 e11) ce_X7_next im_X7_next sl_X7_next ml_X7_29 cl_X7 c10 dX7_readHead_23 (by omega) (Nat.le_of_ble_eq_true rfl) rfl rfl ?_
  show EvG _ _ _ _ _ _ _ _ _ _ _ 26 [(3, .int z8), (0, .ref t), (1, .ref a1), (2, .int x2)] [.int z13] h12
  refine ev_istore (lv' := [(4, .int z13), (3, .int z8), (0, .ref t), (1, .ref a1), (2, .int x2)]) dX7_readHead_26 (by decide) (rfl) ?_
  refine ev_iload 0 dX7_readHead_28 rfl ?_
  refine ev_iload_n 1 dX7_readHead_30 rfl ?_
  by_cases c15 : z13 = z8
  · replace HF := ite_T c15 HF
    refine ev_icmp_neF (tgt := 44) dX7_readHead_31 (by decide) c15 ?_
    refine ev_aload_n 2 dX7_readHead_34 rfl ?_
    refine ev_aload_n 2 dX7_readHead_35 rfl ?_
    replace HF := bind_ck HF
    obtain ⟨c16, HF⟩ := HF
    refine ev_gI (f := 803) cl_X7 (k := 3) (by decide) fi_X7_3 rfl fl_X7_26 dX7_readHead_36 c16 ?_
    refine ev_iconst (v := 1) dX7_readHead_39 (by decide) ?_
    refine ev_isub dX7_readHead_40 ?_
    replace HF := bind_o HF
    obtain ⟨h18, e17, HF⟩ := HF
    refine ev_callV (As := [.int ((hF h12 803 t) - 1)]) (R1 := (none, h18)) (lk_X7_fail (d := 0) (Nat.le_refl _) c16 e17) ce_X7_fail im_X7_fail sl_X7_fail ml_X7_33 cl_X7 c16 dX7_readHead_41 (by omega) (Nat.le_of_ble_eq_true rfl) rfl rfl ?_
    show EvG _ _ _ _ _ _ _ _ _ _ _ 44 [(4, .int z13), (3, .int z8), (0, .ref t), (1, .ref a1), (2, .int x2)] [] h18
    exact Ev.sub [2, 3, 1, 0] rfl (lk_X7_readHead_44 hdd  t a1 z8 z13 _ HF)
  · replace HF := ite_F c15 HF
    refine ev_icmp_neT (tgt := 44) dX7_readHead_31 (by decide) c15 ?_
    exact Ev.sub [2, 3, 1, 0] rfl (lk_X7_readHead_44 hdd  t a1 z8 z13 _ HF)

set_option maxRecDepth 20000 in
theorem lk_X10_init {g : aG} {l : Launch} {d : Nat} (hdd : 4 ≤ d) {t : Nat} {h : aH} {r : aH} (hT : hK h t = 12) (HF : F_X10_init t h = some r) : MA g l yX10_init cX10_init 1 (none) d [.ref t] h (none, r) := by
  refine MA.of (lv0 := [(0, .ref t)]) (by decide +kernel) (rfl) (Nat.le_of_ble_eq_true rfl) ?_
  unfold F_X10_init at HF
  refine ev_aload_n 0 dX10_init_0 rfl ?_
  refine ev_obj ml_X10_1 im_obj cd_obj dX10_init_1 (by omega) (Nat.le_of_ble_eq_true rfl) ?_
  refine ev_aload_n 0 dX10_init_4 rfl ?_
  refine ev_new cl_Jx4a65c kl_X10_7 ins_Jx4a65c ini_Jx4a65c df_Jx4a65c dX10_init_5 ?_
  replace HF := bd_n HF
  obtain ⟨b1, eb1, HF⟩ := HF
  refine ev_topR eb1 ?_
  replace HF := bd_n HF
  obtain ⟨h2, eh2, HF⟩ := HF
  refine ev_heap eh2 ?_
  refine ev_dup dX10_init_8 rfl ?_
  replace HF := bind_ck HF
  obtain ⟨c3, HF⟩ := HF
  replace HF := bind_o HF
  obtain ⟨h5, e4, HF⟩ := HF
  refine ev_callI (As := []) (R1 := (none, h5)) (lk_Jx4a65c_init_da8c8 (d := 3) (Nat.le_refl _) c3 e4) ce_Jx4a65c_init_da8c8 rfl im_Jx4a65c_init_da8c8 ml_X10_9 dX10_init_9 (by omega) (Nat.le_of_ble_eq_true rfl) rfl rfl ?_
  show EvG _ _ _ _ _ _ _ _ _ _ _ 12 [(0, .ref t)] [.ref b1, .ref t] h5
  replace HF := bind_ck HF
  obtain ⟨c7, HF⟩ := HF
  refine ev_pSF (f := 1100) cl_X10 (k := 0) (by decide) fi_X10_0 rfl fl_X10_10 rfl rfl rfl rfl dX10_init_12 c7 ?_
  replace HF := bd_n HF
  obtain ⟨h8, eh8, HF⟩ := HF
  refine ev_heap eh8 ?_
  have c9 : hK h8 t = 12 := by rw [eh8]; exact c7
  show EvG _ _ _ _ _ _ _ _ _ _ _ 15 _ _ _
  obtain rfl := Option.some.inj HF
  exact ev_vret dX10_init_15

set_option maxRecDepth 20000 in
theorem lk_X10_addOver {g : aG} {l : Launch} {d : Nat} (hdd : 7 ≤ d) {t : Nat} {a1 : Nat} {h : aH} {r : aH} (hT : hK h t = 12) (HF : F_X10_addOver t a1 h = some r) : MA g l yX10_addOver cX10_addOver 2 (none) d [.ref t, .ref a1] h (none, r) := by
  refine MA.of (lv0 := [(0, .ref t), (1, .ref a1)]) (by decide +kernel) (rfl) (Nat.le_of_ble_eq_true rfl) ?_
  unfold F_X10_addOver at HF
  refine ev_aload_n 0 dX10_addOver_0 rfl ?_
  replace HF := bind_o HF
  obtain ⟨b1, e2, HF⟩ := HF
  refine ev_gS (f := 1100) cl_X10 (k := 0) (by decide) fi_X10_0 rfl fl_X10_10 dX10_addOver_1 hT e2 ?_
  refine ev_aload_n 1 dX10_addOver_4 rfl ?_
  replace HF := bind_ck HF
  obtain ⟨c3, HF⟩ := HF
  replace HF := bind_o HF
  obtain ⟨⟨z6, h5⟩, e4, HF⟩ := HF
  replace HF := bd_o (bd_o HF)
  dsimp only at HF
  refine ev_callV (As := [.ref a1]) (R1 := (some (.int z6), h5)) (lk_Jx4a65c_add_9ea2d (d := 6) (Nat.le_refl _) c3 e4) ce_Jx4a65c_add_9ea2d im_Jx4a65c_add_9ea2d sl_Jx4a65c_add_9ea2d ml_X10_35 cl_Jx4a65c c3 dX10_addOver_5 (by omega) (Nat.le_of_ble_eq_true rfl) rfl rfl ?_
  show EvG _ _ _ _ _ _ _ _ _ _ _ 8 [(0, .ref t), (1, .ref a1)] [.int z6] h5
  refine ev_pop dX10_addOver_8 (by first | rfl | exact va_cat _) ?_
  obtain rfl := Option.some.inj HF
  exact ev_vret dX10_addOver_9

set_option maxRecDepth 20000 in
theorem lk_X7_readOver_70 {g : aG} {l : Launch} {d : Nat} {h0 : aH} (hdd : 8 ≤ d) {r : aH} (a1 : Nat) (a4 : Nat) (h : aH) (HF : F_X7_readOver_70  a1 a4 h = some r) : Ev g l cX7_readOver 6 yX7_readOver (none) d h0 (none, r) 70 [(1, .ref a1), (4, .ref a4)] [] h := by
  unfold F_X7_readOver_70 at HF
  refine ev_aload_n 0 dX7_readOver_70 rfl ?_
  refine ev_aload 1 dX7_readOver_71 rfl ?_
  replace HF := bind_ck HF
  obtain ⟨c1, HF⟩ := HF
  replace HF := bind_o HF
  obtain ⟨h3, e2, HF⟩ := HF
  refine ev_callV (As := [.ref a4]) (R1 := (none, h3)) (lk_X10_addOver (d := 7) (Nat.le_refl _) c1 e2) ce_X10_addOver im_X10_addOver sl_X10_addOver ml_X7_127 cl_X10 c1 dX7_readOver_73 (by omega) (Nat.le_of_ble_eq_true rfl) rfl rfl ?_
  show EvG _ _ _ _ _ _ _ _ _ _ _ 76 [(1, .ref a1), (4, .ref a4)] [] h3
  obtain rfl := Option.some.inj HF
  exact ev_vret dX7_readOver_76

set_option maxRecDepth 20000 in
theorem lk_X7_readOver_36 {g : aG} {l : Launch} {d : Nat} {h0 : aH} (hdd : 8 ≤ d) {r : aH} : ∀ (n : Nat) (t : Nat) (a1 : Nat) (x3 : Int32) (a4 : Nat) (x5 : Int32) (h : aH), F_X7_readOver_36  n t a1 x3 a4 x5 h = some r → Ev g l cX7_readOver 6 yX7_readOver (none) d h0 (none, r) 36 [(0, .ref t), (1, .ref a1), (3, .int x3), (4, .ref a4), (5, .int x5)] [] h := by
  intro n
  induction n with
  | zero => intro t a1 x3 a4 x5 h HF; cases HF
  | succ n ih =>
  intro t a1 x3 a4 x5 h HF
  unfold F_X7_readOver_36 at HF
  refine ev_iload 4 dX7_readOver_36 rfl ?_
  refine ev_iload_n 2 dX7_readOver_38 rfl ?_
  by_cases c1 : x3 ≤ x5
  · replace HF := ite_T c1 HF
    refine ev_icmp_geT (tgt := 70) dX7_readOver_39 (by decide) c1 ?_
    exact Ev.sub [1, 3] rfl (lk_X7_readOver_70 hdd  a1 a4 _ HF)
  · replace HF := ite_F c1 HF
    refine ev_icmp_geF (tgt := 70) dX7_readOver_39 (by decide) c1 ?_
    refine ev_aload_n 0 dX7_readOver_42 rfl ?_
    replace HF := bind_ck HF
    obtain ⟨c2, HF⟩ := HF
    replace HF := bind_o HF
    obtain ⟨⟨z5, h4⟩, e3, HF⟩ := HF
    replace HF := bd_o (bd_o HF)
    dsimp only at HF
    refine ev_callV (As := []) (R1 := (some (.int z5), h4)) (lk_X7_isRight (d := 0) (Nat.le_refl _) c2 e3) ce_X7_isRight im_X7_isRight sl_X7_isRight ml_X7_53 cl_X7 c2 dX7_readOver_43 (by omega) (Nat.le_of_ble_eq_true rfl) rfl rfl ?_
    show EvG _ _ _ _ _ _ _ _ _ _ _ 46 [(0, .ref t), (1, .ref a1), (3, .int x3), (4, .ref a4), (5, .int x5)] [.int z5] h4
    by_cases c7 : z5 = 0
    · replace HF := ite_T c7 HF
      refine ev_if_eqT (tgt := 70) dX7_readOver_46 (by decide) c7 ?_
      exact Ev.sub [1, 3] rfl (lk_X7_readOver_70 hdd  a1 a4 _ HF)
    · replace HF := ite_F c7 HF
      refine ev_if_eqF (tgt := 70) dX7_readOver_46 (by decide) c7 ?_
      refine ev_aload 3 dX7_readOver_49 rfl ?_
      refine ev_iload 4 dX7_readOver_51 rfl ?_
      refine ev_aload_n 0 dX7_readOver_53 rfl ?_
      refine ev_iconst (v := 0) dX7_readOver_54 (by decide) ?_
      refine ev_sipush (v := 255) dX7_readOver_55 (by decide) ?_
      replace HF := bind_ck HF
      obtain ⟨c8, HF⟩ := HF
      replace HF := bind_o HF
      obtain ⟨⟨z11, h10⟩, e9, HF⟩ := HF
      replace HF := bd_o (bd_o HF)
      dsimp only at HF
      refine ev_callV (As := [.int 0, .int 255]) (R1 := (some (.int z11), h10)) (lk_X7_next (d := 1) (Nat.le_refl _) c8 e9) ce_X7_next im_X7_next sl_X7_next ml_X7_29 cl_X7 c8 dX7_readOver_58 (by omega) (Nat.le_of_ble_eq_true rfl) rfl rfl ?_
      show EvG _ _ _ _ _ _ _ _ _ _ _ 61 [(0, .ref t), (1, .ref a1), (3, .int x3), (4, .ref a4), (5, .int x5)] [.int z11, .int x5, .ref a4] h10
      replace HF := bind_ck HF
      obtain ⟨c13, HF⟩ := HF
      replace HF := bind_o HF
      obtain ⟨h15, e14, HF⟩ := HF
      refine ev_callV (As := [.int x5, .int z11]) (R1 := (none, h15)) (lk_X5_insert (d := 2) (Nat.le_refl _) c13 e14) ce_X5_insert im_X5_insert sl_X5_insert ml_X7_124 cl_X5 c13 dX7_readOver_61 (by omega) (Nat.le_of_ble_eq_true rfl) rfl rfl ?_
      show EvG _ _ _ _ _ _ _ _ _ _ _ 64 [(0, .ref t), (1, .ref a1), (3, .int x3), (4, .ref a4), (5, .int x5)] [] h15
      show EvG _ _ _ _ _ _ _ _ _ _ _ 64 _ _ _
      replace HF := bd_n HF
      obtain ⟨v17, ev17, HF⟩ := HF
      refine ev_iinc (v := v17) (lv' := [(5, .int v17), (0, .ref t), (1, .ref a1), (3, .int x3), (4, .ref a4)]) 4 dX7_readOver_64 rfl (by rw [ev17]; rfl) (by decide) (rfl) ?_
      refine ev_goto (tgt := 36) dX7_readOver_67 (by decide) ?_
      exact Ev.sub [1, 2, 3, 4, 0] rfl (ih t a1 x3 a4 v17 _ HF)

set_option maxRecDepth 20000 in
theorem lk_X7_readOver {g : aG} {l : Launch} {d : Nat} (hdd : 8 ≤ d) {t : Nat} {a1 : Nat} {h : aH} {r : aH} (hT : hK h t = 9) (HF : F_X7_readOver t a1 h = some r) : MA g l yX7_readOver cX7_readOver 6 (none) d [.ref t, .ref a1] h (none, r) := by
  refine MA.of (lv0 := [(0, .ref t), (1, .ref a1)]) (by decide +kernel) (rfl) (Nat.le_of_ble_eq_true rfl) ?_
  unfold F_X7_readOver at HF
  refine ev_aload_n 0 dX7_readOver_0 rfl ?_
  refine ev_iconst (v := 0) dX7_readOver_1 (by decide) ?_
  refine ev_bipush (v := 15) dX7_readOver_2 (by decide) ?_
  replace HF := bind_o HF
  obtain ⟨⟨z3, h2⟩, e1, HF⟩ := HF
  replace HF := bd_o (bd_o HF)
  dsimp only at HF
  refine ev_callV (As := [.int 0, .int 15]) (R1 := (some (.int z3), h2)) (lk_X7_next (d := 1) (Nat.le_refl _) hT e1) ce_X7_next im_X7_next sl_X7_next ml_X7_29 cl_X7 hT dX7_readOver_4 (by omega) (Nat.le_of_ble_eq_true rfl) rfl rfl ?_
  show EvG _ _ _ _ _ _ _ _ _ _ _ 7 [(0, .ref t), (1, .ref a1)] [.int z3] h2
  refine ev_istore_n (lv' := [(2, .int z3), (0, .ref t), (1, .ref a1)]) dX7_readOver_7 (by decide) (rfl) ?_
  refine ev_aload_n 1 dX7_readOver_8 rfl ?_
  refine ev_iconst (v := 0) dX7_readOver_9 (by decide) ?_
  show EvG _ _ _ _ _ _ _ _ _ _ _ 10 _ _ _
  refine ev_bipush (v := 41) dX7_readOver_10 (by decide) ?_
  replace HF := bind_ck HF
  obtain ⟨c5, HF⟩ := HF
  replace HF := bind_o HF
  obtain ⟨⟨z8, h7⟩, e6, HF⟩ := HF
  replace HF := bd_o (bd_o HF)
  dsimp only at HF
  refine ev_callV (As := [.int 0, .int 41]) (R1 := (some (.int z8), h7)) (lk_X7_next (d := 1) (Nat.le_refl _) c5 e6) ce_X7_next im_X7_next sl_X7_next ml_X7_29 cl_X7 c5 dX7_readOver_12 (by omega) (Nat.le_of_ble_eq_true rfl) rfl rfl ?_
  show EvG _ _ _ _ _ _ _ _ _ _ _ 15 [(2, .int z3), (0, .ref t), (1, .ref a1)] [.int z8] h7
  refine ev_iconst (v := 1) dX7_readOver_15 (by decide) ?_
  refine ev_isub dX7_readOver_16 ?_
  replace HF := bd_n HF
  obtain ⟨v10, ev10, HF⟩ := HF
  refine ev_topI ev10 ?_
  refine ev_istore_n (lv' := [(3, .int v10), (2, .int z3), (0, .ref t), (1, .ref a1)]) dX7_readOver_17 (by decide) (rfl) ?_
  refine ev_new cl_X5 kl_X7_114 ins_X5 ini_X5 df_X5 dX7_readOver_18 ?_
  replace HF := bd_n HF
  obtain ⟨b11, eb11, HF⟩ := HF
  refine ev_topR eb11 ?_
  replace HF := bd_n HF
  obtain ⟨h12, eh12, HF⟩ := HF
  refine ev_heap eh12 ?_
  refine ev_dup dX7_readOver_21 rfl ?_
  refine ev_iload_n 1 dX7_readOver_22 rfl ?_
  show EvG _ _ _ _ _ _ _ _ _ _ _ 23 _ _ _
  refine ev_iload_n 0 dX7_readOver_23 rfl ?_
  refine ev_iconst (v := 0) dX7_readOver_24 (by decide) ?_
  refine ev_min ml_X7_116 dX7_readOver_25 (by omega) (Nat.le_of_ble_eq_true rfl) ?_
  replace HF := bd_n HF
  obtain ⟨z13, ez13, HF⟩ := HF
  refine ev_topI ez13 ?_
  replace HF := bind_ck HF
  obtain ⟨c14, HF⟩ := HF
  replace HF := bind_o HF
  obtain ⟨h16, e15, HF⟩ := HF
  refine ev_callI (As := [.int z3, .int z13]) (R1 := (none, h16)) (lk_X5_init (d := 1) (Nat.le_refl _) c14 e15) ce_X5_init rfl im_X5_init ml_X7_121 dX7_readOver_28 (by omega) (Nat.le_of_ble_eq_true rfl) rfl rfl ?_
  show EvG _ _ _ _ _ _ _ _ _ _ _ 31 [(3, .int v10), (2, .int z3), (0, .ref t), (1, .ref a1)] [.ref b11] h16
  refine ev_astore (lv' := [(4, .ref b11), (3, .int v10), (2, .int z3), (0, .ref t), (1, .ref a1)]) dX7_readOver_31 (by decide) (rfl) ?_
  refine ev_iconst (v := 0) dX7_readOver_33 (by decide) ?_
  refine ev_istore (lv' := [(5, .int 0), (4, .ref b11), (3, .int v10), (2, .int z3), (0, .ref t), (1, .ref a1)]) dX7_readOver_34 (by decide) (rfl) ?_
  exact Ev.sub [4, 5, 2, 1, 0] rfl (lk_X7_readOver_36 hdd  fu t a1 v10 b11 0 _ HF)

set_option maxRecDepth 20000 in
theorem lk_X7_readTurns_85 {g : aG} {l : Launch} {d : Nat} {h0 : aH} (hdd : 9 ≤ d) {r : aH} (k14 : Nat → Nat → Int32 → Int32 → aH → Option (aH)) (hk14 : ∀ (t : Nat) (a1 : Nat) (x2 : Int32) (x3 : Int32) (h : aH), k14 t a1 x2 x3 h = some r → Ev g l cX7_readTurns 7 yX7_readTurns (none) d h0 (none, r) 14 [(0, .ref t), (1, .ref a1), (2, .int x2), (3, .int x3)] [] h) (t : Nat) (a1 : Nat) (x2 : Int32) (x3 : Int32) (h : aH) (HF : F_X7_readTurns_85 k14 t a1 x2 x3 h = some r) : Ev g l cX7_readTurns 7 yX7_readTurns (none) d h0 (none, r) 85 [(0, .ref t), (1, .ref a1), (2, .int x2), (3, .int x3)] [] h := by
  unfold F_X7_readTurns_85 at HF
  refine ev_aload_n 0 dX7_readTurns_85 rfl ?_
  refine ev_iconst (v := 0) dX7_readTurns_86 (by decide) ?_
  refine ev_sipush (v := 255) dX7_readTurns_87 (by decide) ?_
  replace HF := bind_ck HF
  obtain ⟨c1, HF⟩ := HF
  replace HF := bind_o HF
  obtain ⟨⟨z4, h3⟩, e2, HF⟩ := HF
  replace HF := bd_o (bd_o HF)
  dsimp only at HF
  refine ev_callV (As := [.int 0, .int 255]) (R1 := (some (.int z4), h3)) (lk_X7_next (d := 1) (Nat.le_refl _) c1 e2) ce_X7_next im_X7_next sl_X7_next ml_X7_29 cl_X7 c1 dX7_readTurns_90 (by omega) (Nat.le_of_ble_eq_true rfl) rfl rfl ?_
  show EvG _ _ _ _ _ _ _ _ _ _ _ 93 [(0, .ref t), (1, .ref a1), (2, .int x2), (3, .int x3)] [.int z4] h3
  refine ev_istore (lv' := [(6, .int z4), (0, .ref t), (1, .ref a1), (2, .int x2), (3, .int x3)]) dX7_readTurns_93 (by decide) (rfl) ?_
  refine ev_aload_n 1 dX7_readTurns_95 rfl ?_
  replace HF := bind_ck HF
  obtain ⟨c6, HF⟩ := HF
  replace HF := bind_o HF
  obtain ⟨b7, e8, HF⟩ := HF
  refine ev_gS (f := 800) cl_X7 (k := 0) (by decide) fi_X7_0 rfl fl_X7_9 dX7_readTurns_96 c6 e8 ?_
  show EvG _ _ _ _ _ _ _ _ _ _ _ 99 _ _ _
  refine ev_iload_n 4 dX7_readTurns_99 rfl ?_
  refine ev_sipush (v := 256) dX7_readTurns_100 (by decide) ?_
  refine ev_iload 0 dX7_readTurns_103 rfl ?_
  refine ev_imul dX7_readTurns_105 ?_
  refine ev_aload_n 1 dX7_readTurns_106 rfl ?_
  refine ev_iconst (v := 0) dX7_readTurns_107 (by decide) ?_
  refine ev_sipush (v := 255) dX7_readTurns_108 (by decide) ?_
  replace HF := bind_o HF
  obtain ⟨⟨z11, h10⟩, e9, HF⟩ := HF
  replace HF := bd_o (bd_o HF)
  dsimp only at HF
  refine ev_callV (As := [.int 0, .int 255]) (R1 := (some (.int z11), h10)) (lk_X7_next (d := 1) (Nat.le_refl _) c6 e9) ce_X7_next im_X7_next sl_X7_next ml_X7_29 cl_X7 c6 dX7_readTurns_111 (by omega) (Nat.le_of_ble_eq_true rfl) rfl rfl ?_
  show EvG _ _ _ _ _ _ _ _ _ _ _ 114 [(6, .int z4), (0, .ref t), (1, .ref a1), (2, .int x2), (3, .int x3)] [.int z11, .int (256 * z4), .int x3, .ref b7] h10
  show EvG _ _ _ _ _ _ _ _ _ _ _ 114 _ _ _
  refine ev_iadd dX7_readTurns_114 ?_
  replace HF := bind_ck HF
  obtain ⟨c13, HF⟩ := HF
  refine ev_iast dX7_readTurns_115 c13.1 c13.2 ?_
  replace HF := bd_n HF
  obtain ⟨h14, eh14, HF⟩ := HF
  refine ev_heap eh14 ?_
  replace HF := bd_n HF
  obtain ⟨v15, ev15, HF⟩ := HF
  refine ev_iinc (v := v15) (lv' := [(3, .int v15), (6, .int z4), (0, .ref t), (1, .ref a1), (2, .int x2)]) 4 dX7_readTurns_116 rfl (by rw [ev15]; rfl) (by decide) (rfl) ?_
  refine ev_goto (tgt := 14) dX7_readTurns_119 (by decide) ?_
  exact Ev.sub [2, 3, 4, 0] rfl (hk14 t a1 x2 v15 _ HF)

set_option maxRecDepth 20000 in
theorem lk_X7_readTurns_59 {g : aG} {l : Launch} {d : Nat} {h0 : aH} (hdd : 9 ≤ d) {r : aH} (k14 : Nat → Nat → Int32 → Int32 → aH → Option (aH)) (hk14 : ∀ (t : Nat) (a1 : Nat) (x2 : Int32) (x3 : Int32) (h : aH), k14 t a1 x2 x3 h = some r → Ev g l cX7_readTurns 7 yX7_readTurns (none) d h0 (none, r) 14 [(0, .ref t), (1, .ref a1), (2, .int x2), (3, .int x3)] [] h) : ∀ (n : Nat) (t : Nat) (a1 : Nat) (x2 : Int32) (x3 : Int32) (a4 : Nat) (x5 : Int32) (x6 : Int32) (h : aH), F_X7_readTurns_59 k14 n t a1 x2 x3 a4 x5 x6 h = some r → Ev g l cX7_readTurns 7 yX7_readTurns (none) d h0 (none, r) 59 [(0, .ref t), (1, .ref a1), (2, .int x2), (3, .int x3), (4, .ref a4), (5, .int x5), (6, .int x6)] [] h := by
  intro n
  induction n with
  | zero => intro t a1 x2 x3 a4 x5 x6 h HF; cases HF
  | succ n ih =>
  intro t a1 x2 x3 a4 x5 x6 h HF
  unfold F_X7_readTurns_59 at HF
  refine ev_iload 6 dX7_readTurns_59 rfl ?_
  refine ev_iload 5 dX7_readTurns_61 rfl ?_
  by_cases c1 : x5 ≤ x6
  · replace HF := ite_T c1 HF
    refine ev_icmp_geT (tgt := 85) dX7_readTurns_63 (by decide) c1 ?_
    exact Ev.sub [0, 1, 2, 3] rfl (lk_X7_readTurns_85 hdd k14 hk14 t a1 x2 x3 _ HF)
  · replace HF := ite_F c1 HF
    refine ev_icmp_geF (tgt := 85) dX7_readTurns_63 (by decide) c1 ?_
    refine ev_aload_n 0 dX7_readTurns_66 rfl ?_
    replace HF := bind_ck HF
    obtain ⟨c2, HF⟩ := HF
    replace HF := bind_o HF
    obtain ⟨⟨z5, h4⟩, e3, HF⟩ := HF
    replace HF := bd_o (bd_o HF)
    dsimp only at HF
    refine ev_callV (As := []) (R1 := (some (.int z5), h4)) (lk_X7_isRight (d := 0) (Nat.le_refl _) c2 e3) ce_X7_isRight im_X7_isRight sl_X7_isRight ml_X7_53 cl_X7 c2 dX7_readTurns_67 (by omega) (Nat.le_of_ble_eq_true rfl) rfl rfl ?_
    show EvG _ _ _ _ _ _ _ _ _ _ _ 70 [(0, .ref t), (1, .ref a1), (2, .int x2), (3, .int x3), (4, .ref a4), (5, .int x5), (6, .int x6)] [.int z5] h4
    by_cases c7 : z5 = 0
    · replace HF := ite_T c7 HF
      refine ev_if_eqT (tgt := 85) dX7_readTurns_70 (by decide) c7 ?_
      exact Ev.sub [0, 1, 2, 3] rfl (lk_X7_readTurns_85 hdd k14 hk14 t a1 x2 x3 _ HF)
    · replace HF := ite_F c7 HF
      refine ev_if_eqF (tgt := 85) dX7_readTurns_70 (by decide) c7 ?_
      refine ev_aload_n 0 dX7_readTurns_73 rfl ?_
      refine ev_aload 4 dX7_readTurns_74 rfl ?_
      replace HF := bind_ck HF
      obtain ⟨c8, HF⟩ := HF
      replace HF := bind_o HF
      obtain ⟨h10, e9, HF⟩ := HF
      refine ev_callV (As := [.ref a4]) (R1 := (none, h10)) (lk_X7_readOver (d := 8) (Nat.le_refl _) c8 e9) ce_X7_readOver im_X7_readOver sl_X7_readOver ml_X7_64 cl_X7 c8 dX7_readTurns_76 (by omega) (Nat.le_of_ble_eq_true rfl) rfl rfl ?_
      show EvG _ _ _ _ _ _ _ _ _ _ _ 79 [(0, .ref t), (1, .ref a1), (2, .int x2), (3, .int x3), (4, .ref a4), (5, .int x5), (6, .int x6)] [] h10
      replace HF := bd_n HF
      obtain ⟨v12, ev12, HF⟩ := HF
      refine ev_iinc (v := v12) (lv' := [(6, .int v12), (0, .ref t), (1, .ref a1), (2, .int x2), (3, .int x3), (4, .ref a4), (5, .int x5)]) 6 dX7_readTurns_79 rfl (by rw [ev12]; rfl) (by decide) (rfl) ?_
      refine ev_goto (tgt := 59) dX7_readTurns_82 (by decide) ?_
      exact Ev.sub [1, 2, 3, 4, 5, 6, 0] rfl (ih t a1 x2 x3 a4 x5 v12 _ HF)

set_option maxRecDepth 20000 in
theorem lk_X7_readTurns_14 {g : aG} {l : Launch} {d : Nat} {h0 : aH} (hdd : 9 ≤ d) {r : aH} : ∀ (n : Nat) (t : Nat) (a1 : Nat) (x2 : Int32) (x3 : Int32) (h : aH), F_X7_readTurns_14  n t a1 x2 x3 h = some r → Ev g l cX7_readTurns 7 yX7_readTurns (none) d h0 (none, r) 14 [(0, .ref t), (1, .ref a1), (2, .int x2), (3, .int x3)] [] h := by
  intro n
  induction n with
  | zero => intro t a1 x2 x3 h HF; cases HF
  | succ n ih =>
  intro t a1 x2 x3 h HF
  unfold F_X7_readTurns_14 at HF
  refine ev_iload_n 3 dX7_readTurns_14 rfl ?_
  refine ev_iload_n 2 dX7_readTurns_15 rfl ?_
  by_cases c1 : x2 ≤ x3
  · replace HF := ite_T c1 HF
    refine ev_icmp_geT (tgt := 122) dX7_readTurns_16 (by decide) c1 ?_
    obtain rfl := Option.some.inj HF
    exact ev_vret dX7_readTurns_122
  · replace HF := ite_F c1 HF
    refine ev_icmp_geF (tgt := 122) dX7_readTurns_16 (by decide) c1 ?_
    refine ev_iload_n 3 dX7_readTurns_19 rfl ?_
    refine ev_iconst (v := 4) dX7_readTurns_20 (by decide) ?_
    by_cases c2 : 4 ≤ x3
    · replace HF := ite_T c2 HF
      refine ev_icmp_geT (tgt := 122) dX7_readTurns_21 (by decide) c2 ?_
      obtain rfl := Option.some.inj HF
      exact ev_vret dX7_readTurns_122
    · replace HF := ite_F c2 HF
      refine ev_icmp_geF (tgt := 122) dX7_readTurns_21 (by decide) c2 ?_
      refine ev_aload_n 0 dX7_readTurns_24 rfl ?_
      replace HF := bind_ck HF
      obtain ⟨c3, HF⟩ := HF
      replace HF := bind_o HF
      obtain ⟨⟨z6, h5⟩, e4, HF⟩ := HF
      replace HF := bd_o (bd_o HF)
      dsimp only at HF
      refine ev_callV (As := []) (R1 := (some (.int z6), h5)) (lk_X7_isRight (d := 0) (Nat.le_refl _) c3 e4) ce_X7_isRight im_X7_isRight sl_X7_isRight ml_X7_53 cl_X7 c3 dX7_readTurns_25 (by omega) (Nat.le_of_ble_eq_true rfl) rfl rfl ?_
      show EvG _ _ _ _ _ _ _ _ _ _ _ 28 [(0, .ref t), (1, .ref a1), (2, .int x2), (3, .int x3)] [.int z6] h5
      by_cases c8 : z6 = 0
      · replace HF := ite_T c8 HF
        refine ev_if_eqT (tgt := 122) dX7_readTurns_28 (by decide) c8 ?_
        obtain rfl := Option.some.inj HF
        exact ev_vret dX7_readTurns_122
      · replace HF := ite_F c8 HF
        refine ev_if_eqF (tgt := 122) dX7_readTurns_28 (by decide) c8 ?_
        refine ev_new cl_X10 kl_X7_57 ins_X10 ini_X10 df_X10 dX7_readTurns_31 ?_
        replace HF := bd_n HF
        obtain ⟨b9, eb9, HF⟩ := HF
        refine ev_topR eb9 ?_
        replace HF := bd_n HF
        obtain ⟨h10, eh10, HF⟩ := HF
        refine ev_heap eh10 ?_
        refine ev_dup dX7_readTurns_34 rfl ?_
        replace HF := bind_ck HF
        obtain ⟨c11, HF⟩ := HF
        replace HF := bind_o HF
        obtain ⟨h13, e12, HF⟩ := HF
        refine ev_callIN (As := []) (R1 := (none, h13)) (lk_X10_init (d := 4) (Nat.le_refl _) c11 e12) ce_X10_init rfl im_X10_init ml_X7_59 dX7_readTurns_35 (by omega) (Nat.le_of_ble_eq_true rfl) rfl rfl ?_
        show EvG _ _ _ _ _ _ _ _ _ _ _ 38 [(0, .ref t), (1, .ref a1), (2, .int x2), (3, .int x3)] [.ref b9] h13
        refine ev_astore (lv' := [(4, .ref b9), (0, .ref t), (1, .ref a1), (2, .int x2), (3, .int x3)]) dX7_readTurns_38 (by decide) (rfl) ?_
        refine ev_aload_n 2 dX7_readTurns_40 rfl ?_
        refine ev_aload 0 dX7_readTurns_41 rfl ?_
        replace HF := bind_ck HF
        obtain ⟨c15, HF⟩ := HF
        replace HF := bind_o HF
        obtain ⟨h17, e16, HF⟩ := HF
        refine ev_callV (As := [.ref b9]) (R1 := (none, h17)) (lk_X3_addTurn (d := 7) (Nat.le_refl _) c15 e16) ce_X3_addTurn im_X3_addTurn sl_X3_addTurn ml_X7_60 cl_X3 c15 dX7_readTurns_43 (by omega) (Nat.le_of_ble_eq_true rfl) rfl rfl ?_
        show EvG _ _ _ _ _ _ _ _ _ _ _ 46 [(4, .ref b9), (0, .ref t), (1, .ref a1), (2, .int x2), (3, .int x3)] [] h17
        show EvG _ _ _ _ _ _ _ _ _ _ _ 46 _ _ _
        refine ev_aload_n 1 dX7_readTurns_46 rfl ?_
        refine ev_iconst (v := 0) dX7_readTurns_47 (by decide) ?_
        refine ev_sipush (v := 130) dX7_readTurns_48 (by decide) ?_
        replace HF := bind_ck HF
        obtain ⟨c19, HF⟩ := HF
        replace HF := bind_o HF
        obtain ⟨⟨z22, h21⟩, e20, HF⟩ := HF
        replace HF := bd_o (bd_o HF)
        dsimp only at HF
        refine ev_callV (As := [.int 0, .int 130]) (R1 := (some (.int z22), h21)) (lk_X7_next (d := 1) (Nat.le_refl _) c19 e20) ce_X7_next im_X7_next sl_X7_next ml_X7_29 cl_X7 c19 dX7_readTurns_51 (by omega) (Nat.le_of_ble_eq_true rfl) rfl rfl ?_
        show EvG _ _ _ _ _ _ _ _ _ _ _ 54 [(4, .ref b9), (0, .ref t), (1, .ref a1), (2, .int x2), (3, .int x3)] [.int z22] h21
        refine ev_istore (lv' := [(5, .int z22), (4, .ref b9), (0, .ref t), (1, .ref a1), (2, .int x2), (3, .int x3)]) dX7_readTurns_54 (by decide) (rfl) ?_
        refine ev_iconst (v := 0) dX7_readTurns_56 (by decide) ?_
        refine ev_istore (lv' := [(6, .int 0), (5, .int z22), (4, .ref b9), (0, .ref t), (1, .ref a1), (2, .int x2), (3, .int x3)]) dX7_readTurns_57 (by decide) (rfl) ?_
        exact Ev.sub [3, 4, 5, 6, 2, 1, 0] rfl (lk_X7_readTurns_59 hdd (F_X7_readTurns_14 n) ih fu t a1 x2 x3 b9 z22 0 _ HF)

set_option maxRecDepth 20000 in
theorem lk_X7_readTurns {g : aG} {l : Launch} {d : Nat} (hdd : 9 ≤ d) {t : Nat} {a1 : Nat} {h : aH} {r : aH} (hT : hK h t = 9) (HF : F_X7_readTurns t a1 h = some r) : MA g l yX7_readTurns cX7_readTurns 7 (none) d [.ref t, .ref a1] h (none, r) := by
  refine MA.of (lv0 := [(0, .ref t), (1, .ref a1)]) (by decide +kernel) (rfl) (Nat.le_of_ble_eq_true rfl) ?_
  unfold F_X7_readTurns at HF
  refine ev_aload_n 0 dX7_readTurns_0 rfl ?_
  refine ev_iconst (v := 0) dX7_readTurns_1 (by decide) ?_
  refine ev_iconst (v := 2) dX7_readTurns_2 (by decide) ?_
  refine ev_aload_n 1 dX7_readTurns_3 rfl ?_
  replace HF := bind_ck HF
  obtain ⟨c1, HF⟩ := HF
  refine ev_gIN (f := 403) cl_X3 (k := 3) (by decide) fi_X3_3 rfl fl_X7_50 dX7_readTurns_4 c1 ?_
  refine ev_imul dX7_readTurns_7 ?_
  replace HF := bind_o HF
  obtain ⟨⟨z4, h3⟩, e2, HF⟩ := HF
  replace HF := bd_o (bd_o HF)
  dsimp only at HF
  refine ev_callV (As := [.int 0, .int (2 * (hF h 403 a1))]) (R1 := (some (.int z4), h3)) (lk_X7_next (d := 1) (Nat.le_refl _) hT e2) ce_X7_next im_X7_next sl_X7_next ml_X7_29 cl_X7 hT dX7_readTurns_8 (by omega) (Nat.le_of_ble_eq_true rfl) rfl rfl ?_
  show EvG _ _ _ _ _ _ _ _ _ _ _ 11 [(0, .ref t), (1, .ref a1)] [.int z4] h3
  show EvG _ _ _ _ _ _ _ _ _ _ _ 11 _ _ _
  refine ev_istore_n (lv' := [(2, .int z4), (0, .ref t), (1, .ref a1)]) dX7_readTurns_11 (by decide) (rfl) ?_
  refine ev_iconst (v := 0) dX7_readTurns_12 (by decide) ?_
  refine ev_istore_n (lv' := [(3, .int 0), (2, .int z4), (0, .ref t), (1, .ref a1)]) dX7_readTurns_13 (by decide) (rfl) ?_
  exact Ev.sub [2, 3, 1, 0] rfl (lk_X7_readTurns_14 hdd  fu t a1 z4 0 _ HF)

set_option maxRecDepth 20000 in
theorem lk_X7_readEnd {g : aG} {l : Launch} {d : Nat} (hdd : 1 ≤ d) {t : Nat} {h : aH} {r : aH} (hT : hK h t = 9) (HF : F_X7_readEnd t h = some r) : MA g l yX7_readEnd cX7_readEnd 1 (none) d [.ref t] h (none, r) := by
  refine MA.of (lv0 := [(0, .ref t)]) (by decide +kernel) (rfl) (Nat.le_of_ble_eq_true rfl) ?_
  unfold F_X7_readEnd at HF
  refine ev_aload_n 0 dX7_readEnd_0 rfl ?_
  refine ev_gI (f := 803) cl_X7 (k := 3) (by decide) fi_X7_3 rfl fl_X7_26 dX7_readEnd_1 hT ?_
  refine ev_aload_n 0 dX7_readEnd_4 rfl ?_
  refine ev_gI (f := 802) cl_X7 (k := 2) (by decide) fi_X7_2 rfl fl_X7_23 dX7_readEnd_5 hT ?_
  by_cases c1 : hF h 802 t ≤ hF h 803 t
  · replace HF := ite_T c1 HF
    refine ev_icmp_geT (tgt := 19) dX7_readEnd_8 (by decide) c1 ?_
    obtain rfl := Option.some.inj HF
    exact ev_vret dX7_readEnd_19
  · replace HF := ite_F c1 HF
    refine ev_icmp_geF (tgt := 19) dX7_readEnd_8 (by decide) c1 ?_
    refine ev_aload_n 0 dX7_readEnd_11 rfl ?_
    refine ev_aload_n 0 dX7_readEnd_12 rfl ?_
    refine ev_gI (f := 803) cl_X7 (k := 3) (by decide) fi_X7_3 rfl fl_X7_26 dX7_readEnd_13 hT ?_
    replace HF := bind_o HF
    obtain ⟨h3, e2, HF⟩ := HF
    refine ev_callV (As := [.int (hF h 803 t)]) (R1 := (none, h3)) (lk_X7_fail (d := 0) (Nat.le_refl _) hT e2) ce_X7_fail im_X7_fail sl_X7_fail ml_X7_33 cl_X7 hT dX7_readEnd_16 (by omega) (Nat.le_of_ble_eq_true rfl) rfl rfl ?_
    show EvG _ _ _ _ _ _ _ _ _ _ _ 19 [(0, .ref t)] [] h3
    obtain rfl := Option.some.inj HF
    exact ev_vret dX7_readEnd_19

set_option maxRecDepth 20000 in
theorem lk_X7_compare_112 {g : aG} {l : Launch} {d : Nat} {h0 : aH} (hdd : 5 ≤ d) {r : aH} (k29 : Nat → Nat → Nat → Int32 → aH → Option (aH)) (hk29 : ∀ (t : Nat) (a1 : Nat) (a2 : Nat) (x3 : Int32) (h : aH), k29 t a1 a2 x3 h = some r → Ev g l cX7_compare 6 yX7_compare (none) d h0 (none, r) 29 [(0, .ref t), (1, .ref a1), (2, .ref a2), (3, .int x3)] [] h) (t : Nat) (a1 : Nat) (a2 : Nat) (x3 : Int32) (h : aH) (HF : F_X7_compare_112 k29 t a1 a2 x3 h = some r) : Ev g l cX7_compare 6 yX7_compare (none) d h0 (none, r) 112 [(0, .ref t), (1, .ref a1), (2, .ref a2), (3, .int x3)] [] h := by
  unfold F_X7_compare_112 at HF
  replace HF := bd_n HF
  obtain ⟨v1, ev1, HF⟩ := HF
  refine ev_iinc (v := v1) (lv' := [(3, .int v1), (0, .ref t), (1, .ref a1), (2, .ref a2)]) 3 dX7_compare_112 rfl (by rw [ev1]; rfl) (by decide) (rfl) ?_
  refine ev_goto (tgt := 29) dX7_compare_115 (by decide) ?_
  exact Ev.sub [1, 2, 3, 0] rfl (hk29 t a1 a2 v1 _ HF)

set_option maxRecDepth 20000 in
theorem lk_X7_compare_29 {g : aG} {l : Launch} {d : Nat} {h0 : aH} (hdd : 5 ≤ d) {r : aH} : ∀ (n : Nat) (t : Nat) (a1 : Nat) (a2 : Nat) (x3 : Int32) (h : aH), F_X7_compare_29  n t a1 a2 x3 h = some r → Ev g l cX7_compare 6 yX7_compare (none) d h0 (none, r) 29 [(0, .ref t), (1, .ref a1), (2, .ref a2), (3, .int x3)] [] h := by
  intro n
  induction n with
  | zero => intro t a1 a2 x3 h HF; cases HF
  | succ n ih =>
  intro t a1 a2 x3 h HF
  unfold F_X7_compare_29 at HF
  refine ev_iload_n 3 dX7_compare_29 rfl ?_
  refine ev_aload_n 1 dX7_compare_30 rfl ?_
  replace HF := bind_ck HF
  obtain ⟨c1, HF⟩ := HF
  replace HF := bind_o HF
  obtain ⟨⟨z4, h3⟩, e2, HF⟩ := HF
  replace HF := bd_o (bd_o HF)
  dsimp only at HF
  refine ev_callV (As := []) (R1 := (some (.int z4), h3)) (lk_X3_turnCount (d := 1) (Nat.le_refl _) c1 e2) ce_X3_turnCount im_X3_turnCount sl_X3_turnCount ml_X7_85 cl_X3 c1 dX7_compare_31 (by omega) (Nat.le_of_ble_eq_true rfl) rfl rfl ?_
  show EvG _ _ _ _ _ _ _ _ _ _ _ 34 [(0, .ref t), (1, .ref a1), (2, .ref a2), (3, .int x3)] [.int z4, .int x3] h3
  by_cases c6 : z4 ≤ x3
  · replace HF := ite_T c6 HF
    refine ev_icmp_geT (tgt := 118) dX7_compare_34 (by decide) c6 ?_
    obtain rfl := Option.some.inj HF
    exact ev_vret dX7_compare_118
  · replace HF := ite_F c6 HF
    refine ev_icmp_geF (tgt := 118) dX7_compare_34 (by decide) c6 ?_
    refine ev_iload_n 3 dX7_compare_37 rfl ?_
    refine ev_iconst (v := 4) dX7_compare_38 (by decide) ?_
    by_cases c7 : 4 ≤ x3
    · replace HF := ite_T c7 HF
      refine ev_icmp_geT (tgt := 118) dX7_compare_39 (by decide) c7 ?_
      obtain rfl := Option.some.inj HF
      exact ev_vret dX7_compare_118
    · replace HF := ite_F c7 HF
      refine ev_icmp_geF (tgt := 118) dX7_compare_39 (by decide) c7 ?_
      refine ev_aload_n 2 dX7_compare_42 rfl ?_
      refine ev_iload_n 3 dX7_compare_43 rfl ?_
      replace HF := bind_ck HF
      obtain ⟨c8, HF⟩ := HF
      replace HF := bind_o HF
      obtain ⟨⟨o11, h10⟩, e9, HF⟩ := HF
      replace HF := bd_o (bd_o HF)
      dsimp only at HF
      refine ev_callV (As := [.int x3]) (R1 := (some (va_rf o11), h10)) (lk_X6_tallyAt (d := 0) (Nat.le_refl _) c8 e9) ce_X6_tallyAt im_X6_tallyAt sl_X6_tallyAt ml_X7_89 cl_X6 c8 dX7_compare_44 (by omega) (Nat.le_of_ble_eq_true rfl) rfl rfl ?_
      show EvG _ _ _ _ _ _ _ _ _ _ _ 47 [(0, .ref t), (1, .ref a1), (2, .ref a2), (3, .int x3)] [va_rf o11] h10
      replace HF := bind_o HF
      obtain ⟨b13, e14, HF⟩ := HF
      subst e14
      replace HF := bind_ck HF
      obtain ⟨c15, HF⟩ := HF
      refine ev_gIN (f := 1004) cl_X9 (k := 4) (by decide) fi_X9_4 rfl fl_X7_93 dX7_compare_47 c15 ?_
      replace HF := bd_n HF
      obtain ⟨v16, ev16, HF⟩ := HF
      refine ev_topI ev16 ?_
      refine ev_istore (lv' := [(4, .int v16), (0, .ref t), (1, .ref a1), (2, .ref a2), (3, .int x3)]) dX7_compare_50 (by decide) (rfl) ?_
      refine ev_aload_n 2 dX7_compare_52 rfl ?_
      refine ev_iload_n 4 dX7_compare_53 rfl ?_
      show EvG _ _ _ _ _ _ _ _ _ _ _ 54 _ _ _
      refine ev_aload_n 2 dX7_compare_54 rfl ?_
      refine ev_iload_n 4 dX7_compare_55 rfl ?_
      replace HF := bind_ck HF
      obtain ⟨c17, HF⟩ := HF
      replace HF := bind_o HF
      obtain ⟨⟨z20, h19⟩, e18, HF⟩ := HF
      replace HF := bd_o (bd_o HF)
      dsimp only at HF
      refine ev_callV (As := [.int x3]) (R1 := (some (.int z20), h19)) (lk_X3_overCountOf (d := 4) (Nat.le_refl _) c17 e18) ce_X3_overCountOf im_X3_overCountOf sl_X3_overCountOf ml_X7_98 cl_X3 c17 dX7_compare_56 (by omega) (Nat.le_of_ble_eq_true rfl) rfl rfl ?_
      show EvG _ _ _ _ _ _ _ _ _ _ _ 59 [(4, .int v16), (0, .ref t), (1, .ref a1), (2, .ref a2), (3, .int x3)] [.int z20, .int x3, .ref a1] h19
      refine ev_iconst (v := (-1)) dX7_compare_59 (by decide) ?_
      replace HF := bind_ck HF
      obtain ⟨c22, HF⟩ := HF
      replace HF := bind_o HF
      obtain ⟨⟨z25, h24⟩, e23, HF⟩ := HF
      replace HF := bd_o (bd_o HF)
      dsimp only at HF
      refine ev_callV (As := [.int x3, .int z20, .int ((-1))]) (R1 := (some (.int z25), h24)) (lk_X3_placeOf (d := 4) (Nat.le_refl _) c22 e23) ce_X3_placeOf im_X3_placeOf sl_X3_placeOf ml_X7_81 cl_X3 c22 dX7_compare_60 (by omega) (Nat.le_of_ble_eq_true rfl) rfl rfl ?_
      show EvG _ _ _ _ _ _ _ _ _ _ _ 63 [(4, .int v16), (0, .ref t), (1, .ref a1), (2, .ref a2), (3, .int x3)] [.int z25] h24
      refine ev_istore (lv' := [(5, .int z25), (4, .int v16), (0, .ref t), (1, .ref a1), (2, .ref a2), (3, .int x3)]) dX7_compare_63 (by decide) (rfl) ?_
      refine ev_aload_n 2 dX7_compare_65 rfl ?_
      replace HF := bind_ck HF
      obtain ⟨c27, HF⟩ := HF
      replace HF := bind_o HF
      obtain ⟨b28, e29, HF⟩ := HF
      refine ev_gS (f := 800) cl_X7 (k := 0) (by decide) fi_X7_0 rfl fl_X7_9 dX7_compare_66 c27 e29 ?_
      show EvG _ _ _ _ _ _ _ _ _ _ _ 69 _ _ _
      refine ev_iload_n 5 dX7_compare_69 rfl ?_
      replace HF := bind_ck HF
      obtain ⟨c30, HF⟩ := HF
      refine ev_iald dX7_compare_70 c30.1 c30.2 ?_
      refine ev_sipush (v := 256) dX7_compare_71 (by decide) ?_
      refine ev_idiv dX7_compare_74 (by decide) ?_
      refine ev_iload 1 dX7_compare_75 rfl ?_
      refine ev_sipush (v := 256) dX7_compare_77 (by decide) ?_
      refine ev_idiv dX7_compare_80 (by decide) ?_
      by_cases c31 : (hI h24 b28 x3.toNatClampNeg) / 256 = v16 / 256
      · replace HF := ite_T c31 HF
        refine ev_icmp_eqT (tgt := 93) dX7_compare_81 (by decide) c31 ?_
        refine ev_aload_n 2 dX7_compare_93 rfl ?_
        replace HF := bind_o HF
        obtain ⟨b32, e33, HF⟩ := HF
        refine ev_gS (f := 800) cl_X7 (k := 0) (by decide) fi_X7_0 rfl fl_X7_9 dX7_compare_94 c27 e33 ?_
        refine ev_iload_n 5 dX7_compare_97 rfl ?_
        replace HF := bind_ck HF
        obtain ⟨c34, HF⟩ := HF
        refine ev_iald dX7_compare_98 c34.1 c34.2 ?_
        refine ev_iload 1 dX7_compare_99 rfl ?_
        by_cases c35 : hI h24 b32 x3.toNatClampNeg = v16
        · replace HF := ite_T c35 HF
          refine ev_icmp_eqT (tgt := 112) dX7_compare_101 (by decide) c35 ?_
          exact Ev.sub [2, 3, 4, 5] rfl (lk_X7_compare_112 hdd (F_X7_compare_29 n) ih t a1 a2 x3 _ HF)
        · replace HF := ite_F c35 HF
          refine ev_icmp_eqF (tgt := 112) dX7_compare_101 (by decide) c35 ?_
          refine ev_aload_n 2 dX7_compare_104 rfl ?_
          refine ev_iload 0 dX7_compare_105 rfl ?_
          refine ev_iconst (v := 1) dX7_compare_107 (by decide) ?_
          refine ev_iadd dX7_compare_108 ?_
          replace HF := bind_o HF
          obtain ⟨h37, e36, HF⟩ := HF
          refine ev_callV (As := [.int (z25 + 1)]) (R1 := (none, h37)) (lk_X7_fail (d := 0) (Nat.le_refl _) c27 e36) ce_X7_fail im_X7_fail sl_X7_fail ml_X7_33 cl_X7 c27 dX7_compare_109 (by omega) (Nat.le_of_ble_eq_true rfl) rfl rfl ?_
          show EvG _ _ _ _ _ _ _ _ _ _ _ 112 [(5, .int z25), (4, .int v16), (0, .ref t), (1, .ref a1), (2, .ref a2), (3, .int x3)] [] h37
          exact Ev.sub [2, 3, 4, 5] rfl (lk_X7_compare_112 hdd (F_X7_compare_29 n) ih t a1 a2 x3 _ HF)
      · replace HF := ite_F c31 HF
        refine ev_icmp_eqF (tgt := 93) dX7_compare_81 (by decide) c31 ?_
        refine ev_aload_n 2 dX7_compare_84 rfl ?_
        refine ev_iload 0 dX7_compare_85 rfl ?_
        replace HF := bind_o HF
        obtain ⟨h40, e39, HF⟩ := HF
        refine ev_callV (As := [.int z25]) (R1 := (none, h40)) (lk_X7_fail (d := 0) (Nat.le_refl _) c27 e39) ce_X7_fail im_X7_fail sl_X7_fail ml_X7_33 cl_X7 c27 dX7_compare_87 (by omega) (Nat.le_of_ble_eq_true rfl) rfl rfl ?_
        show EvG _ _ _ _ _ _ _ _ _ _ _ 90 [(5, .int z25), (4, .int v16), (0, .ref t), (1, .ref a1), (2, .ref a2), (3, .int x3)] [] h40
        refine ev_goto (tgt := 112) dX7_compare_90 (by decide) ?_
        exact Ev.sub [2, 3, 4, 5] rfl (lk_X7_compare_112 hdd (F_X7_compare_29 n) ih t a1 a2 x3 _ HF)

set_option maxRecDepth 20000 in
theorem lk_X7_compare_27 {g : aG} {l : Launch} {d : Nat} {h0 : aH} (hdd : 5 ≤ d) {r : aH} (t : Nat) (a1 : Nat) (a2 : Nat) (h : aH) (HF : F_X7_compare_27  t a1 a2 h = some r) : Ev g l cX7_compare 6 yX7_compare (none) d h0 (none, r) 27 [(0, .ref t), (1, .ref a1), (2, .ref a2)] [] h := by
  unfold F_X7_compare_27 at HF
  refine ev_iconst (v := 0) dX7_compare_27 (by decide) ?_
  refine ev_istore_n (lv' := [(3, .int 0), (0, .ref t), (1, .ref a1), (2, .ref a2)]) dX7_compare_28 (by decide) (rfl) ?_
  exact Ev.sub [1, 2, 3, 0] rfl (lk_X7_compare_29 hdd  fu t a1 a2 0 _ HF)

set_option maxRecDepth 20000 in
theorem lk_X7_compare {g : aG} {l : Launch} {d : Nat} (hdd : 5 ≤ d) {t : Nat} {a1 : Nat} {a2 : Nat} {h : aH} {r : aH} (hT : hK h t = 9) (HF : F_X7_compare t a1 a2 h = some r) : MA g l yX7_compare cX7_compare 6 (none) d [.ref t, .ref a1, .ref a2] h (none, r) := by
  refine MA.of (lv0 := [(0, .ref t), (1, .ref a1), (2, .ref a2)]) (by decide +kernel) (rfl) (Nat.le_of_ble_eq_true rfl) ?_
  unfold F_X7_compare at HF
  refine ev_aload_n 2 dX7_compare_0 rfl ?_
  replace HF := bind_ck HF
  obtain ⟨c1, HF⟩ := HF
  refine ev_gIN (f := 706) cl_X6 (k := 6) (by decide) fi_X6_6 rfl fl_X7_67 dX7_compare_1 c1 ?_
  by_cases c2 : hF h 706 a2 = 0
  · replace HF := ite_T c2 HF
    refine ev_if_eqT (tgt := 27) dX7_compare_4 (by decide) c2 ?_
    exact Ev.sub [0, 1, 2] rfl (lk_X7_compare_27 hdd  t a1 a2 _ HF)
  · replace HF := ite_F c2 HF
    refine ev_if_eqF (tgt := 27) dX7_compare_4 (by decide) c2 ?_
    refine ev_aload_n 0 dX7_compare_7 rfl ?_
    refine ev_aload_n 1 dX7_compare_8 rfl ?_
    refine ev_aload_n 2 dX7_compare_9 rfl ?_
    refine ev_gIN (f := 707) cl_X6 (k := 7) (by decide) fi_X6_7 rfl fl_X7_72 dX7_compare_10 c1 ?_
    refine ev_aload_n 2 dX7_compare_13 rfl ?_
    refine ev_gIN (f := 708) cl_X6 (k := 8) (by decide) fi_X6_8 rfl fl_X7_75 dX7_compare_14 c1 ?_
    refine ev_aload_n 2 dX7_compare_17 rfl ?_
    show EvG _ _ _ _ _ _ _ _ _ _ _ 18 _ _ _
    refine ev_gIN (f := 709) cl_X6 (k := 9) (by decide) fi_X6_9 rfl fl_X7_78 dX7_compare_18 c1 ?_
    replace HF := bind_ck HF
    obtain ⟨c3, HF⟩ := HF
    replace HF := bind_o HF
    obtain ⟨⟨z6, h5⟩, e4, HF⟩ := HF
    replace HF := bd_o (bd_o HF)
    dsimp only at HF
    refine ev_callV (As := [.int (hF h 707 a2), .int (hF h 708 a2), .int (hF h 709 a2)]) (R1 := (some (.int z6), h5)) (lk_X3_placeOf (d := 4) (Nat.le_refl _) c3 e4) ce_X3_placeOf im_X3_placeOf sl_X3_placeOf ml_X7_81 cl_X3 c3 dX7_compare_21 (by omega) (Nat.le_of_ble_eq_true rfl) rfl rfl ?_
    show EvG _ _ _ _ _ _ _ _ _ _ _ 24 [(0, .ref t), (1, .ref a1), (2, .ref a2)] [.int z6, .ref t] h5
    replace HF := bind_ck HF
    obtain ⟨c8, HF⟩ := HF
    replace HF := bind_o HF
    obtain ⟨h10, e9, HF⟩ := HF
    refine ev_callV (As := [.int z6]) (R1 := (none, h10)) (lk_X7_fail (d := 0) (Nat.le_refl _) c8 e9) ce_X7_fail im_X7_fail sl_X7_fail ml_X7_33 cl_X7 c8 dX7_compare_24 (by omega) (Nat.le_of_ble_eq_true rfl) rfl rfl ?_
    show EvG _ _ _ _ _ _ _ _ _ _ _ 27 [(0, .ref t), (1, .ref a1), (2, .ref a2)] [] h10
    exact Ev.sub [0, 1, 2] rfl (lk_X7_compare_27 hdd  t a1 a2 _ HF)

set_option maxRecDepth 20000 in
theorem lk_X8_init {g : aG} {l : Launch} {d : Nat} (hdd : 2 ≤ d) {t : Nat} {h : aH} {r : aH} (hT : hK h t = 10) (HF : F_X8_init t h = some r) : MA g l yX8_init cX8_init 1 (none) d [.ref t] h (none, r) := by
  refine MA.of (lv0 := [(0, .ref t)]) (by decide +kernel) (rfl) (Nat.le_of_ble_eq_true rfl) ?_
  unfold F_X8_init at HF
  refine ev_aload_n 0 dX8_init_0 rfl ?_
  refine ev_obj ml_X8_3 im_obj cd_obj dX8_init_1 (by omega) (Nat.le_of_ble_eq_true rfl) ?_
  refine ev_aload_n 0 dX8_init_4 rfl ?_
  refine ev_new cl_X4 kl_X8_9 ins_X4 ini_X4 df_X4 dX8_init_5 ?_
  replace HF := bd_n HF
  obtain ⟨b1, eb1, HF⟩ := HF
  refine ev_topR eb1 ?_
  replace HF := bd_n HF
  obtain ⟨h2, eh2, HF⟩ := HF
  refine ev_heap eh2 ?_
  refine ev_dup dX8_init_8 rfl ?_
  refine ev_iconst (v := 4) dX8_init_9 (by decide) ?_
  refine ev_bipush (v := 6) dX8_init_10 (by decide) ?_
  show EvG _ _ _ _ _ _ _ _ _ _ _ 12 _ _ _
  replace HF := bind_ck HF
  obtain ⟨c3, HF⟩ := HF
  replace HF := bind_o HF
  obtain ⟨h5, e4, HF⟩ := HF
  refine ev_callI (As := [.int 4, .int 6]) (R1 := (none, h5)) (lk_X4_init (d := 1) (Nat.le_refl _) c3 e4) ce_X4_init rfl im_X4_init ml_X8_11 dX8_init_12 (by omega) (Nat.le_of_ble_eq_true rfl) rfl rfl ?_
  show EvG _ _ _ _ _ _ _ _ _ _ _ 15 [(0, .ref t)] [.ref b1, .ref t] h5
  replace HF := bind_ck HF
  obtain ⟨c7, HF⟩ := HF
  refine ev_pSF (f := 900) cl_X8 (k := 0) (by decide) fi_X8_0 rfl fl_X8_14 rfl rfl rfl rfl dX8_init_15 c7 ?_
  replace HF := bd_n HF
  obtain ⟨h8, eh8, HF⟩ := HF
  refine ev_heap eh8 ?_
  have c9 : hK h8 t = 10 := by rw [eh8]; exact c7
  refine ev_aload_n 0 dX8_init_18 rfl ?_
  refine ev_new cl_X4 kl_X8_9 ins_X4 ini_X4 df_X4 dX8_init_19 ?_
  replace HF := bd_n HF
  obtain ⟨b10, eb10, HF⟩ := HF
  refine ev_topR eb10 ?_
  replace HF := bd_n HF
  obtain ⟨h11, eh11, HF⟩ := HF
  refine ev_heap eh11 ?_
  refine ev_dup dX8_init_22 rfl ?_
  refine ev_bipush (v := 60) dX8_init_23 (by decide) ?_
  refine ev_bipush (v := 30) dX8_init_25 (by decide) ?_
  replace HF := bind_ck HF
  obtain ⟨c12, HF⟩ := HF
  replace HF := bind_o HF
  obtain ⟨h14, e13, HF⟩ := HF
  refine ev_callI (As := [.int 60, .int 30]) (R1 := (none, h14)) (lk_X4_init (d := 1) (Nat.le_refl _) c12 e13) ce_X4_init rfl im_X4_init ml_X8_11 dX8_init_27 (by omega) (Nat.le_of_ble_eq_true rfl) rfl rfl ?_
  show EvG _ _ _ _ _ _ _ _ _ _ _ 30 [(0, .ref t)] [.ref b10, .ref t] h14
  show EvG _ _ _ _ _ _ _ _ _ _ _ 30 _ _ _
  replace HF := bind_ck HF
  obtain ⟨c16, HF⟩ := HF
  refine ev_pSF (f := 901) cl_X8 (k := 1) (by decide) fi_X8_1 rfl fl_X8_20 rfl rfl rfl rfl dX8_init_30 c16 ?_
  replace HF := bd_n HF
  obtain ⟨h17, eh17, HF⟩ := HF
  refine ev_heap eh17 ?_
  have c18 : hK h17 t = 10 := by rw [eh17]; exact c16
  obtain rfl := Option.some.inj HF
  exact ev_vret dX8_init_33

set_option maxRecDepth 20000 in
theorem lk_X8_clear {g : aG} {l : Launch} {d : Nat} (hdd : 1 ≤ d) {t : Nat} {h : aH} {r : aH} (hT : hK h t = 10) (HF : F_X8_clear t h = some r) : MA g l yX8_clear cX8_clear 1 (none) d [.ref t] h (none, r) := by
  refine MA.of (lv0 := [(0, .ref t)]) (by decide +kernel) (rfl) (Nat.le_of_ble_eq_true rfl) ?_
  unfold F_X8_clear at HF
  refine ev_aload_n 0 dX8_clear_0 rfl ?_
  replace HF := bind_o HF
  obtain ⟨b1, e2, HF⟩ := HF
  refine ev_gS (f := 900) cl_X8 (k := 0) (by decide) fi_X8_0 rfl fl_X8_14 dX8_clear_1 hT e2 ?_
  refine ev_iconst (v := (-1)) dX8_clear_4 (by decide) ?_
  replace HF := bind_ck HF
  obtain ⟨c3, HF⟩ := HF
  replace HF := bind_o HF
  obtain ⟨h5, e4, HF⟩ := HF
  refine ev_callV (As := [.int ((-1))]) (R1 := (none, h5)) (lk_X4_fill (d := 0) (Nat.le_refl _) c3 e4) ce_X4_fill im_X4_fill sl_X4_fill ml_X8_23 cl_X4 c3 dX8_clear_5 (by omega) (Nat.le_of_ble_eq_true rfl) rfl rfl ?_
  show EvG _ _ _ _ _ _ _ _ _ _ _ 8 [(0, .ref t)] [] h5
  refine ev_aload_n 0 dX8_clear_8 rfl ?_
  replace HF := bind_ck HF
  obtain ⟨c7, HF⟩ := HF
  replace HF := bind_o HF
  obtain ⟨b8, e9, HF⟩ := HF
  refine ev_gS (f := 901) cl_X8 (k := 1) (by decide) fi_X8_1 rfl fl_X8_20 dX8_clear_9 c7 e9 ?_
  refine ev_iconst (v := 0) dX8_clear_12 (by decide) ?_
  show EvG _ _ _ _ _ _ _ _ _ _ _ 13 _ _ _
  replace HF := bind_ck HF
  obtain ⟨c10, HF⟩ := HF
  replace HF := bind_o HF
  obtain ⟨h12, e11, HF⟩ := HF
  refine ev_callV (As := [.int 0]) (R1 := (none, h12)) (lk_X4_fill (d := 0) (Nat.le_refl _) c10 e11) ce_X4_fill im_X4_fill sl_X4_fill ml_X8_23 cl_X4 c10 dX8_clear_13 (by omega) (Nat.le_of_ble_eq_true rfl) rfl rfl ?_
  show EvG _ _ _ _ _ _ _ _ _ _ _ 16 [(0, .ref t)] [] h12
  obtain rfl := Option.some.inj HF
  exact ev_vret dX8_clear_16

set_option maxRecDepth 20000 in
theorem lk_X8_note {g : aG} {l : Launch} {d : Nat} (hdd : 2 ≤ d) {t : Nat} {x1 : Int32} {x2 : Int32} {x3 : Int32} {x4 : Int32} {x5 : Int32} {x6 : Int32} {x7 : Int32} {h : aH} {r : aH} (hT : hK h t = 10) (HF : F_X8_note t x1 x2 x3 x4 x5 x6 x7 h = some r) : MA g l yX8_note cX8_note 8 (none) d [.ref t, .int x1, .int x2, .int x3, .int x4, .int x5, .int x6, .int x7] h (none, r) := by
  refine MA.of (lv0 := [(0, .ref t), (1, .int x1), (2, .int x2), (3, .int x3), (4, .int x4), (5, .int x5), (6, .int x6), (7, .int x7)]) (by decide +kernel) (rfl) (Nat.le_of_ble_eq_true rfl) ?_
  unfold F_X8_note at HF
  refine ev_aload_n 0 dX8_note_0 rfl ?_
  replace HF := bind_o HF
  obtain ⟨b1, e2, HF⟩ := HF
  refine ev_gS (f := 900) cl_X8 (k := 0) (by decide) fi_X8_0 rfl fl_X8_14 dX8_note_1 hT e2 ?_
  refine ev_iload_n 1 dX8_note_4 rfl ?_
  refine ev_iconst (v := 0) dX8_note_5 (by decide) ?_
  refine ev_iload_n 2 dX8_note_6 rfl ?_
  replace HF := bind_ck HF
  obtain ⟨c3, HF⟩ := HF
  replace HF := bind_o HF
  obtain ⟨h5, e4, HF⟩ := HF
  refine ev_callV (As := [.int x1, .int 0, .int x2]) (R1 := (none, h5)) (lk_X4_set (d := 1) (Nat.le_refl _) c3 e4) ce_X4_set im_X4_set sl_X4_set ml_X8_64 cl_X4 c3 dX8_note_7 (by omega) (Nat.le_of_ble_eq_true rfl) rfl rfl ?_
  show EvG _ _ _ _ _ _ _ _ _ _ _ 10 [(0, .ref t), (1, .int x1), (2, .int x2), (3, .int x3), (4, .int x4), (5, .int x5), (6, .int x6), (7, .int x7)] [] h5
  refine ev_aload_n 0 dX8_note_10 rfl ?_
  show EvG _ _ _ _ _ _ _ _ _ _ _ 11 _ _ _
  replace HF := bind_ck HF
  obtain ⟨c7, HF⟩ := HF
  replace HF := bind_o HF
  obtain ⟨b8, e9, HF⟩ := HF
  refine ev_gS (f := 900) cl_X8 (k := 0) (by decide) fi_X8_0 rfl fl_X8_14 dX8_note_11 c7 e9 ?_
  refine ev_iload_n 1 dX8_note_14 rfl ?_
  refine ev_iconst (v := 1) dX8_note_15 (by decide) ?_
  refine ev_iload_n 3 dX8_note_16 rfl ?_
  replace HF := bind_ck HF
  obtain ⟨c10, HF⟩ := HF
  replace HF := bind_o HF
  obtain ⟨h12, e11, HF⟩ := HF
  refine ev_callV (As := [.int x1, .int 1, .int x3]) (R1 := (none, h12)) (lk_X4_set (d := 1) (Nat.le_refl _) c10 e11) ce_X4_set im_X4_set sl_X4_set ml_X8_64 cl_X4 c10 dX8_note_17 (by omega) (Nat.le_of_ble_eq_true rfl) rfl rfl ?_
  show EvG _ _ _ _ _ _ _ _ _ _ _ 20 [(0, .ref t), (1, .int x1), (2, .int x2), (3, .int x3), (4, .int x4), (5, .int x5), (6, .int x6), (7, .int x7)] [] h12
  refine ev_aload_n 0 dX8_note_20 rfl ?_
  replace HF := bind_ck HF
  obtain ⟨c14, HF⟩ := HF
  replace HF := bind_o HF
  obtain ⟨b15, e16, HF⟩ := HF
  refine ev_gS (f := 900) cl_X8 (k := 0) (by decide) fi_X8_0 rfl fl_X8_14 dX8_note_21 c14 e16 ?_
  refine ev_iload_n 1 dX8_note_24 rfl ?_
  show EvG _ _ _ _ _ _ _ _ _ _ _ 25 _ _ _
  refine ev_iconst (v := 2) dX8_note_25 (by decide) ?_
  refine ev_iload 4 dX8_note_26 rfl ?_
  replace HF := bind_ck HF
  obtain ⟨c17, HF⟩ := HF
  replace HF := bind_o HF
  obtain ⟨h19, e18, HF⟩ := HF
  refine ev_callV (As := [.int x1, .int 2, .int x4]) (R1 := (none, h19)) (lk_X4_set (d := 1) (Nat.le_refl _) c17 e18) ce_X4_set im_X4_set sl_X4_set ml_X8_64 cl_X4 c17 dX8_note_28 (by omega) (Nat.le_of_ble_eq_true rfl) rfl rfl ?_
  show EvG _ _ _ _ _ _ _ _ _ _ _ 31 [(0, .ref t), (1, .int x1), (2, .int x2), (3, .int x3), (4, .int x4), (5, .int x5), (6, .int x6), (7, .int x7)] [] h19
  refine ev_aload_n 0 dX8_note_31 rfl ?_
  replace HF := bind_ck HF
  obtain ⟨c21, HF⟩ := HF
  replace HF := bind_o HF
  obtain ⟨b22, e23, HF⟩ := HF
  refine ev_gS (f := 900) cl_X8 (k := 0) (by decide) fi_X8_0 rfl fl_X8_14 dX8_note_32 c21 e23 ?_
  refine ev_iload_n 1 dX8_note_35 rfl ?_
  refine ev_iconst (v := 3) dX8_note_36 (by decide) ?_
  refine ev_iload 5 dX8_note_37 rfl ?_
  show EvG _ _ _ _ _ _ _ _ _ _ _ 39 _ _ _
  replace HF := bind_ck HF
  obtain ⟨c24, HF⟩ := HF
  replace HF := bind_o HF
  obtain ⟨h26, e25, HF⟩ := HF
  refine ev_callV (As := [.int x1, .int 3, .int x5]) (R1 := (none, h26)) (lk_X4_set (d := 1) (Nat.le_refl _) c24 e25) ce_X4_set im_X4_set sl_X4_set ml_X8_64 cl_X4 c24 dX8_note_39 (by omega) (Nat.le_of_ble_eq_true rfl) rfl rfl ?_
  show EvG _ _ _ _ _ _ _ _ _ _ _ 42 [(0, .ref t), (1, .int x1), (2, .int x2), (3, .int x3), (4, .int x4), (5, .int x5), (6, .int x6), (7, .int x7)] [] h26
  refine ev_aload_n 0 dX8_note_42 rfl ?_
  replace HF := bind_ck HF
  obtain ⟨c28, HF⟩ := HF
  replace HF := bind_o HF
  obtain ⟨b29, e30, HF⟩ := HF
  refine ev_gS (f := 900) cl_X8 (k := 0) (by decide) fi_X8_0 rfl fl_X8_14 dX8_note_43 c28 e30 ?_
  refine ev_iload_n 1 dX8_note_46 rfl ?_
  refine ev_iconst (v := 4) dX8_note_47 (by decide) ?_
  refine ev_iload 6 dX8_note_48 rfl ?_
  replace HF := bind_ck HF
  obtain ⟨c31, HF⟩ := HF
  replace HF := bind_o HF
  obtain ⟨h33, e32, HF⟩ := HF
  refine ev_callV (As := [.int x1, .int 4, .int x6]) (R1 := (none, h33)) (lk_X4_set (d := 1) (Nat.le_refl _) c31 e32) ce_X4_set im_X4_set sl_X4_set ml_X8_64 cl_X4 c31 dX8_note_50 (by omega) (Nat.le_of_ble_eq_true rfl) rfl rfl ?_
  show EvG _ _ _ _ _ _ _ _ _ _ _ 53 [(0, .ref t), (1, .int x1), (2, .int x2), (3, .int x3), (4, .int x4), (5, .int x5), (6, .int x6), (7, .int x7)] [] h33
  refine ev_aload_n 0 dX8_note_53 rfl ?_
  show EvG _ _ _ _ _ _ _ _ _ _ _ 54 _ _ _
  replace HF := bind_ck HF
  obtain ⟨c35, HF⟩ := HF
  replace HF := bind_o HF
  obtain ⟨b36, e37, HF⟩ := HF
  refine ev_gS (f := 900) cl_X8 (k := 0) (by decide) fi_X8_0 rfl fl_X8_14 dX8_note_54 c35 e37 ?_
  refine ev_iload_n 1 dX8_note_57 rfl ?_
  refine ev_iconst (v := 5) dX8_note_58 (by decide) ?_
  refine ev_iload 7 dX8_note_59 rfl ?_
  replace HF := bind_ck HF
  obtain ⟨c38, HF⟩ := HF
  replace HF := bind_o HF
  obtain ⟨h40, e39, HF⟩ := HF
  refine ev_callV (As := [.int x1, .int 5, .int x7]) (R1 := (none, h40)) (lk_X4_set (d := 1) (Nat.le_refl _) c38 e39) ce_X4_set im_X4_set sl_X4_set ml_X8_64 cl_X4 c38 dX8_note_61 (by omega) (Nat.le_of_ble_eq_true rfl) rfl rfl ?_
  show EvG _ _ _ _ _ _ _ _ _ _ _ 64 [(0, .ref t), (1, .int x1), (2, .int x2), (3, .int x3), (4, .int x4), (5, .int x5), (6, .int x6), (7, .int x7)] [] h40
  obtain rfl := Option.some.inj HF
  exact ev_vret dX8_note_64

set_option maxRecDepth 20000 in
theorem lk_X8_isBetterBowler {g : aG} {l : Launch} {d : Nat} (hdd : 2 ≤ d) {t : Nat} {x1 : Int32} {x2 : Int32} {h : aH} {r : Int32 × aH} (hT : hK h t = 10) (HF : F_X8_isBetterBowler t x1 x2 h = some r) : MA g l yX8_isBetterBowler cX8_isBetterBowler 4 (some .boolean) d [.ref t, .int x1, .int x2] h (some (.int r.1), r.2) := by
  refine MA.of (lv0 := [(0, .ref t), (1, .int x1), (2, .int x2)]) (by decide +kernel) (rfl) (Nat.le_of_ble_eq_true rfl) ?_
  unfold F_X8_isBetterBowler at HF
  refine ev_aload_n 0 dX8_isBetterBowler_0 rfl ?_
  replace HF := bind_o HF
  obtain ⟨b1, e2, HF⟩ := HF
  refine ev_gS (f := 900) cl_X8 (k := 0) (by decide) fi_X8_0 rfl fl_X8_14 dX8_isBetterBowler_1 hT e2 ?_
  refine ev_iconst (v := 1) dX8_isBetterBowler_4 (by decide) ?_
  refine ev_iconst (v := 0) dX8_isBetterBowler_5 (by decide) ?_
  replace HF := bind_ck HF
  obtain ⟨c3, HF⟩ := HF
  replace HF := bind_o HF
  obtain ⟨⟨z6, h5⟩, e4, HF⟩ := HF
  replace HF := bd_o (bd_o HF)
  dsimp only at HF
  refine ev_callV (As := [.int 1, .int 0]) (R1 := (some (.int z6), h5)) (lk_X4_at (d := 1) (Nat.le_refl _) c3 e4) ce_X4_at im_X4_at sl_X4_at ml_X8_39 cl_X4 c3 dX8_isBetterBowler_6 (by omega) (Nat.le_of_ble_eq_true rfl) rfl rfl ?_
  show EvG _ _ _ _ _ _ _ _ _ _ _ 9 [(0, .ref t), (1, .int x1), (2, .int x2)] [.int z6] h5
  refine ev_istore_n (lv' := [(3, .int z6), (0, .ref t), (1, .int x1), (2, .int x2)]) dX8_isBetterBowler_9 (by decide) (rfl) ?_
  refine ev_iload_n 2 dX8_isBetterBowler_10 rfl ?_
  show EvG _ _ _ _ _ _ _ _ _ _ _ 11 _ _ _
  refine ev_iload_n 0 dX8_isBetterBowler_11 rfl ?_
  by_cases c8 : z6 < x1
  · replace HF := ite_T c8 HF
    refine ev_icmp_gtT (tgt := 33) dX8_isBetterBowler_12 (by decide) c8 ?_
    refine ev_iconst (v := 1) dX8_isBetterBowler_33 (by decide) ?_
    refine ev_goto (tgt := 38) dX8_isBetterBowler_34 (by decide) ?_
    obtain rfl := Option.some.inj HF
    exact ev_zret (v := 1) narrow_b1 dX8_isBetterBowler_38
  · replace HF := ite_F c8 HF
    refine ev_icmp_gtF (tgt := 33) dX8_isBetterBowler_12 (by decide) c8 ?_
    refine ev_iload_n 2 dX8_isBetterBowler_15 rfl ?_
    refine ev_iload_n 0 dX8_isBetterBowler_16 rfl ?_
    by_cases c9 : x1 = z6
    · replace HF := ite_T c9 HF
      refine ev_icmp_neF (tgt := 37) dX8_isBetterBowler_17 (by decide) c9 ?_
      refine ev_iload_n 3 dX8_isBetterBowler_20 rfl ?_
      refine ev_aload_n 1 dX8_isBetterBowler_21 rfl ?_
      replace HF := bind_ck HF
      obtain ⟨c10, HF⟩ := HF
      replace HF := bind_o HF
      obtain ⟨b11, e12, HF⟩ := HF
      refine ev_gS (f := 900) cl_X8 (k := 0) (by decide) fi_X8_0 rfl fl_X8_14 dX8_isBetterBowler_22 c10 e12 ?_
      refine ev_iconst (v := 1) dX8_isBetterBowler_25 (by decide) ?_
      refine ev_iconst (v := 5) dX8_isBetterBowler_26 (by decide) ?_
      replace HF := bind_ck HF
      obtain ⟨c13, HF⟩ := HF
      replace HF := bind_o HF
      obtain ⟨⟨z16, h15⟩, e14, HF⟩ := HF
      replace HF := bd_o (bd_o HF)
      dsimp only at HF
      refine ev_callV (As := [.int 1, .int 5]) (R1 := (some (.int z16), h15)) (lk_X4_at (d := 1) (Nat.le_refl _) c13 e14) ce_X4_at im_X4_at sl_X4_at ml_X8_39 cl_X4 c13 dX8_isBetterBowler_27 (by omega) (Nat.le_of_ble_eq_true rfl) rfl rfl ?_
      show EvG _ _ _ _ _ _ _ _ _ _ _ 30 [(3, .int z6), (0, .ref t), (1, .int x1), (2, .int x2)] [.int z16, .int x2] h15
      by_cases c18 : z16 ≤ x2
      · replace HF := ite_T c18 HF
        refine ev_icmp_geT (tgt := 37) dX8_isBetterBowler_30 (by decide) c18 ?_
        refine ev_iconst (v := 0) dX8_isBetterBowler_37 (by decide) ?_
        obtain rfl := Option.some.inj HF
        exact ev_zret (v := 0) narrow_b0 dX8_isBetterBowler_38
      · replace HF := ite_F c18 HF
        refine ev_icmp_geF (tgt := 37) dX8_isBetterBowler_30 (by decide) c18 ?_
        refine ev_iconst (v := 1) dX8_isBetterBowler_33 (by decide) ?_
        refine ev_goto (tgt := 38) dX8_isBetterBowler_34 (by decide) ?_
        obtain rfl := Option.some.inj HF
        exact ev_zret (v := 1) narrow_b1 dX8_isBetterBowler_38
    · replace HF := ite_F c9 HF
      refine ev_icmp_neT (tgt := 37) dX8_isBetterBowler_17 (by decide) c9 ?_
      refine ev_iconst (v := 0) dX8_isBetterBowler_37 (by decide) ?_
      obtain rfl := Option.some.inj HF
      exact ev_zret (v := 0) narrow_b0 dX8_isBetterBowler_38

set_option maxRecDepth 20000 in
theorem lk_X8_addTurn_203 {g : aG} {l : Launch} {d : Nat} {h0 : aH} (hdd : 3 ≤ d) {r : aH} (k56 : Nat → Int32 → Int32 → Nat → Nat → Int32 → Int32 → Int32 → aH → Option (aH)) (hk56 : ∀ (t : Nat) (x1 : Int32) (x2 : Int32) (a3 : Nat) (a4 : Nat) (x5 : Int32) (x6 : Int32) (x7 : Int32) (h : aH), k56 t x1 x2 a3 a4 x5 x6 x7 h = some r → Ev g l cX8_addTurn 12 yX8_addTurn (none) d h0 (none, r) 56 [(0, .ref t), (1, .int x1), (2, .int x2), (3, .ref a3), (4, .ref a4), (5, .int x5), (6, .int x6), (7, .int x7)] [] h) (t : Nat) (x1 : Int32) (x2 : Int32) (a3 : Nat) (a4 : Nat) (x5 : Int32) (x6 : Int32) (x7 : Int32) (h : aH) (HF : F_X8_addTurn_203 k56 t x1 x2 a3 a4 x5 x6 x7 h = some r) : Ev g l cX8_addTurn 12 yX8_addTurn (none) d h0 (none, r) 203 [(0, .ref t), (1, .int x1), (2, .int x2), (3, .ref a3), (4, .ref a4), (5, .int x5), (6, .int x6), (7, .int x7)] [] h := by
  unfold F_X8_addTurn_203 at HF
  replace HF := bd_n HF
  obtain ⟨v1, ev1, HF⟩ := HF
  refine ev_iinc (v := v1) (lv' := [(7, .int v1), (0, .ref t), (1, .int x1), (2, .int x2), (3, .ref a3), (4, .ref a4), (5, .int x5), (6, .int x6)]) 7 dX8_addTurn_203 rfl (by rw [ev1]; rfl) (by decide) (rfl) ?_
  refine ev_goto (tgt := 56) dX8_addTurn_206 (by decide) ?_
  exact Ev.sub [1, 2, 3, 4, 5, 6, 7, 0] rfl (hk56 t x1 x2 a3 a4 x5 x6 v1 _ HF)

set_option maxRecDepth 20000 in
theorem lk_X8_addTurn_128 {g : aG} {l : Launch} {d : Nat} {h0 : aH} (hdd : 3 ≤ d) {r : aH} (k56 : Nat → Int32 → Int32 → Nat → Nat → Int32 → Int32 → Int32 → aH → Option (aH)) (hk56 : ∀ (t : Nat) (x1 : Int32) (x2 : Int32) (a3 : Nat) (a4 : Nat) (x5 : Int32) (x6 : Int32) (x7 : Int32) (h : aH), k56 t x1 x2 a3 a4 x5 x6 x7 h = some r → Ev g l cX8_addTurn 12 yX8_addTurn (none) d h0 (none, r) 56 [(0, .ref t), (1, .int x1), (2, .int x2), (3, .ref a3), (4, .ref a4), (5, .int x5), (6, .int x6), (7, .int x7)] [] h) (t : Nat) (x1 : Int32) (x2 : Int32) (a3 : Nat) (a4 : Nat) (x5 : Int32) (x6 : Int32) (x7 : Int32) (h : aH) (HF : F_X8_addTurn_128 k56 t x1 x2 a3 a4 x5 x6 x7 h = some r) : Ev g l cX8_addTurn 12 yX8_addTurn (none) d h0 (none, r) 128 [(0, .ref t), (1, .int x1), (2, .int x2), (3, .ref a3), (4, .ref a4), (5, .int x5), (6, .int x6), (7, .int x7)] [] h := by
  unfold F_X8_addTurn_128 at HF
  refine ev_aload 4 dX8_addTurn_128 rfl ?_
  replace HF := bind_ck HF
  obtain ⟨c1, HF⟩ := HF
  replace HF := bind_o HF
  obtain ⟨b2, e3, HF⟩ := HF
  refine ev_gSN (f := 1001) cl_X9 (k := 1) (by decide) fi_X9_1 rfl fl_X8_57 dX8_addTurn_130 c1 e3 ?_
  refine ev_iload 7 dX8_addTurn_133 rfl ?_
  refine ev_iconst (v := 2) dX8_addTurn_135 (by decide) ?_
  replace HF := bind_ck HF
  obtain ⟨c4, HF⟩ := HF
  replace HF := bind_o HF
  obtain ⟨⟨z7, h6⟩, e5, HF⟩ := HF
  replace HF := bd_o (bd_o HF)
  dsimp only at HF
  refine ev_callV (As := [.int x7, .int 2]) (R1 := (some (.int z7), h6)) (lk_X4_at (d := 1) (Nat.le_refl _) c4 e5) ce_X4_at im_X4_at sl_X4_at ml_X8_39 cl_X4 c4 dX8_addTurn_136 (by omega) (Nat.le_of_ble_eq_true rfl) rfl rfl ?_
  show EvG _ _ _ _ _ _ _ _ _ _ _ 139 [(0, .ref t), (1, .int x1), (2, .int x2), (3, .ref a3), (4, .ref a4), (5, .int x5), (6, .int x6), (7, .int x7)] [.int z7] h6
  refine ev_istore (lv' := [(10, .int z7), (0, .ref t), (1, .int x1), (2, .int x2), (3, .ref a3), (4, .ref a4), (5, .int x5), (6, .int x6), (7, .int x7)]) dX8_addTurn_139 (by decide) (rfl) ?_
  refine ev_aload 5 dX8_addTurn_141 rfl ?_
  show EvG _ _ _ _ _ _ _ _ _ _ _ 143 _ _ _
  replace HF := bind_ck HF
  obtain ⟨c9, HF⟩ := HF
  replace HF := bind_o HF
  obtain ⟨b10, e11, HF⟩ := HF
  refine ev_gSN (f := 1001) cl_X9 (k := 1) (by decide) fi_X9_1 rfl fl_X8_57 dX8_addTurn_143 c9 e11 ?_
  refine ev_iload 8 dX8_addTurn_146 rfl ?_
  refine ev_iconst (v := 1) dX8_addTurn_148 (by decide) ?_
  replace HF := bind_ck HF
  obtain ⟨c12, HF⟩ := HF
  replace HF := bind_o HF
  obtain ⟨⟨z15, h14⟩, e13, HF⟩ := HF
  replace HF := bd_o (bd_o HF)
  dsimp only at HF
  refine ev_callV (As := [.int x7, .int 1]) (R1 := (some (.int z15), h14)) (lk_X4_at (d := 1) (Nat.le_refl _) c12 e13) ce_X4_at im_X4_at sl_X4_at ml_X8_39 cl_X4 c12 dX8_addTurn_149 (by omega) (Nat.le_of_ble_eq_true rfl) rfl rfl ?_
  show EvG _ _ _ _ _ _ _ _ _ _ _ 152 [(10, .int z7), (0, .ref t), (1, .int x1), (2, .int x2), (3, .ref a3), (4, .ref a4), (5, .int x5), (6, .int x6), (7, .int x7)] [.int z15] h14
  refine ev_istore (lv' := [(11, .int z15), (10, .int z7), (0, .ref t), (1, .int x1), (2, .int x2), (3, .ref a3), (4, .ref a4), (5, .int x5), (6, .int x6), (7, .int x7)]) dX8_addTurn_152 (by decide) (rfl) ?_
  refine ev_aload 6 dX8_addTurn_154 rfl ?_
  replace HF := bind_ck HF
  obtain ⟨c17, HF⟩ := HF
  replace HF := bind_o HF
  obtain ⟨b18, e19, HF⟩ := HF
  refine ev_gSN (f := 1001) cl_X9 (k := 1) (by decide) fi_X9_1 rfl fl_X8_57 dX8_addTurn_156 c17 e19 ?_
  refine ev_iload 9 dX8_addTurn_159 rfl ?_
  show EvG _ _ _ _ _ _ _ _ _ _ _ 161 _ _ _
  refine ev_iconst (v := 0) dX8_addTurn_161 (by decide) ?_
  replace HF := bind_ck HF
  obtain ⟨c20, HF⟩ := HF
  replace HF := bind_o HF
  obtain ⟨⟨z23, h22⟩, e21, HF⟩ := HF
  replace HF := bd_o (bd_o HF)
  dsimp only at HF
  refine ev_callV (As := [.int x7, .int 0]) (R1 := (some (.int z23), h22)) (lk_X4_at (d := 1) (Nat.le_refl _) c20 e21) ce_X4_at im_X4_at sl_X4_at ml_X8_39 cl_X4 c20 dX8_addTurn_162 (by omega) (Nat.le_of_ble_eq_true rfl) rfl rfl ?_
  show EvG _ _ _ _ _ _ _ _ _ _ _ 165 [(11, .int z15), (10, .int z7), (0, .ref t), (1, .int x1), (2, .int x2), (3, .ref a3), (4, .ref a4), (5, .int x5), (6, .int x6), (7, .int x7)] [.int z23] h22
  by_cases c25 : z23 ≤ 0
  · replace HF := ite_T c25 HF
    refine ev_if_leT (tgt := 203) dX8_addTurn_165 (by decide) c25 ?_
    exact Ev.sub [2, 3, 4, 5, 6, 7, 8, 9] rfl (lk_X8_addTurn_203 hdd k56 hk56 t x1 x2 a3 a4 x5 x6 x7 _ HF)
  · replace HF := ite_F c25 HF
    refine ev_if_leF (tgt := 203) dX8_addTurn_165 (by decide) c25 ?_
    refine ev_aload_n 2 dX8_addTurn_168 rfl ?_
    refine ev_iload 1 dX8_addTurn_169 rfl ?_
    refine ev_iload 0 dX8_addTurn_171 rfl ?_
    replace HF := bind_ck HF
    obtain ⟨c26, HF⟩ := HF
    replace HF := bind_o HF
    obtain ⟨⟨z29, h28⟩, e27, HF⟩ := HF
    replace HF := bd_o (bd_o HF)
    dsimp only at HF
    refine ev_callV (As := [.int z7, .int z15]) (R1 := (some (.int z29), h28)) (lk_X8_isBetterBowler (d := 2) (Nat.le_refl _) c26 e27) ce_X8_isBetterBowler im_X8_isBetterBowler sl_X8_isBetterBowler ml_X8_60 cl_X8 c26 dX8_addTurn_173 (by omega) (Nat.le_of_ble_eq_true rfl) rfl rfl ?_
    show EvG _ _ _ _ _ _ _ _ _ _ _ 176 [(11, .int z15), (10, .int z7), (0, .ref t), (1, .int x1), (2, .int x2), (3, .ref a3), (4, .ref a4), (5, .int x5), (6, .int x6), (7, .int x7)] [.int z29] h28
    by_cases c31 : z29 = 0
    · replace HF := ite_T c31 HF
      refine ev_if_eqT (tgt := 203) dX8_addTurn_176 (by decide) c31 ?_
      exact Ev.sub [2, 3, 4, 5, 6, 7, 8, 9] rfl (lk_X8_addTurn_203 hdd k56 hk56 t x1 x2 a3 a4 x5 x6 x7 _ HF)
    · replace HF := ite_F c31 HF
      refine ev_if_eqF (tgt := 203) dX8_addTurn_176 (by decide) c31 ?_
      refine ev_aload_n 2 dX8_addTurn_179 rfl ?_
      refine ev_iconst (v := 1) dX8_addTurn_180 (by decide) ?_
      refine ev_iload 1 dX8_addTurn_181 rfl ?_
      refine ev_iload_n 3 dX8_addTurn_183 rfl ?_
      refine ev_iload_n 4 dX8_addTurn_184 rfl ?_
      refine ev_iload 8 dX8_addTurn_185 rfl ?_
      refine ev_aload_n 5 dX8_addTurn_187 rfl ?_
      show EvG _ _ _ _ _ _ _ _ _ _ _ 188 _ _ _
      refine ev_iconst (v := 1) dX8_addTurn_188 (by decide) ?_
      refine ev_iload_n 4 dX8_addTurn_189 rfl ?_
      refine ev_iconst (v := 2) dX8_addTurn_190 (by decide) ?_
      refine ev_irem dX8_addTurn_191 (by decide) ?_
      refine ev_isub dX8_addTurn_192 ?_
      refine ev_iload 9 dX8_addTurn_193 rfl ?_
      replace HF := bind_ck HF
      obtain ⟨c32, HF⟩ := HF
      replace HF := bind_o HF
      obtain ⟨⟨z35, h34⟩, e33, HF⟩ := HF
      replace HF := bd_o (bd_o HF)
      dsimp only at HF
      refine ev_callV (As := [.int (1 - (x2 - x2 / 2 * 2)), .int x7]) (R1 := (some (.int z35), h34)) (lk_X3_playerAt (d := 2) (Nat.le_refl _) c32 e33) ce_X3_playerAt im_X3_playerAt sl_X3_playerAt ml_X8_47 cl_X3 c32 dX8_addTurn_195 (by omega) (Nat.le_of_ble_eq_true rfl) rfl rfl ?_
      show EvG _ _ _ _ _ _ _ _ _ _ _ 198 [(11, .int z15), (10, .int z7), (0, .ref t), (1, .int x1), (2, .int x2), (3, .ref a3), (4, .ref a4), (5, .int x5), (6, .int x6), (7, .int x7)] [.int z35, .int x6, .int x2, .int x1, .int z7, .int 1, .ref t] h34
      refine ev_iload 0 dX8_addTurn_198 rfl ?_
      show EvG _ _ _ _ _ _ _ _ _ _ _ 200 _ _ _
      replace HF := bind_ck HF
      obtain ⟨c37, HF⟩ := HF
      replace HF := bind_o HF
      obtain ⟨h39, e38, HF⟩ := HF
      refine ev_callV (As := [.int 1, .int z7, .int x1, .int x2, .int x6, .int z35, .int z15]) (R1 := (none, h39)) (lk_X8_note (d := 2) (Nat.le_refl _) c37 e38) ce_X8_note im_X8_note sl_X8_note ml_X8_43 cl_X8 c37 dX8_addTurn_200 (by omega) (Nat.le_of_ble_eq_true rfl) rfl rfl ?_
      show EvG _ _ _ _ _ _ _ _ _ _ _ 203 [(11, .int z15), (10, .int z7), (0, .ref t), (1, .int x1), (2, .int x2), (3, .ref a3), (4, .ref a4), (5, .int x5), (6, .int x6), (7, .int x7)] [] h39
      exact Ev.sub [2, 3, 4, 5, 6, 7, 8, 9] rfl (lk_X8_addTurn_203 hdd k56 hk56 t x1 x2 a3 a4 x5 x6 x7 _ HF)

set_option maxRecDepth 20000 in
theorem lk_X8_addTurn_56 {g : aG} {l : Launch} {d : Nat} {h0 : aH} (hdd : 3 ≤ d) {r : aH} : ∀ (n : Nat) (t : Nat) (x1 : Int32) (x2 : Int32) (a3 : Nat) (a4 : Nat) (x5 : Int32) (x6 : Int32) (x7 : Int32) (h : aH), F_X8_addTurn_56  n t x1 x2 a3 a4 x5 x6 x7 h = some r → Ev g l cX8_addTurn 12 yX8_addTurn (none) d h0 (none, r) 56 [(0, .ref t), (1, .int x1), (2, .int x2), (3, .ref a3), (4, .ref a4), (5, .int x5), (6, .int x6), (7, .int x7)] [] h := by
  intro n
  induction n with
  | zero => intro t x1 x2 a3 a4 x5 x6 x7 h HF; cases HF
  | succ n ih =>
  intro t x1 x2 a3 a4 x5 x6 x7 h HF
  unfold F_X8_addTurn_56 at HF
  refine ev_iload 7 dX8_addTurn_56 rfl ?_
  refine ev_bipush (v := 11) dX8_addTurn_58 (by decide) ?_
  by_cases c1 : 11 ≤ x7
  · replace HF := ite_T c1 HF
    refine ev_icmp_geT (tgt := 209) dX8_addTurn_60 (by decide) c1 ?_
    obtain rfl := Option.some.inj HF
    exact ev_vret dX8_addTurn_209
  · replace HF := ite_F c1 HF
    refine ev_icmp_geF (tgt := 209) dX8_addTurn_60 (by decide) c1 ?_
    refine ev_aload_n 3 dX8_addTurn_63 rfl ?_
    refine ev_iload_n 2 dX8_addTurn_64 rfl ?_
    refine ev_iconst (v := 2) dX8_addTurn_65 (by decide) ?_
    refine ev_irem dX8_addTurn_66 (by decide) ?_
    refine ev_iload 7 dX8_addTurn_67 rfl ?_
    replace HF := bind_ck HF
    obtain ⟨c2, HF⟩ := HF
    replace HF := bind_o HF
    obtain ⟨⟨z5, h4⟩, e3, HF⟩ := HF
    replace HF := bd_o (bd_o HF)
    dsimp only at HF
    refine ev_callV (As := [.int (x2 - x2 / 2 * 2), .int x7]) (R1 := (some (.int z5), h4)) (lk_X3_playerAt (d := 2) (Nat.le_refl _) c2 e3) ce_X3_playerAt im_X3_playerAt sl_X3_playerAt ml_X8_47 cl_X3 c2 dX8_addTurn_69 (by omega) (Nat.le_of_ble_eq_true rfl) rfl rfl ?_
    show EvG _ _ _ _ _ _ _ _ _ _ _ 72 [(0, .ref t), (1, .int x1), (2, .int x2), (3, .ref a3), (4, .ref a4), (5, .int x5), (6, .int x6), (7, .int x7)] [.int z5] h4
    refine ev_istore (lv' := [(8, .int z5), (0, .ref t), (1, .int x1), (2, .int x2), (3, .ref a3), (4, .ref a4), (5, .int x5), (6, .int x6), (7, .int x7)]) dX8_addTurn_72 (by decide) (rfl) ?_
    show EvG _ _ _ _ _ _ _ _ _ _ _ 74 _ _ _
    refine ev_aload 5 dX8_addTurn_74 rfl ?_
    replace HF := bind_ck HF
    obtain ⟨c7, HF⟩ := HF
    replace HF := bind_o HF
    obtain ⟨b8, e9, HF⟩ := HF
    refine ev_gSN (f := 1000) cl_X9 (k := 0) (by decide) fi_X9_0 rfl fl_X8_50 dX8_addTurn_76 c7 e9 ?_
    refine ev_iload 8 dX8_addTurn_79 rfl ?_
    refine ev_iconst (v := 0) dX8_addTurn_81 (by decide) ?_
    replace HF := bind_ck HF
    obtain ⟨c10, HF⟩ := HF
    replace HF := bind_o HF
    obtain ⟨⟨z13, h12⟩, e11, HF⟩ := HF
    replace HF := bd_o (bd_o HF)
    dsimp only at HF
    refine ev_callV (As := [.int x7, .int 0]) (R1 := (some (.int z13), h12)) (lk_X4_at (d := 1) (Nat.le_refl _) c10 e11) ce_X4_at im_X4_at sl_X4_at ml_X8_39 cl_X4 c10 dX8_addTurn_82 (by omega) (Nat.le_of_ble_eq_true rfl) rfl rfl ?_
    show EvG _ _ _ _ _ _ _ _ _ _ _ 85 [(8, .int z5), (0, .ref t), (1, .int x1), (2, .int x2), (3, .ref a3), (4, .ref a4), (5, .int x5), (6, .int x6), (7, .int x7)] [.int z13] h12
    refine ev_istore (lv' := [(9, .int z13), (8, .int z5), (0, .ref t), (1, .int x1), (2, .int x2), (3, .ref a3), (4, .ref a4), (5, .int x5), (6, .int x6), (7, .int x7)]) dX8_addTurn_85 (by decide) (rfl) ?_
    refine ev_aload_n 2 dX8_addTurn_87 rfl ?_
    replace HF := bind_ck HF
    obtain ⟨c15, HF⟩ := HF
    replace HF := bind_o HF
    obtain ⟨b16, e17, HF⟩ := HF
    refine ev_gS (f := 901) cl_X8 (k := 1) (by decide) fi_X8_1 rfl fl_X8_20 dX8_addTurn_88 c15 e17 ?_
    show EvG _ _ _ _ _ _ _ _ _ _ _ 91 _ _ _
    refine ev_iload 7 dX8_addTurn_91 rfl ?_
    refine ev_iload 1 dX8_addTurn_93 rfl ?_
    refine ev_iload 0 dX8_addTurn_95 rfl ?_
    replace HF := bind_ck HF
    obtain ⟨c18, HF⟩ := HF
    replace HF := bind_o HF
    obtain ⟨h20, e19, HF⟩ := HF
    refine ev_callV (As := [.int x5, .int z5, .int z13]) (R1 := (none, h20)) (lk_X4_add (d := 1) (Nat.le_refl _) c18 e19) ce_X4_add im_X4_add sl_X4_add ml_X8_53 cl_X4 c18 dX8_addTurn_97 (by omega) (Nat.le_of_ble_eq_true rfl) rfl rfl ?_
    show EvG _ _ _ _ _ _ _ _ _ _ _ 100 [(9, .int z13), (8, .int z5), (0, .ref t), (1, .int x1), (2, .int x2), (3, .ref a3), (4, .ref a4), (5, .int x5), (6, .int x6), (7, .int x7)] [] h20
    refine ev_iload 0 dX8_addTurn_100 rfl ?_
    refine ev_aload_n 2 dX8_addTurn_102 rfl ?_
    replace HF := bind_ck HF
    obtain ⟨c22, HF⟩ := HF
    replace HF := bind_o HF
    obtain ⟨b23, e24, HF⟩ := HF
    refine ev_gS (f := 900) cl_X8 (k := 0) (by decide) fi_X8_0 rfl fl_X8_14 dX8_addTurn_103 c22 e24 ?_
    refine ev_iconst (v := 0) dX8_addTurn_106 (by decide) ?_
    show EvG _ _ _ _ _ _ _ _ _ _ _ 107 _ _ _
    refine ev_iconst (v := 0) dX8_addTurn_107 (by decide) ?_
    replace HF := bind_ck HF
    obtain ⟨c25, HF⟩ := HF
    replace HF := bind_o HF
    obtain ⟨⟨z28, h27⟩, e26, HF⟩ := HF
    replace HF := bd_o (bd_o HF)
    dsimp only at HF
    refine ev_callV (As := [.int 0, .int 0]) (R1 := (some (.int z28), h27)) (lk_X4_at (d := 1) (Nat.le_refl _) c25 e26) ce_X4_at im_X4_at sl_X4_at ml_X8_39 cl_X4 c25 dX8_addTurn_108 (by omega) (Nat.le_of_ble_eq_true rfl) rfl rfl ?_
    show EvG _ _ _ _ _ _ _ _ _ _ _ 111 [(9, .int z13), (8, .int z5), (0, .ref t), (1, .int x1), (2, .int x2), (3, .ref a3), (4, .ref a4), (5, .int x5), (6, .int x6), (7, .int x7)] [.int z28, .int z13] h27
    by_cases c30 : z13 ≤ z28
    · replace HF := ite_T c30 HF
      refine ev_icmp_leT (tgt := 128) dX8_addTurn_111 (by decide) c30 ?_
      exact Ev.sub [2, 3, 4, 5, 6, 7, 8, 9] rfl (lk_X8_addTurn_128 hdd (F_X8_addTurn_56 n) ih t x1 x2 a3 a4 x5 x6 x7 _ HF)
    · replace HF := ite_F c30 HF
      refine ev_icmp_leF (tgt := 128) dX8_addTurn_111 (by decide) c30 ?_
      refine ev_aload_n 2 dX8_addTurn_114 rfl ?_
      refine ev_iconst (v := 0) dX8_addTurn_115 (by decide) ?_
      refine ev_iload 0 dX8_addTurn_116 rfl ?_
      refine ev_iload_n 3 dX8_addTurn_118 rfl ?_
      refine ev_iload_n 4 dX8_addTurn_119 rfl ?_
      refine ev_iload 7 dX8_addTurn_120 rfl ?_
      refine ev_iload 1 dX8_addTurn_122 rfl ?_
      show EvG _ _ _ _ _ _ _ _ _ _ _ 124 _ _ _
      refine ev_iconst (v := 0) dX8_addTurn_124 (by decide) ?_
      replace HF := bind_ck HF
      obtain ⟨c31, HF⟩ := HF
      replace HF := bind_o HF
      obtain ⟨h33, e32, HF⟩ := HF
      refine ev_callV (As := [.int 0, .int z13, .int x1, .int x2, .int x5, .int z5, .int 0]) (R1 := (none, h33)) (lk_X8_note (d := 2) (Nat.le_refl _) c31 e32) ce_X8_note im_X8_note sl_X8_note ml_X8_43 cl_X8 c31 dX8_addTurn_125 (by omega) (Nat.le_of_ble_eq_true rfl) rfl rfl ?_
      show EvG _ _ _ _ _ _ _ _ _ _ _ 128 [(9, .int z13), (8, .int z5), (0, .ref t), (1, .int x1), (2, .int x2), (3, .ref a3), (4, .ref a4), (5, .int x5), (6, .int x6), (7, .int x7)] [] h33
      exact Ev.sub [2, 3, 4, 5, 6, 7, 8, 9] rfl (lk_X8_addTurn_128 hdd (F_X8_addTurn_56 n) ih t x1 x2 a3 a4 x5 x6 x7 _ HF)

set_option maxRecDepth 20000 in
theorem lk_X8_addTurn_53 {g : aG} {l : Launch} {d : Nat} {h0 : aH} (hdd : 3 ≤ d) {r : aH} (t : Nat) (x1 : Int32) (x2 : Int32) (a3 : Nat) (a4 : Nat) (x5 : Int32) (x6 : Int32) (h : aH) (HF : F_X8_addTurn_53  t x1 x2 a3 a4 x5 x6 h = some r) : Ev g l cX8_addTurn 12 yX8_addTurn (none) d h0 (none, r) 53 [(0, .ref t), (1, .int x1), (2, .int x2), (3, .ref a3), (4, .ref a4), (5, .int x5), (6, .int x6)] [] h := by
  unfold F_X8_addTurn_53 at HF
  refine ev_iconst (v := 0) dX8_addTurn_53 (by decide) ?_
  refine ev_istore (lv' := [(7, .int 0), (0, .ref t), (1, .int x1), (2, .int x2), (3, .ref a3), (4, .ref a4), (5, .int x5), (6, .int x6)]) dX8_addTurn_54 (by decide) (rfl) ?_
  exact Ev.sub [1, 2, 3, 4, 5, 6, 7, 0] rfl (lk_X8_addTurn_56 hdd  fu t x1 x2 a3 a4 x5 x6 0 _ HF)

set_option maxRecDepth 20000 in
theorem lk_X8_addTurn {g : aG} {l : Launch} {d : Nat} (hdd : 3 ≤ d) {t : Nat} {x1 : Int32} {x2 : Int32} {a3 : Nat} {a4 : Nat} {h : aH} {r : aH} (hT : hK h t = 10) (HF : F_X8_addTurn t x1 x2 a3 a4 h = some r) : MA g l yX8_addTurn cX8_addTurn 12 (none) d [.ref t, .int x1, .int x2, .ref a3, .ref a4] h (none, r) := by
  refine MA.of (lv0 := [(0, .ref t), (1, .int x1), (2, .int x2), (3, .ref a3), (4, .ref a4)]) (by decide +kernel) (rfl) (Nat.le_of_ble_eq_true rfl) ?_
  unfold F_X8_addTurn at HF
  refine ev_aload_n 3 dX8_addTurn_0 rfl ?_
  refine ev_iload_n 2 dX8_addTurn_1 rfl ?_
  refine ev_iconst (v := 2) dX8_addTurn_2 (by decide) ?_
  refine ev_irem dX8_addTurn_3 (by decide) ?_
  replace HF := bind_ck HF
  obtain ⟨c1, HF⟩ := HF
  replace HF := bind_o HF
  obtain ⟨⟨z4, h3⟩, e2, HF⟩ := HF
  replace HF := bd_o (bd_o HF)
  dsimp only at HF
  refine ev_callV (As := [.int (x2 - x2 / 2 * 2)]) (R1 := (some (.int z4), h3)) (lk_X3_sideAt (d := 0) (Nat.le_refl _) c1 e2) ce_X3_sideAt im_X3_sideAt sl_X3_sideAt ml_X8_27 cl_X3 c1 dX8_addTurn_4 (by omega) (Nat.le_of_ble_eq_true rfl) rfl rfl ?_
  show EvG _ _ _ _ _ _ _ _ _ _ _ 7 [(0, .ref t), (1, .int x1), (2, .int x2), (3, .ref a3), (4, .ref a4)] [.int z4] h3
  refine ev_istore (lv' := [(5, .int z4), (0, .ref t), (1, .int x1), (2, .int x2), (3, .ref a3), (4, .ref a4)]) dX8_addTurn_7 (by decide) (rfl) ?_
  refine ev_aload_n 4 dX8_addTurn_9 rfl ?_
  show EvG _ _ _ _ _ _ _ _ _ _ _ 10 _ _ _
  refine ev_iconst (v := 1) dX8_addTurn_10 (by decide) ?_
  refine ev_iload_n 3 dX8_addTurn_11 rfl ?_
  refine ev_iconst (v := 2) dX8_addTurn_12 (by decide) ?_
  refine ev_irem dX8_addTurn_13 (by decide) ?_
  refine ev_isub dX8_addTurn_14 ?_
  replace HF := bind_ck HF
  obtain ⟨c6, HF⟩ := HF
  replace HF := bind_o HF
  obtain ⟨⟨z9, h8⟩, e7, HF⟩ := HF
  replace HF := bd_o (bd_o HF)
  dsimp only at HF
  refine ev_callV (As := [.int (1 - (x2 - x2 / 2 * 2))]) (R1 := (some (.int z9), h8)) (lk_X3_sideAt (d := 0) (Nat.le_refl _) c6 e7) ce_X3_sideAt im_X3_sideAt sl_X3_sideAt ml_X8_27 cl_X3 c6 dX8_addTurn_15 (by omega) (Nat.le_of_ble_eq_true rfl) rfl rfl ?_
  show EvG _ _ _ _ _ _ _ _ _ _ _ 18 [(5, .int z4), (0, .ref t), (1, .int x1), (2, .int x2), (3, .ref a3), (4, .ref a4)] [.int z9] h8
  refine ev_istore (lv' := [(6, .int z9), (5, .int z4), (0, .ref t), (1, .int x1), (2, .int x2), (3, .ref a3), (4, .ref a4)]) dX8_addTurn_18 (by decide) (rfl) ?_
  refine ev_aload 6 dX8_addTurn_20 rfl ?_
  show EvG _ _ _ _ _ _ _ _ _ _ _ 22 _ _ _
  replace HF := bind_ck HF
  obtain ⟨c11, HF⟩ := HF
  refine ev_gIN (f := 1004) cl_X9 (k := 4) (by decide) fi_X9_4 rfl fl_X8_33 dX8_addTurn_22 c11 ?_
  refine ev_aload_n 2 dX8_addTurn_25 rfl ?_
  replace HF := bind_ck HF
  obtain ⟨c12, HF⟩ := HF
  replace HF := bind_o HF
  obtain ⟨b13, e14, HF⟩ := HF
  refine ev_gS (f := 900) cl_X8 (k := 0) (by decide) fi_X8_0 rfl fl_X8_14 dX8_addTurn_26 c12 e14 ?_
  refine ev_iconst (v := 2) dX8_addTurn_29 (by decide) ?_
  refine ev_iconst (v := 0) dX8_addTurn_30 (by decide) ?_
  replace HF := bind_ck HF
  obtain ⟨c15, HF⟩ := HF
  replace HF := bind_o HF
  obtain ⟨⟨z18, h17⟩, e16, HF⟩ := HF
  replace HF := bd_o (bd_o HF)
  dsimp only at HF
  refine ev_callV (As := [.int 2, .int 0]) (R1 := (some (.int z18), h17)) (lk_X4_at (d := 1) (Nat.le_refl _) c15 e16) ce_X4_at im_X4_at sl_X4_at ml_X8_39 cl_X4 c15 dX8_addTurn_31 (by omega) (Nat.le_of_ble_eq_true rfl) rfl rfl ?_
  show EvG _ _ _ _ _ _ _ _ _ _ _ 34 [(6, .int z9), (5, .int z4), (0, .ref t), (1, .int x1), (2, .int x2), (3, .ref a3), (4, .ref a4)] [.int z18, .int (hF h8 1004 a4)] h17
  by_cases c20 : hF h8 1004 a4 ≤ z18
  · replace HF := ite_T c20 HF
    refine ev_icmp_leT (tgt := 53) dX8_addTurn_34 (by decide) c20 ?_
    exact Ev.sub [2, 3, 4, 5, 6, 1, 0] rfl (lk_X8_addTurn_53 hdd  t x1 x2 a3 a4 z4 z9 _ HF)
  · replace HF := ite_F c20 HF
    refine ev_icmp_leF (tgt := 53) dX8_addTurn_34 (by decide) c20 ?_
    refine ev_aload_n 2 dX8_addTurn_37 rfl ?_
    refine ev_iconst (v := 2) dX8_addTurn_38 (by decide) ?_
    refine ev_aload 6 dX8_addTurn_39 rfl ?_
    replace HF := bind_ck HF
    obtain ⟨c21, HF⟩ := HF
    refine ev_gIN (f := 1004) cl_X9 (k := 4) (by decide) fi_X9_4 rfl fl_X8_33 dX8_addTurn_41 c21 ?_
    refine ev_iload_n 3 dX8_addTurn_44 rfl ?_
    refine ev_iload_n 4 dX8_addTurn_45 rfl ?_
    refine ev_iload 1 dX8_addTurn_46 rfl ?_
    show EvG _ _ _ _ _ _ _ _ _ _ _ 48 _ _ _
    refine ev_iconst (v := (-1)) dX8_addTurn_48 (by decide) ?_
    refine ev_iconst (v := 0) dX8_addTurn_49 (by decide) ?_
    replace HF := bind_ck HF
    obtain ⟨c22, HF⟩ := HF
    replace HF := bind_o HF
    obtain ⟨h24, e23, HF⟩ := HF
    refine ev_callV (As := [.int 2, .int (hF h17 1004 a4), .int x1, .int x2, .int z4, .int ((-1)), .int 0]) (R1 := (none, h24)) (lk_X8_note (d := 2) (Nat.le_refl _) c22 e23) ce_X8_note im_X8_note sl_X8_note ml_X8_43 cl_X8 c22 dX8_addTurn_50 (by omega) (Nat.le_of_ble_eq_true rfl) rfl rfl ?_
    show EvG _ _ _ _ _ _ _ _ _ _ _ 53 [(6, .int z9), (5, .int z4), (0, .ref t), (1, .int x1), (2, .int x2), (3, .ref a3), (4, .ref a4)] [] h24
    exact Ev.sub [2, 3, 4, 5, 6, 1, 0] rfl (lk_X8_addTurn_53 hdd  t x1 x2 a3 a4 z4 z9 _ HF)

set_option maxRecDepth 20000 in
theorem lk_X8_addTotals_44 {g : aG} {l : Launch} {d : Nat} {h0 : aH} (hdd : 3 ≤ d) {r : aH} (k2 : Nat → Int32 → Int32 → Int32 → aH → Option (aH)) (hk2 : ∀ (t : Nat) (x1 : Int32) (x2 : Int32) (x3 : Int32) (h : aH), k2 t x1 x2 x3 h = some r → Ev g l cX8_addTotals 5 yX8_addTotals (none) d h0 (none, r) 2 [(0, .ref t), (1, .int x1), (2, .int x2), (3, .int x3)] [] h) (t : Nat) (x1 : Int32) (x2 : Int32) (x3 : Int32) (h : aH) (HF : F_X8_addTotals_44 k2 t x1 x2 x3 h = some r) : Ev g l cX8_addTotals 5 yX8_addTotals (none) d h0 (none, r) 44 [(0, .ref t), (1, .int x1), (2, .int x2), (3, .int x3)] [] h := by
  unfold F_X8_addTotals_44 at HF
  replace HF := bd_n HF
  obtain ⟨v1, ev1, HF⟩ := HF
  refine ev_iinc (v := v1) (lv' := [(3, .int v1), (0, .ref t), (1, .int x1), (2, .int x2)]) 3 dX8_addTotals_44 rfl (by rw [ev1]; rfl) (by decide) (rfl) ?_
  refine ev_goto (tgt := 2) dX8_addTotals_47 (by decide) ?_
  exact Ev.sub [1, 2, 3, 0] rfl (hk2 t x1 x2 v1 _ HF)

set_option maxRecDepth 20000 in
theorem lk_X8_addTotals_2 {g : aG} {l : Launch} {d : Nat} {h0 : aH} (hdd : 3 ≤ d) {r : aH} : ∀ (n : Nat) (t : Nat) (x1 : Int32) (x2 : Int32) (x3 : Int32) (h : aH), F_X8_addTotals_2  n t x1 x2 x3 h = some r → Ev g l cX8_addTotals 5 yX8_addTotals (none) d h0 (none, r) 2 [(0, .ref t), (1, .int x1), (2, .int x2), (3, .int x3)] [] h := by
  intro n
  induction n with
  | zero => intro t x1 x2 x3 h HF; cases HF
  | succ n ih =>
  intro t x1 x2 x3 h HF
  unfold F_X8_addTotals_2 at HF
  refine ev_iload_n 3 dX8_addTotals_2 rfl ?_
  refine ev_iload_n 2 dX8_addTotals_3 rfl ?_
  by_cases c1 : x2 ≤ x3
  · replace HF := ite_T c1 HF
    refine ev_icmp_geT (tgt := 50) dX8_addTotals_4 (by decide) c1 ?_
    obtain rfl := Option.some.inj HF
    exact ev_vret dX8_addTotals_50
  · replace HF := ite_F c1 HF
    refine ev_icmp_geF (tgt := 50) dX8_addTotals_4 (by decide) c1 ?_
    refine ev_aload_n 0 dX8_addTotals_7 rfl ?_
    replace HF := bind_ck HF
    obtain ⟨c2, HF⟩ := HF
    replace HF := bind_o HF
    obtain ⟨b3, e4, HF⟩ := HF
    refine ev_gS (f := 901) cl_X8 (k := 1) (by decide) fi_X8_1 rfl fl_X8_20 dX8_addTotals_8 c2 e4 ?_
    refine ev_iload_n 1 dX8_addTotals_11 rfl ?_
    refine ev_iload_n 3 dX8_addTotals_12 rfl ?_
    replace HF := bind_ck HF
    obtain ⟨c5, HF⟩ := HF
    replace HF := bind_o HF
    obtain ⟨⟨z8, h7⟩, e6, HF⟩ := HF
    replace HF := bd_o (bd_o HF)
    dsimp only at HF
    refine ev_callV (As := [.int x1, .int x3]) (R1 := (some (.int z8), h7)) (lk_X4_at (d := 1) (Nat.le_refl _) c5 e6) ce_X4_at im_X4_at sl_X4_at ml_X8_39 cl_X4 c5 dX8_addTotals_13 (by omega) (Nat.le_of_ble_eq_true rfl) rfl rfl ?_
    show EvG _ _ _ _ _ _ _ _ _ _ _ 16 [(0, .ref t), (1, .int x1), (2, .int x2), (3, .int x3)] [.int z8] h7
    refine ev_istore (lv' := [(4, .int z8), (0, .ref t), (1, .int x1), (2, .int x2), (3, .int x3)]) dX8_addTotals_16 (by decide) (rfl) ?_
    refine ev_iload 0 dX8_addTotals_18 rfl ?_
    show EvG _ _ _ _ _ _ _ _ _ _ _ 20 _ _ _
    refine ev_aload_n 1 dX8_addTotals_20 rfl ?_
    replace HF := bind_ck HF
    obtain ⟨c10, HF⟩ := HF
    replace HF := bind_o HF
    obtain ⟨b11, e12, HF⟩ := HF
    refine ev_gS (f := 900) cl_X8 (k := 0) (by decide) fi_X8_0 rfl fl_X8_14 dX8_addTotals_21 c10 e12 ?_
    refine ev_iconst (v := 3) dX8_addTotals_24 (by decide) ?_
    refine ev_iconst (v := 0) dX8_addTotals_25 (by decide) ?_
    replace HF := bind_ck HF
    obtain ⟨c13, HF⟩ := HF
    replace HF := bind_o HF
    obtain ⟨⟨z16, h15⟩, e14, HF⟩ := HF
    replace HF := bd_o (bd_o HF)
    dsimp only at HF
    refine ev_callV (As := [.int 3, .int 0]) (R1 := (some (.int z16), h15)) (lk_X4_at (d := 1) (Nat.le_refl _) c13 e14) ce_X4_at im_X4_at sl_X4_at ml_X8_39 cl_X4 c13 dX8_addTotals_26 (by omega) (Nat.le_of_ble_eq_true rfl) rfl rfl ?_
    show EvG _ _ _ _ _ _ _ _ _ _ _ 29 [(4, .int z8), (0, .ref t), (1, .int x1), (2, .int x2), (3, .int x3)] [.int z16, .int z8] h15
    by_cases c18 : z8 ≤ z16
    · replace HF := ite_T c18 HF
      refine ev_icmp_leT (tgt := 44) dX8_addTotals_29 (by decide) c18 ?_
      exact Ev.sub [1, 2, 3, 4] rfl (lk_X8_addTotals_44 hdd (F_X8_addTotals_2 n) ih t x1 x2 x3 _ HF)
    · replace HF := ite_F c18 HF
      refine ev_icmp_leF (tgt := 44) dX8_addTotals_29 (by decide) c18 ?_
      refine ev_aload_n 1 dX8_addTotals_32 rfl ?_
      refine ev_iconst (v := 3) dX8_addTotals_33 (by decide) ?_
      refine ev_iload 0 dX8_addTotals_34 rfl ?_
      refine ev_iconst (v := (-1)) dX8_addTotals_36 (by decide) ?_
      refine ev_iconst (v := (-1)) dX8_addTotals_37 (by decide) ?_
      refine ev_iload_n 2 dX8_addTotals_38 rfl ?_
      refine ev_iload_n 4 dX8_addTotals_39 rfl ?_
      show EvG _ _ _ _ _ _ _ _ _ _ _ 40 _ _ _
      refine ev_iconst (v := 0) dX8_addTotals_40 (by decide) ?_
      replace HF := bind_ck HF
      obtain ⟨c19, HF⟩ := HF
      replace HF := bind_o HF
      obtain ⟨h21, e20, HF⟩ := HF
      refine ev_callV (As := [.int 3, .int z8, .int ((-1)), .int ((-1)), .int x1, .int x3, .int 0]) (R1 := (none, h21)) (lk_X8_note (d := 2) (Nat.le_refl _) c19 e20) ce_X8_note im_X8_note sl_X8_note ml_X8_43 cl_X8 c19 dX8_addTotals_41 (by omega) (Nat.le_of_ble_eq_true rfl) rfl rfl ?_
      show EvG _ _ _ _ _ _ _ _ _ _ _ 44 [(4, .int z8), (0, .ref t), (1, .int x1), (2, .int x2), (3, .int x3)] [] h21
      exact Ev.sub [1, 2, 3, 4] rfl (lk_X8_addTotals_44 hdd (F_X8_addTotals_2 n) ih t x1 x2 x3 _ HF)

set_option maxRecDepth 20000 in
theorem lk_X8_addTotals {g : aG} {l : Launch} {d : Nat} (hdd : 3 ≤ d) {t : Nat} {x1 : Int32} {x2 : Int32} {h : aH} {r : aH} (hT : hK h t = 10) (HF : F_X8_addTotals t x1 x2 h = some r) : MA g l yX8_addTotals cX8_addTotals 5 (none) d [.ref t, .int x1, .int x2] h (none, r) := by
  refine MA.of (lv0 := [(0, .ref t), (1, .int x1), (2, .int x2)]) (by decide +kernel) (rfl) (Nat.le_of_ble_eq_true rfl) ?_
  unfold F_X8_addTotals at HF
  refine ev_iconst (v := 0) dX8_addTotals_0 (by decide) ?_
  refine ev_istore_n (lv' := [(3, .int 0), (0, .ref t), (1, .int x1), (2, .int x2)]) dX8_addTotals_1 (by decide) (rfl) ?_
  exact Ev.sub [1, 2, 3, 0] rfl (lk_X8_addTotals_2 hdd  fu t x1 x2 0 _ HF)

set_option maxRecDepth 20000 in
theorem lk_X9_crossSum {g : aG} {l : Launch} {d : Nat} (hdd : 3 ≤ d) {t : Nat} {x1 : Int32} {h : aH} {r : Int32 × aH} (hT : hK h t = 11) (HF : F_X9_crossSum t x1 h = some r) : MA g l yX9_crossSum cX9_crossSum 2 (some .int) d [.ref t, .int x1] h (some (.int r.1), r.2) := by
  refine MA.of (lv0 := [(0, .ref t), (1, .int x1)]) (by decide +kernel) (rfl) (Nat.le_of_ble_eq_true rfl) ?_
  unfold F_X9_crossSum at HF
  refine ev_iload_n 1 dX9_crossSum_0 rfl ?_
  by_cases c1 : x1 = 11
  · replace HF := ite_T c1 HF
    refine ev_swT (kk := 11) (tgt := 36) dX9_crossSum_1 c1 (by decide +kernel) (by decide +kernel) ?_
    refine ev_aload_n 0 dX9_crossSum_36 rfl ?_
    replace HF := bind_o HF
    obtain ⟨b2, e3, HF⟩ := HF
    refine ev_gS (f := 1000) cl_X9 (k := 0) (by decide) fi_X9_0 rfl fl_X9_14 dX9_crossSum_37 hT e3 ?_
    refine ev_iconst (v := 0) dX9_crossSum_40 (by decide) ?_
    refine ev_bipush (v := 11) dX9_crossSum_41 (by decide) ?_
    replace HF := bind_ck HF
    obtain ⟨c4, HF⟩ := HF
    replace HF := bind_o HF
    obtain ⟨⟨z7, h6⟩, e5, HF⟩ := HF
    replace HF := bd_o (bd_o HF)
    dsimp only at HF
    refine ev_callV (As := [.int 0, .int 11]) (R1 := (some (.int z7), h6)) (lk_X4_sumOf (d := 2) (Nat.le_refl _) c4 e5) ce_X4_sumOf im_X4_sumOf sl_X4_sumOf ml_X9_139 cl_X4 c4 dX9_crossSum_43 (by omega) (Nat.le_of_ble_eq_true rfl) rfl rfl ?_
    show EvG _ _ _ _ _ _ _ _ _ _ _ 46 [(0, .ref t), (1, .int x1)] [.int z7] h6
    refine ev_aload_n 0 dX9_crossSum_46 rfl ?_
    replace HF := bind_ck HF
    obtain ⟨c9, HF⟩ := HF
    refine ev_gI (f := 1006) cl_X9 (k := 6) (by decide) fi_X9_6 rfl fl_X9_50 dX9_crossSum_47 c9 ?_
    show EvG _ _ _ _ _ _ _ _ _ _ _ 50 _ _ _
    refine ev_iadd dX9_crossSum_50 ?_
    obtain rfl := Option.some.inj HF
    exact ev_iret dX9_crossSum_51
  replace HF := ite_F c1 HF
  by_cases c10 : x1 = 12
  · replace HF := ite_T c10 HF
    refine ev_swT (kk := 12) (tgt := 52) dX9_crossSum_1 c10 (by decide +kernel) (by decide +kernel) ?_
    refine ev_aload_n 0 dX9_crossSum_52 rfl ?_
    replace HF := bind_o HF
    obtain ⟨b11, e12, HF⟩ := HF
    refine ev_gS (f := 1001) cl_X9 (k := 1) (by decide) fi_X9_1 rfl fl_X9_20 dX9_crossSum_53 hT e12 ?_
    refine ev_iconst (v := 1) dX9_crossSum_56 (by decide) ?_
    refine ev_bipush (v := 11) dX9_crossSum_57 (by decide) ?_
    replace HF := bind_ck HF
    obtain ⟨c13, HF⟩ := HF
    replace HF := bind_o HF
    obtain ⟨⟨z16, h15⟩, e14, HF⟩ := HF
    replace HF := bd_o (bd_o HF)
    dsimp only at HF
    refine ev_callV (As := [.int 1, .int 11]) (R1 := (some (.int z16), h15)) (lk_X4_sumOf (d := 2) (Nat.le_refl _) c13 e14) ce_X4_sumOf im_X4_sumOf sl_X4_sumOf ml_X9_139 cl_X4 c13 dX9_crossSum_59 (by omega) (Nat.le_of_ble_eq_true rfl) rfl rfl ?_
    show EvG _ _ _ _ _ _ _ _ _ _ _ 62 [(0, .ref t), (1, .int x1)] [.int z16] h15
    refine ev_aload_n 0 dX9_crossSum_62 rfl ?_
    replace HF := bind_ck HF
    obtain ⟨c18, HF⟩ := HF
    refine ev_gI (f := 1007) cl_X9 (k := 7) (by decide) fi_X9_7 rfl fl_X9_53 dX9_crossSum_63 c18 ?_
    show EvG _ _ _ _ _ _ _ _ _ _ _ 66 _ _ _
    refine ev_iadd dX9_crossSum_66 ?_
    obtain rfl := Option.some.inj HF
    exact ev_iret dX9_crossSum_67
  replace HF := ite_F c10 HF
  by_cases c19 : x1 = 13
  · replace HF := ite_T c19 HF
    refine ev_swT (kk := 13) (tgt := 68) dX9_crossSum_1 c19 (by decide +kernel) (by decide +kernel) ?_
    refine ev_aload_n 0 dX9_crossSum_68 rfl ?_
    replace HF := bind_o HF
    obtain ⟨b20, e21, HF⟩ := HF
    refine ev_gS (f := 1002) cl_X9 (k := 2) (by decide) fi_X9_2 rfl fl_X9_23 dX9_crossSum_69 hT e21 ?_
    refine ev_iconst (v := 0) dX9_crossSum_72 (by decide) ?_
    refine ev_aload_n 0 dX9_crossSum_73 rfl ?_
    refine ev_gI (f := 1011) cl_X9 (k := 11) (by decide) fi_X9_11 rfl fl_X9_65 dX9_crossSum_74 hT ?_
    replace HF := bind_ck HF
    obtain ⟨c22, HF⟩ := HF
    replace HF := bind_o HF
    obtain ⟨⟨z25, h24⟩, e23, HF⟩ := HF
    replace HF := bd_o (bd_o HF)
    dsimp only at HF
    refine ev_callV (As := [.int 0, .int (hF h 1011 t)]) (R1 := (some (.int z25), h24)) (lk_X4_sumOf (d := 2) (Nat.le_refl _) c22 e23) ce_X4_sumOf im_X4_sumOf sl_X4_sumOf ml_X9_139 cl_X4 c22 dX9_crossSum_77 (by omega) (Nat.le_of_ble_eq_true rfl) rfl rfl ?_
    show EvG _ _ _ _ _ _ _ _ _ _ _ 80 [(0, .ref t), (1, .int x1)] [.int z25] h24
    obtain rfl := Option.some.inj HF
    exact ev_iret dX9_crossSum_80
  replace HF := ite_F c19 HF
  by_cases c27 : x1 = 14
  · replace HF := ite_T c27 HF
    refine ev_swT (kk := 14) (tgt := 81) dX9_crossSum_1 c27 (by decide +kernel) (by decide +kernel) ?_
    refine ev_aload_n 0 dX9_crossSum_81 rfl ?_
    replace HF := bind_o HF
    obtain ⟨b28, e29, HF⟩ := HF
    refine ev_gS (f := 1001) cl_X9 (k := 1) (by decide) fi_X9_1 rfl fl_X9_20 dX9_crossSum_82 hT e29 ?_
    refine ev_iconst (v := 2) dX9_crossSum_85 (by decide) ?_
    refine ev_bipush (v := 11) dX9_crossSum_86 (by decide) ?_
    replace HF := bind_ck HF
    obtain ⟨c30, HF⟩ := HF
    replace HF := bind_o HF
    obtain ⟨⟨z33, h32⟩, e31, HF⟩ := HF
    replace HF := bd_o (bd_o HF)
    dsimp only at HF
    refine ev_callV (As := [.int 2, .int 11]) (R1 := (some (.int z33), h32)) (lk_X4_sumOf (d := 2) (Nat.le_refl _) c30 e31) ce_X4_sumOf im_X4_sumOf sl_X4_sumOf ml_X9_139 cl_X4 c30 dX9_crossSum_88 (by omega) (Nat.le_of_ble_eq_true rfl) rfl rfl ?_
    show EvG _ _ _ _ _ _ _ _ _ _ _ 91 [(0, .ref t), (1, .int x1)] [.int z33] h32
    obtain rfl := Option.some.inj HF
    exact ev_iret dX9_crossSum_91
  replace HF := ite_F c27 HF
  by_cases c35 : x1 = 15
  · replace HF := ite_T c35 HF
    refine ev_swT (kk := 15) (tgt := 92) dX9_crossSum_1 c35 (by decide +kernel) (by decide +kernel) ?_
    refine ev_aload_n 0 dX9_crossSum_92 rfl ?_
    replace HF := bind_o HF
    obtain ⟨b36, e37, HF⟩ := HF
    refine ev_gS (f := 1000) cl_X9 (k := 0) (by decide) fi_X9_0 rfl fl_X9_14 dX9_crossSum_93 hT e37 ?_
    refine ev_iconst (v := 2) dX9_crossSum_96 (by decide) ?_
    refine ev_bipush (v := 6) dX9_crossSum_97 (by decide) ?_
    replace HF := bind_ck HF
    obtain ⟨c38, HF⟩ := HF
    replace HF := bind_o HF
    obtain ⟨⟨z41, h40⟩, e39, HF⟩ := HF
    replace HF := bd_o (bd_o HF)
    dsimp only at HF
    refine ev_callV (As := [.int 2, .int 6]) (R1 := (some (.int z41), h40)) (lk_X4_howMany (d := 2) (Nat.le_refl _) c38 e39) ce_X4_howMany im_X4_howMany sl_X4_howMany ml_X9_142 cl_X4 c38 dX9_crossSum_99 (by omega) (Nat.le_of_ble_eq_true rfl) rfl rfl ?_
    show EvG _ _ _ _ _ _ _ _ _ _ _ 102 [(0, .ref t), (1, .int x1)] [.int z41] h40
    obtain rfl := Option.some.inj HF
    exact ev_iret dX9_crossSum_102
  replace HF := ite_F c35 HF
  refine ev_swTd (ks := [11, 12, 13, 14, 15]) (tgt := 103) dX9_crossSum_1 (by simp only [List.mem_cons, List.not_mem_nil, or_false, forall_eq_or_imp, forall_eq]; exact ⟨c1, c10, c19, c27, c35⟩) (by decide +kernel) (by decide) ?_
  refine ev_iconst (v := 0) dX9_crossSum_103 (by decide) ?_
  obtain rfl := Option.some.inj HF
  exact ev_iret dX9_crossSum_104

set_option maxRecDepth 20000 in
theorem lk_X9_figure {g : aG} {l : Launch} {d : Nat} (hdd : 4 ≤ d) {t : Nat} {x1 : Int32} {h : aH} {r : Int32 × aH} (hT : hK h t = 11) (HF : F_X9_figure t x1 h = some r) : MA g l yX9_figure cX9_figure 2 (some .int) d [.ref t, .int x1] h (some (.int r.1), r.2) := by
  refine MA.of (lv0 := [(0, .ref t), (1, .int x1)]) (by decide +kernel) (rfl) (Nat.le_of_ble_eq_true rfl) ?_
  unfold F_X9_figure at HF
  refine ev_iload_n 1 dX9_figure_0 rfl ?_
  by_cases c1 : x1 = 0
  · replace HF := ite_T c1 HF
    refine ev_swT (kk := 0) (tgt := 56) dX9_figure_1 c1 (by decide +kernel) (by decide +kernel) ?_
    refine ev_aload_n 0 dX9_figure_56 rfl ?_
    refine ev_gI (f := 1004) cl_X9 (k := 4) (by decide) fi_X9_4 rfl fl_X9_44 dX9_figure_57 hT ?_
    obtain rfl := Option.some.inj HF
    exact ev_iret dX9_figure_60
  replace HF := ite_F c1 HF
  by_cases c2 : x1 = 1
  · replace HF := ite_T c2 HF
    refine ev_swT (kk := 1) (tgt := 61) dX9_figure_1 c2 (by decide +kernel) (by decide +kernel) ?_
    refine ev_aload_n 0 dX9_figure_61 rfl ?_
    refine ev_gI (f := 1005) cl_X9 (k := 5) (by decide) fi_X9_5 rfl fl_X9_47 dX9_figure_62 hT ?_
    obtain rfl := Option.some.inj HF
    exact ev_iret dX9_figure_65
  replace HF := ite_F c2 HF
  by_cases c3 : x1 = 2
  · replace HF := ite_T c3 HF
    refine ev_swT (kk := 2) (tgt := 66) dX9_figure_1 c3 (by decide +kernel) (by decide +kernel) ?_
    refine ev_aload_n 0 dX9_figure_66 rfl ?_
    refine ev_gI (f := 1012) cl_X9 (k := 12) (by decide) fi_X9_12 rfl fl_X9_68 dX9_figure_67 hT ?_
    obtain rfl := Option.some.inj HF
    exact ev_iret dX9_figure_70
  replace HF := ite_F c3 HF
  by_cases c4 : x1 = 3
  · replace HF := ite_T c4 HF
    refine ev_swT (kk := 3) (tgt := 71) dX9_figure_1 c4 (by decide +kernel) (by decide +kernel) ?_
    refine ev_aload_n 0 dX9_figure_71 rfl ?_
    refine ev_gI (f := 1014) cl_X9 (k := 14) (by decide) fi_X9_14 rfl fl_X9_74 dX9_figure_72 hT ?_
    obtain rfl := Option.some.inj HF
    exact ev_iret dX9_figure_75
  replace HF := ite_F c4 HF
  by_cases c5 : x1 = 4
  · replace HF := ite_T c5 HF
    refine ev_swT (kk := 4) (tgt := 76) dX9_figure_1 c5 (by decide +kernel) (by decide +kernel) ?_
    refine ev_aload_n 0 dX9_figure_76 rfl ?_
    refine ev_gI (f := 1006) cl_X9 (k := 6) (by decide) fi_X9_6 rfl fl_X9_50 dX9_figure_77 hT ?_
    obtain rfl := Option.some.inj HF
    exact ev_iret dX9_figure_80
  replace HF := ite_F c5 HF
  by_cases c6 : x1 = 5
  · replace HF := ite_T c6 HF
    refine ev_swT (kk := 5) (tgt := 81) dX9_figure_1 c6 (by decide +kernel) (by decide +kernel) ?_
    refine ev_aload_n 0 dX9_figure_81 rfl ?_
    refine ev_gI (f := 1008) cl_X9 (k := 8) (by decide) fi_X9_8 rfl fl_X9_56 dX9_figure_82 hT ?_
    obtain rfl := Option.some.inj HF
    exact ev_iret dX9_figure_85
  replace HF := ite_F c6 HF
  by_cases c7 : x1 = 6
  · replace HF := ite_T c7 HF
    refine ev_swT (kk := 6) (tgt := 86) dX9_figure_1 c7 (by decide +kernel) (by decide +kernel) ?_
    refine ev_aload_n 0 dX9_figure_86 rfl ?_
    refine ev_gI (f := 1010) cl_X9 (k := 10) (by decide) fi_X9_10 rfl fl_X9_62 dX9_figure_87 hT ?_
    obtain rfl := Option.some.inj HF
    exact ev_iret dX9_figure_90
  replace HF := ite_F c7 HF
  by_cases c8 : x1 = 7
  · replace HF := ite_T c8 HF
    refine ev_swT (kk := 7) (tgt := 91) dX9_figure_1 c8 (by decide +kernel) (by decide +kernel) ?_
    refine ev_aload_n 0 dX9_figure_91 rfl ?_
    refine ev_gI (f := 1013) cl_X9 (k := 13) (by decide) fi_X9_13 rfl fl_X9_71 dX9_figure_92 hT ?_
    obtain rfl := Option.some.inj HF
    exact ev_iret dX9_figure_95
  replace HF := ite_F c8 HF
  by_cases c9 : x1 = 8
  · replace HF := ite_T c9 HF
    refine ev_swT (kk := 8) (tgt := 96) dX9_figure_1 c9 (by decide +kernel) (by decide +kernel) ?_
    refine ev_aload_n 0 dX9_figure_96 rfl ?_
    refine ev_gI (f := 1009) cl_X9 (k := 9) (by decide) fi_X9_9 rfl fl_X9_59 dX9_figure_97 hT ?_
    obtain rfl := Option.some.inj HF
    exact ev_iret dX9_figure_100
  replace HF := ite_F c9 HF
  by_cases c10 : x1 = 9
  · replace HF := ite_T c10 HF
    refine ev_swT (kk := 9) (tgt := 101) dX9_figure_1 c10 (by decide +kernel) (by decide +kernel) ?_
    refine ev_aload_n 0 dX9_figure_101 rfl ?_
    refine ev_gI (f := 1003) cl_X9 (k := 3) (by decide) fi_X9_3 rfl fl_X9_26 dX9_figure_102 hT ?_
    by_cases c11 : hF h 1003 t = 0
    · replace HF := ite_T c11 HF
      refine ev_if_eqT (tgt := 112) dX9_figure_105 (by decide) c11 ?_
      refine ev_iconst (v := 0) dX9_figure_112 (by decide) ?_
      obtain rfl := Option.some.inj HF
      exact ev_iret dX9_figure_113
    · replace HF := ite_F c11 HF
      refine ev_if_eqF (tgt := 112) dX9_figure_105 (by decide) c11 ?_
      refine ev_iconst (v := 1) dX9_figure_108 (by decide) ?_
      refine ev_goto (tgt := 113) dX9_figure_109 (by decide) ?_
      obtain rfl := Option.some.inj HF
      exact ev_iret dX9_figure_113
  replace HF := ite_F c10 HF
  refine ev_swTd (ks := [0, 1, 2, 3, 4, 5, 6, 7, 8, 9]) (tgt := 114) dX9_figure_1 (by simp only [List.mem_cons, List.not_mem_nil, or_false, forall_eq_or_imp, forall_eq]; exact ⟨c1, c2, c3, c4, c5, c6, c7, c8, c9, c10⟩) (by decide +kernel) (by decide) ?_
  refine ev_aload_n 0 dX9_figure_114 rfl ?_
  refine ev_iload_n 1 dX9_figure_115 rfl ?_
  replace HF := bind_o HF
  obtain ⟨⟨z14, h13⟩, e12, HF⟩ := HF
  replace HF := bd_o (bd_o HF)
  dsimp only at HF
  refine ev_callV (As := [.int x1]) (R1 := (some (.int z14), h13)) (lk_X9_crossSum (d := 3) (Nat.le_refl _) hT e12) ce_X9_crossSum im_X9_crossSum sl_X9_crossSum ml_X9_135 cl_X9 hT dX9_figure_116 (by omega) (Nat.le_of_ble_eq_true rfl) rfl rfl ?_
  show EvG _ _ _ _ _ _ _ _ _ _ _ 119 [(0, .ref t), (1, .int x1)] [.int z14] h13
  obtain rfl := Option.some.inj HF
  exact ev_iret dX9_figure_119

set_option maxRecDepth 20000 in
theorem lk_X9_overFigure_17 {g : aG} {l : Launch} {d : Nat} {h0 : aH} (hdd : 2 ≤ d) {r : Int32 × aH} (t : Nat) (x1 : Int32) (x2 : Int32) (y0 : Int32) (h : aH) (HF : F_X9_overFigure_17  t x1 x2 y0 h = some r) : Ev g l cX9_overFigure 4 yX9_overFigure (some .int) d h0 (some (.int r.1), r.2) 17 [(0, .ref t), (1, .int x1), (2, .int x2)] [.int y0] h := by
  unfold F_X9_overFigure_17 at HF
  refine ev_istore_n (lv' := [(3, .int y0), (0, .ref t), (1, .int x1), (2, .int x2)]) dX9_overFigure_17 (by decide) (rfl) ?_
  refine ev_iload_n 3 dX9_overFigure_18 rfl ?_
  refine ev_bipush (v := 7) dX9_overFigure_19 (by decide) ?_
  by_cases c1 : x2 = 7
  · replace HF := ite_T c1 HF
    refine ev_icmp_neF (tgt := 34) dX9_overFigure_21 (by decide) c1 ?_
    refine ev_iload_n 0 dX9_overFigure_24 rfl ?_
    by_cases c2 : y0 = 0
    · replace HF := ite_T c2 HF
      refine ev_if_eqT (tgt := 32) dX9_overFigure_25 (by decide) c2 ?_
      refine ev_iconst (v := 0) dX9_overFigure_32 (by decide) ?_
      obtain rfl := Option.some.inj HF
      exact ev_iret dX9_overFigure_33
    · replace HF := ite_F c2 HF
      refine ev_if_eqF (tgt := 32) dX9_overFigure_25 (by decide) c2 ?_
      refine ev_iconst (v := 1) dX9_overFigure_28 (by decide) ?_
      refine ev_goto (tgt := 33) dX9_overFigure_29 (by decide) ?_
      obtain rfl := Option.some.inj HF
      exact ev_iret dX9_overFigure_33
  · replace HF := ite_F c1 HF
    refine ev_icmp_neT (tgt := 34) dX9_overFigure_21 (by decide) c1 ?_
    refine ev_iload_n 0 dX9_overFigure_34 rfl ?_
    by_cases c3 : y0 = 0
    · replace HF := ite_T c3 HF
      refine ev_if_eqT (tgt := 52) dX9_overFigure_35 (by decide) c3 ?_
      refine ev_iconst (v := 0) dX9_overFigure_52 (by decide) ?_
      obtain rfl := Option.some.inj HF
      exact ev_iret dX9_overFigure_53
    · replace HF := ite_F c3 HF
      refine ev_if_eqF (tgt := 52) dX9_overFigure_35 (by decide) c3 ?_
      refine ev_aload_n 1 dX9_overFigure_38 rfl ?_
      replace HF := bind_ck HF
      obtain ⟨c4, HF⟩ := HF
      replace HF := bind_o HF
      obtain ⟨b5, e6, HF⟩ := HF
      refine ev_gS (f := 1002) cl_X9 (k := 2) (by decide) fi_X9_2 rfl fl_X9_23 dX9_overFigure_39 c4 e6 ?_
      refine ev_iload_n 2 dX9_overFigure_42 rfl ?_
      refine ev_iload_n 3 dX9_overFigure_43 rfl ?_
      refine ev_iconst (v := 2) dX9_overFigure_44 (by decide) ?_
      refine ev_isub dX9_overFigure_45 ?_
      replace HF := bind_ck HF
      obtain ⟨c7, HF⟩ := HF
      replace HF := bind_o HF
      obtain ⟨⟨z10, h9⟩, e8, HF⟩ := HF
      replace HF := bd_o (bd_o HF)
      dsimp only at HF
      refine ev_callV (As := [.int x1, .int (x2 - 2)]) (R1 := (some (.int z10), h9)) (lk_X4_at (d := 1) (Nat.le_refl _) c7 e8) ce_X4_at im_X4_at sl_X4_at ml_X9_88 cl_X4 c7 dX9_overFigure_46 (by omega) (Nat.le_of_ble_eq_true rfl) rfl rfl ?_
      show EvG _ _ _ _ _ _ _ _ _ _ _ 49 [(3, .int y0), (0, .ref t), (1, .int x1), (2, .int x2)] [.int z10] h9
      show EvG _ _ _ _ _ _ _ _ _ _ _ 49 _ _ _
      refine ev_goto (tgt := 53) dX9_overFigure_49 (by decide) ?_
      obtain rfl := Option.some.inj HF
      exact ev_iret dX9_overFigure_53

set_option maxRecDepth 20000 in
theorem lk_X9_overFigure_16 {g : aG} {l : Launch} {d : Nat} {h0 : aH} (hdd : 2 ≤ d) {r : Int32 × aH} (t : Nat) (x1 : Int32) (x2 : Int32) (h : aH) (HF : F_X9_overFigure_16  t x1 x2 h = some r) : Ev g l cX9_overFigure 4 yX9_overFigure (some .int) d h0 (some (.int r.1), r.2) 16 [(0, .ref t), (1, .int x1), (2, .int x2)] [] h := by
  unfold F_X9_overFigure_16 at HF
  refine ev_iconst (v := 0) dX9_overFigure_16 (by decide) ?_
  exact Ev.sub [0, 1, 2] rfl (lk_X9_overFigure_17 hdd  t x1 x2 0 _ HF)

set_option maxRecDepth 20000 in
theorem lk_X9_overFigure {g : aG} {l : Launch} {d : Nat} (hdd : 2 ≤ d) {t : Nat} {x1 : Int32} {x2 : Int32} {h : aH} {r : Int32 × aH} (hT : hK h t = 11) (HF : F_X9_overFigure t x1 x2 h = some r) : MA g l yX9_overFigure cX9_overFigure 4 (some .int) d [.ref t, .int x1, .int x2] h (some (.int r.1), r.2) := by
  refine MA.of (lv0 := [(0, .ref t), (1, .int x1), (2, .int x2)]) (by decide +kernel) (rfl) (Nat.le_of_ble_eq_true rfl) ?_
  unfold F_X9_overFigure at HF
  refine ev_iload_n 1 dX9_overFigure_0 rfl ?_
  by_cases c1 : x1 < 0
  · replace HF := ite_T c1 HF
    refine ev_if_ltT (tgt := 16) dX9_overFigure_1 (by decide) c1 ?_
    exact Ev.sub [0, 1, 2] rfl (lk_X9_overFigure_16 hdd  t x1 x2 _ HF)
  · replace HF := ite_F c1 HF
    refine ev_if_ltF (tgt := 16) dX9_overFigure_1 (by decide) c1 ?_
    refine ev_iload_n 1 dX9_overFigure_4 rfl ?_
    refine ev_aload_n 0 dX9_overFigure_5 rfl ?_
    refine ev_gI (f := 1011) cl_X9 (k := 11) (by decide) fi_X9_11 rfl fl_X9_65 dX9_overFigure_6 hT ?_
    by_cases c2 : hF h 1011 t ≤ x1
    · replace HF := ite_T c2 HF
      refine ev_icmp_geT (tgt := 16) dX9_overFigure_9 (by decide) c2 ?_
      exact Ev.sub [0, 1, 2] rfl (lk_X9_overFigure_16 hdd  t x1 x2 _ HF)
    · replace HF := ite_F c2 HF
      refine ev_icmp_geF (tgt := 16) dX9_overFigure_9 (by decide) c2 ?_
      refine ev_iconst (v := 1) dX9_overFigure_12 (by decide) ?_
      refine ev_goto (tgt := 17) dX9_overFigure_13 (by decide) ?_
      exact Ev.sub [0, 1, 2] rfl (lk_X9_overFigure_17 hdd  t x1 x2 1 _ HF)

set_option maxRecDepth 20000 in
theorem lk_X11_init {g : aG} {l : Launch} {d : Nat} (hdd : 4 ≤ d) {t : Nat} {h : aH} {r : aH} (hT : hK h t = 13) (HF : F_X11_init t h = some r) : MA g l yX11_init cX11_init 1 (none) d [.ref t] h (none, r) := by
  refine MA.of (lv0 := [(0, .ref t)]) (by decide +kernel) (rfl) (Nat.le_of_ble_eq_true rfl) ?_
  unfold F_X11_init at HF
  refine ev_aload_n 0 dX11_init_0 rfl ?_
  refine ev_obj ml_X11_1 im_obj cd_obj dX11_init_1 (by omega) (Nat.le_of_ble_eq_true rfl) ?_
  refine ev_aload_n 0 dX11_init_4 rfl ?_
  refine ev_bipush (v := 60) dX11_init_5 (by decide) ?_
  refine ev_newI (n' := 60) ar_int dX11_init_7 (by decide) (by decide) (by decide) ?_
  replace HF := bd_n HF
  obtain ⟨b1, eb1, HF⟩ := HF
  refine ev_topR eb1 ?_
  replace HF := bd_n HF
  obtain ⟨h2, eh2, HF⟩ := HF
  refine ev_heap eh2 ?_
  replace HF := bind_ck HF
  obtain ⟨c3, HF⟩ := HF
  refine ev_pSF (f := 1200) cl_X11 (k := 0) (by decide) fi_X11_0 rfl fl_X11_9 rfl rfl rfl rfl dX11_init_9 c3 ?_
  replace HF := bd_n HF
  obtain ⟨h4, eh4, HF⟩ := HF
  refine ev_heap eh4 ?_
  have c5 : hK h4 t = 13 := by rw [eh4]; exact c3
  refine ev_aload_n 0 dX11_init_12 rfl ?_
  show EvG _ _ _ _ _ _ _ _ _ _ _ 13 _ _ _
  refine ev_new cl_Jx4a65c kl_X11_13 ins_Jx4a65c ini_Jx4a65c df_Jx4a65c dX11_init_13 ?_
  replace HF := bd_n HF
  obtain ⟨b6, eb6, HF⟩ := HF
  refine ev_topR eb6 ?_
  replace HF := bd_n HF
  obtain ⟨h7, eh7, HF⟩ := HF
  refine ev_heap eh7 ?_
  refine ev_dup dX11_init_16 rfl ?_
  replace HF := bind_ck HF
  obtain ⟨c8, HF⟩ := HF
  replace HF := bind_o HF
  obtain ⟨h10, e9, HF⟩ := HF
  refine ev_callI (As := []) (R1 := (none, h10)) (lk_Jx4a65c_init_da8c8 (d := 3) (Nat.le_refl _) c8 e9) ce_Jx4a65c_init_da8c8 rfl im_Jx4a65c_init_da8c8 ml_X11_15 dX11_init_17 (by omega) (Nat.le_of_ble_eq_true rfl) rfl rfl ?_
  show EvG _ _ _ _ _ _ _ _ _ _ _ 20 [(0, .ref t)] [.ref b6, .ref t] h10
  replace HF := bind_ck HF
  obtain ⟨c12, HF⟩ := HF
  refine ev_pSF (f := 1201) cl_X11 (k := 1) (by decide) fi_X11_1 rfl fl_X11_16 rfl rfl rfl rfl dX11_init_20 c12 ?_
  replace HF := bd_n HF
  obtain ⟨h13, eh13, HF⟩ := HF
  refine ev_heap eh13 ?_
  have c14 : hK h13 t = 13 := by rw [eh13]; exact c12
  refine ev_aload_n 0 dX11_init_23 rfl ?_
  refine ev_new cl_X0 kl_X11_20 ins_X0 ini_X0 df_X0 dX11_init_24 ?_
  replace HF := bd_n HF
  obtain ⟨b15, eb15, HF⟩ := HF
  refine ev_topR eb15 ?_
  replace HF := bd_n HF
  obtain ⟨h16, eh16, HF⟩ := HF
  refine ev_heap eh16 ?_
  refine ev_dup dX11_init_27 rfl ?_
  refine ev_sipush (v := 6000) dX11_init_28 (by decide) ?_
  show EvG _ _ _ _ _ _ _ _ _ _ _ 31 _ _ _
  replace HF := bind_ck HF
  obtain ⟨c17, HF⟩ := HF
  replace HF := bind_o HF
  obtain ⟨h19, e18, HF⟩ := HF
  refine ev_callI (As := [.int 6000]) (R1 := (none, h19)) (lk_X0_init (d := 1) (Nat.le_refl _) c17 e18) ce_X0_init rfl im_X0_init ml_X11_22 dX11_init_31 (by omega) (Nat.le_of_ble_eq_true rfl) rfl rfl ?_
  show EvG _ _ _ _ _ _ _ _ _ _ _ 34 [(0, .ref t)] [.ref b15, .ref t] h19
  replace HF := bind_ck HF
  obtain ⟨c21, HF⟩ := HF
  refine ev_pSF (f := 1202) cl_X11 (k := 2) (by decide) fi_X11_2 rfl fl_X11_25 rfl rfl rfl rfl dX11_init_34 c21 ?_
  replace HF := bd_n HF
  obtain ⟨h22, eh22, HF⟩ := HF
  refine ev_heap eh22 ?_
  have c23 : hK h22 t = 13 := by rw [eh22]; exact c21
  refine ev_aload_n 0 dX11_init_37 rfl ?_
  refine ev_new cl_X0 kl_X11_20 ins_X0 ini_X0 df_X0 dX11_init_38 ?_
  replace HF := bd_n HF
  obtain ⟨b24, eb24, HF⟩ := HF
  refine ev_topR eb24 ?_
  replace HF := bd_n HF
  obtain ⟨h25, eh25, HF⟩ := HF
  refine ev_heap eh25 ?_
  refine ev_dup dX11_init_41 rfl ?_
  refine ev_sipush (v := 8000) dX11_init_42 (by decide) ?_
  replace HF := bind_ck HF
  obtain ⟨c26, HF⟩ := HF
  replace HF := bind_o HF
  obtain ⟨h28, e27, HF⟩ := HF
  refine ev_callI (As := [.int 8000]) (R1 := (none, h28)) (lk_X0_init (d := 1) (Nat.le_refl _) c26 e27) ce_X0_init rfl im_X0_init ml_X11_22 dX11_init_45 (by omega) (Nat.le_of_ble_eq_true rfl) rfl rfl ?_
  show EvG _ _ _ _ _ _ _ _ _ _ _ 48 [(0, .ref t)] [.ref b24, .ref t] h28
  replace HF := bind_ck HF
  obtain ⟨c30, HF⟩ := HF
  refine ev_pSF (f := 1203) cl_X11 (k := 3) (by decide) fi_X11_3 rfl fl_X11_29 rfl rfl rfl rfl dX11_init_48 c30 ?_
  replace HF := bd_n HF
  obtain ⟨h31, eh31, HF⟩ := HF
  refine ev_heap eh31 ?_
  have c32 : hK h31 t = 13 := by rw [eh31]; exact c30
  show EvG _ _ _ _ _ _ _ _ _ _ _ 51 _ _ _
  refine ev_aload_n 0 dX11_init_51 rfl ?_
  refine ev_new cl_X2 kl_X11_32 ins_X2 ini_X2 df_X2 dX11_init_52 ?_
  replace HF := bd_n HF
  obtain ⟨b33, eb33, HF⟩ := HF
  refine ev_topR eb33 ?_
  replace HF := bd_n HF
  obtain ⟨h34, eh34, HF⟩ := HF
  refine ev_heap eh34 ?_
  refine ev_dup dX11_init_55 rfl ?_
  replace HF := bind_ck HF
  obtain ⟨c35, HF⟩ := HF
  replace HF := bind_o HF
  obtain ⟨h37, e36, HF⟩ := HF
  refine ev_callI (As := []) (R1 := (none, h37)) (lk_X2_init (d := 3) (Nat.le_refl _) c35 e36) ce_X2_init rfl im_X2_init ml_X11_34 dX11_init_56 (by omega) (Nat.le_of_ble_eq_true rfl) rfl rfl ?_
  show EvG _ _ _ _ _ _ _ _ _ _ _ 59 [(0, .ref t)] [.ref b33, .ref t] h37
  replace HF := bind_ck HF
  obtain ⟨c39, HF⟩ := HF
  refine ev_pSF (f := 1204) cl_X11 (k := 4) (by decide) fi_X11_4 rfl fl_X11_35 rfl rfl rfl rfl dX11_init_59 c39 ?_
  replace HF := bd_n HF
  obtain ⟨h40, eh40, HF⟩ := HF
  refine ev_heap eh40 ?_
  have c41 : hK h40 t = 13 := by rw [eh40]; exact c39
  refine ev_aload_n 0 dX11_init_62 rfl ?_
  refine ev_new cl_X6 kl_X11_39 ins_X6 ini_X6 df_X6 dX11_init_63 ?_
  replace HF := bd_n HF
  obtain ⟨b42, eb42, HF⟩ := HF
  refine ev_topR eb42 ?_
  replace HF := bd_n HF
  obtain ⟨h43, eh43, HF⟩ := HF
  refine ev_heap eh43 ?_
  refine ev_dup dX11_init_66 rfl ?_
  show EvG _ _ _ _ _ _ _ _ _ _ _ 67 _ _ _
  replace HF := bind_ck HF
  obtain ⟨c44, HF⟩ := HF
  replace HF := bind_o HF
  obtain ⟨h46, e45, HF⟩ := HF
  refine ev_callI (As := []) (R1 := (none, h46)) (lk_X6_init (d := 3) (Nat.le_refl _) c44 e45) ce_X6_init rfl im_X6_init ml_X11_41 dX11_init_67 (by omega) (Nat.le_of_ble_eq_true rfl) rfl rfl ?_
  show EvG _ _ _ _ _ _ _ _ _ _ _ 70 [(0, .ref t)] [.ref b42, .ref t] h46
  replace HF := bind_ck HF
  obtain ⟨c48, HF⟩ := HF
  refine ev_pSF (f := 1205) cl_X11 (k := 5) (by decide) fi_X11_5 rfl fl_X11_42 rfl rfl rfl rfl dX11_init_70 c48 ?_
  replace HF := bd_n HF
  obtain ⟨h49, eh49, HF⟩ := HF
  refine ev_heap eh49 ?_
  have c50 : hK h49 t = 13 := by rw [eh49]; exact c48
  refine ev_aload_n 0 dX11_init_73 rfl ?_
  refine ev_new cl_X8 kl_X11_46 ins_X8 ini_X8 df_X8 dX11_init_74 ?_
  replace HF := bd_n HF
  obtain ⟨b51, eb51, HF⟩ := HF
  refine ev_topR eb51 ?_
  replace HF := bd_n HF
  obtain ⟨h52, eh52, HF⟩ := HF
  refine ev_heap eh52 ?_
  refine ev_dup dX11_init_77 rfl ?_
  replace HF := bind_ck HF
  obtain ⟨c53, HF⟩ := HF
  replace HF := bind_o HF
  obtain ⟨h55, e54, HF⟩ := HF
  refine ev_callIN (As := []) (R1 := (none, h55)) (lk_X8_init (d := 2) (Nat.le_refl _) c53 e54) ce_X8_init rfl im_X8_init ml_X11_48 dX11_init_78 (by omega) (Nat.le_of_ble_eq_true rfl) rfl rfl ?_
  show EvG _ _ _ _ _ _ _ _ _ _ _ 81 [(0, .ref t)] [.ref b51, .ref t] h55
  replace HF := bind_ck HF
  obtain ⟨c57, HF⟩ := HF
  refine ev_pSF (f := 1206) cl_X11 (k := 6) (by decide) fi_X11_6 rfl fl_X11_49 rfl rfl rfl rfl dX11_init_81 c57 ?_
  replace HF := bd_n HF
  obtain ⟨h58, eh58, HF⟩ := HF
  refine ev_heap eh58 ?_
  have c59 : hK h58 t = 13 := by rw [eh58]; exact c57
  refine ev_aload_n 0 dX11_init_84 rfl ?_
  show EvG _ _ _ _ _ _ _ _ _ _ _ 85 _ _ _
  refine ev_new cl_X7 kl_X11_53 ins_X7 ini_X7 df_X7 dX11_init_85 ?_
  replace HF := bd_n HF
  obtain ⟨b60, eb60, HF⟩ := HF
  refine ev_topR eb60 ?_
  replace HF := bd_n HF
  obtain ⟨h61, eh61, HF⟩ := HF
  refine ev_heap eh61 ?_
  refine ev_dup dX11_init_88 rfl ?_
  replace HF := bind_ck HF
  obtain ⟨c62, HF⟩ := HF
  replace HF := bind_o HF
  obtain ⟨h64, e63, HF⟩ := HF
  refine ev_callI (As := []) (R1 := (none, h64)) (lk_X7_init (d := 1) (Nat.le_refl _) c62 e63) ce_X7_init rfl im_X7_init ml_X11_55 dX11_init_89 (by omega) (Nat.le_of_ble_eq_true rfl) rfl rfl ?_
  show EvG _ _ _ _ _ _ _ _ _ _ _ 92 [(0, .ref t)] [.ref b60, .ref t] h64
  replace HF := bind_ck HF
  obtain ⟨c66, HF⟩ := HF
  refine ev_pSF (f := 1207) cl_X11 (k := 7) (by decide) fi_X11_7 rfl fl_X11_56 rfl rfl rfl rfl dX11_init_92 c66 ?_
  replace HF := bd_n HF
  obtain ⟨h67, eh67, HF⟩ := HF
  refine ev_heap eh67 ?_
  have c68 : hK h67 t = 13 := by rw [eh67]; exact c66
  refine ev_aload_n 0 dX11_init_95 rfl ?_
  refine ev_iconst (v := 0) dX11_init_96 (by decide) ?_
  refine ev_pI (f := 1208) cl_X11 (k := 8) (by decide) fi_X11_8 rfl fl_X11_60 rfl rfl rfl dX11_init_97 c68 ?_
  replace HF := bd_n HF
  obtain ⟨h69, eh69, HF⟩ := HF
  refine ev_heap eh69 ?_
  have c70 : hK h69 t = 13 := by rw [eh69]; exact c68
  refine ev_aload_n 0 dX11_init_100 rfl ?_
  show EvG _ _ _ _ _ _ _ _ _ _ _ 101 _ _ _
  refine ev_iconst (v := 0) dX11_init_101 (by decide) ?_
  refine ev_pI (f := 1209) cl_X11 (k := 9) (by decide) fi_X11_9 rfl fl_X11_64 rfl rfl rfl dX11_init_102 c70 ?_
  replace HF := bd_n HF
  obtain ⟨h71, eh71, HF⟩ := HF
  refine ev_heap eh71 ?_
  have c72 : hK h71 t = 13 := by rw [eh71]; exact c70
  refine ev_aload_n 0 dX11_init_105 rfl ?_
  refine ev_iconst (v := (-1)) dX11_init_106 (by decide) ?_
  refine ev_pI (f := 1210) cl_X11 (k := 10) (by decide) fi_X11_10 rfl fl_X11_67 rfl rfl rfl dX11_init_107 c72 ?_
  replace HF := bd_n HF
  obtain ⟨h73, eh73, HF⟩ := HF
  refine ev_heap eh73 ?_
  have c74 : hK h73 t = 13 := by rw [eh73]; exact c72
  refine ev_aload_n 0 dX11_init_110 rfl ?_
  refine ev_iconst (v := 1) dX11_init_111 (by decide) ?_
  refine ev_pI (f := 1211) cl_X11 (k := 11) (by decide) fi_X11_11 rfl fl_X11_70 rfl rfl rfl dX11_init_112 c74 ?_
  replace HF := bd_n HF
  obtain ⟨h75, eh75, HF⟩ := HF
  refine ev_heap eh75 ?_
  have c76 : hK h75 t = 13 := by rw [eh75]; exact c74
  show EvG _ _ _ _ _ _ _ _ _ _ _ 115 _ _ _
  obtain rfl := Option.some.inj HF
  exact ev_vret dX11_init_115

set_option maxRecDepth 20000 in
theorem lk_X11_side {g : aG} {l : Launch} {d : Nat} (hdd : 0 ≤ d) {t : Nat} {x1 : Int32} {h : aH} {r : Int32 × aH} (hT : hK h t = 13) (HF : F_X11_side t x1 h = some r) : MA g l yX11_side cX11_side 2 (some .int) d [.ref t, .int x1] h (some (.int r.1), r.2) := by
  refine MA.of (lv0 := [(0, .ref t), (1, .int x1)]) (by decide +kernel) (rfl) (Nat.le_of_ble_eq_true rfl) ?_
  unfold F_X11_side at HF
  refine ev_aload_n 0 dX11_side_0 rfl ?_
  refine ev_gI (f := 1208) cl_X11 (k := 8) (by decide) fi_X11_8 rfl fl_X11_60 dX11_side_1 hT ?_
  refine ev_bipush (v := 60) dX11_side_4 (by decide) ?_
  by_cases c1 : 60 ≤ hF h 1208 t
  · replace HF := ite_T c1 HF
    refine ev_icmp_geT (tgt := 21) dX11_side_6 (by decide) c1 ?_
    refine ev_iconst (v := (-1)) dX11_side_21 (by decide) ?_
    obtain rfl := Option.some.inj HF
    exact ev_iret dX11_side_22
  · replace HF := ite_F c1 HF
    refine ev_icmp_geF (tgt := 21) dX11_side_6 (by decide) c1 ?_
    refine ev_iload_n 1 dX11_side_9 rfl ?_
    refine ev_bipush (v := 11) dX11_side_10 (by decide) ?_
    by_cases c2 : x1 < 11
    · replace HF := ite_T c2 HF
      refine ev_icmp_ltT (tgt := 21) dX11_side_12 (by decide) c2 ?_
      refine ev_iconst (v := (-1)) dX11_side_21 (by decide) ?_
      obtain rfl := Option.some.inj HF
      exact ev_iret dX11_side_22
    · replace HF := ite_F c2 HF
      refine ev_icmp_ltF (tgt := 21) dX11_side_12 (by decide) c2 ?_
      refine ev_iload_n 1 dX11_side_15 rfl ?_
      refine ev_bipush (v := 30) dX11_side_16 (by decide) ?_
      by_cases c3 : x1 ≤ 30
      · replace HF := ite_T c3 HF
        refine ev_icmp_leT (tgt := 23) dX11_side_18 (by decide) c3 ?_
        refine ev_aload_n 0 dX11_side_23 rfl ?_
        replace HF := bind_o HF
        obtain ⟨b4, e5, HF⟩ := HF
        refine ev_gS (f := 1200) cl_X11 (k := 0) (by decide) fi_X11_0 rfl fl_X11_9 dX11_side_24 hT e5 ?_
        refine ev_aload_n 0 dX11_side_27 rfl ?_
        refine ev_gI (f := 1208) cl_X11 (k := 8) (by decide) fi_X11_8 rfl fl_X11_60 dX11_side_28 hT ?_
        refine ev_iload_n 1 dX11_side_31 rfl ?_
        replace HF := bind_ck HF
        obtain ⟨c6, HF⟩ := HF
        refine ev_iast dX11_side_32 c6.1 c6.2 ?_
        replace HF := bd_n HF
        obtain ⟨h7, eh7, HF⟩ := HF
        refine ev_heap eh7 ?_
        have c8 : hK h7 t = 13 := by rw [eh7]; exact hT
        refine ev_aload_n 0 dX11_side_33 rfl ?_
        show EvG _ _ _ _ _ _ _ _ _ _ _ 34 _ _ _
        refine ev_dup dX11_side_34 rfl ?_
        refine ev_gI (f := 1208) cl_X11 (k := 8) (by decide) fi_X11_8 rfl fl_X11_60 dX11_side_35 c8 ?_
        refine ev_iconst (v := 1) dX11_side_38 (by decide) ?_
        refine ev_iadd dX11_side_39 ?_
        refine ev_pI (f := 1208) cl_X11 (k := 8) (by decide) fi_X11_8 rfl fl_X11_60 rfl rfl rfl dX11_side_40 c8 ?_
        replace HF := bd_n HF
        obtain ⟨h9, eh9, HF⟩ := HF
        refine ev_heap eh9 ?_
        have c10 : hK h9 t = 13 := by rw [eh9]; exact c8
        refine ev_aload_n 0 dX11_side_43 rfl ?_
        refine ev_iconst (v := 1) dX11_side_44 (by decide) ?_
        refine ev_pI (f := 1211) cl_X11 (k := 11) (by decide) fi_X11_11 rfl fl_X11_70 rfl rfl rfl dX11_side_45 c10 ?_
        replace HF := bd_n HF
        obtain ⟨h11, eh11, HF⟩ := HF
        refine ev_heap eh11 ?_
        have c12 : hK h11 t = 13 := by rw [eh11]; exact c10
        show EvG _ _ _ _ _ _ _ _ _ _ _ 48 _ _ _
        refine ev_aload_n 0 dX11_side_48 rfl ?_
        refine ev_gI (f := 1208) cl_X11 (k := 8) (by decide) fi_X11_8 rfl fl_X11_60 dX11_side_49 c12 ?_
        refine ev_iconst (v := 1) dX11_side_52 (by decide) ?_
        refine ev_isub dX11_side_53 ?_
        obtain rfl := Option.some.inj HF
        exact ev_iret dX11_side_54
      · replace HF := ite_F c3 HF
        refine ev_icmp_leF (tgt := 23) dX11_side_18 (by decide) c3 ?_
        refine ev_iconst (v := (-1)) dX11_side_21 (by decide) ?_
        obtain rfl := Option.some.inj HF
        exact ev_iret dX11_side_22

set_option maxRecDepth 20000 in
theorem lk_X11_hasSide {g : aG} {l : Launch} {d : Nat} (hdd : 0 ≤ d) {t : Nat} {x1 : Int32} {h : aH} {r : Int32 × aH} (hT : hK h t = 13) (HF : F_X11_hasSide t x1 h = some r) : MA g l yX11_hasSide cX11_hasSide 2 (some .boolean) d [.ref t, .int x1] h (some (.int r.1), r.2) := by
  refine MA.of (lv0 := [(0, .ref t), (1, .int x1)]) (by decide +kernel) (rfl) (Nat.le_of_ble_eq_true rfl) ?_
  unfold F_X11_hasSide at HF
  refine ev_iload_n 1 dX11_hasSide_0 rfl ?_
  by_cases c1 : x1 < 0
  · replace HF := ite_T c1 HF
    refine ev_if_ltT (tgt := 22) dX11_hasSide_1 (by decide) c1 ?_
    refine ev_iconst (v := 0) dX11_hasSide_22 (by decide) ?_
    obtain rfl := Option.some.inj HF
    exact ev_zret (v := 0) narrow_b0 dX11_hasSide_23
  · replace HF := ite_F c1 HF
    refine ev_if_ltF (tgt := 22) dX11_hasSide_1 (by decide) c1 ?_
    refine ev_iload_n 1 dX11_hasSide_4 rfl ?_
    refine ev_aload_n 0 dX11_hasSide_5 rfl ?_
    refine ev_gI (f := 1208) cl_X11 (k := 8) (by decide) fi_X11_8 rfl fl_X11_60 dX11_hasSide_6 hT ?_
    by_cases c2 : hF h 1208 t ≤ x1
    · replace HF := ite_T c2 HF
      refine ev_icmp_geT (tgt := 22) dX11_hasSide_9 (by decide) c2 ?_
      refine ev_iconst (v := 0) dX11_hasSide_22 (by decide) ?_
      obtain rfl := Option.some.inj HF
      exact ev_zret (v := 0) narrow_b0 dX11_hasSide_23
    · replace HF := ite_F c2 HF
      refine ev_icmp_geF (tgt := 22) dX11_hasSide_9 (by decide) c2 ?_
      refine ev_iload_n 1 dX11_hasSide_12 rfl ?_
      refine ev_bipush (v := 60) dX11_hasSide_13 (by decide) ?_
      by_cases c3 : 60 ≤ x1
      · replace HF := ite_T c3 HF
        refine ev_icmp_geT (tgt := 22) dX11_hasSide_15 (by decide) c3 ?_
        refine ev_iconst (v := 0) dX11_hasSide_22 (by decide) ?_
        obtain rfl := Option.some.inj HF
        exact ev_zret (v := 0) narrow_b0 dX11_hasSide_23
      · replace HF := ite_F c3 HF
        refine ev_icmp_geF (tgt := 22) dX11_hasSide_15 (by decide) c3 ?_
        refine ev_iconst (v := 1) dX11_hasSide_18 (by decide) ?_
        refine ev_goto (tgt := 23) dX11_hasSide_19 (by decide) ?_
        obtain rfl := Option.some.inj HF
        exact ev_zret (v := 1) narrow_b1 dX11_hasSide_23

set_option maxRecDepth 20000 in
theorem lk_X11_player {g : aG} {l : Launch} {d : Nat} (hdd : 1 ≤ d) {t : Nat} {x1 : Int32} {h : aH} {r : Int32 × aH} (hT : hK h t = 13) (HF : F_X11_player t x1 h = some r) : MA g l yX11_player cX11_player 2 (some .int) d [.ref t, .int x1] h (some (.int r.1), r.2) := by
  refine MA.of (lv0 := [(0, .ref t), (1, .int x1)]) (by decide +kernel) (rfl) (Nat.le_of_ble_eq_true rfl) ?_
  unfold F_X11_player at HF
  refine ev_aload_n 0 dX11_player_0 rfl ?_
  refine ev_iload_n 1 dX11_player_1 rfl ?_
  replace HF := bind_o HF
  obtain ⟨⟨z3, h2⟩, e1, HF⟩ := HF
  replace HF := bd_o (bd_o HF)
  dsimp only at HF
  refine ev_callV (As := [.int x1]) (R1 := (some (.int z3), h2)) (lk_X11_hasSide (d := 0) (Nat.le_refl _) hT e1) ce_X11_hasSide im_X11_hasSide sl_X11_hasSide ml_X11_74 cl_X11 hT dX11_player_2 (by omega) (Nat.le_of_ble_eq_true rfl) rfl rfl ?_
  show EvG _ _ _ _ _ _ _ _ _ _ _ 5 [(0, .ref t), (1, .int x1)] [.int z3] h2
  by_cases c5 : z3 = 0
  · replace HF := ite_T c5 HF
    refine ev_if_eqT (tgt := 19) dX11_player_5 (by decide) c5 ?_
    refine ev_iconst (v := (-1)) dX11_player_19 (by decide) ?_
    obtain rfl := Option.some.inj HF
    exact ev_iret dX11_player_20
  · replace HF := ite_F c5 HF
    refine ev_if_eqF (tgt := 19) dX11_player_5 (by decide) c5 ?_
    refine ev_aload_n 0 dX11_player_8 rfl ?_
    replace HF := bind_ck HF
    obtain ⟨c6, HF⟩ := HF
    replace HF := bind_o HF
    obtain ⟨b7, e8, HF⟩ := HF
    refine ev_gS (f := 1200) cl_X11 (k := 0) (by decide) fi_X11_0 rfl fl_X11_9 dX11_player_9 c6 e8 ?_
    refine ev_iload_n 1 dX11_player_12 rfl ?_
    replace HF := bind_ck HF
    obtain ⟨c9, HF⟩ := HF
    refine ev_iald dX11_player_13 c9.1 c9.2 ?_
    refine ev_bipush (v := 30) dX11_player_14 (by decide) ?_
    by_cases c10 : hI h2 b7 x1.toNatClampNeg < 30
    · replace HF := ite_T c10 HF
      refine ev_icmp_ltT (tgt := 21) dX11_player_16 (by decide) c10 ?_
      refine ev_aload_n 0 dX11_player_21 rfl ?_
      replace HF := bind_o HF
      obtain ⟨b11, e12, HF⟩ := HF
      refine ev_gS (f := 1200) cl_X11 (k := 0) (by decide) fi_X11_0 rfl fl_X11_9 dX11_player_22 c6 e12 ?_
      refine ev_iload_n 1 dX11_player_25 rfl ?_
      refine ev_dup2 dX11_player_26 rfl rfl ?_
      replace HF := bind_ck HF
      obtain ⟨c13, HF⟩ := HF
      refine ev_iald dX11_player_27 c13.1 c13.2 ?_
      refine ev_iconst (v := 1) dX11_player_28 (by decide) ?_
      refine ev_iadd dX11_player_29 ?_
      show EvG _ _ _ _ _ _ _ _ _ _ _ 30 _ _ _
      refine ev_iast dX11_player_30 c13.1 c13.2 ?_
      replace HF := bd_n HF
      obtain ⟨h14, eh14, HF⟩ := HF
      refine ev_heap eh14 ?_
      have c15 : hK h14 t = 13 := by rw [eh14]; exact c6
      refine ev_aload_n 0 dX11_player_31 rfl ?_
      refine ev_iconst (v := 1) dX11_player_32 (by decide) ?_
      refine ev_pI (f := 1211) cl_X11 (k := 11) (by decide) fi_X11_11 rfl fl_X11_70 rfl rfl rfl dX11_player_33 c15 ?_
      replace HF := bd_n HF
      obtain ⟨h16, eh16, HF⟩ := HF
      refine ev_heap eh16 ?_
      have c17 : hK h16 t = 13 := by rw [eh16]; exact c15
      refine ev_aload_n 0 dX11_player_36 rfl ?_
      replace HF := bind_o HF
      obtain ⟨b18, e19, HF⟩ := HF
      refine ev_gS (f := 1200) cl_X11 (k := 0) (by decide) fi_X11_0 rfl fl_X11_9 dX11_player_37 c17 e19 ?_
      refine ev_iload_n 1 dX11_player_40 rfl ?_
      replace HF := bind_ck HF
      obtain ⟨c20, HF⟩ := HF
      refine ev_iald dX11_player_41 c20.1 c20.2 ?_
      show EvG _ _ _ _ _ _ _ _ _ _ _ 42 _ _ _
      refine ev_iconst (v := 1) dX11_player_42 (by decide) ?_
      refine ev_isub dX11_player_43 ?_
      obtain rfl := Option.some.inj HF
      exact ev_iret dX11_player_44
    · replace HF := ite_F c10 HF
      refine ev_icmp_ltF (tgt := 21) dX11_player_16 (by decide) c10 ?_
      refine ev_iconst (v := (-1)) dX11_player_19 (by decide) ?_
      obtain rfl := Option.some.inj HF
      exact ev_iret dX11_player_20

set_option maxRecDepth 20000 in
theorem lk_X11_addGame {g : aG} {l : Launch} {d : Nat} (hdd : 7 ≤ d) {t : Nat} {a1 : Nat} {h : aH} {r : Int32 × aH} (hT : hK h t = 13) (HF : F_X11_addGame t a1 h = some r) : MA g l yX11_addGame cX11_addGame 2 (some .int) d [.ref t, .ref a1] h (some (.int r.1), r.2) := by
  refine MA.of (lv0 := [(0, .ref t), (1, .ref a1)]) (by decide +kernel) (rfl) (Nat.le_of_ble_eq_true rfl) ?_
  unfold F_X11_addGame at HF
  refine ev_aload_n 0 dX11_addGame_0 rfl ?_
  replace HF := bind_o HF
  obtain ⟨b1, e2, HF⟩ := HF
  refine ev_gS (f := 1201) cl_X11 (k := 1) (by decide) fi_X11_1 rfl fl_X11_16 dX11_addGame_1 hT e2 ?_
  refine ev_aload_n 1 dX11_addGame_4 rfl ?_
  replace HF := bind_ck HF
  obtain ⟨c3, HF⟩ := HF
  replace HF := bind_o HF
  obtain ⟨⟨z6, h5⟩, e4, HF⟩ := HF
  replace HF := bd_o (bd_o HF)
  dsimp only at HF
  refine ev_callV (As := [.ref a1]) (R1 := (some (.int z6), h5)) (lk_Jx4a65c_add_9ea2d (d := 6) (Nat.le_refl _) c3 e4) ce_Jx4a65c_add_9ea2d im_Jx4a65c_add_9ea2d sl_Jx4a65c_add_9ea2d ml_X11_319 cl_Jx4a65c c3 dX11_addGame_5 (by omega) (Nat.le_of_ble_eq_true rfl) rfl rfl ?_
  show EvG _ _ _ _ _ _ _ _ _ _ _ 8 [(0, .ref t), (1, .ref a1)] [.int z6] h5
  refine ev_pop dX11_addGame_8 (by first | rfl | exact va_cat _) ?_
  refine ev_aload_n 0 dX11_addGame_9 rfl ?_
  refine ev_iconst (v := 1) dX11_addGame_10 (by decide) ?_
  show EvG _ _ _ _ _ _ _ _ _ _ _ 11 _ _ _
  replace HF := bind_ck HF
  obtain ⟨c8, HF⟩ := HF
  refine ev_pI (f := 1211) cl_X11 (k := 11) (by decide) fi_X11_11 rfl fl_X11_70 rfl rfl rfl dX11_addGame_11 c8 ?_
  replace HF := bd_n HF
  obtain ⟨h9, eh9, HF⟩ := HF
  refine ev_heap eh9 ?_
  have c10 : hK h9 t = 13 := by rw [eh9]; exact c8
  refine ev_aload_n 0 dX11_addGame_14 rfl ?_
  replace HF := bind_o HF
  obtain ⟨b11, e12, HF⟩ := HF
  refine ev_gS (f := 1201) cl_X11 (k := 1) (by decide) fi_X11_1 rfl fl_X11_16 dX11_addGame_15 c10 e12 ?_
  replace HF := bind_ck HF
  obtain ⟨c13, HF⟩ := HF
  replace HF := bind_o HF
  obtain ⟨⟨z16, h15⟩, e14, HF⟩ := HF
  replace HF := bd_o (bd_o HF)
  dsimp only at HF
  refine ev_callV (As := []) (R1 := (some (.int z16), h15)) (lk_Jx4a65c_size_8abf5 (d := 0) (Nat.le_refl _) c13 e14) ce_Jx4a65c_size_8abf5 im_Jx4a65c_size_8abf5 sl_Jx4a65c_size_8abf5 ml_X11_78 cl_Jx4a65c c13 dX11_addGame_18 (by omega) (Nat.le_of_ble_eq_true rfl) rfl rfl ?_
  show EvG _ _ _ _ _ _ _ _ _ _ _ 21 [(0, .ref t), (1, .ref a1)] [.int z16] h15
  refine ev_iconst (v := 1) dX11_addGame_21 (by decide) ?_
  refine ev_isub dX11_addGame_22 ?_
  obtain rfl := Option.some.inj HF
  exact ev_iret dX11_addGame_23

set_option maxRecDepth 20000 in
theorem lk_X11_toss {g : aG} {l : Launch} {d : Nat} (hdd : 8 ≤ d) {t : Nat} {x1 : Int32} {x2 : Int32} {x3 : Int32} {x4 : Int32} {h : aH} {r : Int32 × aH} (hT : hK h t = 13) (HF : F_X11_toss t x1 x2 x3 x4 h = some r) : MA g l yX11_toss cX11_toss 5 (some .int) d [.ref t, .int x1, .int x2, .int x3, .int x4] h (some (.int r.1), r.2) := by
  refine MA.of (lv0 := [(0, .ref t), (1, .int x1), (2, .int x2), (3, .int x3), (4, .int x4)]) (by decide +kernel) (rfl) (Nat.le_of_ble_eq_true rfl) ?_
  unfold F_X11_toss at HF
  refine ev_aload_n 0 dX11_toss_0 rfl ?_
  replace HF := bind_o HF
  obtain ⟨b1, e2, HF⟩ := HF
  refine ev_gS (f := 1201) cl_X11 (k := 1) (by decide) fi_X11_1 rfl fl_X11_16 dX11_toss_1 hT e2 ?_
  replace HF := bind_ck HF
  obtain ⟨c3, HF⟩ := HF
  replace HF := bind_o HF
  obtain ⟨⟨z6, h5⟩, e4, HF⟩ := HF
  replace HF := bd_o (bd_o HF)
  dsimp only at HF
  refine ev_callV (As := []) (R1 := (some (.int z6), h5)) (lk_Jx4a65c_size_8abf5 (d := 0) (Nat.le_refl _) c3 e4) ce_Jx4a65c_size_8abf5 im_Jx4a65c_size_8abf5 sl_Jx4a65c_size_8abf5 ml_X11_78 cl_Jx4a65c c3 dX11_toss_4 (by omega) (Nat.le_of_ble_eq_true rfl) rfl rfl ?_
  show EvG _ _ _ _ _ _ _ _ _ _ _ 7 [(0, .ref t), (1, .int x1), (2, .int x2), (3, .int x3), (4, .int x4)] [.int z6] h5
  refine ev_sipush (v := 400) dX11_toss_7 (by decide) ?_
  by_cases c8 : 400 ≤ z6
  · replace HF := ite_T c8 HF
    refine ev_icmp_geT (tgt := 34) dX11_toss_10 (by decide) c8 ?_
    refine ev_iconst (v := (-1)) dX11_toss_34 (by decide) ?_
    obtain rfl := Option.some.inj HF
    exact ev_iret dX11_toss_35
  · replace HF := ite_F c8 HF
    refine ev_icmp_geF (tgt := 34) dX11_toss_10 (by decide) c8 ?_
    refine ev_aload_n 0 dX11_toss_13 rfl ?_
    refine ev_iload_n 1 dX11_toss_14 rfl ?_
    replace HF := bind_ck HF
    obtain ⟨c9, HF⟩ := HF
    replace HF := bind_o HF
    obtain ⟨⟨z12, h11⟩, e10, HF⟩ := HF
    replace HF := bd_o (bd_o HF)
    dsimp only at HF
    refine ev_callV (As := [.int x1]) (R1 := (some (.int z12), h11)) (lk_X11_hasSide (d := 0) (Nat.le_refl _) c9 e10) ce_X11_hasSide im_X11_hasSide sl_X11_hasSide ml_X11_74 cl_X11 c9 dX11_toss_15 (by omega) (Nat.le_of_ble_eq_true rfl) rfl rfl ?_
    show EvG _ _ _ _ _ _ _ _ _ _ _ 18 [(0, .ref t), (1, .int x1), (2, .int x2), (3, .int x3), (4, .int x4)] [.int z12] h11
    by_cases c14 : z12 = 0
    · replace HF := ite_T c14 HF
      refine ev_if_eqT (tgt := 34) dX11_toss_18 (by decide) c14 ?_
      refine ev_iconst (v := (-1)) dX11_toss_34 (by decide) ?_
      obtain rfl := Option.some.inj HF
      exact ev_iret dX11_toss_35
    · replace HF := ite_F c14 HF
      refine ev_if_eqF (tgt := 34) dX11_toss_18 (by decide) c14 ?_
      refine ev_aload_n 0 dX11_toss_21 rfl ?_
      refine ev_iload_n 2 dX11_toss_22 rfl ?_
      replace HF := bind_ck HF
      obtain ⟨c15, HF⟩ := HF
      replace HF := bind_o HF
      obtain ⟨⟨z18, h17⟩, e16, HF⟩ := HF
      replace HF := bd_o (bd_o HF)
      dsimp only at HF
      refine ev_callV (As := [.int x2]) (R1 := (some (.int z18), h17)) (lk_X11_hasSide (d := 0) (Nat.le_refl _) c15 e16) ce_X11_hasSide im_X11_hasSide sl_X11_hasSide ml_X11_74 cl_X11 c15 dX11_toss_23 (by omega) (Nat.le_of_ble_eq_true rfl) rfl rfl ?_
      show EvG _ _ _ _ _ _ _ _ _ _ _ 26 [(0, .ref t), (1, .int x1), (2, .int x2), (3, .int x3), (4, .int x4)] [.int z18] h17
      by_cases c20 : z18 = 0
      · replace HF := ite_T c20 HF
        refine ev_if_eqT (tgt := 34) dX11_toss_26 (by decide) c20 ?_
        refine ev_iconst (v := (-1)) dX11_toss_34 (by decide) ?_
        obtain rfl := Option.some.inj HF
        exact ev_iret dX11_toss_35
      · replace HF := ite_F c20 HF
        refine ev_if_eqF (tgt := 34) dX11_toss_26 (by decide) c20 ?_
        refine ev_iload_n 1 dX11_toss_29 rfl ?_
        refine ev_iload_n 2 dX11_toss_30 rfl ?_
        by_cases c21 : x1 = x2
        · replace HF := ite_T c21 HF
          refine ev_icmp_neF (tgt := 36) dX11_toss_31 (by decide) c21 ?_
          refine ev_iconst (v := (-1)) dX11_toss_34 (by decide) ?_
          obtain rfl := Option.some.inj HF
          exact ev_iret dX11_toss_35
        · replace HF := ite_F c21 HF
          refine ev_icmp_neT (tgt := 36) dX11_toss_31 (by decide) c21 ?_
          refine ev_iload_n 3 dX11_toss_36 rfl ?_
          refine ev_iconst (v := 1) dX11_toss_37 (by decide) ?_
          by_cases c22 : x3 < 1
          · replace HF := ite_T c22 HF
            refine ev_icmp_ltT (tgt := 59) dX11_toss_38 (by decide) c22 ?_
            refine ev_iconst (v := (-1)) dX11_toss_59 (by decide) ?_
            obtain rfl := Option.some.inj HF
            exact ev_iret dX11_toss_60
          · replace HF := ite_F c22 HF
            refine ev_icmp_ltF (tgt := 59) dX11_toss_38 (by decide) c22 ?_
            refine ev_iload_n 3 dX11_toss_41 rfl ?_
            refine ev_bipush (v := 120) dX11_toss_42 (by decide) ?_
            by_cases c23 : 120 < x3
            · replace HF := ite_T c23 HF
              refine ev_icmp_gtT (tgt := 59) dX11_toss_44 (by decide) c23 ?_
              refine ev_iconst (v := (-1)) dX11_toss_59 (by decide) ?_
              obtain rfl := Option.some.inj HF
              exact ev_iret dX11_toss_60
            · replace HF := ite_F c23 HF
              refine ev_icmp_gtF (tgt := 59) dX11_toss_44 (by decide) c23 ?_
              refine ev_iload 4 dX11_toss_47 rfl ?_
              refine ev_iconst (v := 1) dX11_toss_49 (by decide) ?_
              by_cases c24 : x4 < 1
              · replace HF := ite_T c24 HF
                refine ev_icmp_ltT (tgt := 59) dX11_toss_50 (by decide) c24 ?_
                refine ev_iconst (v := (-1)) dX11_toss_59 (by decide) ?_
                obtain rfl := Option.some.inj HF
                exact ev_iret dX11_toss_60
              · replace HF := ite_F c24 HF
                refine ev_icmp_ltF (tgt := 59) dX11_toss_50 (by decide) c24 ?_
                refine ev_iload 4 dX11_toss_53 rfl ?_
                refine ev_iconst (v := 2) dX11_toss_55 (by decide) ?_
                by_cases c25 : x4 ≤ 2
                · replace HF := ite_T c25 HF
                  refine ev_icmp_leT (tgt := 61) dX11_toss_56 (by decide) c25 ?_
                  refine ev_aload_n 0 dX11_toss_61 rfl ?_
                  refine ev_new cl_X3 kl_X11_82 ins_X3 ini_X3 df_X3 dX11_toss_62 ?_
                  replace HF := bd_n HF
                  obtain ⟨b26, eb26, HF⟩ := HF
                  refine ev_topR eb26 ?_
                  replace HF := bd_n HF
                  obtain ⟨h27, eh27, HF⟩ := HF
                  refine ev_heap eh27 ?_
                  refine ev_dup dX11_toss_65 rfl ?_
                  refine ev_iload_n 1 dX11_toss_66 rfl ?_
                  refine ev_iload_n 2 dX11_toss_67 rfl ?_
                  refine ev_iload_n 3 dX11_toss_68 rfl ?_
                  refine ev_iload 4 dX11_toss_69 rfl ?_
                  show EvG _ _ _ _ _ _ _ _ _ _ _ 71 _ _ _
                  replace HF := bind_ck HF
                  obtain ⟨c28, HF⟩ := HF
                  replace HF := bind_o HF
                  obtain ⟨h30, e29, HF⟩ := HF
                  refine ev_callI (As := [.int x1, .int x2, .int x3, .int x4]) (R1 := (none, h30)) (lk_X3_init (d := 4) (Nat.le_refl _) c28 e29) ce_X3_init rfl im_X3_init ml_X11_84 dX11_toss_71 (by omega) (Nat.le_of_ble_eq_true rfl) rfl rfl ?_
                  show EvG _ _ _ _ _ _ _ _ _ _ _ 74 [(0, .ref t), (1, .int x1), (2, .int x2), (3, .int x3), (4, .int x4)] [.ref b26, .ref t] h30
                  replace HF := bind_ck HF
                  obtain ⟨c32, HF⟩ := HF
                  replace HF := bind_o HF
                  obtain ⟨⟨z35, h34⟩, e33, HF⟩ := HF
                  replace HF := bd_o (bd_o HF)
                  dsimp only at HF
                  refine ev_callV (As := [.ref b26]) (R1 := (some (.int z35), h34)) (lk_X11_addGame (d := 7) (Nat.le_refl _) c32 e33) ce_X11_addGame im_X11_addGame sl_X11_addGame ml_X11_87 cl_X11 c32 dX11_toss_74 (by omega) (Nat.le_of_ble_eq_true rfl) rfl rfl ?_
                  show EvG _ _ _ _ _ _ _ _ _ _ _ 77 [(0, .ref t), (1, .int x1), (2, .int x2), (3, .int x3), (4, .int x4)] [.int z35] h34
                  obtain rfl := Option.some.inj HF
                  exact ev_iret dX11_toss_77
                · replace HF := ite_F c25 HF
                  refine ev_icmp_leF (tgt := 61) dX11_toss_56 (by decide) c25 ?_
                  refine ev_iconst (v := (-1)) dX11_toss_59 (by decide) ?_
                  obtain rfl := Option.some.inj HF
                  exact ev_iret dX11_toss_60

set_option maxRecDepth 20000 in
theorem lk_X11_gameAt {g : aG} {l : Launch} {d : Nat} (hdd : 3 ≤ d) {t : Nat} {x1 : Int32} {h : aH} {r : Option Nat × aH} (hT : hK h t = 13) (HF : F_X11_gameAt t x1 h = some r) : MA g l yX11_gameAt cX11_gameAt 2 (some (.object "BallBook$Game")) d [.ref t, .int x1] h (some (va_rf r.1), r.2) := by
  refine MA.of (lv0 := [(0, .ref t), (1, .int x1)]) (by decide +kernel) (rfl) (Nat.le_of_ble_eq_true rfl) ?_
  unfold F_X11_gameAt at HF
  refine ev_iload_n 1 dX11_gameAt_0 rfl ?_
  by_cases c1 : x1 < 0
  · replace HF := ite_T c1 HF
    refine ev_if_ltT (tgt := 29) dX11_gameAt_1 (by decide) c1 ?_
    refine ev_null dX11_gameAt_29 ?_
    obtain rfl := Option.some.inj HF
    exact ev_aret (r := none) (Or.inl ⟨_, rfl⟩) dX11_gameAt_30
  · replace HF := ite_F c1 HF
    refine ev_if_ltF (tgt := 29) dX11_gameAt_1 (by decide) c1 ?_
    refine ev_iload_n 1 dX11_gameAt_4 rfl ?_
    refine ev_aload_n 0 dX11_gameAt_5 rfl ?_
    replace HF := bind_o HF
    obtain ⟨b2, e3, HF⟩ := HF
    refine ev_gS (f := 1201) cl_X11 (k := 1) (by decide) fi_X11_1 rfl fl_X11_16 dX11_gameAt_6 hT e3 ?_
    replace HF := bind_ck HF
    obtain ⟨c4, HF⟩ := HF
    replace HF := bind_o HF
    obtain ⟨⟨z7, h6⟩, e5, HF⟩ := HF
    replace HF := bd_o (bd_o HF)
    dsimp only at HF
    refine ev_callV (As := []) (R1 := (some (.int z7), h6)) (lk_Jx4a65c_size_8abf5 (d := 0) (Nat.le_refl _) c4 e5) ce_Jx4a65c_size_8abf5 im_Jx4a65c_size_8abf5 sl_Jx4a65c_size_8abf5 ml_X11_78 cl_Jx4a65c c4 dX11_gameAt_9 (by omega) (Nat.le_of_ble_eq_true rfl) rfl rfl ?_
    show EvG _ _ _ _ _ _ _ _ _ _ _ 12 [(0, .ref t), (1, .int x1)] [.int z7, .int x1] h6
    by_cases c9 : z7 ≤ x1
    · replace HF := ite_T c9 HF
      refine ev_icmp_geT (tgt := 29) dX11_gameAt_12 (by decide) c9 ?_
      refine ev_null dX11_gameAt_29 ?_
      obtain rfl := Option.some.inj HF
      exact ev_aret (r := none) (Or.inl ⟨_, rfl⟩) dX11_gameAt_30
    · replace HF := ite_F c9 HF
      refine ev_icmp_geF (tgt := 29) dX11_gameAt_12 (by decide) c9 ?_
      refine ev_aload_n 0 dX11_gameAt_15 rfl ?_
      replace HF := bind_ck HF
      obtain ⟨c10, HF⟩ := HF
      replace HF := bind_o HF
      obtain ⟨b11, e12, HF⟩ := HF
      refine ev_gS (f := 1201) cl_X11 (k := 1) (by decide) fi_X11_1 rfl fl_X11_16 dX11_gameAt_16 c10 e12 ?_
      refine ev_iload_n 1 dX11_gameAt_19 rfl ?_
      replace HF := bind_ck HF
      obtain ⟨c13, HF⟩ := HF
      replace HF := bind_o HF
      obtain ⟨⟨o16, h15⟩, e14, HF⟩ := HF
      replace HF := bd_o (bd_o HF)
      dsimp only at HF
      refine ev_callV (As := [.int x1]) (R1 := (some (va_rf o16), h15)) (lk_Jx4a65c_get_915e3 (d := 2) (Nat.le_refl _) c13 e14) ce_Jx4a65c_get_915e3 im_Jx4a65c_get_915e3 sl_Jx4a65c_get_915e3 ml_X11_315 cl_Jx4a65c c13 dX11_gameAt_20 (by omega) (Nat.le_of_ble_eq_true rfl) rfl rfl ?_
      show EvG _ _ _ _ _ _ _ _ _ _ _ 23 [(0, .ref t), (1, .int x1)] [va_rf o16] h15
      replace HF := bind_o HF
      obtain ⟨b18, e19, HF⟩ := HF
      subst e19
      replace HF := bind_ck HF
      obtain ⟨c20, HF⟩ := HF
      refine ev_cast cl_X3 c20 kl_X11_82 ca_X3 dX11_gameAt_23 ?_
      refine ev_goto (tgt := 30) dX11_gameAt_26 (by decide) ?_
      obtain rfl := Option.some.inj HF
      exact ev_aret (r := some b18) (Or.inl ⟨_, rfl⟩) dX11_gameAt_30

set_option maxRecDepth 20000 in
theorem lk_X11_playersOf {g : aG} {l : Launch} {d : Nat} (hdd : 1 ≤ d) {t : Nat} {x1 : Int32} {h : aH} {r : Int32 × aH} (hT : hK h t = 13) (HF : F_X11_playersOf t x1 h = some r) : MA g l yX11_playersOf cX11_playersOf 2 (some .int) d [.ref t, .int x1] h (some (.int r.1), r.2) := by
  refine MA.of (lv0 := [(0, .ref t), (1, .int x1)]) (by decide +kernel) (rfl) (Nat.le_of_ble_eq_true rfl) ?_
  unfold F_X11_playersOf at HF
  refine ev_aload_n 0 dX11_playersOf_0 rfl ?_
  refine ev_iload_n 1 dX11_playersOf_1 rfl ?_
  replace HF := bind_o HF
  obtain ⟨⟨z3, h2⟩, e1, HF⟩ := HF
  replace HF := bd_o (bd_o HF)
  dsimp only at HF
  refine ev_callV (As := [.int x1]) (R1 := (some (.int z3), h2)) (lk_X11_hasSide (d := 0) (Nat.le_refl _) hT e1) ce_X11_hasSide im_X11_hasSide sl_X11_hasSide ml_X11_74 cl_X11 hT dX11_playersOf_2 (by omega) (Nat.le_of_ble_eq_true rfl) rfl rfl ?_
  show EvG _ _ _ _ _ _ _ _ _ _ _ 5 [(0, .ref t), (1, .int x1)] [.int z3] h2
  by_cases c5 : z3 = 0
  · replace HF := ite_T c5 HF
    refine ev_if_eqT (tgt := 17) dX11_playersOf_5 (by decide) c5 ?_
    refine ev_iconst (v := 0) dX11_playersOf_17 (by decide) ?_
    obtain rfl := Option.some.inj HF
    exact ev_iret dX11_playersOf_18
  · replace HF := ite_F c5 HF
    refine ev_if_eqF (tgt := 17) dX11_playersOf_5 (by decide) c5 ?_
    refine ev_aload_n 0 dX11_playersOf_8 rfl ?_
    replace HF := bind_ck HF
    obtain ⟨c6, HF⟩ := HF
    replace HF := bind_o HF
    obtain ⟨b7, e8, HF⟩ := HF
    refine ev_gS (f := 1200) cl_X11 (k := 0) (by decide) fi_X11_0 rfl fl_X11_9 dX11_playersOf_9 c6 e8 ?_
    refine ev_iload_n 1 dX11_playersOf_12 rfl ?_
    replace HF := bind_ck HF
    obtain ⟨c9, HF⟩ := HF
    refine ev_iald dX11_playersOf_13 c9.1 c9.2 ?_
    refine ev_goto (tgt := 18) dX11_playersOf_14 (by decide) ?_
    obtain rfl := Option.some.inj HF
    exact ev_iret dX11_playersOf_18

set_option maxRecDepth 20000 in
theorem lk_X11_forgetPlay {g : aG} {l : Launch} {d : Nat} (hdd : 0 ≤ d) {t : Nat} {h : aH} {r : aH} (hT : hK h t = 13) (HF : F_X11_forgetPlay t h = some r) : MA g l yX11_forgetPlay cX11_forgetPlay 1 (none) d [.ref t] h (none, r) := by
  refine MA.of (lv0 := [(0, .ref t)]) (by decide +kernel) (rfl) (Nat.le_of_ble_eq_true rfl) ?_
  unfold F_X11_forgetPlay at HF
  refine ev_aload_n 0 dX11_forgetPlay_0 rfl ?_
  refine ev_iconst (v := (-1)) dX11_forgetPlay_1 (by decide) ?_
  refine ev_pI (f := 1210) cl_X11 (k := 10) (by decide) fi_X11_10 rfl fl_X11_67 rfl rfl rfl dX11_forgetPlay_2 hT ?_
  replace HF := bd_n HF
  obtain ⟨h1, eh1, HF⟩ := HF
  refine ev_heap eh1 ?_
  have c2 : hK h1 t = 13 := by rw [eh1]; exact hT
  refine ev_aload_n 0 dX11_forgetPlay_5 rfl ?_
  refine ev_iconst (v := 1) dX11_forgetPlay_6 (by decide) ?_
  refine ev_pI (f := 1211) cl_X11 (k := 11) (by decide) fi_X11_11 rfl fl_X11_70 rfl rfl rfl dX11_forgetPlay_7 c2 ?_
  replace HF := bd_n HF
  obtain ⟨h3, eh3, HF⟩ := HF
  refine ev_heap eh3 ?_
  have c4 : hK h3 t = 13 := by rw [eh3]; exact c2
  obtain rfl := Option.some.inj HF
  exact ev_vret dX11_forgetPlay_10

set_option maxRecDepth 20000 in
theorem lk_X11_seat {g : aG} {l : Launch} {d : Nat} (hdd : 4 ≤ d) {t : Nat} {x1 : Int32} {x2 : Int32} {x3 : Int32} {x4 : Int32} {h : aH} {r : Int32 × aH} (hT : hK h t = 13) (HF : F_X11_seat t x1 x2 x3 x4 h = some r) : MA g l yX11_seat cX11_seat 6 (some .boolean) d [.ref t, .int x1, .int x2, .int x3, .int x4] h (some (.int r.1), r.2) := by
  refine MA.of (lv0 := [(0, .ref t), (1, .int x1), (2, .int x2), (3, .int x3), (4, .int x4)]) (by decide +kernel) (rfl) (Nat.le_of_ble_eq_true rfl) ?_
  unfold F_X11_seat at HF
  refine ev_aload_n 0 dX11_seat_0 rfl ?_
  refine ev_iload_n 1 dX11_seat_1 rfl ?_
  replace HF := bind_o HF
  obtain ⟨⟨o3, h2⟩, e1, HF⟩ := HF
  replace HF := bd_o (bd_o HF)
  dsimp only at HF
  refine ev_callV (As := [.int x1]) (R1 := (some (va_rf o3), h2)) (lk_X11_gameAt (d := 3) (Nat.le_refl _) hT e1) ce_X11_gameAt im_X11_gameAt sl_X11_gameAt ml_X11_91 cl_X11 hT dX11_seat_2 (by omega) (Nat.le_of_ble_eq_true rfl) rfl rfl ?_
  show EvG _ _ _ _ _ _ _ _ _ _ _ 5 [(0, .ref t), (1, .int x1), (2, .int x2), (3, .int x3), (4, .int x4)] [va_rf o3] h2
  refine ev_astorer (lv' := [(5, va_rf o3), (0, .ref t), (1, .int x1), (2, .int x2), (3, .int x3), (4, .int x4)]) dX11_seat_5 (by decide) (rfl) ?_
  refine ev_aloadr 0 dX11_seat_7 rfl ?_
  cases o3 with
  | none =>
    refine ev_ifnullN (tgt := 31) dX11_seat_9 (by decide) ?_
    refine ev_iconst (v := 0) dX11_seat_31 (by decide) ?_
    obtain rfl := Option.some.inj HF
    exact ev_zret (v := 0) narrow_b0 dX11_seat_32
  | some b5 =>
    refine ev_ifnullS dX11_seat_9 ?_
    refine ev_iload_n 3 dX11_seat_12 rfl ?_
    by_cases c6 : x2 < 0
    · replace HF := ite_T c6 HF
      refine ev_if_ltT (tgt := 31) dX11_seat_13 (by decide) c6 ?_
      refine ev_iconst (v := 0) dX11_seat_31 (by decide) ?_
      obtain rfl := Option.some.inj HF
      exact ev_zret (v := 0) narrow_b0 dX11_seat_32
    · replace HF := ite_F c6 HF
      refine ev_if_ltF (tgt := 31) dX11_seat_13 (by decide) c6 ?_
      refine ev_iload_n 3 dX11_seat_16 rfl ?_
      refine ev_iconst (v := 1) dX11_seat_17 (by decide) ?_
      by_cases c7 : 1 < x2
      · replace HF := ite_T c7 HF
        refine ev_icmp_gtT (tgt := 31) dX11_seat_18 (by decide) c7 ?_
        refine ev_iconst (v := 0) dX11_seat_31 (by decide) ?_
        obtain rfl := Option.some.inj HF
        exact ev_zret (v := 0) narrow_b0 dX11_seat_32
      · replace HF := ite_F c7 HF
        refine ev_icmp_gtF (tgt := 31) dX11_seat_18 (by decide) c7 ?_
        refine ev_iload_n 4 dX11_seat_21 rfl ?_
        by_cases c8 : x3 < 0
        · replace HF := ite_T c8 HF
          refine ev_if_ltT (tgt := 31) dX11_seat_22 (by decide) c8 ?_
          refine ev_iconst (v := 0) dX11_seat_31 (by decide) ?_
          obtain rfl := Option.some.inj HF
          exact ev_zret (v := 0) narrow_b0 dX11_seat_32
        · replace HF := ite_F c8 HF
          refine ev_if_ltF (tgt := 31) dX11_seat_22 (by decide) c8 ?_
          refine ev_iload_n 4 dX11_seat_25 rfl ?_
          refine ev_bipush (v := 11) dX11_seat_26 (by decide) ?_
          by_cases c9 : x3 < 11
          · replace HF := ite_T c9 HF
            refine ev_icmp_ltT (tgt := 33) dX11_seat_28 (by decide) c9 ?_
            refine ev_iload 5 dX11_seat_33 rfl ?_
            by_cases c10 : x4 < 0
            · replace HF := ite_T c10 HF
              refine ev_if_ltT (tgt := 61) dX11_seat_35 (by decide) c10 ?_
              refine ev_iconst (v := 0) dX11_seat_61 (by decide) ?_
              obtain rfl := Option.some.inj HF
              exact ev_zret (v := 0) narrow_b0 dX11_seat_62
            · replace HF := ite_F c10 HF
              refine ev_if_ltF (tgt := 61) dX11_seat_35 (by decide) c10 ?_
              refine ev_iload 5 dX11_seat_38 rfl ?_
              refine ev_aload_n 1 dX11_seat_40 rfl ?_
              refine ev_aload 0 dX11_seat_41 rfl ?_
              refine ev_iload_n 3 dX11_seat_43 rfl ?_
              replace HF := bind_ck HF
              obtain ⟨c11, HF⟩ := HF
              replace HF := bind_o HF
              obtain ⟨⟨z14, h13⟩, e12, HF⟩ := HF
              replace HF := bd_o (bd_o HF)
              dsimp only at HF
              refine ev_callV (As := [.int x2]) (R1 := (some (.int z14), h13)) (lk_X3_sideAt (d := 0) (Nat.le_refl _) c11 e12) ce_X3_sideAt im_X3_sideAt sl_X3_sideAt ml_X11_95 cl_X3 c11 dX11_seat_44 (by omega) (Nat.le_of_ble_eq_true rfl) rfl rfl ?_
              show EvG _ _ _ _ _ _ _ _ _ _ _ 47 [(5, .ref b5), (0, .ref t), (1, .int x1), (2, .int x2), (3, .int x3), (4, .int x4)] [.int z14, .ref t, .int x4] h13
              replace HF := bind_ck HF
              obtain ⟨c16, HF⟩ := HF
              replace HF := bind_o HF
              obtain ⟨⟨z19, h18⟩, e17, HF⟩ := HF
              replace HF := bd_o (bd_o HF)
              dsimp only at HF
              refine ev_callV (As := [.int z14]) (R1 := (some (.int z19), h18)) (lk_X11_playersOf (d := 1) (Nat.le_refl _) c16 e17) ce_X11_playersOf im_X11_playersOf sl_X11_playersOf ml_X11_99 cl_X11 c16 dX11_seat_47 (by omega) (Nat.le_of_ble_eq_true rfl) rfl rfl ?_
              show EvG _ _ _ _ _ _ _ _ _ _ _ 50 [(5, .ref b5), (0, .ref t), (1, .int x1), (2, .int x2), (3, .int x3), (4, .int x4)] [.int z19, .int x4] h18
              by_cases c21 : z19 ≤ x4
              · replace HF := ite_T c21 HF
                refine ev_icmp_geT (tgt := 61) dX11_seat_50 (by decide) c21 ?_
                refine ev_iconst (v := 0) dX11_seat_61 (by decide) ?_
                obtain rfl := Option.some.inj HF
                exact ev_zret (v := 0) narrow_b0 dX11_seat_62
              · replace HF := ite_F c21 HF
                refine ev_icmp_geF (tgt := 61) dX11_seat_50 (by decide) c21 ?_
                refine ev_aload 0 dX11_seat_53 rfl ?_
                replace HF := bind_ck HF
                obtain ⟨c22, HF⟩ := HF
                replace HF := bind_o HF
                obtain ⟨⟨z25, h24⟩, e23, HF⟩ := HF
                replace HF := bd_o (bd_o HF)
                dsimp only at HF
                refine ev_callV (As := []) (R1 := (some (.int z25), h24)) (lk_X3_turnCount (d := 1) (Nat.le_refl _) c22 e23) ce_X3_turnCount im_X3_turnCount sl_X3_turnCount ml_X11_102 cl_X3 c22 dX11_seat_55 (by omega) (Nat.le_of_ble_eq_true rfl) rfl rfl ?_
                show EvG _ _ _ _ _ _ _ _ _ _ _ 58 [(5, .ref b5), (0, .ref t), (1, .int x1), (2, .int x2), (3, .int x3), (4, .int x4)] [.int z25] h24
                by_cases c27 : z25 ≤ 0
                · replace HF := ite_T c27 HF
                  refine ev_if_leT (tgt := 63) dX11_seat_58 (by decide) c27 ?_
                  refine ev_aload 0 dX11_seat_63 rfl ?_
                  refine ev_iload_n 3 dX11_seat_65 rfl ?_
                  refine ev_iload_n 4 dX11_seat_66 rfl ?_
                  refine ev_iload 5 dX11_seat_67 rfl ?_
                  replace HF := bind_ck HF
                  obtain ⟨c28, HF⟩ := HF
                  replace HF := bind_o HF
                  obtain ⟨h30, e29, HF⟩ := HF
                  refine ev_callV (As := [.int x2, .int x3, .int x4]) (R1 := (none, h30)) (lk_X3_giveSeat (d := 2) (Nat.le_refl _) c28 e29) ce_X3_giveSeat im_X3_giveSeat sl_X3_giveSeat ml_X11_105 cl_X3 c28 dX11_seat_69 (by omega) (Nat.le_of_ble_eq_true rfl) rfl rfl ?_
                  show EvG _ _ _ _ _ _ _ _ _ _ _ 72 [(5, .ref b5), (0, .ref t), (1, .int x1), (2, .int x2), (3, .int x3), (4, .int x4)] [] h30
                  refine ev_aload_n 1 dX11_seat_72 rfl ?_
                  replace HF := bind_ck HF
                  obtain ⟨c32, HF⟩ := HF
                  replace HF := bind_o HF
                  obtain ⟨h34, e33, HF⟩ := HF
                  refine ev_callV (As := []) (R1 := (none, h34)) (lk_X11_forgetPlay (d := 0) (Nat.le_refl _) c32 e33) ce_X11_forgetPlay im_X11_forgetPlay sl_X11_forgetPlay ml_X11_109 cl_X11 c32 dX11_seat_73 (by omega) (Nat.le_of_ble_eq_true rfl) rfl rfl ?_
                  show EvG _ _ _ _ _ _ _ _ _ _ _ 76 [(5, .ref b5), (0, .ref t), (1, .int x1), (2, .int x2), (3, .int x3), (4, .int x4)] [] h34
                  show EvG _ _ _ _ _ _ _ _ _ _ _ 76 _ _ _
                  refine ev_iconst (v := 1) dX11_seat_76 (by decide) ?_
                  obtain rfl := Option.some.inj HF
                  exact ev_zret (v := 1) narrow_b1 dX11_seat_77
                · replace HF := ite_F c27 HF
                  refine ev_if_leF (tgt := 63) dX11_seat_58 (by decide) c27 ?_
                  refine ev_iconst (v := 0) dX11_seat_61 (by decide) ?_
                  obtain rfl := Option.some.inj HF
                  exact ev_zret (v := 0) narrow_b0 dX11_seat_62
          · replace HF := ite_F c9 HF
            refine ev_icmp_ltF (tgt := 33) dX11_seat_28 (by decide) c9 ?_
            refine ev_iconst (v := 0) dX11_seat_31 (by decide) ?_
            obtain rfl := Option.some.inj HF
            exact ev_zret (v := 0) narrow_b0 dX11_seat_32

set_option maxRecDepth 20000 in
theorem lk_X11_refused {g : aG} {l : Launch} {d : Nat} (hdd : 0 ≤ d) {t : Nat} {x1 : Int32} {h : aH} {r : Int32 × aH} (hT : hK h t = 13) (HF : F_X11_refused t x1 h = some r) : MA g l yX11_refused cX11_refused 2 (some .boolean) d [.ref t, .int x1] h (some (.int r.1), r.2) := by
  refine MA.of (lv0 := [(0, .ref t), (1, .int x1)]) (by decide +kernel) (rfl) (Nat.le_of_ble_eq_true rfl) ?_
  unfold F_X11_refused at HF
  refine ev_aload_n 0 dX11_refused_0 rfl ?_
  refine ev_iload_n 1 dX11_refused_1 rfl ?_
  refine ev_pI (f := 1209) cl_X11 (k := 9) (by decide) fi_X11_9 rfl fl_X11_64 rfl rfl rfl dX11_refused_2 hT ?_
  replace HF := bd_n HF
  obtain ⟨h1, eh1, HF⟩ := HF
  refine ev_heap eh1 ?_
  have c2 : hK h1 t = 13 := by rw [eh1]; exact hT
  refine ev_iconst (v := 0) dX11_refused_5 (by decide) ?_
  obtain rfl := Option.some.inj HF
  exact ev_zret (v := 0) narrow_b0 dX11_refused_6

set_option maxRecDepth 20000 in
theorem lk_X11_playOver {g : aG} {l : Launch} {d : Nat} (hdd : 6 ≤ d) {t : Nat} {x1 : Int32} {x2 : Option Nat} {h : aH} {r : aH} (hT : hK h t = 13) (HF : F_X11_playOver t x1 x2 h = some r) : MA g l yX11_playOver cX11_playOver 3 (none) d [.ref t, .int x1, va_rf x2] h (none, r) := by
  refine MA.of (lv0 := [(0, .ref t), (1, .int x1), (2, va_rf x2)]) (by decide +kernel) (by cases x2 <;> rfl) (by cases x2 <;> exact Nat.le_of_ble_eq_true rfl) ?_
  unfold F_X11_playOver at HF
  refine ev_aload_n 0 dX11_playOver_0 rfl ?_
  refine ev_gI (f := 1210) cl_X11 (k := 10) (by decide) fi_X11_10 rfl fl_X11_67 dX11_playOver_1 hT ?_
  refine ev_iload_n 1 dX11_playOver_4 rfl ?_
  by_cases c1 : hF h 1210 t = x1
  · replace HF := ite_T c1 HF
    refine ev_icmp_eqT (tgt := 25) dX11_playOver_5 (by decide) c1 ?_
    obtain rfl := Option.some.inj HF
    exact ev_vret dX11_playOver_25
  · replace HF := ite_F c1 HF
    refine ev_icmp_eqF (tgt := 25) dX11_playOver_5 (by decide) c1 ?_
    refine ev_aload_nr 2 dX11_playOver_8 rfl ?_
    cases x2 with
    | none =>
      refine ev_ifnullN (tgt := 25) dX11_playOver_9 (by decide) ?_
      obtain rfl := Option.some.inj HF
      exact ev_vret dX11_playOver_25
    | some b2 =>
      refine ev_ifnullS dX11_playOver_9 ?_
      refine ev_aload_n 0 dX11_playOver_12 rfl ?_
      replace HF := bind_o HF
      obtain ⟨b3, e4, HF⟩ := HF
      refine ev_gS (f := 1205) cl_X11 (k := 5) (by decide) fi_X11_5 rfl fl_X11_42 dX11_playOver_13 hT e4 ?_
      refine ev_aload_n 2 dX11_playOver_16 rfl ?_
      replace HF := bind_ck HF
      obtain ⟨c5, HF⟩ := HF
      replace HF := bind_o HF
      obtain ⟨h7, e6, HF⟩ := HF
      refine ev_callV (As := [.ref b2]) (R1 := (none, h7)) (lk_X6_replay (d := 5) (Nat.le_refl _) c5 e6) ce_X6_replay im_X6_replay sl_X6_replay ml_X11_323 cl_X6 c5 dX11_playOver_17 (by omega) (Nat.le_of_ble_eq_true rfl) rfl rfl ?_
      show EvG _ _ _ _ _ _ _ _ _ _ _ 20 [(0, .ref t), (1, .int x1), (2, .ref b2)] [] h7
      refine ev_aload_n 0 dX11_playOver_20 rfl ?_
      refine ev_iload_n 1 dX11_playOver_21 rfl ?_
      replace HF := bind_ck HF
      obtain ⟨c9, HF⟩ := HF
      refine ev_pI (f := 1210) cl_X11 (k := 10) (by decide) fi_X11_10 rfl fl_X11_67 rfl rfl rfl dX11_playOver_22 c9 ?_
      replace HF := bd_n HF
      obtain ⟨h10, eh10, HF⟩ := HF
      refine ev_heap eh10 ?_
      have c11 : hK h10 t = 13 := by rw [eh10]; exact c9
      show EvG _ _ _ _ _ _ _ _ _ _ _ 25 _ _ _
      obtain rfl := Option.some.inj HF
      exact ev_vret dX11_playOver_25

set_option maxRecDepth 20000 in
theorem lk_X11_done {g : aG} {l : Launch} {d : Nat} (hdd : 1 ≤ d) {t : Nat} {h : aH} {r : Int32 × aH} (hT : hK h t = 13) (HF : F_X11_done t h = some r) : MA g l yX11_done cX11_done 1 (some .boolean) d [.ref t] h (some (.int r.1), r.2) := by
  refine MA.of (lv0 := [(0, .ref t)]) (by decide +kernel) (rfl) (Nat.le_of_ble_eq_true rfl) ?_
  unfold F_X11_done at HF
  refine ev_aload_n 0 dX11_done_0 rfl ?_
  refine ev_iconst (v := 0) dX11_done_1 (by decide) ?_
  refine ev_pI (f := 1209) cl_X11 (k := 9) (by decide) fi_X11_9 rfl fl_X11_64 rfl rfl rfl dX11_done_2 hT ?_
  replace HF := bd_n HF
  obtain ⟨h1, eh1, HF⟩ := HF
  refine ev_heap eh1 ?_
  have c2 : hK h1 t = 13 := by rw [eh1]; exact hT
  refine ev_aload_n 0 dX11_done_5 rfl ?_
  replace HF := bind_o HF
  obtain ⟨h4, e3, HF⟩ := HF
  refine ev_callV (As := []) (R1 := (none, h4)) (lk_X11_forgetPlay (d := 0) (Nat.le_refl _) c2 e3) ce_X11_forgetPlay im_X11_forgetPlay sl_X11_forgetPlay ml_X11_109 cl_X11 c2 dX11_done_6 (by omega) (Nat.le_of_ble_eq_true rfl) rfl rfl ?_
  show EvG _ _ _ _ _ _ _ _ _ _ _ 9 [(0, .ref t)] [] h4
  refine ev_iconst (v := 1) dX11_done_9 (by decide) ?_
  obtain rfl := Option.some.inj HF
  exact ev_zret (v := 1) narrow_b1 dX11_done_10

set_option maxRecDepth 20000 in
theorem lk_X11_turn_53 {g : aG} {l : Launch} {d : Nat} {h0 : aH} (hdd : 8 ≤ d) {r : Int32 × aH} (t : Nat) (x1 : Int32) (a2 : Nat) (y0 : Int32) (h : aH) (HF : F_X11_turn_53  t x1 a2 y0 h = some r) : Ev g l cX11_turn 4 yX11_turn (some .boolean) d h0 (some (.int r.1), r.2) 53 [(0, .ref t), (1, .int x1), (2, .ref a2)] [.int y0] h := by
  unfold F_X11_turn_53 at HF
  refine ev_istore_n (lv' := [(3, .int y0), (0, .ref t), (1, .int x1), (2, .ref a2)]) dX11_turn_53 (by decide) (rfl) ?_
  refine ev_iload_n 0 dX11_turn_54 rfl ?_
  by_cases c1 : y0 = 0
  · replace HF := ite_T c1 HF
    refine ev_if_eqT (tgt := 64) dX11_turn_55 (by decide) c1 ?_
    refine ev_aload_n 1 dX11_turn_64 rfl ?_
    replace HF := bind_ck HF
    obtain ⟨c2, HF⟩ := HF
    replace HF := bind_o HF
    obtain ⟨b3, e4, HF⟩ := HF
    refine ev_gS (f := 1204) cl_X11 (k := 4) (by decide) fi_X11_4 rfl fl_X11_35 dX11_turn_65 c2 e4 ?_
    refine ev_iload_n 2 dX11_turn_68 rfl ?_
    refine ev_iconst (v := 0) dX11_turn_69 (by decide) ?_
    refine ev_aload_n 3 dX11_turn_70 rfl ?_
    replace HF := bind_ck HF
    obtain ⟨c5, HF⟩ := HF
    replace HF := bind_o HF
    obtain ⟨⟨z8, h7⟩, e6, HF⟩ := HF
    replace HF := bd_o (bd_o HF)
    dsimp only at HF
    refine ev_callV (As := []) (R1 := (some (.int z8), h7)) (lk_X3_turnCount (d := 1) (Nat.le_refl _) c5 e6) ce_X3_turnCount im_X3_turnCount sl_X3_turnCount ml_X11_102 cl_X3 c5 dX11_turn_71 (by omega) (Nat.le_of_ble_eq_true rfl) rfl rfl ?_
    show EvG _ _ _ _ _ _ _ _ _ _ _ 74 [(3, .int y0), (0, .ref t), (1, .int x1), (2, .ref a2)] [.int z8, .int 0, .int x1, .ref b3] h7
    refine ev_iconst (v := (-1)) dX11_turn_74 (by decide) ?_
    show EvG _ _ _ _ _ _ _ _ _ _ _ 75 _ _ _
    refine ev_null dX11_turn_75 ?_
    replace HF := bind_ck HF
    obtain ⟨c10, HF⟩ := HF
    replace HF := bind_o HF
    obtain ⟨h12, e11, HF⟩ := HF
    refine ev_callV (As := [.int x1, .int 0, .int z8, .int ((-1)), va_rf none]) (R1 := (none, h12)) (lk_X2_push (d := 3) (Nat.le_refl _) c10 e11) ce_X2_push im_X2_push sl_X2_push ml_X11_125 cl_X2 c10 dX11_turn_76 (by omega) (Nat.le_of_ble_eq_true rfl) rfl rfl ?_
    show EvG _ _ _ _ _ _ _ _ _ _ _ 79 [(3, .int y0), (0, .ref t), (1, .int x1), (2, .ref a2)] [] h12
    refine ev_aload_n 3 dX11_turn_79 rfl ?_
    refine ev_new cl_X10 kl_X11_129 ins_X10 ini_X10 df_X10 dX11_turn_80 ?_
    replace HF := bd_n HF
    obtain ⟨b14, eb14, HF⟩ := HF
    refine ev_topR eb14 ?_
    replace HF := bd_n HF
    obtain ⟨h15, eh15, HF⟩ := HF
    refine ev_heap eh15 ?_
    refine ev_dup dX11_turn_83 rfl ?_
    replace HF := bind_ck HF
    obtain ⟨c16, HF⟩ := HF
    replace HF := bind_o HF
    obtain ⟨h18, e17, HF⟩ := HF
    refine ev_callIN (As := []) (R1 := (none, h18)) (lk_X10_init (d := 4) (Nat.le_refl _) c16 e17) ce_X10_init rfl im_X10_init ml_X11_131 dX11_turn_84 (by omega) (Nat.le_of_ble_eq_true rfl) rfl rfl ?_
    show EvG _ _ _ _ _ _ _ _ _ _ _ 87 [(3, .int y0), (0, .ref t), (1, .int x1), (2, .ref a2)] [.ref b14, .ref a2] h18
    replace HF := bind_ck HF
    obtain ⟨c20, HF⟩ := HF
    replace HF := bind_o HF
    obtain ⟨h22, e21, HF⟩ := HF
    refine ev_callV (As := [.ref b14]) (R1 := (none, h22)) (lk_X3_addTurn (d := 7) (Nat.le_refl _) c20 e21) ce_X3_addTurn im_X3_addTurn sl_X3_addTurn ml_X11_132 cl_X3 c20 dX11_turn_87 (by omega) (Nat.le_of_ble_eq_true rfl) rfl rfl ?_
    show EvG _ _ _ _ _ _ _ _ _ _ _ 90 [(3, .int y0), (0, .ref t), (1, .int x1), (2, .ref a2)] [] h22
    refine ev_aload_n 1 dX11_turn_90 rfl ?_
    show EvG _ _ _ _ _ _ _ _ _ _ _ 91 _ _ _
    replace HF := bind_ck HF
    obtain ⟨c24, HF⟩ := HF
    replace HF := bind_o HF
    obtain ⟨⟨z27, h26⟩, e25, HF⟩ := HF
    replace HF := bd_o (bd_o HF)
    dsimp only at HF
    refine ev_callV (As := []) (R1 := (some (.int z27), h26)) (lk_X11_done (d := 1) (Nat.le_refl _) c24 e25) ce_X11_done im_X11_done sl_X11_done ml_X11_136 cl_X11 c24 dX11_turn_91 (by omega) (Nat.le_of_ble_eq_true rfl) rfl rfl ?_
    show EvG _ _ _ _ _ _ _ _ _ _ _ 94 [(3, .int y0), (0, .ref t), (1, .int x1), (2, .ref a2)] [.int z27] h26
    replace HF := bind_ck HF
    obtain ⟨c29, HF⟩ := HF
    obtain rfl := Option.some.inj HF
    exact ev_zret (v := z27) (nar_z c29) dX11_turn_94
  · replace HF := ite_F c1 HF
    refine ev_if_eqF (tgt := 64) dX11_turn_55 (by decide) c1 ?_
    refine ev_aload_n 1 dX11_turn_58 rfl ?_
    refine ev_iload_n 0 dX11_turn_59 rfl ?_
    replace HF := bind_ck HF
    obtain ⟨c30, HF⟩ := HF
    replace HF := bind_o HF
    obtain ⟨⟨z33, h32⟩, e31, HF⟩ := HF
    replace HF := bd_o (bd_o HF)
    dsimp only at HF
    refine ev_callV (As := [.int y0]) (R1 := (some (.int z33), h32)) (lk_X11_refused (d := 0) (Nat.le_refl _) c30 e31) ce_X11_refused im_X11_refused sl_X11_refused ml_X11_112 cl_X11 c30 dX11_turn_60 (by omega) (Nat.le_of_ble_eq_true rfl) rfl rfl ?_
    show EvG _ _ _ _ _ _ _ _ _ _ _ 63 [(3, .int y0), (0, .ref t), (1, .int x1), (2, .ref a2)] [.int z33] h32
    replace HF := bind_ck HF
    obtain ⟨c35, HF⟩ := HF
    obtain rfl := Option.some.inj HF
    exact ev_zret (v := z33) (nar_z c35) dX11_turn_63

set_option maxRecDepth 20000 in
theorem lk_X11_turn {g : aG} {l : Launch} {d : Nat} (hdd : 8 ≤ d) {t : Nat} {x1 : Int32} {h : aH} {r : Int32 × aH} (hT : hK h t = 13) (HF : F_X11_turn t x1 h = some r) : MA g l yX11_turn cX11_turn 4 (some .boolean) d [.ref t, .int x1] h (some (.int r.1), r.2) := by
  refine MA.of (lv0 := [(0, .ref t), (1, .int x1)]) (by decide +kernel) (rfl) (Nat.le_of_ble_eq_true rfl) ?_
  unfold F_X11_turn at HF
  refine ev_aload_n 0 dX11_turn_0 rfl ?_
  refine ev_iload_n 1 dX11_turn_1 rfl ?_
  replace HF := bind_o HF
  obtain ⟨⟨o3, h2⟩, e1, HF⟩ := HF
  replace HF := bd_o (bd_o HF)
  dsimp only at HF
  refine ev_callV (As := [.int x1]) (R1 := (some (va_rf o3), h2)) (lk_X11_gameAt (d := 3) (Nat.le_refl _) hT e1) ce_X11_gameAt im_X11_gameAt sl_X11_gameAt ml_X11_91 cl_X11 hT dX11_turn_2 (by omega) (Nat.le_of_ble_eq_true rfl) rfl rfl ?_
  show EvG _ _ _ _ _ _ _ _ _ _ _ 5 [(0, .ref t), (1, .int x1)] [va_rf o3] h2
  refine ev_astore_nr (lv' := [(2, va_rf o3), (0, .ref t), (1, .int x1)]) dX11_turn_5 (by decide) (rfl) ?_
  refine ev_aload_nr 0 dX11_turn_6 rfl ?_
  cases o3 with
  | none =>
    refine ev_ifnonnullN dX11_turn_7 ?_
    refine ev_aload_n 1 dX11_turn_10 rfl ?_
    refine ev_iconst (v := 0) dX11_turn_11 (by decide) ?_
    replace HF := bind_ck HF
    obtain ⟨c6, HF⟩ := HF
    replace HF := bind_o HF
    obtain ⟨⟨z9, h8⟩, e7, HF⟩ := HF
    replace HF := bd_o (bd_o HF)
    dsimp only at HF
    refine ev_callV (As := [.int 0]) (R1 := (some (.int z9), h8)) (lk_X11_refused (d := 0) (Nat.le_refl _) c6 e7) ce_X11_refused im_X11_refused sl_X11_refused ml_X11_112 cl_X11 c6 dX11_turn_12 (by omega) (Nat.le_of_ble_eq_true rfl) rfl rfl ?_
    show EvG _ _ _ _ _ _ _ _ _ _ _ 15 [(2, va_rf none), (0, .ref t), (1, .int x1)] [.int z9] h8
    replace HF := bind_ck HF
    obtain ⟨c11, HF⟩ := HF
    obtain rfl := Option.some.inj HF
    exact ev_zret (v := z9) (nar_z c11) dX11_turn_15
  | some b5 =>
    refine ev_ifnonnullS (tgt := 16) dX11_turn_7 (by decide) ?_
    refine ev_aload_n 1 dX11_turn_16 rfl ?_
    refine ev_iload_n 2 dX11_turn_17 rfl ?_
    refine ev_aload_n 0 dX11_turn_18 rfl ?_
    replace HF := bind_ck HF
    obtain ⟨c12, HF⟩ := HF
    replace HF := bind_o HF
    obtain ⟨h14, e13, HF⟩ := HF
    refine ev_callV (As := [.int x1, va_rf (some b5)]) (R1 := (none, h14)) (lk_X11_playOver (d := 6) (Nat.le_refl _) c12 e13) ce_X11_playOver im_X11_playOver sl_X11_playOver ml_X11_115 cl_X11 c12 dX11_turn_19 (by omega) (Nat.le_of_ble_eq_true rfl) rfl rfl ?_
    show EvG _ _ _ _ _ _ _ _ _ _ _ 22 [(2, .ref b5), (0, .ref t), (1, .int x1)] [] h14
    refine ev_aload_n 1 dX11_turn_22 rfl ?_
    replace HF := bind_ck HF
    obtain ⟨c16, HF⟩ := HF
    replace HF := bind_o HF
    obtain ⟨b17, e18, HF⟩ := HF
    refine ev_gS (f := 1205) cl_X11 (k := 5) (by decide) fi_X11_5 rfl fl_X11_42 dX11_turn_23 c16 e18 ?_
    replace HF := bind_ck HF
    obtain ⟨c19, HF⟩ := HF
    refine ev_gIN (f := 706) cl_X6 (k := 6) (by decide) fi_X6_6 rfl fl_X11_119 dX11_turn_26 c19 ?_
    show EvG _ _ _ _ _ _ _ _ _ _ _ 29 _ _ _
    by_cases c20 : hF h14 706 b17 = 0
    · replace HF := ite_T c20 HF
      refine ev_if_eqT (tgt := 42) dX11_turn_29 (by decide) c20 ?_
      refine ev_aload_n 1 dX11_turn_42 rfl ?_
      replace HF := bind_o HF
      obtain ⟨b21, e22, HF⟩ := HF
      refine ev_gS (f := 1205) cl_X11 (k := 5) (by decide) fi_X11_5 rfl fl_X11_42 dX11_turn_43 c16 e22 ?_
      refine ev_aload_n 0 dX11_turn_46 rfl ?_
      replace HF := bind_ck HF
      obtain ⟨c23, HF⟩ := HF
      replace HF := bind_o HF
      obtain ⟨⟨z26, h25⟩, e24, HF⟩ := HF
      replace HF := bd_o (bd_o HF)
      dsimp only at HF
      refine ev_callV (As := []) (R1 := (some (.int z26), h25)) (lk_X3_turnCount (d := 1) (Nat.le_refl _) c23 e24) ce_X3_turnCount im_X3_turnCount sl_X3_turnCount ml_X11_102 cl_X3 c23 dX11_turn_47 (by omega) (Nat.le_of_ble_eq_true rfl) rfl rfl ?_
      show EvG _ _ _ _ _ _ _ _ _ _ _ 50 [(2, .ref b5), (0, .ref t), (1, .int x1)] [.int z26, .ref b21] h25
      replace HF := bind_ck HF
      obtain ⟨c28, HF⟩ := HF
      replace HF := bind_o HF
      obtain ⟨⟨z31, h30⟩, e29, HF⟩ := HF
      replace HF := bd_o (bd_o HF)
      dsimp only at HF
      refine ev_callV (As := [.int z26]) (R1 := (some (.int z31), h30)) (lk_X6_ruleOfTurn (d := 1) (Nat.le_refl _) c28 e29) ce_X6_ruleOfTurn im_X6_ruleOfTurn sl_X6_ruleOfTurn ml_X11_122 cl_X6 c28 dX11_turn_50 (by omega) (Nat.le_of_ble_eq_true rfl) rfl rfl ?_
      show EvG _ _ _ _ _ _ _ _ _ _ _ 53 [(2, .ref b5), (0, .ref t), (1, .int x1)] [.int z31] h30
      exact Ev.sub [1, 2, 0] rfl (lk_X11_turn_53 hdd  t x1 b5 z31 _ HF)
    · replace HF := ite_F c20 HF
      refine ev_if_eqF (tgt := 42) dX11_turn_29 (by decide) c20 ?_
      refine ev_aload_n 1 dX11_turn_32 rfl ?_
      replace HF := bind_o HF
      obtain ⟨b33, e34, HF⟩ := HF
      refine ev_gS (f := 1205) cl_X11 (k := 5) (by decide) fi_X11_5 rfl fl_X11_42 dX11_turn_33 c16 e34 ?_
      replace HF := bind_ck HF
      obtain ⟨c35, HF⟩ := HF
      refine ev_gIN (f := 706) cl_X6 (k := 6) (by decide) fi_X6_6 rfl fl_X11_119 dX11_turn_36 c35 ?_
      refine ev_goto (tgt := 53) dX11_turn_39 (by decide) ?_
      exact Ev.sub [1, 2, 0] rfl (lk_X11_turn_53 hdd  t x1 b5 (hF h14 706 b33) _ HF)

set_option maxRecDepth 20000 in
theorem lk_X11_over {g : aG} {l : Launch} {d : Nat} (hdd : 8 ≤ d) {t : Nat} {x1 : Int32} {x2 : Int32} {h : aH} {r : Int32 × aH} (hT : hK h t = 13) (HF : F_X11_over t x1 x2 h = some r) : MA g l yX11_over cX11_over 6 (some .boolean) d [.ref t, .int x1, .int x2] h (some (.int r.1), r.2) := by
  refine MA.of (lv0 := [(0, .ref t), (1, .int x1), (2, .int x2)]) (by decide +kernel) (rfl) (Nat.le_of_ble_eq_true rfl) ?_
  unfold F_X11_over at HF
  refine ev_aload_n 0 dX11_over_0 rfl ?_
  refine ev_iload_n 1 dX11_over_1 rfl ?_
  replace HF := bind_o HF
  obtain ⟨⟨o3, h2⟩, e1, HF⟩ := HF
  replace HF := bd_o (bd_o HF)
  dsimp only at HF
  refine ev_callV (As := [.int x1]) (R1 := (some (va_rf o3), h2)) (lk_X11_gameAt (d := 3) (Nat.le_refl _) hT e1) ce_X11_gameAt im_X11_gameAt sl_X11_gameAt ml_X11_91 cl_X11 hT dX11_over_2 (by omega) (Nat.le_of_ble_eq_true rfl) rfl rfl ?_
  show EvG _ _ _ _ _ _ _ _ _ _ _ 5 [(0, .ref t), (1, .int x1), (2, .int x2)] [va_rf o3] h2
  refine ev_astore_nr (lv' := [(3, va_rf o3), (0, .ref t), (1, .int x1), (2, .int x2)]) dX11_over_5 (by decide) (rfl) ?_
  refine ev_aload_nr 0 dX11_over_6 rfl ?_
  cases o3 with
  | none =>
    refine ev_ifnonnullN dX11_over_7 ?_
    refine ev_aload_n 1 dX11_over_10 rfl ?_
    refine ev_iconst (v := 0) dX11_over_11 (by decide) ?_
    replace HF := bind_ck HF
    obtain ⟨c6, HF⟩ := HF
    replace HF := bind_o HF
    obtain ⟨⟨z9, h8⟩, e7, HF⟩ := HF
    replace HF := bd_o (bd_o HF)
    dsimp only at HF
    refine ev_callV (As := [.int 0]) (R1 := (some (.int z9), h8)) (lk_X11_refused (d := 0) (Nat.le_refl _) c6 e7) ce_X11_refused im_X11_refused sl_X11_refused ml_X11_112 cl_X11 c6 dX11_over_12 (by omega) (Nat.le_of_ble_eq_true rfl) rfl rfl ?_
    show EvG _ _ _ _ _ _ _ _ _ _ _ 15 [(3, va_rf none), (0, .ref t), (1, .int x1), (2, .int x2)] [.int z9] h8
    replace HF := bind_ck HF
    obtain ⟨c11, HF⟩ := HF
    obtain rfl := Option.some.inj HF
    exact ev_zret (v := z9) (nar_z c11) dX11_over_15
  | some b5 =>
    refine ev_ifnonnullS (tgt := 16) dX11_over_7 (by decide) ?_
    refine ev_aload_n 1 dX11_over_16 rfl ?_
    refine ev_iload_n 2 dX11_over_17 rfl ?_
    refine ev_aload_n 0 dX11_over_18 rfl ?_
    replace HF := bind_ck HF
    obtain ⟨c12, HF⟩ := HF
    replace HF := bind_o HF
    obtain ⟨h14, e13, HF⟩ := HF
    refine ev_callV (As := [.int x1, va_rf (some b5)]) (R1 := (none, h14)) (lk_X11_playOver (d := 6) (Nat.le_refl _) c12 e13) ce_X11_playOver im_X11_playOver sl_X11_playOver ml_X11_115 cl_X11 c12 dX11_over_19 (by omega) (Nat.le_of_ble_eq_true rfl) rfl rfl ?_
    show EvG _ _ _ _ _ _ _ _ _ _ _ 22 [(3, .ref b5), (0, .ref t), (1, .int x1), (2, .int x2)] [] h14
    refine ev_aload_n 1 dX11_over_22 rfl ?_
    replace HF := bind_ck HF
    obtain ⟨c16, HF⟩ := HF
    replace HF := bind_o HF
    obtain ⟨b17, e18, HF⟩ := HF
    refine ev_gS (f := 1205) cl_X11 (k := 5) (by decide) fi_X11_5 rfl fl_X11_42 dX11_over_23 c16 e18 ?_
    replace HF := bind_ck HF
    obtain ⟨c19, HF⟩ := HF
    refine ev_gIN (f := 706) cl_X6 (k := 6) (by decide) fi_X6_6 rfl fl_X11_119 dX11_over_26 c19 ?_
    show EvG _ _ _ _ _ _ _ _ _ _ _ 29 _ _ _
    by_cases c20 : hF h14 706 b17 = 0
    · replace HF := ite_T c20 HF
      refine ev_if_eqT (tgt := 44) dX11_over_29 (by decide) c20 ?_
      refine ev_aload_n 0 dX11_over_44 rfl ?_
      refine ev_aload_n 0 dX11_over_45 rfl ?_
      replace HF := bind_ck HF
      obtain ⟨c21, HF⟩ := HF
      replace HF := bind_o HF
      obtain ⟨⟨z24, h23⟩, e22, HF⟩ := HF
      replace HF := bd_o (bd_o HF)
      dsimp only at HF
      refine ev_callV (As := []) (R1 := (some (.int z24), h23)) (lk_X3_turnCount (d := 1) (Nat.le_refl _) c21 e22) ce_X3_turnCount im_X3_turnCount sl_X3_turnCount ml_X11_102 cl_X3 c21 dX11_over_46 (by omega) (Nat.le_of_ble_eq_true rfl) rfl rfl ?_
      show EvG _ _ _ _ _ _ _ _ _ _ _ 49 [(3, .ref b5), (0, .ref t), (1, .int x1), (2, .int x2)] [.int z24, .ref b5] h23
      refine ev_iconst (v := 1) dX11_over_49 (by decide) ?_
      refine ev_isub dX11_over_50 ?_
      replace HF := bind_ck HF
      obtain ⟨c26, HF⟩ := HF
      replace HF := bind_o HF
      obtain ⟨⟨o29, h28⟩, e27, HF⟩ := HF
      replace HF := bd_o (bd_o HF)
      dsimp only at HF
      refine ev_callV (As := [.int (z24 - 1)]) (R1 := (some (va_rf o29), h28)) (lk_X3_turnAt (d := 3) (Nat.le_refl _) c26 e27) ce_X3_turnAt im_X3_turnAt sl_X3_turnAt ml_X11_140 cl_X3 c26 dX11_over_51 (by omega) (Nat.le_of_ble_eq_true rfl) rfl rfl ?_
      show EvG _ _ _ _ _ _ _ _ _ _ _ 54 [(3, .ref b5), (0, .ref t), (1, .int x1), (2, .int x2)] [va_rf o29] h28
      refine ev_astorer (lv' := [(4, va_rf o29), (3, .ref b5), (0, .ref t), (1, .int x1), (2, .int x2)]) dX11_over_54 (by decide) (rfl) ?_
      show EvG _ _ _ _ _ _ _ _ _ _ _ 56 _ _ _
      refine ev_aloadr 0 dX11_over_56 rfl ?_
      cases o29 with
      | none =>
        refine ev_ifnonnullN dX11_over_58 ?_
        refine ev_aload_n 2 dX11_over_61 rfl ?_
        refine ev_bipush (v := 11) dX11_over_62 (by decide) ?_
        replace HF := bind_ck HF
        obtain ⟨c32, HF⟩ := HF
        replace HF := bind_o HF
        obtain ⟨⟨z35, h34⟩, e33, HF⟩ := HF
        replace HF := bd_o (bd_o HF)
        dsimp only at HF
        refine ev_callV (As := [.int 11]) (R1 := (some (.int z35), h34)) (lk_X11_refused (d := 0) (Nat.le_refl _) c32 e33) ce_X11_refused im_X11_refused sl_X11_refused ml_X11_112 cl_X11 c32 dX11_over_64 (by omega) (Nat.le_of_ble_eq_true rfl) rfl rfl ?_
        show EvG _ _ _ _ _ _ _ _ _ _ _ 67 [(4, va_rf none), (3, .ref b5), (0, .ref t), (1, .int x1), (2, .int x2)] [.int z35] h34
        replace HF := bind_ck HF
        obtain ⟨c37, HF⟩ := HF
        obtain rfl := Option.some.inj HF
        exact ev_zret (v := z35) (nar_z c37) dX11_over_67
      | some b31 =>
        refine ev_ifnonnullS (tgt := 68) dX11_over_58 (by decide) ?_
        refine ev_aload_n 2 dX11_over_68 rfl ?_
        replace HF := bind_ck HF
        obtain ⟨c38, HF⟩ := HF
        replace HF := bind_o HF
        obtain ⟨b39, e40, HF⟩ := HF
        refine ev_gS (f := 1205) cl_X11 (k := 5) (by decide) fi_X11_5 rfl fl_X11_42 dX11_over_69 c38 e40 ?_
        refine ev_iload_n 4 dX11_over_72 rfl ?_
        replace HF := bind_ck HF
        obtain ⟨c41, HF⟩ := HF
        replace HF := bind_o HF
        obtain ⟨⟨z44, h43⟩, e42, HF⟩ := HF
        replace HF := bd_o (bd_o HF)
        dsimp only at HF
        refine ev_callV (As := [.int x2]) (R1 := (some (.int z44), h43)) (lk_X6_ruleOfOver (d := 3) (Nat.le_refl _) c41 e42) ce_X6_ruleOfOver im_X6_ruleOfOver sl_X6_ruleOfOver ml_X11_144 cl_X6 c41 dX11_over_73 (by omega) (Nat.le_of_ble_eq_true rfl) rfl rfl ?_
        show EvG _ _ _ _ _ _ _ _ _ _ _ 76 [(4, .ref b31), (3, .ref b5), (0, .ref t), (1, .int x1), (2, .int x2)] [.int z44] h43
        refine ev_istore (lv' := [(5, .int z44), (4, .ref b31), (3, .ref b5), (0, .ref t), (1, .int x1), (2, .int x2)]) dX11_over_76 (by decide) (rfl) ?_
        refine ev_iload 0 dX11_over_78 rfl ?_
        by_cases c46 : z44 = 0
        · replace HF := ite_T c46 HF
          refine ev_if_eqT (tgt := 90) dX11_over_80 (by decide) c46 ?_
          refine ev_aload_n 3 dX11_over_90 rfl ?_
          replace HF := bind_ck HF
          obtain ⟨c47, HF⟩ := HF
          replace HF := bind_o HF
          obtain ⟨b48, e49, HF⟩ := HF
          refine ev_gS (f := 1204) cl_X11 (k := 4) (by decide) fi_X11_4 rfl fl_X11_35 dX11_over_91 c47 e49 ?_
          refine ev_iload_n 4 dX11_over_94 rfl ?_
          refine ev_iconst (v := 1) dX11_over_95 (by decide) ?_
          refine ev_aload_n 2 dX11_over_96 rfl ?_
          replace HF := bind_ck HF
          obtain ⟨c50, HF⟩ := HF
          replace HF := bind_o HF
          obtain ⟨⟨z53, h52⟩, e51, HF⟩ := HF
          replace HF := bd_o (bd_o HF)
          dsimp only at HF
          refine ev_callV (As := []) (R1 := (some (.int z53), h52)) (lk_X3_turnCount (d := 1) (Nat.le_refl _) c50 e51) ce_X3_turnCount im_X3_turnCount sl_X3_turnCount ml_X11_102 cl_X3 c50 dX11_over_97 (by omega) (Nat.le_of_ble_eq_true rfl) rfl rfl ?_
          show EvG _ _ _ _ _ _ _ _ _ _ _ 100 [(5, .int z44), (4, .ref b31), (3, .ref b5), (0, .ref t), (1, .int x1), (2, .int x2)] [.int z53, .int 1, .int x1, .ref b48] h52
          refine ev_iconst (v := 1) dX11_over_100 (by decide) ?_
          show EvG _ _ _ _ _ _ _ _ _ _ _ 101 _ _ _
          refine ev_isub dX11_over_101 ?_
          refine ev_aload 1 dX11_over_102 rfl ?_
          replace HF := bind_ck HF
          obtain ⟨c55, HF⟩ := HF
          replace HF := bind_o HF
          obtain ⟨⟨z58, h57⟩, e56, HF⟩ := HF
          replace HF := bd_o (bd_o HF)
          dsimp only at HF
          refine ev_callV (As := []) (R1 := (some (.int z58), h57)) (lk_X10_overCount (d := 1) (Nat.le_refl _) c55 e56) ce_X10_overCount im_X10_overCount sl_X10_overCount ml_X11_147 cl_X10 c55 dX11_over_104 (by omega) (Nat.le_of_ble_eq_true rfl) rfl rfl ?_
          show EvG _ _ _ _ _ _ _ _ _ _ _ 107 [(5, .int z44), (4, .ref b31), (3, .ref b5), (0, .ref t), (1, .int x1), (2, .int x2)] [.int z58, .int (z53 - 1), .int 1, .int x1, .ref b48] h57
          refine ev_null dX11_over_107 ?_
          replace HF := bind_ck HF
          obtain ⟨c60, HF⟩ := HF
          replace HF := bind_o HF
          obtain ⟨h62, e61, HF⟩ := HF
          refine ev_callV (As := [.int x1, .int 1, .int (z53 - 1), .int z58, va_rf none]) (R1 := (none, h62)) (lk_X2_push (d := 3) (Nat.le_refl _) c60 e61) ce_X2_push im_X2_push sl_X2_push ml_X11_125 cl_X2 c60 dX11_over_108 (by omega) (Nat.le_of_ble_eq_true rfl) rfl rfl ?_
          show EvG _ _ _ _ _ _ _ _ _ _ _ 111 [(5, .int z44), (4, .ref b31), (3, .ref b5), (0, .ref t), (1, .int x1), (2, .int x2)] [] h62
          refine ev_aload 1 dX11_over_111 rfl ?_
          refine ev_new cl_X5 kl_X11_150 ins_X5 ini_X5 df_X5 dX11_over_113 ?_
          replace HF := bd_n HF
          obtain ⟨b64, eb64, HF⟩ := HF
          refine ev_topR eb64 ?_
          replace HF := bd_n HF
          obtain ⟨h65, eh65, HF⟩ := HF
          refine ev_heap eh65 ?_
          refine ev_dup dX11_over_116 rfl ?_
          show EvG _ _ _ _ _ _ _ _ _ _ _ 117 _ _ _
          refine ev_iload_n 5 dX11_over_117 rfl ?_
          refine ev_iconst (v := 0) dX11_over_118 (by decide) ?_
          replace HF := bind_ck HF
          obtain ⟨c66, HF⟩ := HF
          replace HF := bind_o HF
          obtain ⟨h68, e67, HF⟩ := HF
          refine ev_callI (As := [.int x2, .int 0]) (R1 := (none, h68)) (lk_X5_init (d := 1) (Nat.le_refl _) c66 e67) ce_X5_init rfl im_X5_init ml_X11_152 dX11_over_119 (by omega) (Nat.le_of_ble_eq_true rfl) rfl rfl ?_
          show EvG _ _ _ _ _ _ _ _ _ _ _ 122 [(5, .int z44), (4, .ref b31), (3, .ref b5), (0, .ref t), (1, .int x1), (2, .int x2)] [.ref b64, .ref b31] h68
          replace HF := bind_ck HF
          obtain ⟨c70, HF⟩ := HF
          replace HF := bind_o HF
          obtain ⟨h72, e71, HF⟩ := HF
          refine ev_callV (As := [.ref b64]) (R1 := (none, h72)) (lk_X10_addOver (d := 7) (Nat.le_refl _) c70 e71) ce_X10_addOver im_X10_addOver sl_X10_addOver ml_X11_155 cl_X10 c70 dX11_over_122 (by omega) (Nat.le_of_ble_eq_true rfl) rfl rfl ?_
          show EvG _ _ _ _ _ _ _ _ _ _ _ 125 [(5, .int z44), (4, .ref b31), (3, .ref b5), (0, .ref t), (1, .int x1), (2, .int x2)] [] h72
          refine ev_aload_n 3 dX11_over_125 rfl ?_
          replace HF := bind_ck HF
          obtain ⟨c74, HF⟩ := HF
          replace HF := bind_o HF
          obtain ⟨⟨z77, h76⟩, e75, HF⟩ := HF
          replace HF := bd_o (bd_o HF)
          dsimp only at HF
          refine ev_callV (As := []) (R1 := (some (.int z77), h76)) (lk_X11_done (d := 1) (Nat.le_refl _) c74 e75) ce_X11_done im_X11_done sl_X11_done ml_X11_136 cl_X11 c74 dX11_over_126 (by omega) (Nat.le_of_ble_eq_true rfl) rfl rfl ?_
          show EvG _ _ _ _ _ _ _ _ _ _ _ 129 [(5, .int z44), (4, .ref b31), (3, .ref b5), (0, .ref t), (1, .int x1), (2, .int x2)] [.int z77] h76
          replace HF := bind_ck HF
          obtain ⟨c79, HF⟩ := HF
          obtain rfl := Option.some.inj HF
          exact ev_zret (v := z77) (nar_z c79) dX11_over_129
        · replace HF := ite_F c46 HF
          refine ev_if_eqF (tgt := 90) dX11_over_80 (by decide) c46 ?_
          refine ev_aload_n 3 dX11_over_83 rfl ?_
          refine ev_iload 0 dX11_over_84 rfl ?_
          replace HF := bind_ck HF
          obtain ⟨c80, HF⟩ := HF
          replace HF := bind_o HF
          obtain ⟨⟨z83, h82⟩, e81, HF⟩ := HF
          replace HF := bd_o (bd_o HF)
          dsimp only at HF
          refine ev_callV (As := [.int z44]) (R1 := (some (.int z83), h82)) (lk_X11_refused (d := 0) (Nat.le_refl _) c80 e81) ce_X11_refused im_X11_refused sl_X11_refused ml_X11_112 cl_X11 c80 dX11_over_86 (by omega) (Nat.le_of_ble_eq_true rfl) rfl rfl ?_
          show EvG _ _ _ _ _ _ _ _ _ _ _ 89 [(5, .int z44), (4, .ref b31), (3, .ref b5), (0, .ref t), (1, .int x1), (2, .int x2)] [.int z83] h82
          replace HF := bind_ck HF
          obtain ⟨c85, HF⟩ := HF
          obtain rfl := Option.some.inj HF
          exact ev_zret (v := z83) (nar_z c85) dX11_over_89
    · replace HF := ite_F c20 HF
      refine ev_if_eqF (tgt := 44) dX11_over_29 (by decide) c20 ?_
      refine ev_aload_n 1 dX11_over_32 rfl ?_
      refine ev_aload_n 1 dX11_over_33 rfl ?_
      replace HF := bind_o HF
      obtain ⟨b86, e87, HF⟩ := HF
      refine ev_gS (f := 1205) cl_X11 (k := 5) (by decide) fi_X11_5 rfl fl_X11_42 dX11_over_34 c16 e87 ?_
      replace HF := bind_ck HF
      obtain ⟨c88, HF⟩ := HF
      refine ev_gIN (f := 706) cl_X6 (k := 6) (by decide) fi_X6_6 rfl fl_X11_119 dX11_over_37 c88 ?_
      replace HF := bind_o HF
      obtain ⟨⟨z91, h90⟩, e89, HF⟩ := HF
      replace HF := bd_o (bd_o HF)
      dsimp only at HF
      refine ev_callV (As := [.int (hF h14 706 b86)]) (R1 := (some (.int z91), h90)) (lk_X11_refused (d := 0) (Nat.le_refl _) c16 e89) ce_X11_refused im_X11_refused sl_X11_refused ml_X11_112 cl_X11 c16 dX11_over_40 (by omega) (Nat.le_of_ble_eq_true rfl) rfl rfl ?_
      show EvG _ _ _ _ _ _ _ _ _ _ _ 43 [(3, .ref b5), (0, .ref t), (1, .int x1), (2, .int x2)] [.int z91] h90
      replace HF := bind_ck HF
      obtain ⟨c93, HF⟩ := HF
      obtain rfl := Option.some.inj HF
      exact ev_zret (v := z91) (nar_z c93) dX11_over_43

set_option maxRecDepth 20000 in
theorem lk_X11_keep {g : aG} {l : Launch} {d : Nat} (hdd : 4 ≤ d) {t : Nat} {x1 : Int32} {x2 : Int32} {x3 : Int32} {a4 : Nat} {h : aH} {r : aH} (hT : hK h t = 13) (HF : F_X11_keep t x1 x2 x3 a4 h = some r) : MA g l yX11_keep cX11_keep 5 (none) d [.ref t, .int x1, .int x2, .int x3, .ref a4] h (none, r) := by
  refine MA.of (lv0 := [(0, .ref t), (1, .int x1), (2, .int x2), (3, .int x3), (4, .ref a4)]) (by decide +kernel) (rfl) (Nat.le_of_ble_eq_true rfl) ?_
  unfold F_X11_keep at HF
  refine ev_aload_n 0 dX11_keep_0 rfl ?_
  replace HF := bind_o HF
  obtain ⟨b1, e2, HF⟩ := HF
  refine ev_gS (f := 1204) cl_X11 (k := 4) (by decide) fi_X11_4 rfl fl_X11_35 dX11_keep_1 hT e2 ?_
  refine ev_iload_n 1 dX11_keep_4 rfl ?_
  refine ev_iconst (v := 2) dX11_keep_5 (by decide) ?_
  refine ev_iload_n 2 dX11_keep_6 rfl ?_
  refine ev_iload_n 3 dX11_keep_7 rfl ?_
  refine ev_aload 4 dX11_keep_8 rfl ?_
  show EvG _ _ _ _ _ _ _ _ _ _ _ 10 _ _ _
  replace HF := bind_ck HF
  obtain ⟨c3, HF⟩ := HF
  replace HF := bind_o HF
  obtain ⟨h5, e4, HF⟩ := HF
  refine ev_callV (As := [.int x1, .int 2, .int x2, .int x3, va_rf (some a4)]) (R1 := (none, h5)) (lk_X2_push (d := 3) (Nat.le_refl _) c3 e4) ce_X2_push im_X2_push sl_X2_push ml_X11_125 cl_X2 c3 dX11_keep_10 (by omega) (Nat.le_of_ble_eq_true rfl) rfl rfl ?_
  show EvG _ _ _ _ _ _ _ _ _ _ _ 13 [(0, .ref t), (1, .int x1), (2, .int x2), (3, .int x3), (4, .ref a4)] [] h5
  refine ev_aload_n 0 dX11_keep_13 rfl ?_
  replace HF := bind_ck HF
  obtain ⟨c7, HF⟩ := HF
  replace HF := bind_o HF
  obtain ⟨h9, e8, HF⟩ := HF
  refine ev_callV (As := []) (R1 := (none, h9)) (lk_X11_forgetPlay (d := 0) (Nat.le_refl _) c7 e8) ce_X11_forgetPlay im_X11_forgetPlay sl_X11_forgetPlay ml_X11_109 cl_X11 c7 dX11_keep_14 (by omega) (Nat.le_of_ble_eq_true rfl) rfl rfl ?_
  show EvG _ _ _ _ _ _ _ _ _ _ _ 17 [(0, .ref t), (1, .int x1), (2, .int x2), (3, .int x3), (4, .ref a4)] [] h9
  obtain rfl := Option.some.inj HF
  exact ev_vret dX11_keep_17

set_option maxRecDepth 20000 in
theorem lk_X11_ball_85 {g : aG} {l : Launch} {d : Nat} {h0 : aH} (hdd : 7 ≤ d) {r : Int32 × aH} (t : Nat) (h : aH) (HF : F_X11_ball_85  t h = some r) : Ev g l cX11_ball 8 yX11_ball (some .boolean) d h0 (some (.int r.1), r.2) 85 [(0, .ref t)] [] h := by
  unfold F_X11_ball_85 at HF
  refine ev_aload_n 0 dX11_ball_85 rfl ?_
  refine ev_bipush (v := 11) dX11_ball_86 (by decide) ?_
  replace HF := bind_ck HF
  obtain ⟨c1, HF⟩ := HF
  replace HF := bind_o HF
  obtain ⟨⟨z4, h3⟩, e2, HF⟩ := HF
  replace HF := bd_o (bd_o HF)
  dsimp only at HF
  refine ev_callV (As := [.int 11]) (R1 := (some (.int z4), h3)) (lk_X11_refused (d := 0) (Nat.le_refl _) c1 e2) ce_X11_refused im_X11_refused sl_X11_refused ml_X11_112 cl_X11 c1 dX11_ball_88 (by omega) (Nat.le_of_ble_eq_true rfl) rfl rfl ?_
  show EvG _ _ _ _ _ _ _ _ _ _ _ 91 [(0, .ref t)] [.int z4] h3
  replace HF := bind_ck HF
  obtain ⟨c6, HF⟩ := HF
  obtain rfl := Option.some.inj HF
  exact ev_zret (v := z4) (nar_z c6) dX11_ball_91

set_option maxRecDepth 20000 in
theorem lk_X11_ball {g : aG} {l : Launch} {d : Nat} (hdd : 7 ≤ d) {t : Nat} {x1 : Int32} {x2 : Int32} {h : aH} {r : Int32 × aH} (hT : hK h t = 13) (HF : F_X11_ball t x1 x2 h = some r) : MA g l yX11_ball cX11_ball 8 (some .boolean) d [.ref t, .int x1, .int x2] h (some (.int r.1), r.2) := by
  refine MA.of (lv0 := [(0, .ref t), (1, .int x1), (2, .int x2)]) (by decide +kernel) (rfl) (Nat.le_of_ble_eq_true rfl) ?_
  unfold F_X11_ball at HF
  refine ev_aload_n 0 dX11_ball_0 rfl ?_
  refine ev_iload_n 1 dX11_ball_1 rfl ?_
  replace HF := bind_o HF
  obtain ⟨⟨o3, h2⟩, e1, HF⟩ := HF
  replace HF := bd_o (bd_o HF)
  dsimp only at HF
  refine ev_callV (As := [.int x1]) (R1 := (some (va_rf o3), h2)) (lk_X11_gameAt (d := 3) (Nat.le_refl _) hT e1) ce_X11_gameAt im_X11_gameAt sl_X11_gameAt ml_X11_91 cl_X11 hT dX11_ball_2 (by omega) (Nat.le_of_ble_eq_true rfl) rfl rfl ?_
  show EvG _ _ _ _ _ _ _ _ _ _ _ 5 [(0, .ref t), (1, .int x1), (2, .int x2)] [va_rf o3] h2
  refine ev_astore_nr (lv' := [(3, va_rf o3), (0, .ref t), (1, .int x1), (2, .int x2)]) dX11_ball_5 (by decide) (rfl) ?_
  refine ev_aload_nr 0 dX11_ball_6 rfl ?_
  cases o3 with
  | none =>
    refine ev_ifnonnullN dX11_ball_7 ?_
    refine ev_aload_n 1 dX11_ball_10 rfl ?_
    refine ev_iconst (v := 0) dX11_ball_11 (by decide) ?_
    replace HF := bind_ck HF
    obtain ⟨c6, HF⟩ := HF
    replace HF := bind_o HF
    obtain ⟨⟨z9, h8⟩, e7, HF⟩ := HF
    replace HF := bd_o (bd_o HF)
    dsimp only at HF
    refine ev_callV (As := [.int 0]) (R1 := (some (.int z9), h8)) (lk_X11_refused (d := 0) (Nat.le_refl _) c6 e7) ce_X11_refused im_X11_refused sl_X11_refused ml_X11_112 cl_X11 c6 dX11_ball_12 (by omega) (Nat.le_of_ble_eq_true rfl) rfl rfl ?_
    show EvG _ _ _ _ _ _ _ _ _ _ _ 15 [(3, va_rf none), (0, .ref t), (1, .int x1), (2, .int x2)] [.int z9] h8
    replace HF := bind_ck HF
    obtain ⟨c11, HF⟩ := HF
    obtain rfl := Option.some.inj HF
    exact ev_zret (v := z9) (nar_z c11) dX11_ball_15
  | some b5 =>
    refine ev_ifnonnullS (tgt := 16) dX11_ball_7 (by decide) ?_
    refine ev_aload_n 1 dX11_ball_16 rfl ?_
    refine ev_iload_n 2 dX11_ball_17 rfl ?_
    refine ev_aload_n 0 dX11_ball_18 rfl ?_
    replace HF := bind_ck HF
    obtain ⟨c12, HF⟩ := HF
    replace HF := bind_o HF
    obtain ⟨h14, e13, HF⟩ := HF
    refine ev_callV (As := [.int x1, va_rf (some b5)]) (R1 := (none, h14)) (lk_X11_playOver (d := 6) (Nat.le_refl _) c12 e13) ce_X11_playOver im_X11_playOver sl_X11_playOver ml_X11_115 cl_X11 c12 dX11_ball_19 (by omega) (Nat.le_of_ble_eq_true rfl) rfl rfl ?_
    show EvG _ _ _ _ _ _ _ _ _ _ _ 22 [(3, .ref b5), (0, .ref t), (1, .int x1), (2, .int x2)] [] h14
    refine ev_aload_n 1 dX11_ball_22 rfl ?_
    replace HF := bind_ck HF
    obtain ⟨c16, HF⟩ := HF
    replace HF := bind_o HF
    obtain ⟨b17, e18, HF⟩ := HF
    refine ev_gS (f := 1205) cl_X11 (k := 5) (by decide) fi_X11_5 rfl fl_X11_42 dX11_ball_23 c16 e18 ?_
    replace HF := bind_ck HF
    obtain ⟨c19, HF⟩ := HF
    refine ev_gIN (f := 706) cl_X6 (k := 6) (by decide) fi_X6_6 rfl fl_X11_119 dX11_ball_26 c19 ?_
    show EvG _ _ _ _ _ _ _ _ _ _ _ 29 _ _ _
    by_cases c20 : hF h14 706 b17 = 0
    · replace HF := ite_T c20 HF
      refine ev_if_eqT (tgt := 44) dX11_ball_29 (by decide) c20 ?_
      refine ev_aload_n 0 dX11_ball_44 rfl ?_
      replace HF := bind_ck HF
      obtain ⟨c21, HF⟩ := HF
      replace HF := bind_o HF
      obtain ⟨⟨z24, h23⟩, e22, HF⟩ := HF
      replace HF := bd_o (bd_o HF)
      dsimp only at HF
      refine ev_callV (As := []) (R1 := (some (.int z24), h23)) (lk_X3_turnCount (d := 1) (Nat.le_refl _) c21 e22) ce_X3_turnCount im_X3_turnCount sl_X3_turnCount ml_X11_102 cl_X3 c21 dX11_ball_45 (by omega) (Nat.le_of_ble_eq_true rfl) rfl rfl ?_
      show EvG _ _ _ _ _ _ _ _ _ _ _ 48 [(3, .ref b5), (0, .ref t), (1, .int x1), (2, .int x2)] [.int z24] h23
      refine ev_iconst (v := 1) dX11_ball_48 (by decide) ?_
      refine ev_isub dX11_ball_49 ?_
      replace HF := bd_n HF
      obtain ⟨v26, ev26, HF⟩ := HF
      refine ev_topI ev26 ?_
      refine ev_istore (lv' := [(4, .int v26), (3, .ref b5), (0, .ref t), (1, .int x1), (2, .int x2)]) dX11_ball_50 (by decide) (rfl) ?_
      refine ev_aload_n 1 dX11_ball_52 rfl ?_
      refine ev_iload 0 dX11_ball_53 rfl ?_
      show EvG _ _ _ _ _ _ _ _ _ _ _ 55 _ _ _
      replace HF := bind_ck HF
      obtain ⟨c27, HF⟩ := HF
      replace HF := bind_o HF
      obtain ⟨⟨z30, h29⟩, e28, HF⟩ := HF
      replace HF := bd_o (bd_o HF)
      dsimp only at HF
      refine ev_callV (As := [.int v26]) (R1 := (some (.int z30), h29)) (lk_X3_overCountOf (d := 4) (Nat.le_refl _) c27 e28) ce_X3_overCountOf im_X3_overCountOf sl_X3_overCountOf ml_X11_159 cl_X3 c27 dX11_ball_55 (by omega) (Nat.le_of_ble_eq_true rfl) rfl rfl ?_
      show EvG _ _ _ _ _ _ _ _ _ _ _ 58 [(4, .int v26), (3, .ref b5), (0, .ref t), (1, .int x1), (2, .int x2)] [.int z30] h29
      refine ev_iconst (v := 1) dX11_ball_58 (by decide) ?_
      refine ev_isub dX11_ball_59 ?_
      replace HF := bd_n HF
      obtain ⟨v32, ev32, HF⟩ := HF
      refine ev_topI ev32 ?_
      refine ev_istore (lv' := [(5, .int v32), (4, .int v26), (3, .ref b5), (0, .ref t), (1, .int x1), (2, .int x2)]) dX11_ball_60 (by decide) (rfl) ?_
      refine ev_aload_n 2 dX11_ball_62 rfl ?_
      refine ev_iload 1 dX11_ball_63 rfl ?_
      refine ev_iload 0 dX11_ball_65 rfl ?_
      replace HF := bind_ck HF
      obtain ⟨c33, HF⟩ := HF
      replace HF := bind_o HF
      obtain ⟨⟨o36, h35⟩, e34, HF⟩ := HF
      replace HF := bd_o (bd_o HF)
      dsimp only at HF
      refine ev_callV (As := [.int v26, .int v32]) (R1 := (some (va_rf o36), h35)) (lk_X3_overAt (d := 4) (Nat.le_refl _) c33 e34) ce_X3_overAt im_X3_overAt sl_X3_overAt ml_X11_162 cl_X3 c33 dX11_ball_67 (by omega) (Nat.le_of_ble_eq_true rfl) rfl rfl ?_
      show EvG _ _ _ _ _ _ _ _ _ _ _ 70 [(5, .int v32), (4, .int v26), (3, .ref b5), (0, .ref t), (1, .int x1), (2, .int x2)] [va_rf o36] h35
      show EvG _ _ _ _ _ _ _ _ _ _ _ 70 _ _ _
      refine ev_astorer (lv' := [(6, va_rf o36), (5, .int v32), (4, .int v26), (3, .ref b5), (0, .ref t), (1, .int x1), (2, .int x2)]) dX11_ball_70 (by decide) (rfl) ?_
      refine ev_aloadr 0 dX11_ball_72 rfl ?_
      cases o36 with
      | none =>
        refine ev_ifnullN (tgt := 85) dX11_ball_74 (by decide) ?_
        exact Ev.sub [4] rfl (lk_X11_ball_85 hdd  t _ HF)
      | some b38 =>
        refine ev_ifnullS dX11_ball_74 ?_
        refine ev_aload 0 dX11_ball_77 rfl ?_
        replace HF := bind_ck HF
        obtain ⟨c39, HF⟩ := HF
        replace HF := bind_o HF
        obtain ⟨⟨z42, h41⟩, e40, HF⟩ := HF
        replace HF := bd_o (bd_o HF)
        dsimp only at HF
        refine ev_callV (As := []) (R1 := (some (.int z42), h41)) (lk_X5_isMissing (d := 0) (Nat.le_refl _) c39 e40) ce_X5_isMissing im_X5_isMissing sl_X5_isMissing ml_X11_166 cl_X5 c39 dX11_ball_79 (by omega) (Nat.le_of_ble_eq_true rfl) rfl rfl ?_
        show EvG _ _ _ _ _ _ _ _ _ _ _ 82 [(6, .ref b38), (5, .int v32), (4, .int v26), (3, .ref b5), (0, .ref t), (1, .int x1), (2, .int x2)] [.int z42] h41
        by_cases c44 : z42 = 0
        · replace HF := ite_T c44 HF
          refine ev_if_eqT (tgt := 92) dX11_ball_82 (by decide) c44 ?_
          refine ev_aload 0 dX11_ball_92 rfl ?_
          replace HF := bind_ck HF
          obtain ⟨c45, HF⟩ := HF
          replace HF := bind_o HF
          obtain ⟨⟨z48, h47⟩, e46, HF⟩ := HF
          replace HF := bd_o (bd_o HF)
          dsimp only at HF
          refine ev_callV (As := []) (R1 := (some (.int z48), h47)) (lk_X5_isFull (d := 0) (Nat.le_refl _) c45 e46) ce_X5_isFull im_X5_isFull sl_X5_isFull ml_X11_169 cl_X5 c45 dX11_ball_94 (by omega) (Nat.le_of_ble_eq_true rfl) rfl rfl ?_
          show EvG _ _ _ _ _ _ _ _ _ _ _ 97 [(6, .ref b38), (5, .int v32), (4, .int v26), (3, .ref b5), (0, .ref t), (1, .int x1), (2, .int x2)] [.int z48] h47
          by_cases c50 : z48 = 0
          · replace HF := ite_T c50 HF
            refine ev_if_eqT (tgt := 107) dX11_ball_97 (by decide) c50 ?_
            refine ev_aload_n 4 dX11_ball_107 rfl ?_
            replace HF := bind_ck HF
            obtain ⟨c51, HF⟩ := HF
            replace HF := bind_o HF
            obtain ⟨b52, e53, HF⟩ := HF
            refine ev_gS (f := 1205) cl_X11 (k := 5) (by decide) fi_X11_5 rfl fl_X11_42 dX11_ball_108 c51 e53 ?_
            refine ev_iload_n 6 dX11_ball_111 rfl ?_
            refine ev_sipush (v := 255) dX11_ball_112 (by decide) ?_
            refine ev_iand dX11_ball_115 ?_
            replace HF := bind_ck HF
            obtain ⟨c54, HF⟩ := HF
            replace HF := bind_o HF
            obtain ⟨⟨z57, h56⟩, e55, HF⟩ := HF
            replace HF := bd_o (bd_o HF)
            dsimp only at HF
            refine ev_callV (As := [.int (x2 &&& 255)]) (R1 := (some (.int z57), h56)) (lk_X6_ruleOfEntry (d := 2) (Nat.le_refl _) c54 e55) ce_X6_ruleOfEntry im_X6_ruleOfEntry sl_X6_ruleOfEntry ml_X11_172 cl_X6 c54 dX11_ball_116 (by omega) (Nat.le_of_ble_eq_true rfl) rfl rfl ?_
            show EvG _ _ _ _ _ _ _ _ _ _ _ 119 [(6, .ref b38), (5, .int v32), (4, .int v26), (3, .ref b5), (0, .ref t), (1, .int x1), (2, .int x2)] [.int z57] h56
            refine ev_istore (lv' := [(7, .int z57), (6, .ref b38), (5, .int v32), (4, .int v26), (3, .ref b5), (0, .ref t), (1, .int x1), (2, .int x2)]) dX11_ball_119 (by decide) (rfl) ?_
            show EvG _ _ _ _ _ _ _ _ _ _ _ 121 _ _ _
            refine ev_iload 0 dX11_ball_121 rfl ?_
            by_cases c59 : z57 = 0
            · replace HF := ite_T c59 HF
              refine ev_if_eqT (tgt := 133) dX11_ball_123 (by decide) c59 ?_
              refine ev_aload_n 5 dX11_ball_133 rfl ?_
              refine ev_iload_n 6 dX11_ball_134 rfl ?_
              refine ev_iload 3 dX11_ball_135 rfl ?_
              refine ev_iload 2 dX11_ball_137 rfl ?_
              refine ev_aload 1 dX11_ball_139 rfl ?_
              replace HF := bind_ck HF
              obtain ⟨c60, HF⟩ := HF
              replace HF := bind_o HF
              obtain ⟨h62, e61, HF⟩ := HF
              refine ev_callV (As := [.int x1, .int v26, .int v32, .ref b38]) (R1 := (none, h62)) (lk_X11_keep (d := 4) (Nat.le_refl _) c60 e61) ce_X11_keep im_X11_keep sl_X11_keep ml_X11_175 cl_X11 c60 dX11_ball_141 (by omega) (Nat.le_of_ble_eq_true rfl) rfl rfl ?_
              show EvG _ _ _ _ _ _ _ _ _ _ _ 144 [(7, .int z57), (6, .ref b38), (5, .int v32), (4, .int v26), (3, .ref b5), (0, .ref t), (1, .int x1), (2, .int x2)] [] h62
              refine ev_aload 1 dX11_ball_144 rfl ?_
              show EvG _ _ _ _ _ _ _ _ _ _ _ 146 _ _ _
              refine ev_aload 1 dX11_ball_146 rfl ?_
              replace HF := bind_ck HF
              obtain ⟨c64, HF⟩ := HF
              refine ev_gIN (f := 602) cl_X5 (k := 2) (by decide) fi_X5_2 rfl fl_X11_179 dX11_ball_148 c64 ?_
              refine ev_iload_n 7 dX11_ball_151 rfl ?_
              refine ev_sipush (v := 255) dX11_ball_152 (by decide) ?_
              refine ev_iand dX11_ball_155 ?_
              replace HF := bind_o HF
              obtain ⟨h66, e65, HF⟩ := HF
              refine ev_callV (As := [.int (hF h62 602 b38), .int (x2 &&& 255)]) (R1 := (none, h66)) (lk_X5_insert (d := 2) (Nat.le_refl _) c64 e65) ce_X5_insert im_X5_insert sl_X5_insert ml_X11_181 cl_X5 c64 dX11_ball_156 (by omega) (Nat.le_of_ble_eq_true rfl) rfl rfl ?_
              show EvG _ _ _ _ _ _ _ _ _ _ _ 159 [(7, .int z57), (6, .ref b38), (5, .int v32), (4, .int v26), (3, .ref b5), (0, .ref t), (1, .int x1), (2, .int x2)] [] h66
              refine ev_aload_n 5 dX11_ball_159 rfl ?_
              replace HF := bind_ck HF
              obtain ⟨c68, HF⟩ := HF
              replace HF := bind_o HF
              obtain ⟨⟨z71, h70⟩, e69, HF⟩ := HF
              replace HF := bd_o (bd_o HF)
              dsimp only at HF
              refine ev_callV (As := []) (R1 := (some (.int z71), h70)) (lk_X11_done (d := 1) (Nat.le_refl _) c68 e69) ce_X11_done im_X11_done sl_X11_done ml_X11_136 cl_X11 c68 dX11_ball_160 (by omega) (Nat.le_of_ble_eq_true rfl) rfl rfl ?_
              show EvG _ _ _ _ _ _ _ _ _ _ _ 163 [(7, .int z57), (6, .ref b38), (5, .int v32), (4, .int v26), (3, .ref b5), (0, .ref t), (1, .int x1), (2, .int x2)] [.int z71] h70
              show EvG _ _ _ _ _ _ _ _ _ _ _ 163 _ _ _
              replace HF := bind_ck HF
              obtain ⟨c73, HF⟩ := HF
              obtain rfl := Option.some.inj HF
              exact ev_zret (v := z71) (nar_z c73) dX11_ball_163
            · replace HF := ite_F c59 HF
              refine ev_if_eqF (tgt := 133) dX11_ball_123 (by decide) c59 ?_
              refine ev_aload_n 5 dX11_ball_126 rfl ?_
              refine ev_iload 0 dX11_ball_127 rfl ?_
              replace HF := bind_ck HF
              obtain ⟨c74, HF⟩ := HF
              replace HF := bind_o HF
              obtain ⟨⟨z77, h76⟩, e75, HF⟩ := HF
              replace HF := bd_o (bd_o HF)
              dsimp only at HF
              refine ev_callV (As := [.int z57]) (R1 := (some (.int z77), h76)) (lk_X11_refused (d := 0) (Nat.le_refl _) c74 e75) ce_X11_refused im_X11_refused sl_X11_refused ml_X11_112 cl_X11 c74 dX11_ball_129 (by omega) (Nat.le_of_ble_eq_true rfl) rfl rfl ?_
              show EvG _ _ _ _ _ _ _ _ _ _ _ 132 [(7, .int z57), (6, .ref b38), (5, .int v32), (4, .int v26), (3, .ref b5), (0, .ref t), (1, .int x1), (2, .int x2)] [.int z77] h76
              replace HF := bind_ck HF
              obtain ⟨c79, HF⟩ := HF
              obtain rfl := Option.some.inj HF
              exact ev_zret (v := z77) (nar_z c79) dX11_ball_132
          · replace HF := ite_F c50 HF
            refine ev_if_eqF (tgt := 107) dX11_ball_97 (by decide) c50 ?_
            refine ev_aload_n 4 dX11_ball_100 rfl ?_
            refine ev_bipush (v := 12) dX11_ball_101 (by decide) ?_
            replace HF := bind_ck HF
            obtain ⟨c80, HF⟩ := HF
            replace HF := bind_o HF
            obtain ⟨⟨z83, h82⟩, e81, HF⟩ := HF
            replace HF := bd_o (bd_o HF)
            dsimp only at HF
            refine ev_callV (As := [.int 12]) (R1 := (some (.int z83), h82)) (lk_X11_refused (d := 0) (Nat.le_refl _) c80 e81) ce_X11_refused im_X11_refused sl_X11_refused ml_X11_112 cl_X11 c80 dX11_ball_103 (by omega) (Nat.le_of_ble_eq_true rfl) rfl rfl ?_
            show EvG _ _ _ _ _ _ _ _ _ _ _ 106 [(6, .ref b38), (5, .int v32), (4, .int v26), (3, .ref b5), (0, .ref t), (1, .int x1), (2, .int x2)] [.int z83] h82
            replace HF := bind_ck HF
            obtain ⟨c85, HF⟩ := HF
            obtain rfl := Option.some.inj HF
            exact ev_zret (v := z83) (nar_z c85) dX11_ball_106
        · replace HF := ite_F c44 HF
          refine ev_if_eqF (tgt := 92) dX11_ball_82 (by decide) c44 ?_
          exact Ev.sub [4] rfl (lk_X11_ball_85 hdd  t _ HF)
    · replace HF := ite_F c20 HF
      refine ev_if_eqF (tgt := 44) dX11_ball_29 (by decide) c20 ?_
      refine ev_aload_n 1 dX11_ball_32 rfl ?_
      refine ev_aload_n 1 dX11_ball_33 rfl ?_
      replace HF := bind_o HF
      obtain ⟨b86, e87, HF⟩ := HF
      refine ev_gS (f := 1205) cl_X11 (k := 5) (by decide) fi_X11_5 rfl fl_X11_42 dX11_ball_34 c16 e87 ?_
      replace HF := bind_ck HF
      obtain ⟨c88, HF⟩ := HF
      refine ev_gIN (f := 706) cl_X6 (k := 6) (by decide) fi_X6_6 rfl fl_X11_119 dX11_ball_37 c88 ?_
      replace HF := bind_o HF
      obtain ⟨⟨z91, h90⟩, e89, HF⟩ := HF
      replace HF := bd_o (bd_o HF)
      dsimp only at HF
      refine ev_callV (As := [.int (hF h14 706 b86)]) (R1 := (some (.int z91), h90)) (lk_X11_refused (d := 0) (Nat.le_refl _) c16 e89) ce_X11_refused im_X11_refused sl_X11_refused ml_X11_112 cl_X11 c16 dX11_ball_40 (by omega) (Nat.le_of_ble_eq_true rfl) rfl rfl ?_
      show EvG _ _ _ _ _ _ _ _ _ _ _ 43 [(3, .ref b5), (0, .ref t), (1, .int x1), (2, .int x2)] [.int z91] h90
      replace HF := bind_ck HF
      obtain ⟨c93, HF⟩ := HF
      obtain rfl := Option.some.inj HF
      exact ev_zret (v := z91) (nar_z c93) dX11_ball_43

set_option maxRecDepth 20000 in
theorem lk_X11_feed {g : aG} {l : Launch} {d : Nat} (hdd : 2 ≤ d) {t : Nat} {x1 : Int32} {x2 : Int32} {x3 : Int32} {x4 : Int32} {x5 : Int32} {h : aH} {r : Int32 × aH} (hT : hK h t = 13) (HF : F_X11_feed t x1 x2 x3 x4 x5 h = some r) : MA g l yX11_feed cX11_feed 6 (some .int) d [.ref t, .int x1, .int x2, .int x3, .int x4, .int x5] h (some (.int r.1), r.2) := by
  refine MA.of (lv0 := [(0, .ref t), (1, .int x1), (2, .int x2), (3, .int x3), (4, .int x4), (5, .int x5)]) (by decide +kernel) (rfl) (Nat.le_of_ble_eq_true rfl) ?_
  unfold F_X11_feed at HF
  refine ev_aload_n 0 dX11_feed_0 rfl ?_
  replace HF := bind_o HF
  obtain ⟨b1, e2, HF⟩ := HF
  refine ev_gS (f := 1202) cl_X11 (k := 2) (by decide) fi_X11_2 rfl fl_X11_25 dX11_feed_1 hT e2 ?_
  replace HF := bind_ck HF
  obtain ⟨c3, HF⟩ := HF
  refine ev_gIN (f := 101) cl_X0 (k := 1) (by decide) fi_X0_1 rfl fl_X11_184 dX11_feed_4 c3 ?_
  refine ev_sipush (v := 5980) dX11_feed_7 (by decide) ?_
  by_cases c4 : hF h 101 b1 ≤ 5980
  · replace HF := ite_T c4 HF
    refine ev_icmp_leT (tgt := 15) dX11_feed_10 (by decide) c4 ?_
    refine ev_aload_n 0 dX11_feed_15 rfl ?_
    replace HF := bind_o HF
    obtain ⟨b5, e6, HF⟩ := HF
    refine ev_gS (f := 1202) cl_X11 (k := 2) (by decide) fi_X11_2 rfl fl_X11_25 dX11_feed_16 hT e6 ?_
    refine ev_iload_n 1 dX11_feed_19 rfl ?_
    replace HF := bind_ck HF
    obtain ⟨c7, HF⟩ := HF
    replace HF := bind_o HF
    obtain ⟨h9, e8, HF⟩ := HF
    refine ev_callV (As := [.int x1]) (R1 := (none, h9)) (lk_X0_addNumber (d := 1) (Nat.le_refl _) c7 e8) ce_X0_addNumber im_X0_addNumber sl_X0_addNumber ml_X11_185 cl_X0 c7 dX11_feed_20 (by omega) (Nat.le_of_ble_eq_true rfl) rfl rfl ?_
    show EvG _ _ _ _ _ _ _ _ _ _ _ 23 [(0, .ref t), (1, .int x1), (2, .int x2), (3, .int x3), (4, .int x4), (5, .int x5)] [] h9
    refine ev_aload_n 0 dX11_feed_23 rfl ?_
    replace HF := bind_ck HF
    obtain ⟨c11, HF⟩ := HF
    replace HF := bind_o HF
    obtain ⟨b12, e13, HF⟩ := HF
    refine ev_gS (f := 1202) cl_X11 (k := 2) (by decide) fi_X11_2 rfl fl_X11_25 dX11_feed_24 c11 e13 ?_
    refine ev_iload_n 2 dX11_feed_27 rfl ?_
    show EvG _ _ _ _ _ _ _ _ _ _ _ 28 _ _ _
    replace HF := bind_ck HF
    obtain ⟨c14, HF⟩ := HF
    replace HF := bind_o HF
    obtain ⟨h16, e15, HF⟩ := HF
    refine ev_callV (As := [.int x2]) (R1 := (none, h16)) (lk_X0_addNumber (d := 1) (Nat.le_refl _) c14 e15) ce_X0_addNumber im_X0_addNumber sl_X0_addNumber ml_X11_185 cl_X0 c14 dX11_feed_28 (by omega) (Nat.le_of_ble_eq_true rfl) rfl rfl ?_
    show EvG _ _ _ _ _ _ _ _ _ _ _ 31 [(0, .ref t), (1, .int x1), (2, .int x2), (3, .int x3), (4, .int x4), (5, .int x5)] [] h16
    refine ev_aload_n 0 dX11_feed_31 rfl ?_
    replace HF := bind_ck HF
    obtain ⟨c18, HF⟩ := HF
    replace HF := bind_o HF
    obtain ⟨b19, e20, HF⟩ := HF
    refine ev_gS (f := 1202) cl_X11 (k := 2) (by decide) fi_X11_2 rfl fl_X11_25 dX11_feed_32 c18 e20 ?_
    refine ev_iload_n 3 dX11_feed_35 rfl ?_
    replace HF := bind_ck HF
    obtain ⟨c21, HF⟩ := HF
    replace HF := bind_o HF
    obtain ⟨h23, e22, HF⟩ := HF
    refine ev_callV (As := [.int x3]) (R1 := (none, h23)) (lk_X0_addNumber (d := 1) (Nat.le_refl _) c21 e22) ce_X0_addNumber im_X0_addNumber sl_X0_addNumber ml_X11_185 cl_X0 c21 dX11_feed_36 (by omega) (Nat.le_of_ble_eq_true rfl) rfl rfl ?_
    show EvG _ _ _ _ _ _ _ _ _ _ _ 39 [(0, .ref t), (1, .int x1), (2, .int x2), (3, .int x3), (4, .int x4), (5, .int x5)] [] h23
    refine ev_aload_n 0 dX11_feed_39 rfl ?_
    replace HF := bind_ck HF
    obtain ⟨c25, HF⟩ := HF
    replace HF := bind_o HF
    obtain ⟨b26, e27, HF⟩ := HF
    refine ev_gS (f := 1202) cl_X11 (k := 2) (by decide) fi_X11_2 rfl fl_X11_25 dX11_feed_40 c25 e27 ?_
    refine ev_iload 4 dX11_feed_43 rfl ?_
    show EvG _ _ _ _ _ _ _ _ _ _ _ 45 _ _ _
    replace HF := bind_ck HF
    obtain ⟨c28, HF⟩ := HF
    replace HF := bind_o HF
    obtain ⟨h30, e29, HF⟩ := HF
    refine ev_callV (As := [.int x4]) (R1 := (none, h30)) (lk_X0_addNumber (d := 1) (Nat.le_refl _) c28 e29) ce_X0_addNumber im_X0_addNumber sl_X0_addNumber ml_X11_185 cl_X0 c28 dX11_feed_45 (by omega) (Nat.le_of_ble_eq_true rfl) rfl rfl ?_
    show EvG _ _ _ _ _ _ _ _ _ _ _ 48 [(0, .ref t), (1, .int x1), (2, .int x2), (3, .int x3), (4, .int x4), (5, .int x5)] [] h30
    refine ev_aload_n 0 dX11_feed_48 rfl ?_
    replace HF := bind_ck HF
    obtain ⟨c32, HF⟩ := HF
    replace HF := bind_o HF
    obtain ⟨b33, e34, HF⟩ := HF
    refine ev_gS (f := 1202) cl_X11 (k := 2) (by decide) fi_X11_2 rfl fl_X11_25 dX11_feed_49 c32 e34 ?_
    refine ev_iload 5 dX11_feed_52 rfl ?_
    replace HF := bind_ck HF
    obtain ⟨c35, HF⟩ := HF
    replace HF := bind_o HF
    obtain ⟨h37, e36, HF⟩ := HF
    refine ev_callV (As := [.int x5]) (R1 := (none, h37)) (lk_X0_addNumber (d := 1) (Nat.le_refl _) c35 e36) ce_X0_addNumber im_X0_addNumber sl_X0_addNumber ml_X11_185 cl_X0 c35 dX11_feed_54 (by omega) (Nat.le_of_ble_eq_true rfl) rfl rfl ?_
    show EvG _ _ _ _ _ _ _ _ _ _ _ 57 [(0, .ref t), (1, .int x1), (2, .int x2), (3, .int x3), (4, .int x4), (5, .int x5)] [] h37
    refine ev_aload_n 0 dX11_feed_57 rfl ?_
    replace HF := bind_ck HF
    obtain ⟨c39, HF⟩ := HF
    replace HF := bind_o HF
    obtain ⟨b40, e41, HF⟩ := HF
    refine ev_gS (f := 1202) cl_X11 (k := 2) (by decide) fi_X11_2 rfl fl_X11_25 dX11_feed_58 c39 e41 ?_
    replace HF := bind_ck HF
    obtain ⟨c42, HF⟩ := HF
    refine ev_gIN (f := 101) cl_X0 (k := 1) (by decide) fi_X0_1 rfl fl_X11_184 dX11_feed_61 c42 ?_
    show EvG _ _ _ _ _ _ _ _ _ _ _ 64 _ _ _
    obtain rfl := Option.some.inj HF
    exact ev_iret dX11_feed_64
  · replace HF := ite_F c4 HF
    refine ev_icmp_leF (tgt := 15) dX11_feed_10 (by decide) c4 ?_
    refine ev_iconst (v := (-1)) dX11_feed_13 (by decide) ?_
    obtain rfl := Option.some.inj HF
    exact ev_iret dX11_feed_14

set_option maxRecDepth 20000 in
theorem lk_X11_overOf {g : aG} {l : Launch} {d : Nat} (hdd : 5 ≤ d) {t : Nat} {x1 : Int32} {x2 : Int32} {x3 : Int32} {h : aH} {r : Option Nat × aH} (hT : hK h t = 13) (HF : F_X11_overOf t x1 x2 x3 h = some r) : MA g l yX11_overOf cX11_overOf 5 (some (.object "BallBook$Over")) d [.ref t, .int x1, .int x2, .int x3] h (some (va_rf r.1), r.2) := by
  refine MA.of (lv0 := [(0, .ref t), (1, .int x1), (2, .int x2), (3, .int x3)]) (by decide +kernel) (rfl) (Nat.le_of_ble_eq_true rfl) ?_
  unfold F_X11_overOf at HF
  refine ev_aload_n 0 dX11_overOf_0 rfl ?_
  refine ev_iload_n 1 dX11_overOf_1 rfl ?_
  replace HF := bind_o HF
  obtain ⟨⟨o3, h2⟩, e1, HF⟩ := HF
  replace HF := bd_o (bd_o HF)
  dsimp only at HF
  refine ev_callV (As := [.int x1]) (R1 := (some (va_rf o3), h2)) (lk_X11_gameAt (d := 3) (Nat.le_refl _) hT e1) ce_X11_gameAt im_X11_gameAt sl_X11_gameAt ml_X11_91 cl_X11 hT dX11_overOf_2 (by omega) (Nat.le_of_ble_eq_true rfl) rfl rfl ?_
  show EvG _ _ _ _ _ _ _ _ _ _ _ 5 [(0, .ref t), (1, .int x1), (2, .int x2), (3, .int x3)] [va_rf o3] h2
  refine ev_astorer (lv' := [(4, va_rf o3), (0, .ref t), (1, .int x1), (2, .int x2), (3, .int x3)]) dX11_overOf_5 (by decide) (rfl) ?_
  refine ev_aloadr 0 dX11_overOf_7 rfl ?_
  cases o3 with
  | none =>
    refine ev_ifnonnullN dX11_overOf_9 ?_
    refine ev_null dX11_overOf_12 ?_
    refine ev_goto (tgt := 23) dX11_overOf_13 (by decide) ?_
    obtain rfl := Option.some.inj HF
    exact ev_aret (r := none) (Or.inl ⟨_, rfl⟩) dX11_overOf_23
  | some b5 =>
    refine ev_ifnonnullS (tgt := 16) dX11_overOf_9 (by decide) ?_
    refine ev_aload 0 dX11_overOf_16 rfl ?_
    refine ev_iload_n 3 dX11_overOf_18 rfl ?_
    refine ev_iload_n 4 dX11_overOf_19 rfl ?_
    replace HF := bind_ck HF
    obtain ⟨c6, HF⟩ := HF
    replace HF := bind_o HF
    obtain ⟨⟨o9, h8⟩, e7, HF⟩ := HF
    replace HF := bd_o (bd_o HF)
    dsimp only at HF
    refine ev_callV (As := [.int x2, .int x3]) (R1 := (some (va_rf o9), h8)) (lk_X3_overAt (d := 4) (Nat.le_refl _) c6 e7) ce_X3_overAt im_X3_overAt sl_X3_overAt ml_X11_162 cl_X3 c6 dX11_overOf_20 (by omega) (Nat.le_of_ble_eq_true rfl) rfl rfl ?_
    show EvG _ _ _ _ _ _ _ _ _ _ _ 23 [(4, .ref b5), (0, .ref t), (1, .int x1), (2, .int x2), (3, .int x3)] [va_rf o9] h8
    obtain rfl := Option.some.inj HF
    exact ev_aret (r := o9) (Or.inl ⟨_, rfl⟩) dX11_overOf_23

set_option maxRecDepth 20000 in
theorem lk_X11_open_58 {g : aG} {l : Launch} {d : Nat} {h0 : aH} (hdd : 6 ≤ d) {r : Int32 × aH} : ∀ (n : Nat) (t : Nat) (x4 : Int32) (a5 : Nat) (x6 : Int32) (h : aH), F_X11_open_58  n t x4 a5 x6 h = some r → Ev g l cX11_open 7 yX11_open (some .boolean) d h0 (some (.int r.1), r.2) 58 [(0, .ref t), (4, .int x4), (5, .ref a5), (6, .int x6)] [] h := by
  intro n
  induction n with
  | zero => intro t x4 a5 x6 h HF; cases HF
  | succ n ih =>
  intro t x4 a5 x6 h HF
  unfold F_X11_open_58 at HF
  refine ev_iload 3 dX11_open_58 rfl ?_
  refine ev_iload 1 dX11_open_60 rfl ?_
  by_cases c1 : x4 ≤ x6
  · replace HF := ite_T c1 HF
    refine ev_icmp_geT (tgt := 87) dX11_open_62 (by decide) c1 ?_
    refine ev_aload_n 0 dX11_open_87 rfl ?_
    replace HF := bind_ck HF
    obtain ⟨c2, HF⟩ := HF
    replace HF := bind_o HF
    obtain ⟨b3, e4, HF⟩ := HF
    refine ev_gS (f := 1202) cl_X11 (k := 2) (by decide) fi_X11_2 rfl fl_X11_25 dX11_open_88 c2 e4 ?_
    replace HF := bind_ck HF
    obtain ⟨c5, HF⟩ := HF
    replace HF := bind_o HF
    obtain ⟨h7, e6, HF⟩ := HF
    refine ev_callV (As := []) (R1 := (none, h7)) (lk_X0_clear (d := 0) (Nat.le_refl _) c5 e6) ce_X0_clear im_X0_clear sl_X0_clear ml_X11_195 cl_X0 c5 dX11_open_91 (by omega) (Nat.le_of_ble_eq_true rfl) rfl rfl ?_
    show EvG _ _ _ _ _ _ _ _ _ _ _ 94 [(0, .ref t), (4, .int x4), (5, .ref a5), (6, .int x6)] [] h7
    refine ev_iconst (v := 1) dX11_open_94 (by decide) ?_
    obtain rfl := Option.some.inj HF
    exact ev_zret (v := 1) narrow_b1 dX11_open_95
  · replace HF := ite_F c1 HF
    refine ev_icmp_geF (tgt := 87) dX11_open_62 (by decide) c1 ?_
    refine ev_aload 2 dX11_open_65 rfl ?_
    refine ev_iload 3 dX11_open_67 rfl ?_
    refine ev_aload_n 0 dX11_open_69 rfl ?_
    replace HF := bind_ck HF
    obtain ⟨c9, HF⟩ := HF
    replace HF := bind_o HF
    obtain ⟨b10, e11, HF⟩ := HF
    refine ev_gS (f := 1202) cl_X11 (k := 2) (by decide) fi_X11_2 rfl fl_X11_25 dX11_open_70 c9 e11 ?_
    refine ev_iload 3 dX11_open_73 rfl ?_
    replace HF := bind_ck HF
    obtain ⟨c12, HF⟩ := HF
    replace HF := bind_o HF
    obtain ⟨⟨z15, h14⟩, e13, HF⟩ := HF
    replace HF := bd_o (bd_o HF)
    dsimp only at HF
    refine ev_callV (As := [.int x6]) (R1 := (some (.int z15), h14)) (lk_X0_at (d := 0) (Nat.le_refl _) c12 e13) ce_X0_at im_X0_at sl_X0_at ml_X11_192 cl_X0 c12 dX11_open_75 (by omega) (Nat.le_of_ble_eq_true rfl) rfl rfl ?_
    show EvG _ _ _ _ _ _ _ _ _ _ _ 78 [(0, .ref t), (4, .int x4), (5, .ref a5), (6, .int x6)] [.int z15, .int x6, .ref a5] h14
    replace HF := bind_ck HF
    obtain ⟨c17, HF⟩ := HF
    replace HF := bind_o HF
    obtain ⟨h19, e18, HF⟩ := HF
    refine ev_callV (As := [.int x6, .int z15]) (R1 := (none, h19)) (lk_X5_insert (d := 2) (Nat.le_refl _) c17 e18) ce_X5_insert im_X5_insert sl_X5_insert ml_X11_181 cl_X5 c17 dX11_open_78 (by omega) (Nat.le_of_ble_eq_true rfl) rfl rfl ?_
    show EvG _ _ _ _ _ _ _ _ _ _ _ 81 [(0, .ref t), (4, .int x4), (5, .ref a5), (6, .int x6)] [] h19
    show EvG _ _ _ _ _ _ _ _ _ _ _ 81 _ _ _
    replace HF := bd_n HF
    obtain ⟨v21, ev21, HF⟩ := HF
    refine ev_iinc (v := v21) (lv' := [(6, .int v21), (0, .ref t), (4, .int x4), (5, .ref a5)]) 3 dX11_open_81 rfl (by rw [ev21]; rfl) (by decide) (rfl) ?_
    refine ev_goto (tgt := 58) dX11_open_84 (by decide) ?_
    exact Ev.sub [1, 2, 3, 0] rfl (ih t x4 a5 v21 _ HF)

set_option maxRecDepth 20000 in
theorem lk_X11_open {g : aG} {l : Launch} {d : Nat} (hdd : 6 ≤ d) {t : Nat} {x1 : Int32} {x2 : Int32} {x3 : Int32} {x4 : Int32} {h : aH} {r : Int32 × aH} (hT : hK h t = 13) (HF : F_X11_open t x1 x2 x3 x4 h = some r) : MA g l yX11_open cX11_open 7 (some .boolean) d [.ref t, .int x1, .int x2, .int x3, .int x4] h (some (.int r.1), r.2) := by
  refine MA.of (lv0 := [(0, .ref t), (1, .int x1), (2, .int x2), (3, .int x3), (4, .int x4)]) (by decide +kernel) (rfl) (Nat.le_of_ble_eq_true rfl) ?_
  unfold F_X11_open at HF
  refine ev_aload_n 0 dX11_open_0 rfl ?_
  refine ev_iload_n 1 dX11_open_1 rfl ?_
  refine ev_iload_n 2 dX11_open_2 rfl ?_
  refine ev_iload_n 3 dX11_open_3 rfl ?_
  replace HF := bind_o HF
  obtain ⟨⟨o3, h2⟩, e1, HF⟩ := HF
  replace HF := bd_o (bd_o HF)
  dsimp only at HF
  refine ev_callV (As := [.int x1, .int x2, .int x3]) (R1 := (some (va_rf o3), h2)) (lk_X11_overOf (d := 5) (Nat.le_refl _) hT e1) ce_X11_overOf im_X11_overOf sl_X11_overOf ml_X11_188 cl_X11 hT dX11_open_4 (by omega) (Nat.le_of_ble_eq_true rfl) rfl rfl ?_
  show EvG _ _ _ _ _ _ _ _ _ _ _ 7 [(0, .ref t), (1, .int x1), (2, .int x2), (3, .int x3), (4, .int x4)] [va_rf o3] h2
  refine ev_astorer (lv' := [(5, va_rf o3), (0, .ref t), (1, .int x1), (2, .int x2), (3, .int x3), (4, .int x4)]) dX11_open_7 (by decide) (rfl) ?_
  refine ev_aloadr 0 dX11_open_9 rfl ?_
  show EvG _ _ _ _ _ _ _ _ _ _ _ 11 _ _ _
  cases o3 with
  | none =>
    refine ev_ifnullN (tgt := 38) dX11_open_11 (by decide) ?_
    refine ev_iconst (v := 0) dX11_open_38 (by decide) ?_
    obtain rfl := Option.some.inj HF
    exact ev_zret (v := 0) narrow_b0 dX11_open_39
  | some b5 =>
    refine ev_ifnullS dX11_open_11 ?_
    refine ev_iload 5 dX11_open_14 rfl ?_
    by_cases c6 : x4 < 0
    · replace HF := ite_T c6 HF
      refine ev_if_ltT (tgt := 38) dX11_open_16 (by decide) c6 ?_
      refine ev_iconst (v := 0) dX11_open_38 (by decide) ?_
      obtain rfl := Option.some.inj HF
      exact ev_zret (v := 0) narrow_b0 dX11_open_39
    · replace HF := ite_F c6 HF
      refine ev_if_ltF (tgt := 38) dX11_open_16 (by decide) c6 ?_
      refine ev_iload 5 dX11_open_19 rfl ?_
      refine ev_bipush (v := 40) dX11_open_21 (by decide) ?_
      by_cases c7 : 40 < x4
      · replace HF := ite_T c7 HF
        refine ev_icmp_gtT (tgt := 38) dX11_open_23 (by decide) c7 ?_
        refine ev_iconst (v := 0) dX11_open_38 (by decide) ?_
        obtain rfl := Option.some.inj HF
        exact ev_zret (v := 0) narrow_b0 dX11_open_39
      · replace HF := ite_F c7 HF
        refine ev_icmp_gtF (tgt := 38) dX11_open_23 (by decide) c7 ?_
        refine ev_iload 5 dX11_open_26 rfl ?_
        refine ev_aload_n 1 dX11_open_28 rfl ?_
        replace HF := bind_ck HF
        obtain ⟨c8, HF⟩ := HF
        replace HF := bind_o HF
        obtain ⟨b9, e10, HF⟩ := HF
        refine ev_gS (f := 1202) cl_X11 (k := 2) (by decide) fi_X11_2 rfl fl_X11_25 dX11_open_29 c8 e10 ?_
        replace HF := bind_ck HF
        obtain ⟨c11, HF⟩ := HF
        refine ev_gIN (f := 101) cl_X0 (k := 1) (by decide) fi_X0_1 rfl fl_X11_184 dX11_open_32 c11 ?_
        by_cases c12 : x4 ≤ hF h2 101 b9
        · replace HF := ite_T c12 HF
          refine ev_icmp_leT (tgt := 40) dX11_open_35 (by decide) c12 ?_
          refine ev_aload_n 1 dX11_open_40 rfl ?_
          refine ev_iload_n 2 dX11_open_41 rfl ?_
          refine ev_iload_n 3 dX11_open_42 rfl ?_
          refine ev_iload_n 4 dX11_open_43 rfl ?_
          refine ev_aload 0 dX11_open_44 rfl ?_
          replace HF := bind_o HF
          obtain ⟨h14, e13, HF⟩ := HF
          refine ev_callV (As := [.int x1, .int x2, .int x3, .ref b5]) (R1 := (none, h14)) (lk_X11_keep (d := 4) (Nat.le_refl _) c8 e13) ce_X11_keep im_X11_keep sl_X11_keep ml_X11_175 cl_X11 c8 dX11_open_46 (by omega) (Nat.le_of_ble_eq_true rfl) rfl rfl ?_
          show EvG _ _ _ _ _ _ _ _ _ _ _ 49 [(5, .ref b5), (0, .ref t), (1, .int x1), (2, .int x2), (3, .int x3), (4, .int x4)] [] h14
          refine ev_aload 0 dX11_open_49 rfl ?_
          show EvG _ _ _ _ _ _ _ _ _ _ _ 51 _ _ _
          refine ev_iconst (v := 0) dX11_open_51 (by decide) ?_
          replace HF := bind_ck HF
          obtain ⟨c16, HF⟩ := HF
          refine ev_pIN (f := 602) cl_X5 (k := 2) (by decide) fi_X5_2 rfl fl_X11_179 rfl rfl rfl dX11_open_52 c16 ?_
          replace HF := bd_n HF
          obtain ⟨h17, eh17, HF⟩ := HF
          refine ev_heap eh17 ?_
          have c18 : hK h17 b5 = 7 := by rw [eh17]; exact c16
          refine ev_iconst (v := 0) dX11_open_55 (by decide) ?_
          refine ev_istore (lv' := [(6, .int 0), (5, .ref b5), (0, .ref t), (1, .int x1), (2, .int x2), (3, .int x3), (4, .int x4)]) dX11_open_56 (by decide) (rfl) ?_
          exact Ev.sub [2, 6, 1, 0] rfl (lk_X11_open_58 hdd  fu t x4 b5 0 _ HF)
        · replace HF := ite_F c12 HF
          refine ev_icmp_leF (tgt := 40) dX11_open_35 (by decide) c12 ?_
          refine ev_iconst (v := 0) dX11_open_38 (by decide) ?_
          obtain rfl := Option.some.inj HF
          exact ev_zret (v := 0) narrow_b0 dX11_open_39

set_option maxRecDepth 20000 in
theorem lk_X11_tear {g : aG} {l : Launch} {d : Nat} (hdd : 6 ≤ d) {t : Nat} {x1 : Int32} {x2 : Int32} {x3 : Int32} {h : aH} {r : Int32 × aH} (hT : hK h t = 13) (HF : F_X11_tear t x1 x2 x3 h = some r) : MA g l yX11_tear cX11_tear 5 (some .boolean) d [.ref t, .int x1, .int x2, .int x3] h (some (.int r.1), r.2) := by
  refine MA.of (lv0 := [(0, .ref t), (1, .int x1), (2, .int x2), (3, .int x3)]) (by decide +kernel) (rfl) (Nat.le_of_ble_eq_true rfl) ?_
  unfold F_X11_tear at HF
  refine ev_aload_n 0 dX11_tear_0 rfl ?_
  refine ev_iload_n 1 dX11_tear_1 rfl ?_
  refine ev_iload_n 2 dX11_tear_2 rfl ?_
  refine ev_iload_n 3 dX11_tear_3 rfl ?_
  replace HF := bind_o HF
  obtain ⟨⟨o3, h2⟩, e1, HF⟩ := HF
  replace HF := bd_o (bd_o HF)
  dsimp only at HF
  refine ev_callV (As := [.int x1, .int x2, .int x3]) (R1 := (some (va_rf o3), h2)) (lk_X11_overOf (d := 5) (Nat.le_refl _) hT e1) ce_X11_overOf im_X11_overOf sl_X11_overOf ml_X11_188 cl_X11 hT dX11_tear_4 (by omega) (Nat.le_of_ble_eq_true rfl) rfl rfl ?_
  show EvG _ _ _ _ _ _ _ _ _ _ _ 7 [(0, .ref t), (1, .int x1), (2, .int x2), (3, .int x3)] [va_rf o3] h2
  refine ev_astorer (lv' := [(4, va_rf o3), (0, .ref t), (1, .int x1), (2, .int x2), (3, .int x3)]) dX11_tear_7 (by decide) (rfl) ?_
  refine ev_aloadr 0 dX11_tear_9 rfl ?_
  show EvG _ _ _ _ _ _ _ _ _ _ _ 11 _ _ _
  cases o3 with
  | none =>
    refine ev_ifnullN (tgt := 22) dX11_tear_11 (by decide) ?_
    refine ev_iconst (v := 0) dX11_tear_22 (by decide) ?_
    obtain rfl := Option.some.inj HF
    exact ev_zret (v := 0) narrow_b0 dX11_tear_23
  | some b5 =>
    refine ev_ifnullS dX11_tear_11 ?_
    refine ev_aload 0 dX11_tear_14 rfl ?_
    replace HF := bind_ck HF
    obtain ⟨c6, HF⟩ := HF
    replace HF := bind_o HF
    obtain ⟨⟨z9, h8⟩, e7, HF⟩ := HF
    replace HF := bd_o (bd_o HF)
    dsimp only at HF
    refine ev_callV (As := []) (R1 := (some (.int z9), h8)) (lk_X5_isMissing (d := 0) (Nat.le_refl _) c6 e7) ce_X5_isMissing im_X5_isMissing sl_X5_isMissing ml_X11_166 cl_X5 c6 dX11_tear_16 (by omega) (Nat.le_of_ble_eq_true rfl) rfl rfl ?_
    show EvG _ _ _ _ _ _ _ _ _ _ _ 19 [(4, .ref b5), (0, .ref t), (1, .int x1), (2, .int x2), (3, .int x3)] [.int z9] h8
    by_cases c11 : z9 = 0
    · replace HF := ite_T c11 HF
      refine ev_if_eqT (tgt := 24) dX11_tear_19 (by decide) c11 ?_
      refine ev_aload_n 1 dX11_tear_24 rfl ?_
      refine ev_iload_n 2 dX11_tear_25 rfl ?_
      refine ev_iload_n 3 dX11_tear_26 rfl ?_
      refine ev_iload_n 4 dX11_tear_27 rfl ?_
      refine ev_aload 0 dX11_tear_28 rfl ?_
      replace HF := bind_ck HF
      obtain ⟨c12, HF⟩ := HF
      replace HF := bind_o HF
      obtain ⟨h14, e13, HF⟩ := HF
      refine ev_callV (As := [.int x1, .int x2, .int x3, .ref b5]) (R1 := (none, h14)) (lk_X11_keep (d := 4) (Nat.le_refl _) c12 e13) ce_X11_keep im_X11_keep sl_X11_keep ml_X11_175 cl_X11 c12 dX11_tear_30 (by omega) (Nat.le_of_ble_eq_true rfl) rfl rfl ?_
      show EvG _ _ _ _ _ _ _ _ _ _ _ 33 [(4, .ref b5), (0, .ref t), (1, .int x1), (2, .int x2), (3, .int x3)] [] h14
      refine ev_aload 0 dX11_tear_33 rfl ?_
      show EvG _ _ _ _ _ _ _ _ _ _ _ 35 _ _ _
      refine ev_iconst (v := (-1)) dX11_tear_35 (by decide) ?_
      replace HF := bind_ck HF
      obtain ⟨c16, HF⟩ := HF
      refine ev_pIN (f := 602) cl_X5 (k := 2) (by decide) fi_X5_2 rfl fl_X11_179 rfl rfl rfl dX11_tear_36 c16 ?_
      replace HF := bd_n HF
      obtain ⟨h17, eh17, HF⟩ := HF
      refine ev_heap eh17 ?_
      have c18 : hK h17 b5 = 7 := by rw [eh17]; exact c16
      refine ev_iconst (v := 1) dX11_tear_39 (by decide) ?_
      obtain rfl := Option.some.inj HF
      exact ev_zret (v := 1) narrow_b1 dX11_tear_40
    · replace HF := ite_F c11 HF
      refine ev_if_eqF (tgt := 24) dX11_tear_19 (by decide) c11 ?_
      refine ev_iconst (v := 0) dX11_tear_22 (by decide) ?_
      obtain rfl := Option.some.inj HF
      exact ev_zret (v := 0) narrow_b0 dX11_tear_23

set_option maxRecDepth 20000 in
theorem lk_X11_put {g : aG} {l : Launch} {d : Nat} (hdd : 6 ≤ d) {t : Nat} {x1 : Int32} {x2 : Int32} {x3 : Int32} {x4 : Int32} {x5 : Int32} {h : aH} {r : Int32 × aH} (hT : hK h t = 13) (HF : F_X11_put t x1 x2 x3 x4 x5 h = some r) : MA g l yX11_put cX11_put 7 (some .boolean) d [.ref t, .int x1, .int x2, .int x3, .int x4, .int x5] h (some (.int r.1), r.2) := by
  refine MA.of (lv0 := [(0, .ref t), (1, .int x1), (2, .int x2), (3, .int x3), (4, .int x4), (5, .int x5)]) (by decide +kernel) (rfl) (Nat.le_of_ble_eq_true rfl) ?_
  unfold F_X11_put at HF
  refine ev_aload_n 0 dX11_put_0 rfl ?_
  refine ev_iload_n 1 dX11_put_1 rfl ?_
  refine ev_iload_n 2 dX11_put_2 rfl ?_
  refine ev_iload_n 3 dX11_put_3 rfl ?_
  replace HF := bind_o HF
  obtain ⟨⟨o3, h2⟩, e1, HF⟩ := HF
  replace HF := bd_o (bd_o HF)
  dsimp only at HF
  refine ev_callV (As := [.int x1, .int x2, .int x3]) (R1 := (some (va_rf o3), h2)) (lk_X11_overOf (d := 5) (Nat.le_refl _) hT e1) ce_X11_overOf im_X11_overOf sl_X11_overOf ml_X11_188 cl_X11 hT dX11_put_4 (by omega) (Nat.le_of_ble_eq_true rfl) rfl rfl ?_
  show EvG _ _ _ _ _ _ _ _ _ _ _ 7 [(0, .ref t), (1, .int x1), (2, .int x2), (3, .int x3), (4, .int x4), (5, .int x5)] [va_rf o3] h2
  refine ev_astorer (lv' := [(6, va_rf o3), (0, .ref t), (1, .int x1), (2, .int x2), (3, .int x3), (4, .int x4), (5, .int x5)]) dX11_put_7 (by decide) (rfl) ?_
  refine ev_aloadr 0 dX11_put_9 rfl ?_
  show EvG _ _ _ _ _ _ _ _ _ _ _ 11 _ _ _
  cases o3 with
  | none =>
    refine ev_ifnullN (tgt := 45) dX11_put_11 (by decide) ?_
    refine ev_iconst (v := 0) dX11_put_45 (by decide) ?_
    obtain rfl := Option.some.inj HF
    exact ev_zret (v := 0) narrow_b0 dX11_put_46
  | some b5 =>
    refine ev_ifnullS dX11_put_11 ?_
    refine ev_aload 0 dX11_put_14 rfl ?_
    replace HF := bind_ck HF
    obtain ⟨c6, HF⟩ := HF
    replace HF := bind_o HF
    obtain ⟨⟨z9, h8⟩, e7, HF⟩ := HF
    replace HF := bd_o (bd_o HF)
    dsimp only at HF
    refine ev_callV (As := []) (R1 := (some (.int z9), h8)) (lk_X5_isMissing (d := 0) (Nat.le_refl _) c6 e7) ce_X5_isMissing im_X5_isMissing sl_X5_isMissing ml_X11_166 cl_X5 c6 dX11_put_16 (by omega) (Nat.le_of_ble_eq_true rfl) rfl rfl ?_
    show EvG _ _ _ _ _ _ _ _ _ _ _ 19 [(6, .ref b5), (0, .ref t), (1, .int x1), (2, .int x2), (3, .int x3), (4, .int x4), (5, .int x5)] [.int z9] h8
    by_cases c11 : z9 = 0
    · replace HF := ite_T c11 HF
      refine ev_if_neF (tgt := 45) dX11_put_19 (by decide) c11 ?_
      refine ev_iload 5 dX11_put_22 rfl ?_
      by_cases c12 : x4 < 0
      · replace HF := ite_T c12 HF
        refine ev_if_ltT (tgt := 45) dX11_put_24 (by decide) c12 ?_
        refine ev_iconst (v := 0) dX11_put_45 (by decide) ?_
        obtain rfl := Option.some.inj HF
        exact ev_zret (v := 0) narrow_b0 dX11_put_46
      · replace HF := ite_F c12 HF
        refine ev_if_ltF (tgt := 45) dX11_put_24 (by decide) c12 ?_
        refine ev_iload 5 dX11_put_27 rfl ?_
        refine ev_aload 0 dX11_put_29 rfl ?_
        replace HF := bind_ck HF
        obtain ⟨c13, HF⟩ := HF
        refine ev_gIN (f := 602) cl_X5 (k := 2) (by decide) fi_X5_2 rfl fl_X11_179 dX11_put_31 c13 ?_
        by_cases c14 : hF h8 602 b5 < x4
        · replace HF := ite_T c14 HF
          refine ev_icmp_gtT (tgt := 45) dX11_put_34 (by decide) c14 ?_
          refine ev_iconst (v := 0) dX11_put_45 (by decide) ?_
          obtain rfl := Option.some.inj HF
          exact ev_zret (v := 0) narrow_b0 dX11_put_46
        · replace HF := ite_F c14 HF
          refine ev_icmp_gtF (tgt := 45) dX11_put_34 (by decide) c14 ?_
          refine ev_aload 0 dX11_put_37 rfl ?_
          replace HF := bind_o HF
          obtain ⟨⟨z17, h16⟩, e15, HF⟩ := HF
          replace HF := bd_o (bd_o HF)
          dsimp only at HF
          refine ev_callV (As := []) (R1 := (some (.int z17), h16)) (lk_X5_isFull (d := 0) (Nat.le_refl _) c13 e15) ce_X5_isFull im_X5_isFull sl_X5_isFull ml_X11_169 cl_X5 c13 dX11_put_39 (by omega) (Nat.le_of_ble_eq_true rfl) rfl rfl ?_
          show EvG _ _ _ _ _ _ _ _ _ _ _ 42 [(6, .ref b5), (0, .ref t), (1, .int x1), (2, .int x2), (3, .int x3), (4, .int x4), (5, .int x5)] [.int z17] h16
          by_cases c19 : z17 = 0
          · replace HF := ite_T c19 HF
            refine ev_if_eqT (tgt := 47) dX11_put_42 (by decide) c19 ?_
            refine ev_aload_n 1 dX11_put_47 rfl ?_
            refine ev_iload_n 2 dX11_put_48 rfl ?_
            refine ev_iload_n 3 dX11_put_49 rfl ?_
            refine ev_iload_n 4 dX11_put_50 rfl ?_
            refine ev_aload 0 dX11_put_51 rfl ?_
            replace HF := bind_ck HF
            obtain ⟨c20, HF⟩ := HF
            replace HF := bind_o HF
            obtain ⟨h22, e21, HF⟩ := HF
            refine ev_callV (As := [.int x1, .int x2, .int x3, .ref b5]) (R1 := (none, h22)) (lk_X11_keep (d := 4) (Nat.le_refl _) c20 e21) ce_X11_keep im_X11_keep sl_X11_keep ml_X11_175 cl_X11 c20 dX11_put_53 (by omega) (Nat.le_of_ble_eq_true rfl) rfl rfl ?_
            show EvG _ _ _ _ _ _ _ _ _ _ _ 56 [(6, .ref b5), (0, .ref t), (1, .int x1), (2, .int x2), (3, .int x3), (4, .int x4), (5, .int x5)] [] h22
            refine ev_aload 0 dX11_put_56 rfl ?_
            show EvG _ _ _ _ _ _ _ _ _ _ _ 58 _ _ _
            refine ev_iload 5 dX11_put_58 rfl ?_
            refine ev_iload 6 dX11_put_60 rfl ?_
            refine ev_sipush (v := 255) dX11_put_62 (by decide) ?_
            refine ev_iand dX11_put_65 ?_
            replace HF := bind_ck HF
            obtain ⟨c24, HF⟩ := HF
            replace HF := bind_o HF
            obtain ⟨h26, e25, HF⟩ := HF
            refine ev_callV (As := [.int x4, .int (x5 &&& 255)]) (R1 := (none, h26)) (lk_X5_insert (d := 2) (Nat.le_refl _) c24 e25) ce_X5_insert im_X5_insert sl_X5_insert ml_X11_181 cl_X5 c24 dX11_put_66 (by omega) (Nat.le_of_ble_eq_true rfl) rfl rfl ?_
            show EvG _ _ _ _ _ _ _ _ _ _ _ 69 [(6, .ref b5), (0, .ref t), (1, .int x1), (2, .int x2), (3, .int x3), (4, .int x4), (5, .int x5)] [] h26
            refine ev_iconst (v := 1) dX11_put_69 (by decide) ?_
            obtain rfl := Option.some.inj HF
            exact ev_zret (v := 1) narrow_b1 dX11_put_70
          · replace HF := ite_F c19 HF
            refine ev_if_eqF (tgt := 47) dX11_put_42 (by decide) c19 ?_
            refine ev_iconst (v := 0) dX11_put_45 (by decide) ?_
            obtain rfl := Option.some.inj HF
            exact ev_zret (v := 0) narrow_b0 dX11_put_46
    · replace HF := ite_F c11 HF
      refine ev_if_neT (tgt := 45) dX11_put_19 (by decide) c11 ?_
      refine ev_iconst (v := 0) dX11_put_45 (by decide) ?_
      obtain rfl := Option.some.inj HF
      exact ev_zret (v := 0) narrow_b0 dX11_put_46

set_option maxRecDepth 20000 in
theorem lk_X11_mend {g : aG} {l : Launch} {d : Nat} (hdd : 6 ≤ d) {t : Nat} {x1 : Int32} {x2 : Int32} {x3 : Int32} {x4 : Int32} {x5 : Int32} {h : aH} {r : Int32 × aH} (hT : hK h t = 13) (HF : F_X11_mend t x1 x2 x3 x4 x5 h = some r) : MA g l yX11_mend cX11_mend 8 (some .int) d [.ref t, .int x1, .int x2, .int x3, .int x4, .int x5] h (some (.int r.1), r.2) := by
  refine MA.of (lv0 := [(0, .ref t), (1, .int x1), (2, .int x2), (3, .int x3), (4, .int x4), (5, .int x5)]) (by decide +kernel) (rfl) (Nat.le_of_ble_eq_true rfl) ?_
  unfold F_X11_mend at HF
  refine ev_aload_n 0 dX11_mend_0 rfl ?_
  refine ev_iload_n 1 dX11_mend_1 rfl ?_
  refine ev_iload_n 2 dX11_mend_2 rfl ?_
  refine ev_iload_n 3 dX11_mend_3 rfl ?_
  replace HF := bind_o HF
  obtain ⟨⟨o3, h2⟩, e1, HF⟩ := HF
  replace HF := bd_o (bd_o HF)
  dsimp only at HF
  refine ev_callV (As := [.int x1, .int x2, .int x3]) (R1 := (some (va_rf o3), h2)) (lk_X11_overOf (d := 5) (Nat.le_refl _) hT e1) ce_X11_overOf im_X11_overOf sl_X11_overOf ml_X11_188 cl_X11 hT dX11_mend_4 (by omega) (Nat.le_of_ble_eq_true rfl) rfl rfl ?_
  show EvG _ _ _ _ _ _ _ _ _ _ _ 7 [(0, .ref t), (1, .int x1), (2, .int x2), (3, .int x3), (4, .int x4), (5, .int x5)] [va_rf o3] h2
  refine ev_astorer (lv' := [(6, va_rf o3), (0, .ref t), (1, .int x1), (2, .int x2), (3, .int x3), (4, .int x4), (5, .int x5)]) dX11_mend_7 (by decide) (rfl) ?_
  refine ev_aloadr 0 dX11_mend_9 rfl ?_
  show EvG _ _ _ _ _ _ _ _ _ _ _ 11 _ _ _
  cases o3 with
  | none =>
    refine ev_ifnullN (tgt := 24) dX11_mend_11 (by decide) ?_
    refine ev_iconst (v := (-1)) dX11_mend_24 (by decide) ?_
    obtain rfl := Option.some.inj HF
    exact ev_iret dX11_mend_25
  | some b5 =>
    refine ev_ifnullS dX11_mend_11 ?_
    refine ev_aload 0 dX11_mend_14 rfl ?_
    refine ev_iload 5 dX11_mend_16 rfl ?_
    replace HF := bind_ck HF
    obtain ⟨c6, HF⟩ := HF
    replace HF := bind_o HF
    obtain ⟨⟨z9, h8⟩, e7, HF⟩ := HF
    replace HF := bd_o (bd_o HF)
    dsimp only at HF
    refine ev_callV (As := [.int x4]) (R1 := (some (.int z9), h8)) (lk_X5_has (d := 0) (Nat.le_refl _) c6 e7) ce_X5_has im_X5_has sl_X5_has ml_X11_198 cl_X5 c6 dX11_mend_18 (by omega) (Nat.le_of_ble_eq_true rfl) rfl rfl ?_
    show EvG _ _ _ _ _ _ _ _ _ _ _ 21 [(6, .ref b5), (0, .ref t), (1, .int x1), (2, .int x2), (3, .int x3), (4, .int x4), (5, .int x5)] [.int z9] h8
    by_cases c11 : z9 = 0
    · replace HF := ite_T c11 HF
      refine ev_if_neF (tgt := 26) dX11_mend_21 (by decide) c11 ?_
      refine ev_iconst (v := (-1)) dX11_mend_24 (by decide) ?_
      obtain rfl := Option.some.inj HF
      exact ev_iret dX11_mend_25
    · replace HF := ite_F c11 HF
      refine ev_if_neT (tgt := 26) dX11_mend_21 (by decide) c11 ?_
      refine ev_aload_n 1 dX11_mend_26 rfl ?_
      refine ev_iload_n 2 dX11_mend_27 rfl ?_
      refine ev_iload_n 3 dX11_mend_28 rfl ?_
      refine ev_iload_n 4 dX11_mend_29 rfl ?_
      refine ev_aload 0 dX11_mend_30 rfl ?_
      replace HF := bind_ck HF
      obtain ⟨c12, HF⟩ := HF
      replace HF := bind_o HF
      obtain ⟨h14, e13, HF⟩ := HF
      refine ev_callV (As := [.int x1, .int x2, .int x3, .ref b5]) (R1 := (none, h14)) (lk_X11_keep (d := 4) (Nat.le_refl _) c12 e13) ce_X11_keep im_X11_keep sl_X11_keep ml_X11_175 cl_X11 c12 dX11_mend_32 (by omega) (Nat.le_of_ble_eq_true rfl) rfl rfl ?_
      show EvG _ _ _ _ _ _ _ _ _ _ _ 35 [(6, .ref b5), (0, .ref t), (1, .int x1), (2, .int x2), (3, .int x3), (4, .int x4), (5, .int x5)] [] h14
      refine ev_aload 0 dX11_mend_35 rfl ?_
      show EvG _ _ _ _ _ _ _ _ _ _ _ 37 _ _ _
      refine ev_iload 5 dX11_mend_37 rfl ?_
      replace HF := bind_ck HF
      obtain ⟨c16, HF⟩ := HF
      replace HF := bind_o HF
      obtain ⟨⟨z19, h18⟩, e17, HF⟩ := HF
      replace HF := bd_o (bd_o HF)
      dsimp only at HF
      refine ev_callV (As := [.int x4]) (R1 := (some (.int z19), h18)) (lk_X5_at (d := 1) (Nat.le_refl _) c16 e17) ce_X5_at im_X5_at sl_X5_at ml_X11_201 cl_X5 c16 dX11_mend_39 (by omega) (Nat.le_of_ble_eq_true rfl) rfl rfl ?_
      show EvG _ _ _ _ _ _ _ _ _ _ _ 42 [(6, .ref b5), (0, .ref t), (1, .int x1), (2, .int x2), (3, .int x3), (4, .int x4), (5, .int x5)] [.int z19] h18
      refine ev_istore (lv' := [(7, .int z19), (6, .ref b5), (0, .ref t), (1, .int x1), (2, .int x2), (3, .int x3), (4, .int x4), (5, .int x5)]) dX11_mend_42 (by decide) (rfl) ?_
      refine ev_aload 1 dX11_mend_44 rfl ?_
      refine ev_iload 6 dX11_mend_46 rfl ?_
      refine ev_iload 7 dX11_mend_48 rfl ?_
      refine ev_sipush (v := 255) dX11_mend_50 (by decide) ?_
      refine ev_iand dX11_mend_53 ?_
      show EvG _ _ _ _ _ _ _ _ _ _ _ 54 _ _ _
      replace HF := bind_ck HF
      obtain ⟨c21, HF⟩ := HF
      replace HF := bind_o HF
      obtain ⟨h23, e22, HF⟩ := HF
      refine ev_callV (As := [.int x4, .int (x5 &&& 255)]) (R1 := (none, h23)) (lk_X5_set (d := 1) (Nat.le_refl _) c21 e22) ce_X5_set im_X5_set sl_X5_set ml_X11_202 cl_X5 c21 dX11_mend_54 (by omega) (Nat.le_of_ble_eq_true rfl) rfl rfl ?_
      show EvG _ _ _ _ _ _ _ _ _ _ _ 57 [(7, .int z19), (6, .ref b5), (0, .ref t), (1, .int x1), (2, .int x2), (3, .int x3), (4, .int x4), (5, .int x5)] [] h23
      refine ev_iload 0 dX11_mend_57 rfl ?_
      obtain rfl := Option.some.inj HF
      exact ev_iret dX11_mend_59

set_option maxRecDepth 20000 in
theorem lk_X11_out {g : aG} {l : Launch} {d : Nat} (hdd : 6 ≤ d) {t : Nat} {x1 : Int32} {x2 : Int32} {x3 : Int32} {x4 : Int32} {h : aH} {r : Int32 × aH} (hT : hK h t = 13) (HF : F_X11_out t x1 x2 x3 x4 h = some r) : MA g l yX11_out cX11_out 7 (some .int) d [.ref t, .int x1, .int x2, .int x3, .int x4] h (some (.int r.1), r.2) := by
  refine MA.of (lv0 := [(0, .ref t), (1, .int x1), (2, .int x2), (3, .int x3), (4, .int x4)]) (by decide +kernel) (rfl) (Nat.le_of_ble_eq_true rfl) ?_
  unfold F_X11_out at HF
  refine ev_aload_n 0 dX11_out_0 rfl ?_
  refine ev_iload_n 1 dX11_out_1 rfl ?_
  refine ev_iload_n 2 dX11_out_2 rfl ?_
  refine ev_iload_n 3 dX11_out_3 rfl ?_
  replace HF := bind_o HF
  obtain ⟨⟨o3, h2⟩, e1, HF⟩ := HF
  replace HF := bd_o (bd_o HF)
  dsimp only at HF
  refine ev_callV (As := [.int x1, .int x2, .int x3]) (R1 := (some (va_rf o3), h2)) (lk_X11_overOf (d := 5) (Nat.le_refl _) hT e1) ce_X11_overOf im_X11_overOf sl_X11_overOf ml_X11_188 cl_X11 hT dX11_out_4 (by omega) (Nat.le_of_ble_eq_true rfl) rfl rfl ?_
  show EvG _ _ _ _ _ _ _ _ _ _ _ 7 [(0, .ref t), (1, .int x1), (2, .int x2), (3, .int x3), (4, .int x4)] [va_rf o3] h2
  refine ev_astorer (lv' := [(5, va_rf o3), (0, .ref t), (1, .int x1), (2, .int x2), (3, .int x3), (4, .int x4)]) dX11_out_7 (by decide) (rfl) ?_
  refine ev_aloadr 0 dX11_out_9 rfl ?_
  show EvG _ _ _ _ _ _ _ _ _ _ _ 11 _ _ _
  cases o3 with
  | none =>
    refine ev_ifnullN (tgt := 24) dX11_out_11 (by decide) ?_
    refine ev_iconst (v := (-1)) dX11_out_24 (by decide) ?_
    obtain rfl := Option.some.inj HF
    exact ev_iret dX11_out_25
  | some b5 =>
    refine ev_ifnullS dX11_out_11 ?_
    refine ev_aload 0 dX11_out_14 rfl ?_
    refine ev_iload 5 dX11_out_16 rfl ?_
    replace HF := bind_ck HF
    obtain ⟨c6, HF⟩ := HF
    replace HF := bind_o HF
    obtain ⟨⟨z9, h8⟩, e7, HF⟩ := HF
    replace HF := bd_o (bd_o HF)
    dsimp only at HF
    refine ev_callV (As := [.int x4]) (R1 := (some (.int z9), h8)) (lk_X5_has (d := 0) (Nat.le_refl _) c6 e7) ce_X5_has im_X5_has sl_X5_has ml_X11_198 cl_X5 c6 dX11_out_18 (by omega) (Nat.le_of_ble_eq_true rfl) rfl rfl ?_
    show EvG _ _ _ _ _ _ _ _ _ _ _ 21 [(5, .ref b5), (0, .ref t), (1, .int x1), (2, .int x2), (3, .int x3), (4, .int x4)] [.int z9] h8
    by_cases c11 : z9 = 0
    · replace HF := ite_T c11 HF
      refine ev_if_neF (tgt := 26) dX11_out_21 (by decide) c11 ?_
      refine ev_iconst (v := (-1)) dX11_out_24 (by decide) ?_
      obtain rfl := Option.some.inj HF
      exact ev_iret dX11_out_25
    · replace HF := ite_F c11 HF
      refine ev_if_neT (tgt := 26) dX11_out_21 (by decide) c11 ?_
      refine ev_aload_n 1 dX11_out_26 rfl ?_
      refine ev_iload_n 2 dX11_out_27 rfl ?_
      refine ev_iload_n 3 dX11_out_28 rfl ?_
      refine ev_iload_n 4 dX11_out_29 rfl ?_
      refine ev_aload 0 dX11_out_30 rfl ?_
      replace HF := bind_ck HF
      obtain ⟨c12, HF⟩ := HF
      replace HF := bind_o HF
      obtain ⟨h14, e13, HF⟩ := HF
      refine ev_callV (As := [.int x1, .int x2, .int x3, .ref b5]) (R1 := (none, h14)) (lk_X11_keep (d := 4) (Nat.le_refl _) c12 e13) ce_X11_keep im_X11_keep sl_X11_keep ml_X11_175 cl_X11 c12 dX11_out_32 (by omega) (Nat.le_of_ble_eq_true rfl) rfl rfl ?_
      show EvG _ _ _ _ _ _ _ _ _ _ _ 35 [(5, .ref b5), (0, .ref t), (1, .int x1), (2, .int x2), (3, .int x3), (4, .int x4)] [] h14
      refine ev_aload 0 dX11_out_35 rfl ?_
      show EvG _ _ _ _ _ _ _ _ _ _ _ 37 _ _ _
      refine ev_iload 5 dX11_out_37 rfl ?_
      replace HF := bind_ck HF
      obtain ⟨c16, HF⟩ := HF
      replace HF := bind_o HF
      obtain ⟨⟨z19, h18⟩, e17, HF⟩ := HF
      replace HF := bd_o (bd_o HF)
      dsimp only at HF
      refine ev_callV (As := [.int x4]) (R1 := (some (.int z19), h18)) (lk_X5_at (d := 1) (Nat.le_refl _) c16 e17) ce_X5_at im_X5_at sl_X5_at ml_X11_201 cl_X5 c16 dX11_out_39 (by omega) (Nat.le_of_ble_eq_true rfl) rfl rfl ?_
      show EvG _ _ _ _ _ _ _ _ _ _ _ 42 [(5, .ref b5), (0, .ref t), (1, .int x1), (2, .int x2), (3, .int x3), (4, .int x4)] [.int z19] h18
      refine ev_istore (lv' := [(6, .int z19), (5, .ref b5), (0, .ref t), (1, .int x1), (2, .int x2), (3, .int x3), (4, .int x4)]) dX11_out_42 (by decide) (rfl) ?_
      refine ev_aload 1 dX11_out_44 rfl ?_
      refine ev_iload 6 dX11_out_46 rfl ?_
      replace HF := bind_ck HF
      obtain ⟨c21, HF⟩ := HF
      replace HF := bind_o HF
      obtain ⟨h23, e22, HF⟩ := HF
      refine ev_callV (As := [.int x4]) (R1 := (none, h23)) (lk_X5_remove (d := 2) (Nat.le_refl _) c21 e22) ce_X5_remove im_X5_remove sl_X5_remove ml_X11_205 cl_X5 c21 dX11_out_48 (by omega) (Nat.le_of_ble_eq_true rfl) rfl rfl ?_
      show EvG _ _ _ _ _ _ _ _ _ _ _ 51 [(6, .int z19), (5, .ref b5), (0, .ref t), (1, .int x1), (2, .int x2), (3, .int x3), (4, .int x4)] [] h23
      refine ev_iload 0 dX11_out_51 rfl ?_
      obtain rfl := Option.some.inj HF
      exact ev_iret dX11_out_53

set_option maxRecDepth 20000 in
theorem lk_X11_bowls {g : aG} {l : Launch} {d : Nat} (hdd : 6 ≤ d) {t : Nat} {x1 : Int32} {x2 : Int32} {x3 : Int32} {x4 : Int32} {h : aH} {r : Int32 × aH} (hT : hK h t = 13) (HF : F_X11_bowls t x1 x2 x3 x4 h = some r) : MA g l yX11_bowls cX11_bowls 7 (some .int) d [.ref t, .int x1, .int x2, .int x3, .int x4] h (some (.int r.1), r.2) := by
  refine MA.of (lv0 := [(0, .ref t), (1, .int x1), (2, .int x2), (3, .int x3), (4, .int x4)]) (by decide +kernel) (rfl) (Nat.le_of_ble_eq_true rfl) ?_
  unfold F_X11_bowls at HF
  refine ev_aload_n 0 dX11_bowls_0 rfl ?_
  refine ev_iload_n 1 dX11_bowls_1 rfl ?_
  refine ev_iload_n 2 dX11_bowls_2 rfl ?_
  refine ev_iload_n 3 dX11_bowls_3 rfl ?_
  replace HF := bind_o HF
  obtain ⟨⟨o3, h2⟩, e1, HF⟩ := HF
  replace HF := bd_o (bd_o HF)
  dsimp only at HF
  refine ev_callV (As := [.int x1, .int x2, .int x3]) (R1 := (some (va_rf o3), h2)) (lk_X11_overOf (d := 5) (Nat.le_refl _) hT e1) ce_X11_overOf im_X11_overOf sl_X11_overOf ml_X11_188 cl_X11 hT dX11_bowls_4 (by omega) (Nat.le_of_ble_eq_true rfl) rfl rfl ?_
  show EvG _ _ _ _ _ _ _ _ _ _ _ 7 [(0, .ref t), (1, .int x1), (2, .int x2), (3, .int x3), (4, .int x4)] [va_rf o3] h2
  refine ev_astorer (lv' := [(5, va_rf o3), (0, .ref t), (1, .int x1), (2, .int x2), (3, .int x3), (4, .int x4)]) dX11_bowls_7 (by decide) (rfl) ?_
  refine ev_aloadr 0 dX11_bowls_9 rfl ?_
  show EvG _ _ _ _ _ _ _ _ _ _ _ 11 _ _ _
  cases o3 with
  | none =>
    refine ev_ifnonnullN dX11_bowls_11 ?_
    refine ev_iconst (v := (-1)) dX11_bowls_14 (by decide) ?_
    obtain rfl := Option.some.inj HF
    exact ev_iret dX11_bowls_15
  | some b5 =>
    refine ev_ifnonnullS (tgt := 16) dX11_bowls_11 (by decide) ?_
    refine ev_aload_n 1 dX11_bowls_16 rfl ?_
    refine ev_iload_n 2 dX11_bowls_17 rfl ?_
    refine ev_iload_n 3 dX11_bowls_18 rfl ?_
    refine ev_iload_n 4 dX11_bowls_19 rfl ?_
    refine ev_aload 0 dX11_bowls_20 rfl ?_
    replace HF := bind_ck HF
    obtain ⟨c6, HF⟩ := HF
    replace HF := bind_o HF
    obtain ⟨h8, e7, HF⟩ := HF
    refine ev_callV (As := [.int x1, .int x2, .int x3, .ref b5]) (R1 := (none, h8)) (lk_X11_keep (d := 4) (Nat.le_refl _) c6 e7) ce_X11_keep im_X11_keep sl_X11_keep ml_X11_175 cl_X11 c6 dX11_bowls_22 (by omega) (Nat.le_of_ble_eq_true rfl) rfl rfl ?_
    show EvG _ _ _ _ _ _ _ _ _ _ _ 25 [(5, .ref b5), (0, .ref t), (1, .int x1), (2, .int x2), (3, .int x3), (4, .int x4)] [] h8
    refine ev_aload 0 dX11_bowls_25 rfl ?_
    show EvG _ _ _ _ _ _ _ _ _ _ _ 27 _ _ _
    replace HF := bind_ck HF
    obtain ⟨c10, HF⟩ := HF
    refine ev_gIN (f := 601) cl_X5 (k := 1) (by decide) fi_X5_1 rfl fl_X11_208 dX11_bowls_27 c10 ?_
    replace HF := bd_n HF
    obtain ⟨v11, ev11, HF⟩ := HF
    refine ev_topI ev11 ?_
    refine ev_istore (lv' := [(6, .int v11), (5, .ref b5), (0, .ref t), (1, .int x1), (2, .int x2), (3, .int x3), (4, .int x4)]) dX11_bowls_30 (by decide) (rfl) ?_
    refine ev_aload 1 dX11_bowls_32 rfl ?_
    refine ev_iload 6 dX11_bowls_34 rfl ?_
    refine ev_bipush (v := 15) dX11_bowls_36 (by decide) ?_
    refine ev_iand dX11_bowls_38 ?_
    refine ev_pIN (f := 601) cl_X5 (k := 1) (by decide) fi_X5_1 rfl fl_X11_208 rfl rfl rfl dX11_bowls_39 c10 ?_
    replace HF := bd_n HF
    obtain ⟨h12, eh12, HF⟩ := HF
    refine ev_heap eh12 ?_
    have c13 : hK h12 b5 = 7 := by rw [eh12]; exact c10
    refine ev_iload 0 dX11_bowls_42 rfl ?_
    show EvG _ _ _ _ _ _ _ _ _ _ _ 44 _ _ _
    obtain rfl := Option.some.inj HF
    exact ev_iret dX11_bowls_44

set_option maxRecDepth 20000 in
theorem lk_X11_undo {g : aG} {l : Launch} {d : Nat} (hdd : 5 ≤ d) {t : Nat} {h : aH} {r : Int32 × aH} (hT : hK h t = 13) (HF : F_X11_undo t h = some r) : MA g l yX11_undo cX11_undo 3 (some .int) d [.ref t] h (some (.int r.1), r.2) := by
  refine MA.of (lv0 := [(0, .ref t)]) (by decide +kernel) (rfl) (Nat.le_of_ble_eq_true rfl) ?_
  unfold F_X11_undo at HF
  refine ev_aload_n 0 dX11_undo_0 rfl ?_
  replace HF := bind_o HF
  obtain ⟨b1, e2, HF⟩ := HF
  refine ev_gS (f := 1204) cl_X11 (k := 4) (by decide) fi_X11_4 rfl fl_X11_35 dX11_undo_1 hT e2 ?_
  replace HF := bind_ck HF
  obtain ⟨c3, HF⟩ := HF
  replace HF := bind_o HF
  obtain ⟨⟨o6, h5⟩, e4, HF⟩ := HF
  replace HF := bd_o (bd_o HF)
  dsimp only at HF
  refine ev_callV (As := []) (R1 := (some (va_rf o6), h5)) (lk_X2_pop (d := 1) (Nat.le_refl _) c3 e4) ce_X2_pop im_X2_pop sl_X2_pop ml_X11_211 cl_X2 c3 dX11_undo_4 (by omega) (Nat.le_of_ble_eq_true rfl) rfl rfl ?_
  show EvG _ _ _ _ _ _ _ _ _ _ _ 7 [(0, .ref t)] [va_rf o6] h5
  refine ev_astore_nr (lv' := [(1, va_rf o6), (0, .ref t)]) dX11_undo_7 (by decide) (rfl) ?_
  refine ev_aload_nr 0 dX11_undo_8 rfl ?_
  cases o6 with
  | none =>
    refine ev_ifnonnullN dX11_undo_9 ?_
    refine ev_iconst (v := (-1)) dX11_undo_12 (by decide) ?_
    obtain rfl := Option.some.inj HF
    exact ev_iret dX11_undo_13
  | some b8 =>
    refine ev_ifnonnullS (tgt := 14) dX11_undo_9 (by decide) ?_
    refine ev_aload_n 1 dX11_undo_14 rfl ?_
    refine ev_aload_n 0 dX11_undo_15 rfl ?_
    replace HF := bind_ck HF
    obtain ⟨c9, HF⟩ := HF
    refine ev_gIN (f := 201) cl_X1 (k := 1) (by decide) fi_X1_1 rfl fl_X11_215 dX11_undo_16 c9 ?_
    replace HF := bind_ck HF
    obtain ⟨c10, HF⟩ := HF
    replace HF := bind_o HF
    obtain ⟨⟨o13, h12⟩, e11, HF⟩ := HF
    replace HF := bd_o (bd_o HF)
    dsimp only at HF
    refine ev_callV (As := [.int (hF h5 201 b8)]) (R1 := (some (va_rf o13), h12)) (lk_X11_gameAt (d := 3) (Nat.le_refl _) c10 e11) ce_X11_gameAt im_X11_gameAt sl_X11_gameAt ml_X11_91 cl_X11 c10 dX11_undo_19 (by omega) (Nat.le_of_ble_eq_true rfl) rfl rfl ?_
    show EvG _ _ _ _ _ _ _ _ _ _ _ 22 [(1, .ref b8), (0, .ref t)] [va_rf o13] h12
    refine ev_astore_nr (lv' := [(2, va_rf o13), (1, .ref b8), (0, .ref t)]) dX11_undo_22 (by decide) (rfl) ?_
    refine ev_aload_nr 0 dX11_undo_23 rfl ?_
    cases o13 with
    | none =>
      refine ev_ifnonnullN dX11_undo_24 ?_
      refine ev_iconst (v := (-1)) dX11_undo_27 (by decide) ?_
      obtain rfl := Option.some.inj HF
      exact ev_iret dX11_undo_28
    | some b15 =>
      refine ev_ifnonnullS (tgt := 29) dX11_undo_24 (by decide) ?_
      refine ev_aload_n 0 dX11_undo_29 rfl ?_
      refine ev_aload_n 1 dX11_undo_30 rfl ?_
      replace HF := bind_ck HF
      obtain ⟨c16, HF⟩ := HF
      replace HF := bind_o HF
      obtain ⟨h18, e17, HF⟩ := HF
      refine ev_callV (As := [.ref b8]) (R1 := (none, h18)) (lk_X3_takeBack (d := 4) (Nat.le_refl _) c16 e17) ce_X3_takeBack im_X3_takeBack sl_X3_takeBack ml_X11_220 cl_X3 c16 dX11_undo_31 (by omega) (Nat.le_of_ble_eq_true rfl) rfl rfl ?_
      show EvG _ _ _ _ _ _ _ _ _ _ _ 34 [(2, .ref b15), (1, .ref b8), (0, .ref t)] [] h18
      refine ev_aload_n 2 dX11_undo_34 rfl ?_
      replace HF := bind_ck HF
      obtain ⟨c20, HF⟩ := HF
      replace HF := bind_o HF
      obtain ⟨h22, e21, HF⟩ := HF
      refine ev_callV (As := []) (R1 := (none, h22)) (lk_X11_forgetPlay (d := 0) (Nat.le_refl _) c20 e21) ce_X11_forgetPlay im_X11_forgetPlay sl_X11_forgetPlay ml_X11_109 cl_X11 c20 dX11_undo_35 (by omega) (Nat.le_of_ble_eq_true rfl) rfl rfl ?_
      show EvG _ _ _ _ _ _ _ _ _ _ _ 38 [(2, .ref b15), (1, .ref b8), (0, .ref t)] [] h22
      refine ev_aload_n 1 dX11_undo_38 rfl ?_
      replace HF := bind_ck HF
      obtain ⟨c24, HF⟩ := HF
      refine ev_gIN (f := 201) cl_X1 (k := 1) (by decide) fi_X1_1 rfl fl_X11_215 dX11_undo_39 c24 ?_
      show EvG _ _ _ _ _ _ _ _ _ _ _ 42 _ _ _
      obtain rfl := Option.some.inj HF
      exact ev_iret dX11_undo_42

set_option maxRecDepth 20000 in
theorem lk_X11_why {g : aG} {l : Launch} {d : Nat} (hdd : 0 ≤ d) {t : Nat} {h : aH} {r : Int32 × aH} (hT : hK h t = 13) (HF : F_X11_why t h = some r) : MA g l yX11_why cX11_why 1 (some .int) d [.ref t] h (some (.int r.1), r.2) := by
  refine MA.of (lv0 := [(0, .ref t)]) (by decide +kernel) (rfl) (Nat.le_of_ble_eq_true rfl) ?_
  unfold F_X11_why at HF
  refine ev_aload_n 0 dX11_why_0 rfl ?_
  refine ev_gI (f := 1209) cl_X11 (k := 9) (by decide) fi_X11_9 rfl fl_X11_64 dX11_why_1 hT ?_
  obtain rfl := Option.some.inj HF
  exact ev_iret dX11_why_4

set_option maxRecDepth 20000 in
theorem lk_X11_scoreFigure {g : aG} {l : Launch} {d : Nat} (hdd : 5 ≤ d) {t : Nat} {a1 : Nat} {x2 : Int32} {x3 : Int32} {h : aH} {r : Int32 × aH} (hT : hK h t = 13) (HF : F_X11_scoreFigure t a1 x2 x3 h = some r) : MA g l yX11_scoreFigure cX11_scoreFigure 4 (some .int) d [.ref t, .ref a1, .int x2, .int x3] h (some (.int r.1), r.2) := by
  refine MA.of (lv0 := [(0, .ref t), (1, .ref a1), (2, .int x2), (3, .int x3)]) (by decide +kernel) (rfl) (Nat.le_of_ble_eq_true rfl) ?_
  unfold F_X11_scoreFigure at HF
  refine ev_iload_n 3 dX11_scoreFigure_0 rfl ?_
  refine ev_bipush (v := 10) dX11_scoreFigure_1 (by decide) ?_
  by_cases c1 : x3 = 10
  · replace HF := ite_T c1 HF
    refine ev_icmp_neF (tgt := 14) dX11_scoreFigure_3 (by decide) c1 ?_
    refine ev_aload_n 1 dX11_scoreFigure_6 rfl ?_
    refine ev_iload_n 2 dX11_scoreFigure_7 rfl ?_
    replace HF := bind_ck HF
    obtain ⟨c2, HF⟩ := HF
    replace HF := bind_o HF
    obtain ⟨⟨z5, h4⟩, e3, HF⟩ := HF
    replace HF := bd_o (bd_o HF)
    dsimp only at HF
    refine ev_callV (As := [.int x2]) (R1 := (some (.int z5), h4)) (lk_X3_overCountOf (d := 4) (Nat.le_refl _) c2 e3) ce_X3_overCountOf im_X3_overCountOf sl_X3_overCountOf ml_X11_159 cl_X3 c2 dX11_scoreFigure_8 (by omega) (Nat.le_of_ble_eq_true rfl) rfl rfl ?_
    show EvG _ _ _ _ _ _ _ _ _ _ _ 11 [(0, .ref t), (1, .ref a1), (2, .int x2), (3, .int x3)] [.int z5] h4
    refine ev_goto (tgt := 26) dX11_scoreFigure_11 (by decide) ?_
    obtain rfl := Option.some.inj HF
    exact ev_iret dX11_scoreFigure_26
  · replace HF := ite_F c1 HF
    refine ev_icmp_neT (tgt := 14) dX11_scoreFigure_3 (by decide) c1 ?_
    refine ev_aload_n 0 dX11_scoreFigure_14 rfl ?_
    replace HF := bind_o HF
    obtain ⟨b7, e8, HF⟩ := HF
    refine ev_gS (f := 1205) cl_X11 (k := 5) (by decide) fi_X11_5 rfl fl_X11_42 dX11_scoreFigure_15 hT e8 ?_
    refine ev_iload_n 2 dX11_scoreFigure_18 rfl ?_
    replace HF := bind_ck HF
    obtain ⟨c9, HF⟩ := HF
    replace HF := bind_o HF
    obtain ⟨⟨o12, h11⟩, e10, HF⟩ := HF
    replace HF := bd_o (bd_o HF)
    dsimp only at HF
    refine ev_callV (As := [.int x2]) (R1 := (some (va_rf o12), h11)) (lk_X6_tallyAt (d := 0) (Nat.le_refl _) c9 e10) ce_X6_tallyAt im_X6_tallyAt sl_X6_tallyAt ml_X11_242 cl_X6 c9 dX11_scoreFigure_19 (by omega) (Nat.le_of_ble_eq_true rfl) rfl rfl ?_
    show EvG _ _ _ _ _ _ _ _ _ _ _ 22 [(0, .ref t), (1, .ref a1), (2, .int x2), (3, .int x3)] [va_rf o12] h11
    refine ev_iload_n 3 dX11_scoreFigure_22 rfl ?_
    replace HF := bind_o HF
    obtain ⟨b14, e15, HF⟩ := HF
    subst e15
    replace HF := bind_ck HF
    obtain ⟨c16, HF⟩ := HF
    replace HF := bind_o HF
    obtain ⟨⟨z19, h18⟩, e17, HF⟩ := HF
    replace HF := bd_o (bd_o HF)
    dsimp only at HF
    refine ev_callV (As := [.int x3]) (R1 := (some (.int z19), h18)) (lk_X9_figure (d := 4) (Nat.le_refl _) c16 e17) ce_X9_figure im_X9_figure sl_X9_figure ml_X11_326 cl_X9 c16 dX11_scoreFigure_23 (by omega) (Nat.le_of_ble_eq_true rfl) rfl rfl ?_
    show EvG _ _ _ _ _ _ _ _ _ _ _ 26 [(0, .ref t), (1, .ref a1), (2, .int x2), (3, .int x3)] [.int z19] h18
    obtain rfl := Option.some.inj HF
    exact ev_iret dX11_scoreFigure_26

set_option maxRecDepth 20000 in
theorem lk_X11_isSeatFigure {g : aG} {l : Launch} {d : Nat} (hdd : 0 ≤ d) {x0 : Int32} {x1 : Int32} {h : aH} {r : Int32 × aH} (HF : F_X11_isSeatFigure x0 x1 h = some r) : MA g l yX11_isSeatFigure cX11_isSeatFigure 2 (some .boolean) d [.int x0, .int x1] h (some (.int r.1), r.2) := by
  refine MA.of (lv0 := [(0, .int x0), (1, .int x1)]) (by decide +kernel) (rfl) (Nat.le_of_ble_eq_true rfl) ?_
  unfold F_X11_isSeatFigure at HF
  refine ev_iload_n 0 dX11_isSeatFigure_0 rfl ?_
  by_cases c1 : x0 < 0
  · replace HF := ite_T c1 HF
    refine ev_if_ltT (tgt := 23) dX11_isSeatFigure_1 (by decide) c1 ?_
    refine ev_iconst (v := 0) dX11_isSeatFigure_23 (by decide) ?_
    obtain rfl := Option.some.inj HF
    exact ev_zret (v := 0) narrow_b0 dX11_isSeatFigure_24
  · replace HF := ite_F c1 HF
    refine ev_if_ltF (tgt := 23) dX11_isSeatFigure_1 (by decide) c1 ?_
    refine ev_iload_n 0 dX11_isSeatFigure_4 rfl ?_
    refine ev_bipush (v := 11) dX11_isSeatFigure_5 (by decide) ?_
    by_cases c2 : 11 ≤ x0
    · replace HF := ite_T c2 HF
      refine ev_icmp_geT (tgt := 23) dX11_isSeatFigure_7 (by decide) c2 ?_
      refine ev_iconst (v := 0) dX11_isSeatFigure_23 (by decide) ?_
      obtain rfl := Option.some.inj HF
      exact ev_zret (v := 0) narrow_b0 dX11_isSeatFigure_24
    · replace HF := ite_F c2 HF
      refine ev_icmp_geF (tgt := 23) dX11_isSeatFigure_7 (by decide) c2 ?_
      refine ev_iload_n 1 dX11_isSeatFigure_10 rfl ?_
      by_cases c3 : x1 < 0
      · replace HF := ite_T c3 HF
        refine ev_if_ltT (tgt := 23) dX11_isSeatFigure_11 (by decide) c3 ?_
        refine ev_iconst (v := 0) dX11_isSeatFigure_23 (by decide) ?_
        obtain rfl := Option.some.inj HF
        exact ev_zret (v := 0) narrow_b0 dX11_isSeatFigure_24
      · replace HF := ite_F c3 HF
        refine ev_if_ltF (tgt := 23) dX11_isSeatFigure_11 (by decide) c3 ?_
        refine ev_iload_n 1 dX11_isSeatFigure_14 rfl ?_
        refine ev_iconst (v := 4) dX11_isSeatFigure_15 (by decide) ?_
        by_cases c4 : 4 ≤ x1
        · replace HF := ite_T c4 HF
          refine ev_icmp_geT (tgt := 23) dX11_isSeatFigure_16 (by decide) c4 ?_
          refine ev_iconst (v := 0) dX11_isSeatFigure_23 (by decide) ?_
          obtain rfl := Option.some.inj HF
          exact ev_zret (v := 0) narrow_b0 dX11_isSeatFigure_24
        · replace HF := ite_F c4 HF
          refine ev_icmp_geF (tgt := 23) dX11_isSeatFigure_16 (by decide) c4 ?_
          refine ev_iconst (v := 1) dX11_isSeatFigure_19 (by decide) ?_
          refine ev_goto (tgt := 24) dX11_isSeatFigure_20 (by decide) ?_
          obtain rfl := Option.some.inj HF
          exact ev_zret (v := 1) narrow_b1 dX11_isSeatFigure_24

set_option maxRecDepth 20000 in
theorem lk_X11_batsFigure {g : aG} {l : Launch} {d : Nat} (hdd : 3 ≤ d) {t : Nat} {a1 : Nat} {x2 : Int32} {x3 : Int32} {x4 : Int32} {h : aH} {r : Int32 × aH} (hT : hK h t = 13) (HF : F_X11_batsFigure t a1 x2 x3 x4 h = some r) : MA g l yX11_batsFigure cX11_batsFigure 5 (some .int) d [.ref t, .ref a1, .int x2, .int x3, .int x4] h (some (.int r.1), r.2) := by
  refine MA.of (lv0 := [(0, .ref t), (1, .ref a1), (2, .int x2), (3, .int x3), (4, .int x4)]) (by decide +kernel) (rfl) (Nat.le_of_ble_eq_true rfl) ?_
  unfold F_X11_batsFigure at HF
  refine ev_iload 4 dX11_batsFigure_0 rfl ?_
  refine ev_iconst (v := 3) dX11_batsFigure_2 (by decide) ?_
  by_cases c1 : x4 = 3
  · replace HF := ite_T c1 HF
    refine ev_icmp_neF (tgt := 17) dX11_batsFigure_3 (by decide) c1 ?_
    refine ev_aload_n 1 dX11_batsFigure_6 rfl ?_
    refine ev_iload_n 2 dX11_batsFigure_7 rfl ?_
    refine ev_iconst (v := 2) dX11_batsFigure_8 (by decide) ?_
    refine ev_irem dX11_batsFigure_9 (by decide) ?_
    refine ev_iload_n 3 dX11_batsFigure_10 rfl ?_
    replace HF := bind_ck HF
    obtain ⟨c2, HF⟩ := HF
    replace HF := bind_o HF
    obtain ⟨⟨z5, h4⟩, e3, HF⟩ := HF
    replace HF := bd_o (bd_o HF)
    dsimp only at HF
    refine ev_callV (As := [.int (x2 - x2 / 2 * 2), .int x3]) (R1 := (some (.int z5), h4)) (lk_X3_playerAt (d := 2) (Nat.le_refl _) c2 e3) ce_X3_playerAt im_X3_playerAt sl_X3_playerAt ml_X11_327 cl_X3 c2 dX11_batsFigure_11 (by omega) (Nat.le_of_ble_eq_true rfl) rfl rfl ?_
    show EvG _ _ _ _ _ _ _ _ _ _ _ 14 [(0, .ref t), (1, .ref a1), (2, .int x2), (3, .int x3), (4, .int x4)] [.int z5] h4
    refine ev_goto (tgt := 34) dX11_batsFigure_14 (by decide) ?_
    show EvG _ _ _ _ _ _ _ _ _ _ _ 34 _ _ _
    obtain rfl := Option.some.inj HF
    exact ev_iret dX11_batsFigure_34
  · replace HF := ite_F c1 HF
    refine ev_icmp_neT (tgt := 17) dX11_batsFigure_3 (by decide) c1 ?_
    refine ev_aload_n 0 dX11_batsFigure_17 rfl ?_
    replace HF := bind_o HF
    obtain ⟨b7, e8, HF⟩ := HF
    refine ev_gS (f := 1205) cl_X11 (k := 5) (by decide) fi_X11_5 rfl fl_X11_42 dX11_batsFigure_18 hT e8 ?_
    refine ev_iload_n 2 dX11_batsFigure_21 rfl ?_
    replace HF := bind_ck HF
    obtain ⟨c9, HF⟩ := HF
    replace HF := bind_o HF
    obtain ⟨⟨o12, h11⟩, e10, HF⟩ := HF
    replace HF := bd_o (bd_o HF)
    dsimp only at HF
    refine ev_callV (As := [.int x2]) (R1 := (some (va_rf o12), h11)) (lk_X6_tallyAt (d := 0) (Nat.le_refl _) c9 e10) ce_X6_tallyAt im_X6_tallyAt sl_X6_tallyAt ml_X11_242 cl_X6 c9 dX11_batsFigure_22 (by omega) (Nat.le_of_ble_eq_true rfl) rfl rfl ?_
    show EvG _ _ _ _ _ _ _ _ _ _ _ 25 [(0, .ref t), (1, .ref a1), (2, .int x2), (3, .int x3), (4, .int x4)] [va_rf o12] h11
    replace HF := bind_o HF
    obtain ⟨b14, e15, HF⟩ := HF
    subst e15
    replace HF := bind_ck HF
    obtain ⟨c16, HF⟩ := HF
    replace HF := bind_o HF
    obtain ⟨b17, e18, HF⟩ := HF
    refine ev_gSN (f := 1000) cl_X9 (k := 0) (by decide) fi_X9_0 rfl fl_X11_330 dX11_batsFigure_25 c16 e18 ?_
    refine ev_iload_n 3 dX11_batsFigure_28 rfl ?_
    refine ev_iload 4 dX11_batsFigure_29 rfl ?_
    show EvG _ _ _ _ _ _ _ _ _ _ _ 31 _ _ _
    replace HF := bind_ck HF
    obtain ⟨c19, HF⟩ := HF
    replace HF := bind_o HF
    obtain ⟨⟨z22, h21⟩, e20, HF⟩ := HF
    replace HF := bd_o (bd_o HF)
    dsimp only at HF
    refine ev_callV (As := [.int x3, .int x4]) (R1 := (some (.int z22), h21)) (lk_X4_at (d := 1) (Nat.le_refl _) c19 e20) ce_X4_at im_X4_at sl_X4_at ml_X11_276 cl_X4 c19 dX11_batsFigure_31 (by omega) (Nat.le_of_ble_eq_true rfl) rfl rfl ?_
    show EvG _ _ _ _ _ _ _ _ _ _ _ 34 [(0, .ref t), (1, .ref a1), (2, .int x2), (3, .int x3), (4, .int x4)] [.int z22] h21
    obtain rfl := Option.some.inj HF
    exact ev_iret dX11_batsFigure_34

set_option maxRecDepth 20000 in
theorem lk_X11_fieldsFigure {g : aG} {l : Launch} {d : Nat} (hdd : 3 ≤ d) {t : Nat} {a1 : Nat} {x2 : Int32} {x3 : Int32} {x4 : Int32} {h : aH} {r : Int32 × aH} (hT : hK h t = 13) (HF : F_X11_fieldsFigure t a1 x2 x3 x4 h = some r) : MA g l yX11_fieldsFigure cX11_fieldsFigure 5 (some .int) d [.ref t, .ref a1, .int x2, .int x3, .int x4] h (some (.int r.1), r.2) := by
  refine MA.of (lv0 := [(0, .ref t), (1, .ref a1), (2, .int x2), (3, .int x3), (4, .int x4)]) (by decide +kernel) (rfl) (Nat.le_of_ble_eq_true rfl) ?_
  unfold F_X11_fieldsFigure at HF
  refine ev_iload 4 dX11_fieldsFigure_0 rfl ?_
  refine ev_iconst (v := 3) dX11_fieldsFigure_2 (by decide) ?_
  by_cases c1 : x4 = 3
  · replace HF := ite_T c1 HF
    refine ev_icmp_neF (tgt := 19) dX11_fieldsFigure_3 (by decide) c1 ?_
    refine ev_aload_n 1 dX11_fieldsFigure_6 rfl ?_
    refine ev_iconst (v := 1) dX11_fieldsFigure_7 (by decide) ?_
    refine ev_iload_n 2 dX11_fieldsFigure_8 rfl ?_
    refine ev_iconst (v := 2) dX11_fieldsFigure_9 (by decide) ?_
    refine ev_irem dX11_fieldsFigure_10 (by decide) ?_
    refine ev_isub dX11_fieldsFigure_11 ?_
    refine ev_iload_n 3 dX11_fieldsFigure_12 rfl ?_
    show EvG _ _ _ _ _ _ _ _ _ _ _ 13 _ _ _
    replace HF := bind_ck HF
    obtain ⟨c2, HF⟩ := HF
    replace HF := bind_o HF
    obtain ⟨⟨z5, h4⟩, e3, HF⟩ := HF
    replace HF := bd_o (bd_o HF)
    dsimp only at HF
    refine ev_callV (As := [.int (1 - (x2 - x2 / 2 * 2)), .int x3]) (R1 := (some (.int z5), h4)) (lk_X3_playerAt (d := 2) (Nat.le_refl _) c2 e3) ce_X3_playerAt im_X3_playerAt sl_X3_playerAt ml_X11_327 cl_X3 c2 dX11_fieldsFigure_13 (by omega) (Nat.le_of_ble_eq_true rfl) rfl rfl ?_
    show EvG _ _ _ _ _ _ _ _ _ _ _ 16 [(0, .ref t), (1, .ref a1), (2, .int x2), (3, .int x3), (4, .int x4)] [.int z5] h4
    refine ev_goto (tgt := 36) dX11_fieldsFigure_16 (by decide) ?_
    obtain rfl := Option.some.inj HF
    exact ev_iret dX11_fieldsFigure_36
  · replace HF := ite_F c1 HF
    refine ev_icmp_neT (tgt := 19) dX11_fieldsFigure_3 (by decide) c1 ?_
    refine ev_aload_n 0 dX11_fieldsFigure_19 rfl ?_
    replace HF := bind_o HF
    obtain ⟨b7, e8, HF⟩ := HF
    refine ev_gS (f := 1205) cl_X11 (k := 5) (by decide) fi_X11_5 rfl fl_X11_42 dX11_fieldsFigure_20 hT e8 ?_
    refine ev_iload_n 2 dX11_fieldsFigure_23 rfl ?_
    replace HF := bind_ck HF
    obtain ⟨c9, HF⟩ := HF
    replace HF := bind_o HF
    obtain ⟨⟨o12, h11⟩, e10, HF⟩ := HF
    replace HF := bd_o (bd_o HF)
    dsimp only at HF
    refine ev_callV (As := [.int x2]) (R1 := (some (va_rf o12), h11)) (lk_X6_tallyAt (d := 0) (Nat.le_refl _) c9 e10) ce_X6_tallyAt im_X6_tallyAt sl_X6_tallyAt ml_X11_242 cl_X6 c9 dX11_fieldsFigure_24 (by omega) (Nat.le_of_ble_eq_true rfl) rfl rfl ?_
    show EvG _ _ _ _ _ _ _ _ _ _ _ 27 [(0, .ref t), (1, .ref a1), (2, .int x2), (3, .int x3), (4, .int x4)] [va_rf o12] h11
    replace HF := bind_o HF
    obtain ⟨b14, e15, HF⟩ := HF
    subst e15
    replace HF := bind_ck HF
    obtain ⟨c16, HF⟩ := HF
    replace HF := bind_o HF
    obtain ⟨b17, e18, HF⟩ := HF
    refine ev_gSN (f := 1001) cl_X9 (k := 1) (by decide) fi_X9_1 rfl fl_X11_333 dX11_fieldsFigure_27 c16 e18 ?_
    refine ev_iload_n 3 dX11_fieldsFigure_30 rfl ?_
    refine ev_iload 4 dX11_fieldsFigure_31 rfl ?_
    show EvG _ _ _ _ _ _ _ _ _ _ _ 33 _ _ _
    replace HF := bind_ck HF
    obtain ⟨c19, HF⟩ := HF
    replace HF := bind_o HF
    obtain ⟨⟨z22, h21⟩, e20, HF⟩ := HF
    replace HF := bd_o (bd_o HF)
    dsimp only at HF
    refine ev_callV (As := [.int x3, .int x4]) (R1 := (some (.int z22), h21)) (lk_X4_at (d := 1) (Nat.le_refl _) c19 e20) ce_X4_at im_X4_at sl_X4_at ml_X11_276 cl_X4 c19 dX11_fieldsFigure_33 (by omega) (Nat.le_of_ble_eq_true rfl) rfl rfl ?_
    show EvG _ _ _ _ _ _ _ _ _ _ _ 36 [(0, .ref t), (1, .ref a1), (2, .int x2), (3, .int x3), (4, .int x4)] [.int z22] h21
    obtain rfl := Option.some.inj HF
    exact ev_iret dX11_fieldsFigure_36

set_option maxRecDepth 20000 in
theorem lk_X11_findRecords_87 {g : aG} {l : Launch} {d : Nat} {h0 : aH} (hdd : 6 ≤ d) {r : aH} : ∀ (n : Nat) (t : Nat) (x1 : Int32) (h : aH), F_X11_findRecords_87  n t x1 h = some r → Ev g l cX11_findRecords 4 yX11_findRecords (none) d h0 (none, r) 87 [(0, .ref t), (1, .int x1)] [] h := by
  intro n
  induction n with
  | zero => intro t x1 h HF; cases HF
  | succ n ih =>
  intro t x1 h HF
  unfold F_X11_findRecords_87 at HF
  refine ev_iload_n 1 dX11_findRecords_87 rfl ?_
  refine ev_aload_n 0 dX11_findRecords_88 rfl ?_
  replace HF := bind_ck HF
  obtain ⟨c1, HF⟩ := HF
  refine ev_gI (f := 1208) cl_X11 (k := 8) (by decide) fi_X11_8 rfl fl_X11_60 dX11_findRecords_89 c1 ?_
  by_cases c2 : hF h 1208 t ≤ x1
  · replace HF := ite_T c2 HF
    refine ev_icmp_geT (tgt := 114) dX11_findRecords_92 (by decide) c2 ?_
    refine ev_aload_n 0 dX11_findRecords_114 rfl ?_
    refine ev_iconst (v := 0) dX11_findRecords_115 (by decide) ?_
    refine ev_pI (f := 1211) cl_X11 (k := 11) (by decide) fi_X11_11 rfl fl_X11_70 rfl rfl rfl dX11_findRecords_116 c1 ?_
    replace HF := bd_n HF
    obtain ⟨h3, eh3, HF⟩ := HF
    refine ev_heap eh3 ?_
    have c4 : hK h3 t = 13 := by rw [eh3]; exact c1
    obtain rfl := Option.some.inj HF
    exact ev_vret dX11_findRecords_119
  · replace HF := ite_F c2 HF
    refine ev_icmp_geF (tgt := 114) dX11_findRecords_92 (by decide) c2 ?_
    refine ev_aload_n 0 dX11_findRecords_95 rfl ?_
    replace HF := bind_o HF
    obtain ⟨b5, e6, HF⟩ := HF
    refine ev_gS (f := 1206) cl_X11 (k := 6) (by decide) fi_X11_6 rfl fl_X11_49 dX11_findRecords_96 c1 e6 ?_
    refine ev_iload_n 1 dX11_findRecords_99 rfl ?_
    refine ev_aload_n 0 dX11_findRecords_100 rfl ?_
    refine ev_iload_n 1 dX11_findRecords_101 rfl ?_
    replace HF := bind_o HF
    obtain ⟨⟨z9, h8⟩, e7, HF⟩ := HF
    replace HF := bd_o (bd_o HF)
    dsimp only at HF
    refine ev_callV (As := [.int x1]) (R1 := (some (.int z9), h8)) (lk_X11_playersOf (d := 1) (Nat.le_refl _) c1 e7) ce_X11_playersOf im_X11_playersOf sl_X11_playersOf ml_X11_99 cl_X11 c1 dX11_findRecords_102 (by omega) (Nat.le_of_ble_eq_true rfl) rfl rfl ?_
    show EvG _ _ _ _ _ _ _ _ _ _ _ 105 [(0, .ref t), (1, .int x1)] [.int z9, .int x1, .ref b5] h8
    replace HF := bind_ck HF
    obtain ⟨c11, HF⟩ := HF
    replace HF := bind_o HF
    obtain ⟨h13, e12, HF⟩ := HF
    refine ev_callV (As := [.int x1, .int z9]) (R1 := (none, h13)) (lk_X8_addTotals (d := 3) (Nat.le_refl _) c11 e12) ce_X8_addTotals im_X8_addTotals sl_X8_addTotals ml_X11_340 cl_X8 c11 dX11_findRecords_105 (by omega) (Nat.le_of_ble_eq_true rfl) rfl rfl ?_
    show EvG _ _ _ _ _ _ _ _ _ _ _ 108 [(0, .ref t), (1, .int x1)] [] h13
    show EvG _ _ _ _ _ _ _ _ _ _ _ 108 _ _ _
    replace HF := bd_n HF
    obtain ⟨v15, ev15, HF⟩ := HF
    refine ev_iinc (v := v15) (lv' := [(1, .int v15), (0, .ref t)]) 1 dX11_findRecords_108 rfl (by rw [ev15]; rfl) (by decide) (rfl) ?_
    refine ev_goto (tgt := 87) dX11_findRecords_111 (by decide) ?_
    exact Ev.sub [1, 0] rfl (ih t v15 _ HF)

set_option maxRecDepth 20000 in
theorem lk_X11_findRecords_47 {g : aG} {l : Launch} {d : Nat} {h0 : aH} (hdd : 6 ≤ d) {r : aH} (k9 : Nat → Int32 → aH → Option (aH)) (hk9 : ∀ (t : Nat) (x1 : Int32) (h : aH), k9 t x1 h = some r → Ev g l cX11_findRecords 4 yX11_findRecords (none) d h0 (none, r) 9 [(0, .ref t), (1, .int x1)] [] h) : ∀ (n : Nat) (t : Nat) (x1 : Int32) (a2 : Nat) (x3 : Int32) (h : aH), F_X11_findRecords_47 k9 n t x1 a2 x3 h = some r → Ev g l cX11_findRecords 4 yX11_findRecords (none) d h0 (none, r) 47 [(0, .ref t), (1, .int x1), (2, .ref a2), (3, .int x3)] [] h := by
  intro n
  induction n with
  | zero => intro t x1 a2 x3 h HF; cases HF
  | succ n ih =>
  intro t x1 a2 x3 h HF
  unfold F_X11_findRecords_47 at HF
  refine ev_iload_n 3 dX11_findRecords_47 rfl ?_
  refine ev_aload_n 2 dX11_findRecords_48 rfl ?_
  replace HF := bind_ck HF
  obtain ⟨c1, HF⟩ := HF
  replace HF := bind_o HF
  obtain ⟨⟨z4, h3⟩, e2, HF⟩ := HF
  replace HF := bd_o (bd_o HF)
  dsimp only at HF
  refine ev_callV (As := []) (R1 := (some (.int z4), h3)) (lk_X3_turnCount (d := 1) (Nat.le_refl _) c1 e2) ce_X3_turnCount im_X3_turnCount sl_X3_turnCount ml_X11_102 cl_X3 c1 dX11_findRecords_49 (by omega) (Nat.le_of_ble_eq_true rfl) rfl rfl ?_
  show EvG _ _ _ _ _ _ _ _ _ _ _ 52 [(0, .ref t), (1, .int x1), (2, .ref a2), (3, .int x3)] [.int z4, .int x3] h3
  by_cases c6 : z4 ≤ x3
  · replace HF := ite_T c6 HF
    refine ev_icmp_geT (tgt := 79) dX11_findRecords_52 (by decide) c6 ?_
    replace HF := bd_n HF
    obtain ⟨v7, ev7, HF⟩ := HF
    refine ev_iinc (v := v7) (lv' := [(1, .int v7), (0, .ref t), (2, .ref a2), (3, .int x3)]) 1 dX11_findRecords_79 rfl (by rw [ev7]; rfl) (by decide) (rfl) ?_
    refine ev_goto (tgt := 9) dX11_findRecords_82 (by decide) ?_
    exact Ev.sub [1, 0] rfl (hk9 t v7 _ HF)
  · replace HF := ite_F c6 HF
    refine ev_icmp_geF (tgt := 79) dX11_findRecords_52 (by decide) c6 ?_
    refine ev_aload_n 0 dX11_findRecords_55 rfl ?_
    replace HF := bind_ck HF
    obtain ⟨c8, HF⟩ := HF
    replace HF := bind_o HF
    obtain ⟨b9, e10, HF⟩ := HF
    refine ev_gS (f := 1206) cl_X11 (k := 6) (by decide) fi_X11_6 rfl fl_X11_49 dX11_findRecords_56 c8 e10 ?_
    refine ev_iload_n 1 dX11_findRecords_59 rfl ?_
    refine ev_iload_n 3 dX11_findRecords_60 rfl ?_
    refine ev_aload_n 2 dX11_findRecords_61 rfl ?_
    refine ev_aload_n 0 dX11_findRecords_62 rfl ?_
    replace HF := bind_o HF
    obtain ⟨b11, e12, HF⟩ := HF
    refine ev_gS (f := 1205) cl_X11 (k := 5) (by decide) fi_X11_5 rfl fl_X11_42 dX11_findRecords_63 c8 e12 ?_
    show EvG _ _ _ _ _ _ _ _ _ _ _ 66 _ _ _
    refine ev_iload_n 3 dX11_findRecords_66 rfl ?_
    replace HF := bind_ck HF
    obtain ⟨c13, HF⟩ := HF
    replace HF := bind_o HF
    obtain ⟨⟨o16, h15⟩, e14, HF⟩ := HF
    replace HF := bd_o (bd_o HF)
    dsimp only at HF
    refine ev_callV (As := [.int x3]) (R1 := (some (va_rf o16), h15)) (lk_X6_tallyAt (d := 0) (Nat.le_refl _) c13 e14) ce_X6_tallyAt im_X6_tallyAt sl_X6_tallyAt ml_X11_242 cl_X6 c13 dX11_findRecords_67 (by omega) (Nat.le_of_ble_eq_true rfl) rfl rfl ?_
    show EvG _ _ _ _ _ _ _ _ _ _ _ 70 [(0, .ref t), (1, .int x1), (2, .ref a2), (3, .int x3)] [va_rf o16, .ref a2, .int x3, .int x1, .ref b9] h15
    replace HF := bind_o HF
    obtain ⟨b18, e19, HF⟩ := HF
    subst e19
    replace HF := bind_ck HF
    obtain ⟨c20, HF⟩ := HF
    replace HF := bind_o HF
    obtain ⟨h22, e21, HF⟩ := HF
    refine ev_callV (As := [.int x1, .int x3, .ref a2, .ref b18]) (R1 := (none, h22)) (lk_X8_addTurn (d := 3) (Nat.le_refl _) c20 e21) ce_X8_addTurn im_X8_addTurn sl_X8_addTurn ml_X11_337 cl_X8 c20 dX11_findRecords_70 (by omega) (Nat.le_of_ble_eq_true rfl) rfl rfl ?_
    show EvG _ _ _ _ _ _ _ _ _ _ _ 73 [(0, .ref t), (1, .int x1), (2, .ref a2), (3, .int x3)] [] h22
    replace HF := bd_n HF
    obtain ⟨v24, ev24, HF⟩ := HF
    refine ev_iinc (v := v24) (lv' := [(3, .int v24), (0, .ref t), (1, .int x1), (2, .ref a2)]) 3 dX11_findRecords_73 rfl (by rw [ev24]; rfl) (by decide) (rfl) ?_
    refine ev_goto (tgt := 47) dX11_findRecords_76 (by decide) ?_
    exact Ev.sub [1, 2, 3, 0] rfl (ih t x1 a2 v24 _ HF)

set_option maxRecDepth 20000 in
theorem lk_X11_findRecords_9 {g : aG} {l : Launch} {d : Nat} {h0 : aH} (hdd : 6 ≤ d) {r : aH} : ∀ (n : Nat) (t : Nat) (x1 : Int32) (h : aH), F_X11_findRecords_9  n t x1 h = some r → Ev g l cX11_findRecords 4 yX11_findRecords (none) d h0 (none, r) 9 [(0, .ref t), (1, .int x1)] [] h := by
  intro n
  induction n with
  | zero => intro t x1 h HF; cases HF
  | succ n ih =>
  intro t x1 h HF
  unfold F_X11_findRecords_9 at HF
  refine ev_iload_n 1 dX11_findRecords_9 rfl ?_
  refine ev_aload_n 0 dX11_findRecords_10 rfl ?_
  replace HF := bind_ck HF
  obtain ⟨c1, HF⟩ := HF
  replace HF := bind_o HF
  obtain ⟨b2, e3, HF⟩ := HF
  refine ev_gS (f := 1201) cl_X11 (k := 1) (by decide) fi_X11_1 rfl fl_X11_16 dX11_findRecords_11 c1 e3 ?_
  replace HF := bind_ck HF
  obtain ⟨c4, HF⟩ := HF
  replace HF := bind_o HF
  obtain ⟨⟨z7, h6⟩, e5, HF⟩ := HF
  replace HF := bd_o (bd_o HF)
  dsimp only at HF
  refine ev_callV (As := []) (R1 := (some (.int z7), h6)) (lk_Jx4a65c_size_8abf5 (d := 0) (Nat.le_refl _) c4 e5) ce_Jx4a65c_size_8abf5 im_Jx4a65c_size_8abf5 sl_Jx4a65c_size_8abf5 ml_X11_78 cl_Jx4a65c c4 dX11_findRecords_14 (by omega) (Nat.le_of_ble_eq_true rfl) rfl rfl ?_
  show EvG _ _ _ _ _ _ _ _ _ _ _ 17 [(0, .ref t), (1, .int x1)] [.int z7, .int x1] h6
  by_cases c9 : z7 ≤ x1
  · replace HF := ite_T c9 HF
    refine ev_icmp_geT (tgt := 85) dX11_findRecords_17 (by decide) c9 ?_
    refine ev_iconst (v := 0) dX11_findRecords_85 (by decide) ?_
    refine ev_istore_n (lv' := [(1, .int 0), (0, .ref t)]) dX11_findRecords_86 (by decide) (rfl) ?_
    exact Ev.sub [1, 0] rfl (lk_X11_findRecords_87 hdd  fu t 0 _ HF)
  · replace HF := ite_F c9 HF
    refine ev_icmp_geF (tgt := 85) dX11_findRecords_17 (by decide) c9 ?_
    refine ev_aload_n 0 dX11_findRecords_20 rfl ?_
    replace HF := bind_ck HF
    obtain ⟨c10, HF⟩ := HF
    replace HF := bind_o HF
    obtain ⟨b11, e12, HF⟩ := HF
    refine ev_gS (f := 1201) cl_X11 (k := 1) (by decide) fi_X11_1 rfl fl_X11_16 dX11_findRecords_21 c10 e12 ?_
    refine ev_iload_n 1 dX11_findRecords_24 rfl ?_
    replace HF := bind_ck HF
    obtain ⟨c13, HF⟩ := HF
    replace HF := bind_o HF
    obtain ⟨⟨o16, h15⟩, e14, HF⟩ := HF
    replace HF := bd_o (bd_o HF)
    dsimp only at HF
    refine ev_callV (As := [.int x1]) (R1 := (some (va_rf o16), h15)) (lk_Jx4a65c_get_915e3 (d := 2) (Nat.le_refl _) c13 e14) ce_Jx4a65c_get_915e3 im_Jx4a65c_get_915e3 sl_Jx4a65c_get_915e3 ml_X11_315 cl_Jx4a65c c13 dX11_findRecords_25 (by omega) (Nat.le_of_ble_eq_true rfl) rfl rfl ?_
    show EvG _ _ _ _ _ _ _ _ _ _ _ 28 [(0, .ref t), (1, .int x1)] [va_rf o16] h15
    replace HF := bind_o HF
    obtain ⟨b18, e19, HF⟩ := HF
    subst e19
    replace HF := bind_ck HF
    obtain ⟨c20, HF⟩ := HF
    refine ev_cast cl_X3 c20 kl_X11_82 ca_X3 dX11_findRecords_28 ?_
    refine ev_astore_n (lv' := [(2, .ref b18), (0, .ref t), (1, .int x1)]) dX11_findRecords_31 (by decide) (rfl) ?_
    refine ev_aload_n 1 dX11_findRecords_32 rfl ?_
    show EvG _ _ _ _ _ _ _ _ _ _ _ 33 _ _ _
    replace HF := bind_ck HF
    obtain ⟨c21, HF⟩ := HF
    replace HF := bind_o HF
    obtain ⟨b22, e23, HF⟩ := HF
    refine ev_gS (f := 1205) cl_X11 (k := 5) (by decide) fi_X11_5 rfl fl_X11_42 dX11_findRecords_33 c21 e23 ?_
    refine ev_aload_n 0 dX11_findRecords_36 rfl ?_
    replace HF := bind_ck HF
    obtain ⟨c24, HF⟩ := HF
    replace HF := bind_o HF
    obtain ⟨h26, e25, HF⟩ := HF
    refine ev_callV (As := [.ref b18]) (R1 := (none, h26)) (lk_X6_replay (d := 5) (Nat.le_refl _) c24 e25) ce_X6_replay im_X6_replay sl_X6_replay ml_X11_323 cl_X6 c24 dX11_findRecords_37 (by omega) (Nat.le_of_ble_eq_true rfl) rfl rfl ?_
    show EvG _ _ _ _ _ _ _ _ _ _ _ 40 [(2, .ref b18), (0, .ref t), (1, .int x1)] [] h26
    refine ev_aload_n 1 dX11_findRecords_40 rfl ?_
    refine ev_iload_n 2 dX11_findRecords_41 rfl ?_
    replace HF := bind_ck HF
    obtain ⟨c28, HF⟩ := HF
    refine ev_pI (f := 1210) cl_X11 (k := 10) (by decide) fi_X11_10 rfl fl_X11_67 rfl rfl rfl dX11_findRecords_42 c28 ?_
    replace HF := bd_n HF
    obtain ⟨h29, eh29, HF⟩ := HF
    refine ev_heap eh29 ?_
    have c30 : hK h29 t = 13 := by rw [eh29]; exact c28
    refine ev_iconst (v := 0) dX11_findRecords_45 (by decide) ?_
    refine ev_istore_n (lv' := [(3, .int 0), (2, .ref b18), (0, .ref t), (1, .int x1)]) dX11_findRecords_46 (by decide) (rfl) ?_
    exact Ev.sub [2, 3, 1, 0] rfl (lk_X11_findRecords_47 hdd (F_X11_findRecords_9 n) ih fu t x1 b18 0 _ HF)

set_option maxRecDepth 20000 in
theorem lk_X11_findRecords {g : aG} {l : Launch} {d : Nat} (hdd : 6 ≤ d) {t : Nat} {h : aH} {r : aH} (hT : hK h t = 13) (HF : F_X11_findRecords t h = some r) : MA g l yX11_findRecords cX11_findRecords 4 (none) d [.ref t] h (none, r) := by
  refine MA.of (lv0 := [(0, .ref t)]) (by decide +kernel) (rfl) (Nat.le_of_ble_eq_true rfl) ?_
  unfold F_X11_findRecords at HF
  refine ev_aload_n 0 dX11_findRecords_0 rfl ?_
  replace HF := bind_o HF
  obtain ⟨b1, e2, HF⟩ := HF
  refine ev_gS (f := 1206) cl_X11 (k := 6) (by decide) fi_X11_6 rfl fl_X11_49 dX11_findRecords_1 hT e2 ?_
  replace HF := bind_ck HF
  obtain ⟨c3, HF⟩ := HF
  replace HF := bind_o HF
  obtain ⟨h5, e4, HF⟩ := HF
  refine ev_callV (As := []) (R1 := (none, h5)) (lk_X8_clear (d := 1) (Nat.le_refl _) c3 e4) ce_X8_clear im_X8_clear sl_X8_clear ml_X11_336 cl_X8 c3 dX11_findRecords_4 (by omega) (Nat.le_of_ble_eq_true rfl) rfl rfl ?_
  show EvG _ _ _ _ _ _ _ _ _ _ _ 7 [(0, .ref t)] [] h5
  refine ev_iconst (v := 0) dX11_findRecords_7 (by decide) ?_
  refine ev_istore_n (lv' := [(1, .int 0), (0, .ref t)]) dX11_findRecords_8 (by decide) (rfl) ?_
  exact Ev.sub [1, 0] rfl (lk_X11_findRecords_9 hdd  fu t 0 _ HF)

set_option maxRecDepth 20000 in
theorem lk_X11_writeHead_64 {g : aG} {l : Launch} {d : Nat} {h0 : aH} (hdd : 3 ≤ d) {r : aH} (k57 : Nat → Nat → Int32 → aH → Option (aH)) (hk57 : ∀ (t : Nat) (a1 : Nat) (x2 : Int32) (h : aH), k57 t a1 x2 h = some r → Ev g l cX11_writeHead 4 yX11_writeHead (none) d h0 (none, r) 57 [(0, .ref t), (1, .ref a1), (2, .int x2)] [] h) : ∀ (n : Nat) (t : Nat) (a1 : Nat) (x2 : Int32) (x3 : Int32) (h : aH), F_X11_writeHead_64 k57 n t a1 x2 x3 h = some r → Ev g l cX11_writeHead 4 yX11_writeHead (none) d h0 (none, r) 64 [(0, .ref t), (1, .ref a1), (2, .int x2), (3, .int x3)] [] h := by
  intro n
  induction n with
  | zero => intro t a1 x2 x3 h HF; cases HF
  | succ n ih =>
  intro t a1 x2 x3 h HF
  unfold F_X11_writeHead_64 at HF
  refine ev_iload_n 3 dX11_writeHead_64 rfl ?_
  refine ev_bipush (v := 11) dX11_writeHead_65 (by decide) ?_
  by_cases c1 : 11 ≤ x3
  · replace HF := ite_T c1 HF
    refine ev_icmp_geT (tgt := 89) dX11_writeHead_67 (by decide) c1 ?_
    replace HF := bd_n HF
    obtain ⟨v2, ev2, HF⟩ := HF
    refine ev_iinc (v := v2) (lv' := [(2, .int v2), (0, .ref t), (1, .ref a1), (3, .int x3)]) 2 dX11_writeHead_89 rfl (by rw [ev2]; rfl) (by decide) (rfl) ?_
    refine ev_goto (tgt := 57) dX11_writeHead_92 (by decide) ?_
    exact Ev.sub [1, 2, 0] rfl (hk57 t a1 v2 _ HF)
  · replace HF := ite_F c1 HF
    refine ev_icmp_geF (tgt := 89) dX11_writeHead_67 (by decide) c1 ?_
    refine ev_aload_n 0 dX11_writeHead_70 rfl ?_
    replace HF := bind_ck HF
    obtain ⟨c3, HF⟩ := HF
    replace HF := bind_o HF
    obtain ⟨b4, e5, HF⟩ := HF
    refine ev_gS (f := 1203) cl_X11 (k := 3) (by decide) fi_X11_3 rfl fl_X11_29 dX11_writeHead_71 c3 e5 ?_
    refine ev_aload_n 1 dX11_writeHead_74 rfl ?_
    refine ev_iload_n 2 dX11_writeHead_75 rfl ?_
    refine ev_iload_n 3 dX11_writeHead_76 rfl ?_
    replace HF := bind_ck HF
    obtain ⟨c6, HF⟩ := HF
    replace HF := bind_o HF
    obtain ⟨⟨z9, h8⟩, e7, HF⟩ := HF
    replace HF := bd_o (bd_o HF)
    dsimp only at HF
    refine ev_callV (As := [.int x2, .int x3]) (R1 := (some (.int z9), h8)) (lk_X3_playerAt (d := 2) (Nat.le_refl _) c6 e7) ce_X3_playerAt im_X3_playerAt sl_X3_playerAt ml_X11_327 cl_X3 c6 dX11_writeHead_77 (by omega) (Nat.le_of_ble_eq_true rfl) rfl rfl ?_
    show EvG _ _ _ _ _ _ _ _ _ _ _ 80 [(0, .ref t), (1, .ref a1), (2, .int x2), (3, .int x3)] [.int z9, .ref b4] h8
    replace HF := bind_ck HF
    obtain ⟨c11, HF⟩ := HF
    replace HF := bind_o HF
    obtain ⟨h13, e12, HF⟩ := HF
    refine ev_callV (As := [.int z9]) (R1 := (none, h13)) (lk_X0_add (d := 0) (Nat.le_refl _) c11 e12) ce_X0_add im_X0_add sl_X0_add ml_X11_343 cl_X0 c11 dX11_writeHead_80 (by omega) (Nat.le_of_ble_eq_true rfl) rfl rfl ?_
    show EvG _ _ _ _ _ _ _ _ _ _ _ 83 [(0, .ref t), (1, .ref a1), (2, .int x2), (3, .int x3)] [] h13
    show EvG _ _ _ _ _ _ _ _ _ _ _ 83 _ _ _
    replace HF := bd_n HF
    obtain ⟨v15, ev15, HF⟩ := HF
    refine ev_iinc (v := v15) (lv' := [(3, .int v15), (0, .ref t), (1, .ref a1), (2, .int x2)]) 3 dX11_writeHead_83 rfl (by rw [ev15]; rfl) (by decide) (rfl) ?_
    refine ev_goto (tgt := 64) dX11_writeHead_86 (by decide) ?_
    exact Ev.sub [1, 2, 3, 0] rfl (ih t a1 x2 v15 _ HF)

set_option maxRecDepth 20000 in
theorem lk_X11_writeHead_57 {g : aG} {l : Launch} {d : Nat} {h0 : aH} (hdd : 3 ≤ d) {r : aH} : ∀ (n : Nat) (t : Nat) (a1 : Nat) (x2 : Int32) (h : aH), F_X11_writeHead_57  n t a1 x2 h = some r → Ev g l cX11_writeHead 4 yX11_writeHead (none) d h0 (none, r) 57 [(0, .ref t), (1, .ref a1), (2, .int x2)] [] h := by
  intro n
  induction n with
  | zero => intro t a1 x2 h HF; cases HF
  | succ n ih =>
  intro t a1 x2 h HF
  unfold F_X11_writeHead_57 at HF
  refine ev_iload_n 2 dX11_writeHead_57 rfl ?_
  refine ev_iconst (v := 2) dX11_writeHead_58 (by decide) ?_
  by_cases c1 : 2 ≤ x2
  · replace HF := ite_T c1 HF
    refine ev_icmp_geT (tgt := 95) dX11_writeHead_59 (by decide) c1 ?_
    refine ev_aload_n 0 dX11_writeHead_95 rfl ?_
    replace HF := bind_ck HF
    obtain ⟨c2, HF⟩ := HF
    replace HF := bind_o HF
    obtain ⟨b3, e4, HF⟩ := HF
    refine ev_gS (f := 1203) cl_X11 (k := 3) (by decide) fi_X11_3 rfl fl_X11_29 dX11_writeHead_96 c2 e4 ?_
    refine ev_aload_n 1 dX11_writeHead_99 rfl ?_
    replace HF := bind_ck HF
    obtain ⟨c5, HF⟩ := HF
    replace HF := bind_o HF
    obtain ⟨⟨z8, h7⟩, e6, HF⟩ := HF
    replace HF := bd_o (bd_o HF)
    dsimp only at HF
    refine ev_callV (As := []) (R1 := (some (.int z8), h7)) (lk_X3_turnCount (d := 1) (Nat.le_refl _) c5 e6) ce_X3_turnCount im_X3_turnCount sl_X3_turnCount ml_X11_102 cl_X3 c5 dX11_writeHead_100 (by omega) (Nat.le_of_ble_eq_true rfl) rfl rfl ?_
    show EvG _ _ _ _ _ _ _ _ _ _ _ 103 [(0, .ref t), (1, .ref a1), (2, .int x2)] [.int z8, .ref b3] h7
    replace HF := bind_ck HF
    obtain ⟨c10, HF⟩ := HF
    replace HF := bind_o HF
    obtain ⟨h12, e11, HF⟩ := HF
    refine ev_callV (As := [.int z8]) (R1 := (none, h12)) (lk_X0_add (d := 0) (Nat.le_refl _) c10 e11) ce_X0_add im_X0_add sl_X0_add ml_X11_343 cl_X0 c10 dX11_writeHead_103 (by omega) (Nat.le_of_ble_eq_true rfl) rfl rfl ?_
    show EvG _ _ _ _ _ _ _ _ _ _ _ 106 [(0, .ref t), (1, .ref a1), (2, .int x2)] [] h12
    obtain rfl := Option.some.inj HF
    exact ev_vret dX11_writeHead_106
  · replace HF := ite_F c1 HF
    refine ev_icmp_geF (tgt := 95) dX11_writeHead_59 (by decide) c1 ?_
    refine ev_iconst (v := 0) dX11_writeHead_62 (by decide) ?_
    refine ev_istore_n (lv' := [(3, .int 0), (0, .ref t), (1, .ref a1), (2, .int x2)]) dX11_writeHead_63 (by decide) (rfl) ?_
    exact Ev.sub [1, 2, 3, 0] rfl (lk_X11_writeHead_64 hdd (F_X11_writeHead_57 n) ih fu t a1 x2 0 _ HF)

set_option maxRecDepth 20000 in
theorem lk_X11_writeHead {g : aG} {l : Launch} {d : Nat} (hdd : 3 ≤ d) {t : Nat} {a1 : Nat} {h : aH} {r : aH} (hT : hK h t = 13) (HF : F_X11_writeHead t a1 h = some r) : MA g l yX11_writeHead cX11_writeHead 4 (none) d [.ref t, .ref a1] h (none, r) := by
  refine MA.of (lv0 := [(0, .ref t), (1, .ref a1)]) (by decide +kernel) (rfl) (Nat.le_of_ble_eq_true rfl) ?_
  unfold F_X11_writeHead at HF
  refine ev_aload_n 0 dX11_writeHead_0 rfl ?_
  replace HF := bind_o HF
  obtain ⟨b1, e2, HF⟩ := HF
  refine ev_gS (f := 1203) cl_X11 (k := 3) (by decide) fi_X11_3 rfl fl_X11_29 dX11_writeHead_1 hT e2 ?_
  refine ev_bipush (v := 66) dX11_writeHead_4 (by decide) ?_
  replace HF := bind_ck HF
  obtain ⟨c3, HF⟩ := HF
  replace HF := bind_o HF
  obtain ⟨h5, e4, HF⟩ := HF
  refine ev_callV (As := [.int 66]) (R1 := (none, h5)) (lk_X0_add (d := 0) (Nat.le_refl _) c3 e4) ce_X0_add im_X0_add sl_X0_add ml_X11_343 cl_X0 c3 dX11_writeHead_6 (by omega) (Nat.le_of_ble_eq_true rfl) rfl rfl ?_
  show EvG _ _ _ _ _ _ _ _ _ _ _ 9 [(0, .ref t), (1, .ref a1)] [] h5
  refine ev_aload_n 0 dX11_writeHead_9 rfl ?_
  replace HF := bind_ck HF
  obtain ⟨c7, HF⟩ := HF
  replace HF := bind_o HF
  obtain ⟨b8, e9, HF⟩ := HF
  refine ev_gS (f := 1203) cl_X11 (k := 3) (by decide) fi_X11_3 rfl fl_X11_29 dX11_writeHead_10 c7 e9 ?_
  refine ev_aload_n 1 dX11_writeHead_13 rfl ?_
  show EvG _ _ _ _ _ _ _ _ _ _ _ 14 _ _ _
  refine ev_iconst (v := 0) dX11_writeHead_14 (by decide) ?_
  replace HF := bind_ck HF
  obtain ⟨c10, HF⟩ := HF
  replace HF := bind_o HF
  obtain ⟨⟨z13, h12⟩, e11, HF⟩ := HF
  replace HF := bd_o (bd_o HF)
  dsimp only at HF
  refine ev_callV (As := [.int 0]) (R1 := (some (.int z13), h12)) (lk_X3_sideAt (d := 0) (Nat.le_refl _) c10 e11) ce_X3_sideAt im_X3_sideAt sl_X3_sideAt ml_X11_95 cl_X3 c10 dX11_writeHead_15 (by omega) (Nat.le_of_ble_eq_true rfl) rfl rfl ?_
  show EvG _ _ _ _ _ _ _ _ _ _ _ 18 [(0, .ref t), (1, .ref a1)] [.int z13, .ref b8] h12
  replace HF := bind_ck HF
  obtain ⟨c15, HF⟩ := HF
  replace HF := bind_o HF
  obtain ⟨h17, e16, HF⟩ := HF
  refine ev_callV (As := [.int z13]) (R1 := (none, h17)) (lk_X0_add (d := 0) (Nat.le_refl _) c15 e16) ce_X0_add im_X0_add sl_X0_add ml_X11_343 cl_X0 c15 dX11_writeHead_18 (by omega) (Nat.le_of_ble_eq_true rfl) rfl rfl ?_
  show EvG _ _ _ _ _ _ _ _ _ _ _ 21 [(0, .ref t), (1, .ref a1)] [] h17
  refine ev_aload_n 0 dX11_writeHead_21 rfl ?_
  replace HF := bind_ck HF
  obtain ⟨c19, HF⟩ := HF
  replace HF := bind_o HF
  obtain ⟨b20, e21, HF⟩ := HF
  refine ev_gS (f := 1203) cl_X11 (k := 3) (by decide) fi_X11_3 rfl fl_X11_29 dX11_writeHead_22 c19 e21 ?_
  refine ev_aload_n 1 dX11_writeHead_25 rfl ?_
  refine ev_iconst (v := 1) dX11_writeHead_26 (by decide) ?_
  replace HF := bind_ck HF
  obtain ⟨c22, HF⟩ := HF
  replace HF := bind_o HF
  obtain ⟨⟨z25, h24⟩, e23, HF⟩ := HF
  replace HF := bd_o (bd_o HF)
  dsimp only at HF
  refine ev_callV (As := [.int 1]) (R1 := (some (.int z25), h24)) (lk_X3_sideAt (d := 0) (Nat.le_refl _) c22 e23) ce_X3_sideAt im_X3_sideAt sl_X3_sideAt ml_X11_95 cl_X3 c22 dX11_writeHead_27 (by omega) (Nat.le_of_ble_eq_true rfl) rfl rfl ?_
  show EvG _ _ _ _ _ _ _ _ _ _ _ 30 [(0, .ref t), (1, .ref a1)] [.int z25, .ref b20] h24
  show EvG _ _ _ _ _ _ _ _ _ _ _ 30 _ _ _
  replace HF := bind_ck HF
  obtain ⟨c27, HF⟩ := HF
  replace HF := bind_o HF
  obtain ⟨h29, e28, HF⟩ := HF
  refine ev_callV (As := [.int z25]) (R1 := (none, h29)) (lk_X0_add (d := 0) (Nat.le_refl _) c27 e28) ce_X0_add im_X0_add sl_X0_add ml_X11_343 cl_X0 c27 dX11_writeHead_30 (by omega) (Nat.le_of_ble_eq_true rfl) rfl rfl ?_
  show EvG _ _ _ _ _ _ _ _ _ _ _ 33 [(0, .ref t), (1, .ref a1)] [] h29
  refine ev_aload_n 0 dX11_writeHead_33 rfl ?_
  replace HF := bind_ck HF
  obtain ⟨c31, HF⟩ := HF
  replace HF := bind_o HF
  obtain ⟨b32, e33, HF⟩ := HF
  refine ev_gS (f := 1203) cl_X11 (k := 3) (by decide) fi_X11_3 rfl fl_X11_29 dX11_writeHead_34 c31 e33 ?_
  refine ev_aload_n 1 dX11_writeHead_37 rfl ?_
  replace HF := bind_ck HF
  obtain ⟨c34, HF⟩ := HF
  refine ev_gIN (f := 402) cl_X3 (k := 2) (by decide) fi_X3_2 rfl fl_X11_345 dX11_writeHead_38 c34 ?_
  replace HF := bind_ck HF
  obtain ⟨c35, HF⟩ := HF
  replace HF := bind_o HF
  obtain ⟨h37, e36, HF⟩ := HF
  refine ev_callV (As := [.int (hF h29 402 a1)]) (R1 := (none, h37)) (lk_X0_add (d := 0) (Nat.le_refl _) c35 e36) ce_X0_add im_X0_add sl_X0_add ml_X11_343 cl_X0 c35 dX11_writeHead_41 (by omega) (Nat.le_of_ble_eq_true rfl) rfl rfl ?_
  show EvG _ _ _ _ _ _ _ _ _ _ _ 44 [(0, .ref t), (1, .ref a1)] [] h37
  refine ev_aload_n 0 dX11_writeHead_44 rfl ?_
  replace HF := bind_ck HF
  obtain ⟨c39, HF⟩ := HF
  replace HF := bind_o HF
  obtain ⟨b40, e41, HF⟩ := HF
  refine ev_gS (f := 1203) cl_X11 (k := 3) (by decide) fi_X11_3 rfl fl_X11_29 dX11_writeHead_45 c39 e41 ?_
  show EvG _ _ _ _ _ _ _ _ _ _ _ 48 _ _ _
  refine ev_aload_n 1 dX11_writeHead_48 rfl ?_
  replace HF := bind_ck HF
  obtain ⟨c42, HF⟩ := HF
  refine ev_gIN (f := 403) cl_X3 (k := 3) (by decide) fi_X3_3 rfl fl_X11_348 dX11_writeHead_49 c42 ?_
  replace HF := bind_ck HF
  obtain ⟨c43, HF⟩ := HF
  replace HF := bind_o HF
  obtain ⟨h45, e44, HF⟩ := HF
  refine ev_callV (As := [.int (hF h37 403 a1)]) (R1 := (none, h45)) (lk_X0_add (d := 0) (Nat.le_refl _) c43 e44) ce_X0_add im_X0_add sl_X0_add ml_X11_343 cl_X0 c43 dX11_writeHead_52 (by omega) (Nat.le_of_ble_eq_true rfl) rfl rfl ?_
  show EvG _ _ _ _ _ _ _ _ _ _ _ 55 [(0, .ref t), (1, .ref a1)] [] h45
  refine ev_iconst (v := 0) dX11_writeHead_55 (by decide) ?_
  refine ev_istore_n (lv' := [(2, .int 0), (0, .ref t), (1, .ref a1)]) dX11_writeHead_56 (by decide) (rfl) ?_
  exact Ev.sub [1, 2, 0] rfl (lk_X11_writeHead_57 hdd  fu t a1 0 _ HF)

set_option maxRecDepth 20000 in
theorem lk_X11_writeTurn_96 {g : aG} {l : Launch} {d : Nat} {h0 : aH} (hdd : 5 ≤ d) {r : aH} (k17 : Nat → Nat → Int32 → Int32 → Int32 → aH → Option (aH)) (hk17 : ∀ (t : Nat) (a1 : Nat) (x2 : Int32) (x3 : Int32) (x4 : Int32) (h : aH), k17 t a1 x2 x3 x4 h = some r → Ev g l cX11_writeTurn 7 yX11_writeTurn (none) d h0 (none, r) 17 [(0, .ref t), (1, .ref a1), (2, .int x2), (3, .int x3), (4, .int x4)] [] h) (t : Nat) (a1 : Nat) (x2 : Int32) (x3 : Int32) (x4 : Int32) (h : aH) (HF : F_X11_writeTurn_96 k17 t a1 x2 x3 x4 h = some r) : Ev g l cX11_writeTurn 7 yX11_writeTurn (none) d h0 (none, r) 96 [(0, .ref t), (1, .ref a1), (2, .int x2), (3, .int x3), (4, .int x4)] [] h := by
  unfold F_X11_writeTurn_96 at HF
  replace HF := bd_n HF
  obtain ⟨v1, ev1, HF⟩ := HF
  refine ev_iinc (v := v1) (lv' := [(4, .int v1), (0, .ref t), (1, .ref a1), (2, .int x2), (3, .int x3)]) 4 dX11_writeTurn_96 rfl (by rw [ev1]; rfl) (by decide) (rfl) ?_
  refine ev_goto (tgt := 17) dX11_writeTurn_99 (by decide) ?_
  exact Ev.sub [1, 2, 3, 4, 0] rfl (hk17 t a1 x2 x3 v1 _ HF)

set_option maxRecDepth 20000 in
theorem lk_X11_writeTurn_66 {g : aG} {l : Launch} {d : Nat} {h0 : aH} (hdd : 5 ≤ d) {r : aH} (k17 : Nat → Nat → Int32 → Int32 → Int32 → aH → Option (aH)) (hk17 : ∀ (t : Nat) (a1 : Nat) (x2 : Int32) (x3 : Int32) (x4 : Int32) (h : aH), k17 t a1 x2 x3 x4 h = some r → Ev g l cX11_writeTurn 7 yX11_writeTurn (none) d h0 (none, r) 17 [(0, .ref t), (1, .ref a1), (2, .int x2), (3, .int x3), (4, .int x4)] [] h) : ∀ (n : Nat) (t : Nat) (a1 : Nat) (x2 : Int32) (x3 : Int32) (x4 : Int32) (a5 : Nat) (x6 : Int32) (h : aH), F_X11_writeTurn_66 k17 n t a1 x2 x3 x4 a5 x6 h = some r → Ev g l cX11_writeTurn 7 yX11_writeTurn (none) d h0 (none, r) 66 [(0, .ref t), (1, .ref a1), (2, .int x2), (3, .int x3), (4, .int x4), (5, .ref a5), (6, .int x6)] [] h := by
  intro n
  induction n with
  | zero => intro t a1 x2 x3 x4 a5 x6 h HF; cases HF
  | succ n ih =>
  intro t a1 x2 x3 x4 a5 x6 h HF
  unfold F_X11_writeTurn_66 at HF
  refine ev_iload 6 dX11_writeTurn_66 rfl ?_
  refine ev_aload 5 dX11_writeTurn_68 rfl ?_
  replace HF := bind_ck HF
  obtain ⟨c1, HF⟩ := HF
  refine ev_gIN (f := 602) cl_X5 (k := 2) (by decide) fi_X5_2 rfl fl_X11_179 dX11_writeTurn_70 c1 ?_
  by_cases c2 : hF h 602 a5 ≤ x6
  · replace HF := ite_T c2 HF
    refine ev_icmp_geT (tgt := 96) dX11_writeTurn_73 (by decide) c2 ?_
    exact Ev.sub [0, 1, 2, 3, 4] rfl (lk_X11_writeTurn_96 hdd k17 hk17 t a1 x2 x3 x4 _ HF)
  · replace HF := ite_F c2 HF
    refine ev_icmp_geF (tgt := 96) dX11_writeTurn_73 (by decide) c2 ?_
    refine ev_aload_n 0 dX11_writeTurn_76 rfl ?_
    replace HF := bind_ck HF
    obtain ⟨c3, HF⟩ := HF
    replace HF := bind_o HF
    obtain ⟨b4, e5, HF⟩ := HF
    refine ev_gS (f := 1203) cl_X11 (k := 3) (by decide) fi_X11_3 rfl fl_X11_29 dX11_writeTurn_77 c3 e5 ?_
    refine ev_aload 5 dX11_writeTurn_80 rfl ?_
    refine ev_iload 6 dX11_writeTurn_82 rfl ?_
    replace HF := bind_o HF
    obtain ⟨⟨z8, h7⟩, e6, HF⟩ := HF
    replace HF := bd_o (bd_o HF)
    dsimp only at HF
    refine ev_callV (As := [.int x6]) (R1 := (some (.int z8), h7)) (lk_X5_at (d := 1) (Nat.le_refl _) c1 e6) ce_X5_at im_X5_at sl_X5_at ml_X11_201 cl_X5 c1 dX11_writeTurn_84 (by omega) (Nat.le_of_ble_eq_true rfl) rfl rfl ?_
    show EvG _ _ _ _ _ _ _ _ _ _ _ 87 [(0, .ref t), (1, .ref a1), (2, .int x2), (3, .int x3), (4, .int x4), (5, .ref a5), (6, .int x6)] [.int z8, .ref b4] h7
    replace HF := bind_ck HF
    obtain ⟨c10, HF⟩ := HF
    replace HF := bind_o HF
    obtain ⟨h12, e11, HF⟩ := HF
    refine ev_callV (As := [.int z8]) (R1 := (none, h12)) (lk_X0_add (d := 0) (Nat.le_refl _) c10 e11) ce_X0_add im_X0_add sl_X0_add ml_X11_343 cl_X0 c10 dX11_writeTurn_87 (by omega) (Nat.le_of_ble_eq_true rfl) rfl rfl ?_
    show EvG _ _ _ _ _ _ _ _ _ _ _ 90 [(0, .ref t), (1, .ref a1), (2, .int x2), (3, .int x3), (4, .int x4), (5, .ref a5), (6, .int x6)] [] h12
    replace HF := bd_n HF
    obtain ⟨v14, ev14, HF⟩ := HF
    refine ev_iinc (v := v14) (lv' := [(6, .int v14), (0, .ref t), (1, .ref a1), (2, .int x2), (3, .int x3), (4, .int x4), (5, .ref a5)]) 6 dX11_writeTurn_90 rfl (by rw [ev14]; rfl) (by decide) (rfl) ?_
    show EvG _ _ _ _ _ _ _ _ _ _ _ 93 _ _ _
    refine ev_goto (tgt := 66) dX11_writeTurn_93 (by decide) ?_
    exact Ev.sub [1, 2, 3, 4, 5, 6, 0] rfl (ih t a1 x2 x3 x4 a5 v14 _ HF)

set_option maxRecDepth 20000 in
theorem lk_X11_writeTurn_17 {g : aG} {l : Launch} {d : Nat} {h0 : aH} (hdd : 5 ≤ d) {r : aH} : ∀ (n : Nat) (t : Nat) (a1 : Nat) (x2 : Int32) (x3 : Int32) (x4 : Int32) (h : aH), F_X11_writeTurn_17  n t a1 x2 x3 x4 h = some r → Ev g l cX11_writeTurn 7 yX11_writeTurn (none) d h0 (none, r) 17 [(0, .ref t), (1, .ref a1), (2, .int x2), (3, .int x3), (4, .int x4)] [] h := by
  intro n
  induction n with
  | zero => intro t a1 x2 x3 x4 h HF; cases HF
  | succ n ih =>
  intro t a1 x2 x3 x4 h HF
  unfold F_X11_writeTurn_17 at HF
  refine ev_iload 4 dX11_writeTurn_17 rfl ?_
  refine ev_iload_n 3 dX11_writeTurn_19 rfl ?_
  by_cases c1 : x3 ≤ x4
  · replace HF := ite_T c1 HF
    refine ev_icmp_geT (tgt := 102) dX11_writeTurn_20 (by decide) c1 ?_
    refine ev_aload_n 0 dX11_writeTurn_102 rfl ?_
    replace HF := bind_ck HF
    obtain ⟨c2, HF⟩ := HF
    replace HF := bind_o HF
    obtain ⟨b3, e4, HF⟩ := HF
    refine ev_gS (f := 1205) cl_X11 (k := 5) (by decide) fi_X11_5 rfl fl_X11_42 dX11_writeTurn_103 c2 e4 ?_
    refine ev_iload_n 2 dX11_writeTurn_106 rfl ?_
    replace HF := bind_ck HF
    obtain ⟨c5, HF⟩ := HF
    replace HF := bind_o HF
    obtain ⟨⟨o8, h7⟩, e6, HF⟩ := HF
    replace HF := bd_o (bd_o HF)
    dsimp only at HF
    refine ev_callV (As := [.int x2]) (R1 := (some (va_rf o8), h7)) (lk_X6_tallyAt (d := 0) (Nat.le_refl _) c5 e6) ce_X6_tallyAt im_X6_tallyAt sl_X6_tallyAt ml_X11_242 cl_X6 c5 dX11_writeTurn_107 (by omega) (Nat.le_of_ble_eq_true rfl) rfl rfl ?_
    show EvG _ _ _ _ _ _ _ _ _ _ _ 110 [(0, .ref t), (1, .ref a1), (2, .int x2), (3, .int x3), (4, .int x4)] [va_rf o8] h7
    replace HF := bind_o HF
    obtain ⟨b10, e11, HF⟩ := HF
    subst e11
    replace HF := bind_ck HF
    obtain ⟨c12, HF⟩ := HF
    refine ev_gIN (f := 1004) cl_X9 (k := 4) (by decide) fi_X9_4 rfl fl_X11_351 dX11_writeTurn_110 c12 ?_
    replace HF := bd_n HF
    obtain ⟨v13, ev13, HF⟩ := HF
    refine ev_topI ev13 ?_
    refine ev_istore (lv' := [(4, .int v13), (0, .ref t), (1, .ref a1), (2, .int x2), (3, .int x3)]) dX11_writeTurn_113 (by decide) (rfl) ?_
    refine ev_aload_n 1 dX11_writeTurn_115 rfl ?_
    show EvG _ _ _ _ _ _ _ _ _ _ _ 116 _ _ _
    replace HF := bind_ck HF
    obtain ⟨c14, HF⟩ := HF
    replace HF := bind_o HF
    obtain ⟨b15, e16, HF⟩ := HF
    refine ev_gS (f := 1203) cl_X11 (k := 3) (by decide) fi_X11_3 rfl fl_X11_29 dX11_writeTurn_116 c14 e16 ?_
    refine ev_iload 0 dX11_writeTurn_119 rfl ?_
    refine ev_bipush (v := 8) dX11_writeTurn_121 (by decide) ?_
    refine ev_ishr dX11_writeTurn_123 ?_
    replace HF := bind_ck HF
    obtain ⟨c17, HF⟩ := HF
    replace HF := bind_o HF
    obtain ⟨h19, e18, HF⟩ := HF
    refine ev_callV (As := [.int (v13 >>> (8 &&& 31))]) (R1 := (none, h19)) (lk_X0_add (d := 0) (Nat.le_refl _) c17 e18) ce_X0_add im_X0_add sl_X0_add ml_X11_343 cl_X0 c17 dX11_writeTurn_124 (by omega) (Nat.le_of_ble_eq_true rfl) rfl rfl ?_
    show EvG _ _ _ _ _ _ _ _ _ _ _ 127 [(4, .int v13), (0, .ref t), (1, .ref a1), (2, .int x2), (3, .int x3)] [] h19
    refine ev_aload_n 1 dX11_writeTurn_127 rfl ?_
    replace HF := bind_ck HF
    obtain ⟨c21, HF⟩ := HF
    replace HF := bind_o HF
    obtain ⟨b22, e23, HF⟩ := HF
    refine ev_gS (f := 1203) cl_X11 (k := 3) (by decide) fi_X11_3 rfl fl_X11_29 dX11_writeTurn_128 c21 e23 ?_
    refine ev_iload 0 dX11_writeTurn_131 rfl ?_
    show EvG _ _ _ _ _ _ _ _ _ _ _ 133 _ _ _
    replace HF := bind_ck HF
    obtain ⟨c24, HF⟩ := HF
    replace HF := bind_o HF
    obtain ⟨h26, e25, HF⟩ := HF
    refine ev_callV (As := [.int v13]) (R1 := (none, h26)) (lk_X0_add (d := 0) (Nat.le_refl _) c24 e25) ce_X0_add im_X0_add sl_X0_add ml_X11_343 cl_X0 c24 dX11_writeTurn_133 (by omega) (Nat.le_of_ble_eq_true rfl) rfl rfl ?_
    show EvG _ _ _ _ _ _ _ _ _ _ _ 136 [(4, .int v13), (0, .ref t), (1, .ref a1), (2, .int x2), (3, .int x3)] [] h26
    obtain rfl := Option.some.inj HF
    exact ev_vret dX11_writeTurn_136
  · replace HF := ite_F c1 HF
    refine ev_icmp_geF (tgt := 102) dX11_writeTurn_20 (by decide) c1 ?_
    refine ev_aload_n 1 dX11_writeTurn_23 rfl ?_
    refine ev_iload_n 2 dX11_writeTurn_24 rfl ?_
    refine ev_iload 4 dX11_writeTurn_25 rfl ?_
    replace HF := bind_ck HF
    obtain ⟨c28, HF⟩ := HF
    replace HF := bind_o HF
    obtain ⟨⟨o31, h30⟩, e29, HF⟩ := HF
    replace HF := bd_o (bd_o HF)
    dsimp only at HF
    refine ev_callV (As := [.int x2, .int x4]) (R1 := (some (va_rf o31), h30)) (lk_X3_overAt (d := 4) (Nat.le_refl _) c28 e29) ce_X3_overAt im_X3_overAt sl_X3_overAt ml_X11_162 cl_X3 c28 dX11_writeTurn_27 (by omega) (Nat.le_of_ble_eq_true rfl) rfl rfl ?_
    show EvG _ _ _ _ _ _ _ _ _ _ _ 30 [(0, .ref t), (1, .ref a1), (2, .int x2), (3, .int x3), (4, .int x4)] [va_rf o31] h30
    refine ev_astorer (lv' := [(5, va_rf o31), (0, .ref t), (1, .ref a1), (2, .int x2), (3, .int x3), (4, .int x4)]) dX11_writeTurn_30 (by decide) (rfl) ?_
    refine ev_aloadr 0 dX11_writeTurn_32 rfl ?_
    cases o31 with
    | none =>
      refine ev_ifnullN (tgt := 96) dX11_writeTurn_34 (by decide) ?_
      exact Ev.sub [1, 2, 3, 4, 5] rfl (lk_X11_writeTurn_96 hdd (F_X11_writeTurn_17 n) ih t a1 x2 x3 x4 _ HF)
    | some b33 =>
      refine ev_ifnullS dX11_writeTurn_34 ?_
      refine ev_aload_n 1 dX11_writeTurn_37 rfl ?_
      replace HF := bind_ck HF
      obtain ⟨c34, HF⟩ := HF
      replace HF := bind_o HF
      obtain ⟨b35, e36, HF⟩ := HF
      refine ev_gS (f := 1203) cl_X11 (k := 3) (by decide) fi_X11_3 rfl fl_X11_29 dX11_writeTurn_38 c34 e36 ?_
      refine ev_aload 0 dX11_writeTurn_41 rfl ?_
      replace HF := bind_ck HF
      obtain ⟨c37, HF⟩ := HF
      refine ev_gIN (f := 601) cl_X5 (k := 1) (by decide) fi_X5_1 rfl fl_X11_208 dX11_writeTurn_43 c37 ?_
      replace HF := bind_ck HF
      obtain ⟨c38, HF⟩ := HF
      replace HF := bind_o HF
      obtain ⟨h40, e39, HF⟩ := HF
      refine ev_callV (As := [.int (hF h30 601 b33)]) (R1 := (none, h40)) (lk_X0_add (d := 0) (Nat.le_refl _) c38 e39) ce_X0_add im_X0_add sl_X0_add ml_X11_343 cl_X0 c38 dX11_writeTurn_46 (by omega) (Nat.le_of_ble_eq_true rfl) rfl rfl ?_
      show EvG _ _ _ _ _ _ _ _ _ _ _ 49 [(5, .ref b33), (0, .ref t), (1, .ref a1), (2, .int x2), (3, .int x3), (4, .int x4)] [] h40
      refine ev_aload_n 1 dX11_writeTurn_49 rfl ?_
      replace HF := bind_ck HF
      obtain ⟨c42, HF⟩ := HF
      replace HF := bind_o HF
      obtain ⟨b43, e44, HF⟩ := HF
      refine ev_gS (f := 1203) cl_X11 (k := 3) (by decide) fi_X11_3 rfl fl_X11_29 dX11_writeTurn_50 c42 e44 ?_
      show EvG _ _ _ _ _ _ _ _ _ _ _ 53 _ _ _
      refine ev_aload 0 dX11_writeTurn_53 rfl ?_
      replace HF := bind_ck HF
      obtain ⟨c45, HF⟩ := HF
      refine ev_gIN (f := 602) cl_X5 (k := 2) (by decide) fi_X5_2 rfl fl_X11_179 dX11_writeTurn_55 c45 ?_
      refine ev_iconst (v := 1) dX11_writeTurn_58 (by decide) ?_
      refine ev_iadd dX11_writeTurn_59 ?_
      replace HF := bind_ck HF
      obtain ⟨c46, HF⟩ := HF
      replace HF := bind_o HF
      obtain ⟨h48, e47, HF⟩ := HF
      refine ev_callV (As := [.int ((hF h40 602 b33) + 1)]) (R1 := (none, h48)) (lk_X0_add (d := 0) (Nat.le_refl _) c46 e47) ce_X0_add im_X0_add sl_X0_add ml_X11_343 cl_X0 c46 dX11_writeTurn_60 (by omega) (Nat.le_of_ble_eq_true rfl) rfl rfl ?_
      show EvG _ _ _ _ _ _ _ _ _ _ _ 63 [(5, .ref b33), (0, .ref t), (1, .ref a1), (2, .int x2), (3, .int x3), (4, .int x4)] [] h48
      refine ev_iconst (v := 0) dX11_writeTurn_63 (by decide) ?_
      refine ev_istore (lv' := [(6, .int 0), (5, .ref b33), (0, .ref t), (1, .ref a1), (2, .int x2), (3, .int x3), (4, .int x4)]) dX11_writeTurn_64 (by decide) (rfl) ?_
      exact Ev.sub [2, 3, 4, 5, 6, 1, 0] rfl (lk_X11_writeTurn_66 hdd (F_X11_writeTurn_17 n) ih fu t a1 x2 x3 x4 b33 0 _ HF)

set_option maxRecDepth 20000 in
theorem lk_X11_writeTurn {g : aG} {l : Launch} {d : Nat} (hdd : 5 ≤ d) {t : Nat} {a1 : Nat} {x2 : Int32} {h : aH} {r : aH} (hT : hK h t = 13) (HF : F_X11_writeTurn t a1 x2 h = some r) : MA g l yX11_writeTurn cX11_writeTurn 7 (none) d [.ref t, .ref a1, .int x2] h (none, r) := by
  refine MA.of (lv0 := [(0, .ref t), (1, .ref a1), (2, .int x2)]) (by decide +kernel) (rfl) (Nat.le_of_ble_eq_true rfl) ?_
  unfold F_X11_writeTurn at HF
  refine ev_aload_n 1 dX11_writeTurn_0 rfl ?_
  refine ev_iload_n 2 dX11_writeTurn_1 rfl ?_
  replace HF := bind_ck HF
  obtain ⟨c1, HF⟩ := HF
  replace HF := bind_o HF
  obtain ⟨⟨z4, h3⟩, e2, HF⟩ := HF
  replace HF := bd_o (bd_o HF)
  dsimp only at HF
  refine ev_callV (As := [.int x2]) (R1 := (some (.int z4), h3)) (lk_X3_overCountOf (d := 4) (Nat.le_refl _) c1 e2) ce_X3_overCountOf im_X3_overCountOf sl_X3_overCountOf ml_X11_159 cl_X3 c1 dX11_writeTurn_2 (by omega) (Nat.le_of_ble_eq_true rfl) rfl rfl ?_
  show EvG _ _ _ _ _ _ _ _ _ _ _ 5 [(0, .ref t), (1, .ref a1), (2, .int x2)] [.int z4] h3
  refine ev_istore_n (lv' := [(3, .int z4), (0, .ref t), (1, .ref a1), (2, .int x2)]) dX11_writeTurn_5 (by decide) (rfl) ?_
  refine ev_aload_n 1 dX11_writeTurn_6 rfl ?_
  replace HF := bind_ck HF
  obtain ⟨c6, HF⟩ := HF
  replace HF := bind_o HF
  obtain ⟨b7, e8, HF⟩ := HF
  refine ev_gS (f := 1203) cl_X11 (k := 3) (by decide) fi_X11_3 rfl fl_X11_29 dX11_writeTurn_7 c6 e8 ?_
  refine ev_iload_n 0 dX11_writeTurn_10 rfl ?_
  show EvG _ _ _ _ _ _ _ _ _ _ _ 11 _ _ _
  replace HF := bind_ck HF
  obtain ⟨c9, HF⟩ := HF
  replace HF := bind_o HF
  obtain ⟨h11, e10, HF⟩ := HF
  refine ev_callV (As := [.int z4]) (R1 := (none, h11)) (lk_X0_add (d := 0) (Nat.le_refl _) c9 e10) ce_X0_add im_X0_add sl_X0_add ml_X11_343 cl_X0 c9 dX11_writeTurn_11 (by omega) (Nat.le_of_ble_eq_true rfl) rfl rfl ?_
  show EvG _ _ _ _ _ _ _ _ _ _ _ 14 [(3, .int z4), (0, .ref t), (1, .ref a1), (2, .int x2)] [] h11
  refine ev_iconst (v := 0) dX11_writeTurn_14 (by decide) ?_
  refine ev_istore (lv' := [(4, .int 0), (3, .int z4), (0, .ref t), (1, .ref a1), (2, .int x2)]) dX11_writeTurn_15 (by decide) (rfl) ?_
  exact Ev.sub [2, 3, 4, 1, 0] rfl (lk_X11_writeTurn_17 hdd  fu t a1 x2 z4 0 _ HF)

set_option maxRecDepth 20000 in
theorem lk_X11_image_44 {g : aG} {l : Launch} {d : Nat} {h0 : aH} (hdd : 7 ≤ d) {r : Int32 × aH} : ∀ (n : Nat) (t : Nat) (a2 : Nat) (x3 : Int32) (h : aH), F_X11_image_44  n t a2 x3 h = some r → Ev g l cX11_image 4 yX11_image (some .int) d h0 (some (.int r.1), r.2) 44 [(0, .ref t), (2, .ref a2), (3, .int x3)] [] h := by
  intro n
  induction n with
  | zero => intro t a2 x3 h HF; cases HF
  | succ n ih =>
  intro t a2 x3 h HF
  unfold F_X11_image_44 at HF
  refine ev_iload_n 2 dX11_image_44 rfl ?_
  refine ev_aload_n 1 dX11_image_45 rfl ?_
  replace HF := bind_ck HF
  obtain ⟨c1, HF⟩ := HF
  replace HF := bind_o HF
  obtain ⟨⟨z4, h3⟩, e2, HF⟩ := HF
  replace HF := bd_o (bd_o HF)
  dsimp only at HF
  refine ev_callV (As := []) (R1 := (some (.int z4), h3)) (lk_X3_turnCount (d := 1) (Nat.le_refl _) c1 e2) ce_X3_turnCount im_X3_turnCount sl_X3_turnCount ml_X11_102 cl_X3 c1 dX11_image_46 (by omega) (Nat.le_of_ble_eq_true rfl) rfl rfl ?_
  show EvG _ _ _ _ _ _ _ _ _ _ _ 49 [(0, .ref t), (2, .ref a2), (3, .int x3)] [.int z4, .int x3] h3
  by_cases c6 : z4 ≤ x3
  · replace HF := ite_T c6 HF
    refine ev_icmp_geT (tgt := 64) dX11_image_49 (by decide) c6 ?_
    refine ev_aload_n 0 dX11_image_64 rfl ?_
    replace HF := bind_ck HF
    obtain ⟨c7, HF⟩ := HF
    replace HF := bind_o HF
    obtain ⟨b8, e9, HF⟩ := HF
    refine ev_gS (f := 1203) cl_X11 (k := 3) (by decide) fi_X11_3 rfl fl_X11_29 dX11_image_65 c7 e9 ?_
    replace HF := bind_ck HF
    obtain ⟨c10, HF⟩ := HF
    refine ev_gIN (f := 101) cl_X0 (k := 1) (by decide) fi_X0_1 rfl fl_X11_184 dX11_image_68 c10 ?_
    obtain rfl := Option.some.inj HF
    exact ev_iret dX11_image_71
  · replace HF := ite_F c6 HF
    refine ev_icmp_geF (tgt := 64) dX11_image_49 (by decide) c6 ?_
    refine ev_aload_n 0 dX11_image_52 rfl ?_
    refine ev_aload_n 1 dX11_image_53 rfl ?_
    refine ev_iload_n 2 dX11_image_54 rfl ?_
    replace HF := bind_ck HF
    obtain ⟨c11, HF⟩ := HF
    replace HF := bind_o HF
    obtain ⟨h13, e12, HF⟩ := HF
    refine ev_callV (As := [.ref a2, .int x3]) (R1 := (none, h13)) (lk_X11_writeTurn (d := 5) (Nat.le_refl _) c11 e12) ce_X11_writeTurn im_X11_writeTurn sl_X11_writeTurn ml_X11_287 cl_X11 c11 dX11_image_55 (by omega) (Nat.le_of_ble_eq_true rfl) rfl rfl ?_
    show EvG _ _ _ _ _ _ _ _ _ _ _ 58 [(0, .ref t), (2, .ref a2), (3, .int x3)] [] h13
    replace HF := bd_n HF
    obtain ⟨v15, ev15, HF⟩ := HF
    refine ev_iinc (v := v15) (lv' := [(3, .int v15), (0, .ref t), (2, .ref a2)]) 2 dX11_image_58 rfl (by rw [ev15]; rfl) (by decide) (rfl) ?_
    refine ev_goto (tgt := 44) dX11_image_61 (by decide) ?_
    exact Ev.sub [1, 2, 0] rfl (ih t a2 v15 _ HF)

set_option maxRecDepth 20000 in
theorem lk_X11_image {g : aG} {l : Launch} {d : Nat} (hdd : 7 ≤ d) {t : Nat} {x1 : Int32} {h : aH} {r : Int32 × aH} (hT : hK h t = 13) (HF : F_X11_image t x1 h = some r) : MA g l yX11_image cX11_image 4 (some .int) d [.ref t, .int x1] h (some (.int r.1), r.2) := by
  refine MA.of (lv0 := [(0, .ref t), (1, .int x1)]) (by decide +kernel) (rfl) (Nat.le_of_ble_eq_true rfl) ?_
  unfold F_X11_image at HF
  refine ev_aload_n 0 dX11_image_0 rfl ?_
  refine ev_iload_n 1 dX11_image_1 rfl ?_
  replace HF := bind_o HF
  obtain ⟨⟨o3, h2⟩, e1, HF⟩ := HF
  replace HF := bd_o (bd_o HF)
  dsimp only at HF
  refine ev_callV (As := [.int x1]) (R1 := (some (va_rf o3), h2)) (lk_X11_gameAt (d := 3) (Nat.le_refl _) hT e1) ce_X11_gameAt im_X11_gameAt sl_X11_gameAt ml_X11_91 cl_X11 hT dX11_image_2 (by omega) (Nat.le_of_ble_eq_true rfl) rfl rfl ?_
  show EvG _ _ _ _ _ _ _ _ _ _ _ 5 [(0, .ref t), (1, .int x1)] [va_rf o3] h2
  refine ev_astore_nr (lv' := [(2, va_rf o3), (0, .ref t), (1, .int x1)]) dX11_image_5 (by decide) (rfl) ?_
  refine ev_aload_nr 0 dX11_image_6 rfl ?_
  cases o3 with
  | none =>
    refine ev_ifnonnullN dX11_image_7 ?_
    refine ev_iconst (v := (-1)) dX11_image_10 (by decide) ?_
    obtain rfl := Option.some.inj HF
    exact ev_iret dX11_image_11
  | some b5 =>
    refine ev_ifnonnullS (tgt := 12) dX11_image_7 (by decide) ?_
    refine ev_aload_n 1 dX11_image_12 rfl ?_
    replace HF := bind_ck HF
    obtain ⟨c6, HF⟩ := HF
    replace HF := bind_o HF
    obtain ⟨b7, e8, HF⟩ := HF
    refine ev_gS (f := 1203) cl_X11 (k := 3) (by decide) fi_X11_3 rfl fl_X11_29 dX11_image_13 c6 e8 ?_
    replace HF := bind_ck HF
    obtain ⟨c9, HF⟩ := HF
    replace HF := bind_o HF
    obtain ⟨h11, e10, HF⟩ := HF
    refine ev_callV (As := []) (R1 := (none, h11)) (lk_X0_clear (d := 0) (Nat.le_refl _) c9 e10) ce_X0_clear im_X0_clear sl_X0_clear ml_X11_195 cl_X0 c9 dX11_image_16 (by omega) (Nat.le_of_ble_eq_true rfl) rfl rfl ?_
    show EvG _ _ _ _ _ _ _ _ _ _ _ 19 [(2, .ref b5), (0, .ref t), (1, .int x1)] [] h11
    refine ev_aload_n 0 dX11_image_19 rfl ?_
    replace HF := bind_ck HF
    obtain ⟨c13, HF⟩ := HF
    replace HF := bind_o HF
    obtain ⟨⟨z16, h15⟩, e14, HF⟩ := HF
    replace HF := bd_o (bd_o HF)
    dsimp only at HF
    refine ev_callV (As := []) (R1 := (some (.int z16), h15)) (lk_X3_imageSize (d := 5) (Nat.le_refl _) c13 e14) ce_X3_imageSize im_X3_imageSize sl_X3_imageSize ml_X11_280 cl_X3 c13 dX11_image_20 (by omega) (Nat.le_of_ble_eq_true rfl) rfl rfl ?_
    show EvG _ _ _ _ _ _ _ _ _ _ _ 23 [(2, .ref b5), (0, .ref t), (1, .int x1)] [.int z16] h15
    refine ev_sipush (v := 8000) dX11_image_23 (by decide) ?_
    by_cases c18 : z16 ≤ 8000
    · replace HF := ite_T c18 HF
      refine ev_icmp_leT (tgt := 31) dX11_image_26 (by decide) c18 ?_
      refine ev_aload_n 1 dX11_image_31 rfl ?_
      refine ev_iload_n 2 dX11_image_32 rfl ?_
      refine ev_aload_n 0 dX11_image_33 rfl ?_
      replace HF := bind_ck HF
      obtain ⟨c19, HF⟩ := HF
      replace HF := bind_o HF
      obtain ⟨h21, e20, HF⟩ := HF
      refine ev_callV (As := [.int x1, va_rf (some b5)]) (R1 := (none, h21)) (lk_X11_playOver (d := 6) (Nat.le_refl _) c19 e20) ce_X11_playOver im_X11_playOver sl_X11_playOver ml_X11_115 cl_X11 c19 dX11_image_34 (by omega) (Nat.le_of_ble_eq_true rfl) rfl rfl ?_
      show EvG _ _ _ _ _ _ _ _ _ _ _ 37 [(2, .ref b5), (0, .ref t), (1, .int x1)] [] h21
      refine ev_aload_n 1 dX11_image_37 rfl ?_
      refine ev_aload_n 0 dX11_image_38 rfl ?_
      replace HF := bind_ck HF
      obtain ⟨c23, HF⟩ := HF
      replace HF := bind_o HF
      obtain ⟨h25, e24, HF⟩ := HF
      refine ev_callV (As := [.ref b5]) (R1 := (none, h25)) (lk_X11_writeHead (d := 3) (Nat.le_refl _) c23 e24) ce_X11_writeHead im_X11_writeHead sl_X11_writeHead ml_X11_283 cl_X11 c23 dX11_image_39 (by omega) (Nat.le_of_ble_eq_true rfl) rfl rfl ?_
      show EvG _ _ _ _ _ _ _ _ _ _ _ 42 [(2, .ref b5), (0, .ref t), (1, .int x1)] [] h25
      show EvG _ _ _ _ _ _ _ _ _ _ _ 42 _ _ _
      refine ev_iconst (v := 0) dX11_image_42 (by decide) ?_
      refine ev_istore_n (lv' := [(3, .int 0), (2, .ref b5), (0, .ref t), (1, .int x1)]) dX11_image_43 (by decide) (rfl) ?_
      exact Ev.sub [2, 1, 0] rfl (lk_X11_image_44 hdd  fu t b5 0 _ HF)
    · replace HF := ite_F c18 HF
      refine ev_icmp_leF (tgt := 31) dX11_image_26 (by decide) c18 ?_
      refine ev_iconst (v := (-1)) dX11_image_29 (by decide) ?_
      obtain rfl := Option.some.inj HF
      exact ev_iret dX11_image_30

set_option maxRecDepth 20000 in
theorem lk_X11_judge {g : aG} {l : Launch} {d : Nat} (hdd : 10 ≤ d) {t : Nat} {x1 : Int32} {h : aH} {r : Option Nat × aH} (hT : hK h t = 13) (HF : F_X11_judge t x1 h = some r) : MA g l yX11_judge cX11_judge 3 (some (.object "BallBook$Game")) d [.ref t, .int x1] h (some (va_rf r.1), r.2) := by
  refine MA.of (lv0 := [(0, .ref t), (1, .int x1)]) (by decide +kernel) (rfl) (Nat.le_of_ble_eq_true rfl) ?_
  unfold F_X11_judge at HF
  refine ev_aload_n 0 dX11_judge_0 rfl ?_
  replace HF := bind_o HF
  obtain ⟨b1, e2, HF⟩ := HF
  refine ev_gS (f := 1207) cl_X11 (k := 7) (by decide) fi_X11_7 rfl fl_X11_56 dX11_judge_1 hT e2 ?_
  refine ev_aload_n 0 dX11_judge_4 rfl ?_
  replace HF := bind_o HF
  obtain ⟨b3, e4, HF⟩ := HF
  refine ev_gS (f := 1202) cl_X11 (k := 2) (by decide) fi_X11_2 rfl fl_X11_25 dX11_judge_5 hT e4 ?_
  refine ev_iload_n 1 dX11_judge_8 rfl ?_
  replace HF := bind_ck HF
  obtain ⟨c5, HF⟩ := HF
  replace HF := bind_o HF
  obtain ⟨h7, e6, HF⟩ := HF
  refine ev_callV (As := [.ref b3, .int x1]) (R1 := (none, h7)) (lk_X7_start (d := 0) (Nat.le_refl _) c5 e6) ce_X7_start im_X7_start sl_X7_start ml_X11_354 cl_X7 c5 dX11_judge_9 (by omega) (Nat.le_of_ble_eq_true rfl) rfl rfl ?_
  show EvG _ _ _ _ _ _ _ _ _ _ _ 12 [(0, .ref t), (1, .int x1)] [] h7
  refine ev_aload_n 0 dX11_judge_12 rfl ?_
  show EvG _ _ _ _ _ _ _ _ _ _ _ 13 _ _ _
  replace HF := bind_ck HF
  obtain ⟨c9, HF⟩ := HF
  replace HF := bind_o HF
  obtain ⟨b10, e11, HF⟩ := HF
  refine ev_gS (f := 1207) cl_X11 (k := 7) (by decide) fi_X11_7 rfl fl_X11_56 dX11_judge_13 c9 e11 ?_
  refine ev_aload_n 0 dX11_judge_16 rfl ?_
  replace HF := bind_o HF
  obtain ⟨b12, e13, HF⟩ := HF
  refine ev_gS (f := 1200) cl_X11 (k := 0) (by decide) fi_X11_0 rfl fl_X11_9 dX11_judge_17 c9 e13 ?_
  refine ev_aload_n 0 dX11_judge_20 rfl ?_
  refine ev_gI (f := 1208) cl_X11 (k := 8) (by decide) fi_X11_8 rfl fl_X11_60 dX11_judge_21 c9 ?_
  replace HF := bind_ck HF
  obtain ⟨c14, HF⟩ := HF
  replace HF := bind_o HF
  obtain ⟨⟨o17, h16⟩, e15, HF⟩ := HF
  replace HF := bd_o (bd_o HF)
  dsimp only at HF
  refine ev_callV (As := [.ref b12, .int (hF h7 1208 t)]) (R1 := (some (va_rf o17), h16)) (lk_X7_readHead (d := 5) (Nat.le_refl _) c14 e15) ce_X7_readHead im_X7_readHead sl_X7_readHead ml_X11_358 cl_X7 c14 dX11_judge_24 (by omega) (Nat.le_of_ble_eq_true rfl) rfl rfl ?_
  show EvG _ _ _ _ _ _ _ _ _ _ _ 27 [(0, .ref t), (1, .int x1)] [va_rf o17] h16
  refine ev_astore_nr (lv' := [(2, va_rf o17), (0, .ref t), (1, .int x1)]) dX11_judge_27 (by decide) (rfl) ?_
  refine ev_aload_n 1 dX11_judge_28 rfl ?_
  show EvG _ _ _ _ _ _ _ _ _ _ _ 29 _ _ _
  replace HF := bind_ck HF
  obtain ⟨c19, HF⟩ := HF
  replace HF := bind_o HF
  obtain ⟨b20, e21, HF⟩ := HF
  refine ev_gS (f := 1207) cl_X11 (k := 7) (by decide) fi_X11_7 rfl fl_X11_56 dX11_judge_29 c19 e21 ?_
  refine ev_aload_nr 0 dX11_judge_32 rfl ?_
  replace HF := bind_o HF
  obtain ⟨b22, e23, HF⟩ := HF
  subst e23
  replace HF := bind_ck HF
  obtain ⟨c24, HF⟩ := HF
  replace HF := bind_o HF
  obtain ⟨h26, e25, HF⟩ := HF
  refine ev_callV (As := [.ref b22]) (R1 := (none, h26)) (lk_X7_readTurns (d := 9) (Nat.le_refl _) c24 e25) ce_X7_readTurns im_X7_readTurns sl_X7_readTurns ml_X11_362 cl_X7 c24 dX11_judge_33 (by omega) (Nat.le_of_ble_eq_true rfl) rfl rfl ?_
  show EvG _ _ _ _ _ _ _ _ _ _ _ 36 [(2, .ref b22), (0, .ref t), (1, .int x1)] [] h26
  refine ev_aload_n 1 dX11_judge_36 rfl ?_
  replace HF := bind_ck HF
  obtain ⟨c28, HF⟩ := HF
  replace HF := bind_o HF
  obtain ⟨b29, e30, HF⟩ := HF
  refine ev_gS (f := 1207) cl_X11 (k := 7) (by decide) fi_X11_7 rfl fl_X11_56 dX11_judge_37 c28 e30 ?_
  replace HF := bind_ck HF
  obtain ⟨c31, HF⟩ := HF
  replace HF := bind_o HF
  obtain ⟨h33, e32, HF⟩ := HF
  refine ev_callV (As := []) (R1 := (none, h33)) (lk_X7_readEnd (d := 1) (Nat.le_refl _) c31 e32) ce_X7_readEnd im_X7_readEnd sl_X7_readEnd ml_X11_365 cl_X7 c31 dX11_judge_40 (by omega) (Nat.le_of_ble_eq_true rfl) rfl rfl ?_
  show EvG _ _ _ _ _ _ _ _ _ _ _ 43 [(2, .ref b22), (0, .ref t), (1, .int x1)] [] h33
  refine ev_aload_n 1 dX11_judge_43 rfl ?_
  replace HF := bind_ck HF
  obtain ⟨c35, HF⟩ := HF
  replace HF := bind_o HF
  obtain ⟨b36, e37, HF⟩ := HF
  refine ev_gS (f := 1202) cl_X11 (k := 2) (by decide) fi_X11_2 rfl fl_X11_25 dX11_judge_44 c35 e37 ?_
  show EvG _ _ _ _ _ _ _ _ _ _ _ 47 _ _ _
  replace HF := bind_ck HF
  obtain ⟨c38, HF⟩ := HF
  replace HF := bind_o HF
  obtain ⟨h40, e39, HF⟩ := HF
  refine ev_callV (As := []) (R1 := (none, h40)) (lk_X0_clear (d := 0) (Nat.le_refl _) c38 e39) ce_X0_clear im_X0_clear sl_X0_clear ml_X11_195 cl_X0 c38 dX11_judge_47 (by omega) (Nat.le_of_ble_eq_true rfl) rfl rfl ?_
  show EvG _ _ _ _ _ _ _ _ _ _ _ 50 [(2, .ref b22), (0, .ref t), (1, .int x1)] [] h40
  refine ev_aload_n 1 dX11_judge_50 rfl ?_
  replace HF := bind_ck HF
  obtain ⟨c42, HF⟩ := HF
  replace HF := bind_o HF
  obtain ⟨b43, e44, HF⟩ := HF
  refine ev_gS (f := 1207) cl_X11 (k := 7) (by decide) fi_X11_7 rfl fl_X11_56 dX11_judge_51 c42 e44 ?_
  replace HF := bind_ck HF
  obtain ⟨c45, HF⟩ := HF
  replace HF := bind_o HF
  obtain ⟨⟨z48, h47⟩, e46, HF⟩ := HF
  replace HF := bd_o (bd_o HF)
  dsimp only at HF
  refine ev_callV (As := []) (R1 := (some (.int z48), h47)) (lk_X7_isRight (d := 0) (Nat.le_refl _) c45 e46) ce_X7_isRight im_X7_isRight sl_X7_isRight ml_X11_299 cl_X7 c45 dX11_judge_54 (by omega) (Nat.le_of_ble_eq_true rfl) rfl rfl ?_
  show EvG _ _ _ _ _ _ _ _ _ _ _ 57 [(2, .ref b22), (0, .ref t), (1, .int x1)] [.int z48] h47
  by_cases c50 : z48 = 0
  · replace HF := ite_T c50 HF
    refine ev_if_eqT (tgt := 85) dX11_judge_57 (by decide) c50 ?_
    refine ev_aload_n 0 dX11_judge_85 rfl ?_
    obtain rfl := Option.some.inj HF
    exact ev_aret (r := some b22) (Or.inl ⟨_, rfl⟩) dX11_judge_86
  · replace HF := ite_F c50 HF
    refine ev_if_eqF (tgt := 85) dX11_judge_57 (by decide) c50 ?_
    refine ev_aload_n 1 dX11_judge_60 rfl ?_
    replace HF := bind_ck HF
    obtain ⟨c51, HF⟩ := HF
    replace HF := bind_o HF
    obtain ⟨b52, e53, HF⟩ := HF
    refine ev_gS (f := 1205) cl_X11 (k := 5) (by decide) fi_X11_5 rfl fl_X11_42 dX11_judge_61 c51 e53 ?_
    refine ev_aload_n 0 dX11_judge_64 rfl ?_
    replace HF := bind_ck HF
    obtain ⟨c54, HF⟩ := HF
    replace HF := bind_o HF
    obtain ⟨h56, e55, HF⟩ := HF
    refine ev_callV (As := [.ref b22]) (R1 := (none, h56)) (lk_X6_replay (d := 5) (Nat.le_refl _) c54 e55) ce_X6_replay im_X6_replay sl_X6_replay ml_X11_323 cl_X6 c54 dX11_judge_65 (by omega) (Nat.le_of_ble_eq_true rfl) rfl rfl ?_
    show EvG _ _ _ _ _ _ _ _ _ _ _ 68 [(2, .ref b22), (0, .ref t), (1, .int x1)] [] h56
    refine ev_aload_n 1 dX11_judge_68 rfl ?_
    refine ev_iconst (v := (-1)) dX11_judge_69 (by decide) ?_
    replace HF := bind_ck HF
    obtain ⟨c58, HF⟩ := HF
    refine ev_pI (f := 1210) cl_X11 (k := 10) (by decide) fi_X11_10 rfl fl_X11_67 rfl rfl rfl dX11_judge_70 c58 ?_
    replace HF := bd_n HF
    obtain ⟨h59, eh59, HF⟩ := HF
    refine ev_heap eh59 ?_
    have c60 : hK h59 t = 13 := by rw [eh59]; exact c58
    show EvG _ _ _ _ _ _ _ _ _ _ _ 73 _ _ _
    refine ev_aload_n 1 dX11_judge_73 rfl ?_
    replace HF := bind_o HF
    obtain ⟨b61, e62, HF⟩ := HF
    refine ev_gS (f := 1207) cl_X11 (k := 7) (by decide) fi_X11_7 rfl fl_X11_56 dX11_judge_74 c60 e62 ?_
    refine ev_aload_n 0 dX11_judge_77 rfl ?_
    refine ev_aload_n 1 dX11_judge_78 rfl ?_
    replace HF := bind_o HF
    obtain ⟨b63, e64, HF⟩ := HF
    refine ev_gS (f := 1205) cl_X11 (k := 5) (by decide) fi_X11_5 rfl fl_X11_42 dX11_judge_79 c60 e64 ?_
    replace HF := bind_ck HF
    obtain ⟨c65, HF⟩ := HF
    replace HF := bind_o HF
    obtain ⟨h67, e66, HF⟩ := HF
    refine ev_callV (As := [.ref b22, .ref b63]) (R1 := (none, h67)) (lk_X7_compare (d := 5) (Nat.le_refl _) c65 e66) ce_X7_compare im_X7_compare sl_X7_compare ml_X11_368 cl_X7 c65 dX11_judge_82 (by omega) (Nat.le_of_ble_eq_true rfl) rfl rfl ?_
    show EvG _ _ _ _ _ _ _ _ _ _ _ 85 [(2, .ref b22), (0, .ref t), (1, .int x1)] [] h67
    refine ev_aload_n 0 dX11_judge_85 rfl ?_
    obtain rfl := Option.some.inj HF
    exact ev_aret (r := some b22) (Or.inl ⟨_, rfl⟩) dX11_judge_86

set_option maxRecDepth 20000 in
theorem lk_X11_check {g : aG} {l : Launch} {d : Nat} (hdd : 11 ≤ d) {t : Nat} {x1 : Int32} {h : aH} {r : Int32 × aH} (hT : hK h t = 13) (HF : F_X11_check t x1 h = some r) : MA g l yX11_check cX11_check 2 (some .int) d [.ref t, .int x1] h (some (.int r.1), r.2) := by
  refine MA.of (lv0 := [(0, .ref t), (1, .int x1)]) (by decide +kernel) (rfl) (Nat.le_of_ble_eq_true rfl) ?_
  unfold F_X11_check at HF
  refine ev_iload_n 1 dX11_check_0 rfl ?_
  by_cases c1 : x1 < 0
  · replace HF := ite_T c1 HF
    refine ev_if_ltT (tgt := 15) dX11_check_1 (by decide) c1 ?_
    refine ev_iconst (v := (-1)) dX11_check_15 (by decide) ?_
    obtain rfl := Option.some.inj HF
    exact ev_iret dX11_check_16
  · replace HF := ite_F c1 HF
    refine ev_if_ltF (tgt := 15) dX11_check_1 (by decide) c1 ?_
    refine ev_iload_n 1 dX11_check_4 rfl ?_
    refine ev_aload_n 0 dX11_check_5 rfl ?_
    replace HF := bind_o HF
    obtain ⟨b2, e3, HF⟩ := HF
    refine ev_gS (f := 1202) cl_X11 (k := 2) (by decide) fi_X11_2 rfl fl_X11_25 dX11_check_6 hT e3 ?_
    replace HF := bind_ck HF
    obtain ⟨c4, HF⟩ := HF
    refine ev_gIN (f := 101) cl_X0 (k := 1) (by decide) fi_X0_1 rfl fl_X11_184 dX11_check_9 c4 ?_
    by_cases c5 : x1 ≤ hF h 101 b2
    · replace HF := ite_T c5 HF
      refine ev_icmp_leT (tgt := 17) dX11_check_12 (by decide) c5 ?_
      refine ev_aload_n 0 dX11_check_17 rfl ?_
      refine ev_iload_n 1 dX11_check_18 rfl ?_
      replace HF := bind_o HF
      obtain ⟨⟨o8, h7⟩, e6, HF⟩ := HF
      replace HF := bd_o (bd_o HF)
      dsimp only at HF
      refine ev_callV (As := [.int x1]) (R1 := (some (va_rf o8), h7)) (lk_X11_judge (d := 10) (Nat.le_refl _) hT e6) ce_X11_judge im_X11_judge sl_X11_judge ml_X11_293 cl_X11 hT dX11_check_19 (by omega) (Nat.le_of_ble_eq_true rfl) rfl rfl ?_
      show EvG _ _ _ _ _ _ _ _ _ _ _ 22 [(0, .ref t), (1, .int x1)] [va_rf o8] h7
      refine ev_pop dX11_check_22 (by first | rfl | exact va_cat _) ?_
      refine ev_aload_n 0 dX11_check_23 rfl ?_
      replace HF := bind_ck HF
      obtain ⟨c10, HF⟩ := HF
      replace HF := bind_o HF
      obtain ⟨b11, e12, HF⟩ := HF
      refine ev_gS (f := 1207) cl_X11 (k := 7) (by decide) fi_X11_7 rfl fl_X11_56 dX11_check_24 c10 e12 ?_
      replace HF := bind_ck HF
      obtain ⟨c13, HF⟩ := HF
      refine ev_gIN (f := 804) cl_X7 (k := 4) (by decide) fi_X7_4 rfl fl_X11_296 dX11_check_27 c13 ?_
      show EvG _ _ _ _ _ _ _ _ _ _ _ 30 _ _ _
      refine ev_iconst (v := 1) dX11_check_30 (by decide) ?_
      refine ev_iadd dX11_check_31 ?_
      obtain rfl := Option.some.inj HF
      exact ev_iret dX11_check_32
    · replace HF := ite_F c5 HF
      refine ev_icmp_leF (tgt := 17) dX11_check_12 (by decide) c5 ?_
      refine ev_iconst (v := (-1)) dX11_check_15 (by decide) ?_
      obtain rfl := Option.some.inj HF
      exact ev_iret dX11_check_16

set_option maxRecDepth 20000 in
theorem lk_X11_take {g : aG} {l : Launch} {d : Nat} (hdd : 11 ≤ d) {t : Nat} {x1 : Int32} {h : aH} {r : Int32 × aH} (hT : hK h t = 13) (HF : F_X11_take t x1 h = some r) : MA g l yX11_take cX11_take 3 (some .int) d [.ref t, .int x1] h (some (.int r.1), r.2) := by
  refine MA.of (lv0 := [(0, .ref t), (1, .int x1)]) (by decide +kernel) (rfl) (Nat.le_of_ble_eq_true rfl) ?_
  unfold F_X11_take at HF
  refine ev_iload_n 1 dX11_take_0 rfl ?_
  by_cases c1 : x1 < 0
  · replace HF := ite_T c1 HF
    refine ev_if_ltT (tgt := 28) dX11_take_1 (by decide) c1 ?_
    refine ev_iconst (v := (-1)) dX11_take_28 (by decide) ?_
    obtain rfl := Option.some.inj HF
    exact ev_iret dX11_take_29
  · replace HF := ite_F c1 HF
    refine ev_if_ltF (tgt := 28) dX11_take_1 (by decide) c1 ?_
    refine ev_iload_n 1 dX11_take_4 rfl ?_
    refine ev_aload_n 0 dX11_take_5 rfl ?_
    replace HF := bind_o HF
    obtain ⟨b2, e3, HF⟩ := HF
    refine ev_gS (f := 1202) cl_X11 (k := 2) (by decide) fi_X11_2 rfl fl_X11_25 dX11_take_6 hT e3 ?_
    replace HF := bind_ck HF
    obtain ⟨c4, HF⟩ := HF
    refine ev_gIN (f := 101) cl_X0 (k := 1) (by decide) fi_X0_1 rfl fl_X11_184 dX11_take_9 c4 ?_
    by_cases c5 : hF h 101 b2 < x1
    · replace HF := ite_T c5 HF
      refine ev_icmp_gtT (tgt := 28) dX11_take_12 (by decide) c5 ?_
      refine ev_iconst (v := (-1)) dX11_take_28 (by decide) ?_
      obtain rfl := Option.some.inj HF
      exact ev_iret dX11_take_29
    · replace HF := ite_F c5 HF
      refine ev_icmp_gtF (tgt := 28) dX11_take_12 (by decide) c5 ?_
      refine ev_aload_n 0 dX11_take_15 rfl ?_
      replace HF := bind_o HF
      obtain ⟨b6, e7, HF⟩ := HF
      refine ev_gS (f := 1201) cl_X11 (k := 1) (by decide) fi_X11_1 rfl fl_X11_16 dX11_take_16 hT e7 ?_
      replace HF := bind_ck HF
      obtain ⟨c8, HF⟩ := HF
      replace HF := bind_o HF
      obtain ⟨⟨z11, h10⟩, e9, HF⟩ := HF
      replace HF := bd_o (bd_o HF)
      dsimp only at HF
      refine ev_callV (As := []) (R1 := (some (.int z11), h10)) (lk_Jx4a65c_size_8abf5 (d := 0) (Nat.le_refl _) c8 e9) ce_Jx4a65c_size_8abf5 im_Jx4a65c_size_8abf5 sl_Jx4a65c_size_8abf5 ml_X11_78 cl_Jx4a65c c8 dX11_take_19 (by omega) (Nat.le_of_ble_eq_true rfl) rfl rfl ?_
      show EvG _ _ _ _ _ _ _ _ _ _ _ 22 [(0, .ref t), (1, .int x1)] [.int z11] h10
      refine ev_sipush (v := 400) dX11_take_22 (by decide) ?_
      by_cases c13 : z11 < 400
      · replace HF := ite_T c13 HF
        refine ev_icmp_ltT (tgt := 30) dX11_take_25 (by decide) c13 ?_
        refine ev_aload_n 0 dX11_take_30 rfl ?_
        refine ev_iload_n 1 dX11_take_31 rfl ?_
        replace HF := bind_ck HF
        obtain ⟨c14, HF⟩ := HF
        replace HF := bind_o HF
        obtain ⟨⟨o17, h16⟩, e15, HF⟩ := HF
        replace HF := bd_o (bd_o HF)
        dsimp only at HF
        refine ev_callV (As := [.int x1]) (R1 := (some (va_rf o17), h16)) (lk_X11_judge (d := 10) (Nat.le_refl _) c14 e15) ce_X11_judge im_X11_judge sl_X11_judge ml_X11_293 cl_X11 c14 dX11_take_32 (by omega) (Nat.le_of_ble_eq_true rfl) rfl rfl ?_
        show EvG _ _ _ _ _ _ _ _ _ _ _ 35 [(0, .ref t), (1, .int x1)] [va_rf o17] h16
        refine ev_astore_nr (lv' := [(2, va_rf o17), (0, .ref t), (1, .int x1)]) dX11_take_35 (by decide) (rfl) ?_
        refine ev_aload_n 1 dX11_take_36 rfl ?_
        replace HF := bind_ck HF
        obtain ⟨c19, HF⟩ := HF
        replace HF := bind_o HF
        obtain ⟨b20, e21, HF⟩ := HF
        refine ev_gS (f := 1207) cl_X11 (k := 7) (by decide) fi_X11_7 rfl fl_X11_56 dX11_take_37 c19 e21 ?_
        replace HF := bind_ck HF
        obtain ⟨c22, HF⟩ := HF
        replace HF := bind_o HF
        obtain ⟨⟨z25, h24⟩, e23, HF⟩ := HF
        replace HF := bd_o (bd_o HF)
        dsimp only at HF
        refine ev_callV (As := []) (R1 := (some (.int z25), h24)) (lk_X7_isRight (d := 0) (Nat.le_refl _) c22 e23) ce_X7_isRight im_X7_isRight sl_X7_isRight ml_X11_299 cl_X7 c22 dX11_take_40 (by omega) (Nat.le_of_ble_eq_true rfl) rfl rfl ?_
        show EvG _ _ _ _ _ _ _ _ _ _ _ 43 [(2, va_rf o17), (0, .ref t), (1, .int x1)] [.int z25] h24
        show EvG _ _ _ _ _ _ _ _ _ _ _ 43 _ _ _
        by_cases c27 : z25 = 0
        · replace HF := ite_T c27 HF
          refine ev_if_eqT (tgt := 54) dX11_take_43 (by decide) c27 ?_
          refine ev_bipush (v := (-2)) dX11_take_54 (by decide) ?_
          refine ev_aload_n 1 dX11_take_56 rfl ?_
          replace HF := bind_ck HF
          obtain ⟨c28, HF⟩ := HF
          replace HF := bind_o HF
          obtain ⟨b29, e30, HF⟩ := HF
          refine ev_gS (f := 1207) cl_X11 (k := 7) (by decide) fi_X11_7 rfl fl_X11_56 dX11_take_57 c28 e30 ?_
          replace HF := bind_ck HF
          obtain ⟨c31, HF⟩ := HF
          refine ev_gIN (f := 804) cl_X7 (k := 4) (by decide) fi_X7_4 rfl fl_X11_296 dX11_take_60 c31 ?_
          refine ev_isub dX11_take_63 ?_
          obtain rfl := Option.some.inj HF
          exact ev_iret dX11_take_64
        · replace HF := ite_F c27 HF
          refine ev_if_eqF (tgt := 54) dX11_take_43 (by decide) c27 ?_
          refine ev_aload_n 1 dX11_take_46 rfl ?_
          refine ev_aload_nr 0 dX11_take_47 rfl ?_
          replace HF := bind_o HF
          obtain ⟨b32, e33, HF⟩ := HF
          subst e33
          replace HF := bind_ck HF
          obtain ⟨c34, HF⟩ := HF
          replace HF := bind_o HF
          obtain ⟨⟨z37, h36⟩, e35, HF⟩ := HF
          replace HF := bd_o (bd_o HF)
          dsimp only at HF
          refine ev_callV (As := [.ref b32]) (R1 := (some (.int z37), h36)) (lk_X11_addGame (d := 7) (Nat.le_refl _) c34 e35) ce_X11_addGame im_X11_addGame sl_X11_addGame ml_X11_87 cl_X11 c34 dX11_take_48 (by omega) (Nat.le_of_ble_eq_true rfl) rfl rfl ?_
          show EvG _ _ _ _ _ _ _ _ _ _ _ 51 [(2, .ref b32), (0, .ref t), (1, .int x1)] [.int z37] h36
          refine ev_goto (tgt := 64) dX11_take_51 (by decide) ?_
          obtain rfl := Option.some.inj HF
          exact ev_iret dX11_take_64
      · replace HF := ite_F c13 HF
        refine ev_icmp_ltF (tgt := 30) dX11_take_25 (by decide) c13 ?_
        refine ev_iconst (v := (-1)) dX11_take_28 (by decide) ?_
        obtain rfl := Option.some.inj HF
        exact ev_iret dX11_take_29

set_option maxRecDepth 20000 in
theorem lk_X11_addTurnFigures_87 {g : aG} {l : Launch} {d : Nat} {h0 : aH} (hdd : 6 ≤ d) {r : Int64 × aH} (k41 : Nat → Nat → Int32 → Int64 → Int32 → aH → Option (Int64 × aH)) (hk41 : ∀ (t : Nat) (a3 : Nat) (x4 : Int32) (x5 : Int64) (x7 : Int32) (h : aH), k41 t a3 x4 x5 x7 h = some r → Ev g l cX11_addTurnFigures 9 yX11_addTurnFigures (some .long) d h0 (some (.long r.1), r.2) 41 [(0, .ref t), (3, .ref a3), (4, .int x4), (5, .long x5), (7, .int x7)] [] h) : ∀ (n : Nat) (t : Nat) (a3 : Nat) (x4 : Int32) (x5 : Int64) (x7 : Int32) (x8 : Int32) (h : aH), F_X11_addTurnFigures_87 k41 n t a3 x4 x5 x7 x8 h = some r → Ev g l cX11_addTurnFigures 9 yX11_addTurnFigures (some .long) d h0 (some (.long r.1), r.2) 87 [(0, .ref t), (3, .ref a3), (4, .int x4), (5, .long x5), (7, .int x7), (8, .int x8)] [] h := by
  intro n
  induction n with
  | zero => intro t a3 x4 x5 x7 x8 h HF; cases HF
  | succ n ih =>
  intro t a3 x4 x5 x7 x8 h HF
  unfold F_X11_addTurnFigures_87 at HF
  refine ev_iload 5 dX11_addTurnFigures_87 rfl ?_
  refine ev_iconst (v := 4) dX11_addTurnFigures_89 (by decide) ?_
  by_cases c1 : 4 ≤ x8
  · replace HF := ite_T c1 HF
    refine ev_icmp_geT (tgt := 120) dX11_addTurnFigures_90 (by decide) c1 ?_
    replace HF := bd_n HF
    obtain ⟨v2, ev2, HF⟩ := HF
    refine ev_iinc (v := v2) (lv' := [(7, .int v2), (0, .ref t), (3, .ref a3), (4, .int x4), (5, .long x5), (8, .int x8)]) 4 dX11_addTurnFigures_120 rfl (by rw [ev2]; rfl) (by decide) (rfl) ?_
    refine ev_goto (tgt := 41) dX11_addTurnFigures_123 (by decide) ?_
    exact Ev.sub [1, 2, 3, 4, 0] rfl (hk41 t a3 x4 x5 v2 _ HF)
  · replace HF := ite_F c1 HF
    refine ev_icmp_geF (tgt := 120) dX11_addTurnFigures_90 (by decide) c1 ?_
    refine ev_ldc2 kc_X11_309 dX11_addTurnFigures_93 ?_
    refine ev_lload 3 dX11_addTurnFigures_96 rfl ?_
    refine ev_lmul dX11_addTurnFigures_98 ?_
    refine ev_aload_n 0 dX11_addTurnFigures_99 rfl ?_
    refine ev_aload_n 1 dX11_addTurnFigures_100 rfl ?_
    refine ev_iload 2 dX11_addTurnFigures_101 rfl ?_
    refine ev_iload 4 dX11_addTurnFigures_103 rfl ?_
    show EvG _ _ _ _ _ _ _ _ _ _ _ 105 _ _ _
    refine ev_iload 5 dX11_addTurnFigures_105 rfl ?_
    replace HF := bind_ck HF
    obtain ⟨c3, HF⟩ := HF
    replace HF := bind_o HF
    obtain ⟨⟨z6, h5⟩, e4, HF⟩ := HF
    replace HF := bd_o (bd_o HF)
    dsimp only at HF
    refine ev_callV (As := [.ref a3, .int x4, .int x7, .int x8]) (R1 := (some (.int z6), h5)) (lk_X11_fieldsFigure (d := 3) (Nat.le_refl _) c3 e4) ce_X11_fieldsFigure im_X11_fieldsFigure sl_X11_fieldsFigure ml_X11_264 cl_X11 c3 dX11_addTurnFigures_107 (by omega) (Nat.le_of_ble_eq_true rfl) rfl rfl ?_
    show EvG _ _ _ _ _ _ _ _ _ _ _ 110 [(0, .ref t), (3, .ref a3), (4, .int x4), (5, .long x5), (7, .int x7), (8, .int x8)] [.int z6, .long (31 * x5)] h5
    refine ev_i2l dX11_addTurnFigures_110 ?_
    refine ev_ladd dX11_addTurnFigures_111 ?_
    replace HF := bd_n HF
    obtain ⟨v8, ev8, HF⟩ := HF
    refine ev_topJ ev8 ?_
    refine ev_lstore (lv' := [(5, .long v8), (0, .ref t), (3, .ref a3), (4, .int x4), (7, .int x7), (8, .int x8)]) dX11_addTurnFigures_112 (by decide) (rfl) ?_
    replace HF := bd_n HF
    obtain ⟨v9, ev9, HF⟩ := HF
    refine ev_iinc (v := v9) (lv' := [(8, .int v9), (5, .long v8), (0, .ref t), (3, .ref a3), (4, .int x4), (7, .int x7)]) 5 dX11_addTurnFigures_114 rfl (by rw [ev9]; rfl) (by decide) (rfl) ?_
    refine ev_goto (tgt := 87) dX11_addTurnFigures_117 (by decide) ?_
    exact Ev.sub [2, 3, 4, 1, 5, 0] rfl (ih t a3 x4 v8 x7 v9 _ HF)

set_option maxRecDepth 20000 in
theorem lk_X11_addTurnFigures_51 {g : aG} {l : Launch} {d : Nat} {h0 : aH} (hdd : 6 ≤ d) {r : Int64 × aH} (k41 : Nat → Nat → Int32 → Int64 → Int32 → aH → Option (Int64 × aH)) (hk41 : ∀ (t : Nat) (a3 : Nat) (x4 : Int32) (x5 : Int64) (x7 : Int32) (h : aH), k41 t a3 x4 x5 x7 h = some r → Ev g l cX11_addTurnFigures 9 yX11_addTurnFigures (some .long) d h0 (some (.long r.1), r.2) 41 [(0, .ref t), (3, .ref a3), (4, .int x4), (5, .long x5), (7, .int x7)] [] h) : ∀ (n : Nat) (t : Nat) (a3 : Nat) (x4 : Int32) (x5 : Int64) (x7 : Int32) (x8 : Int32) (h : aH), F_X11_addTurnFigures_51 k41 n t a3 x4 x5 x7 x8 h = some r → Ev g l cX11_addTurnFigures 9 yX11_addTurnFigures (some .long) d h0 (some (.long r.1), r.2) 51 [(0, .ref t), (3, .ref a3), (4, .int x4), (5, .long x5), (7, .int x7), (8, .int x8)] [] h := by
  intro n
  induction n with
  | zero => intro t a3 x4 x5 x7 x8 h HF; cases HF
  | succ n ih =>
  intro t a3 x4 x5 x7 x8 h HF
  unfold F_X11_addTurnFigures_51 at HF
  refine ev_iload 5 dX11_addTurnFigures_51 rfl ?_
  refine ev_iconst (v := 4) dX11_addTurnFigures_53 (by decide) ?_
  by_cases c1 : 4 ≤ x8
  · replace HF := ite_T c1 HF
    refine ev_icmp_geT (tgt := 84) dX11_addTurnFigures_54 (by decide) c1 ?_
    refine ev_iconst (v := 0) dX11_addTurnFigures_84 (by decide) ?_
    refine ev_istore (lv' := [(8, .int 0), (0, .ref t), (3, .ref a3), (4, .int x4), (5, .long x5), (7, .int x7)]) dX11_addTurnFigures_85 (by decide) (rfl) ?_
    exact Ev.sub [1, 2, 3, 4, 5, 0] rfl (lk_X11_addTurnFigures_87 hdd k41 hk41 fu t a3 x4 x5 x7 0 _ HF)
  · replace HF := ite_F c1 HF
    refine ev_icmp_geF (tgt := 84) dX11_addTurnFigures_54 (by decide) c1 ?_
    refine ev_ldc2 kc_X11_309 dX11_addTurnFigures_57 ?_
    refine ev_lload 3 dX11_addTurnFigures_60 rfl ?_
    refine ev_lmul dX11_addTurnFigures_62 ?_
    refine ev_aload_n 0 dX11_addTurnFigures_63 rfl ?_
    refine ev_aload_n 1 dX11_addTurnFigures_64 rfl ?_
    refine ev_iload 2 dX11_addTurnFigures_65 rfl ?_
    refine ev_iload 4 dX11_addTurnFigures_67 rfl ?_
    show EvG _ _ _ _ _ _ _ _ _ _ _ 69 _ _ _
    refine ev_iload 5 dX11_addTurnFigures_69 rfl ?_
    replace HF := bind_ck HF
    obtain ⟨c2, HF⟩ := HF
    replace HF := bind_o HF
    obtain ⟨⟨z5, h4⟩, e3, HF⟩ := HF
    replace HF := bd_o (bd_o HF)
    dsimp only at HF
    refine ev_callV (As := [.ref a3, .int x4, .int x7, .int x8]) (R1 := (some (.int z5), h4)) (lk_X11_batsFigure (d := 3) (Nat.le_refl _) c2 e3) ce_X11_batsFigure im_X11_batsFigure sl_X11_batsFigure ml_X11_260 cl_X11 c2 dX11_addTurnFigures_71 (by omega) (Nat.le_of_ble_eq_true rfl) rfl rfl ?_
    show EvG _ _ _ _ _ _ _ _ _ _ _ 74 [(0, .ref t), (3, .ref a3), (4, .int x4), (5, .long x5), (7, .int x7), (8, .int x8)] [.int z5, .long (31 * x5)] h4
    refine ev_i2l dX11_addTurnFigures_74 ?_
    refine ev_ladd dX11_addTurnFigures_75 ?_
    replace HF := bd_n HF
    obtain ⟨v7, ev7, HF⟩ := HF
    refine ev_topJ ev7 ?_
    refine ev_lstore (lv' := [(5, .long v7), (0, .ref t), (3, .ref a3), (4, .int x4), (7, .int x7), (8, .int x8)]) dX11_addTurnFigures_76 (by decide) (rfl) ?_
    replace HF := bd_n HF
    obtain ⟨v8, ev8, HF⟩ := HF
    refine ev_iinc (v := v8) (lv' := [(8, .int v8), (5, .long v7), (0, .ref t), (3, .ref a3), (4, .int x4), (7, .int x7)]) 5 dX11_addTurnFigures_78 rfl (by rw [ev8]; rfl) (by decide) (rfl) ?_
    refine ev_goto (tgt := 51) dX11_addTurnFigures_81 (by decide) ?_
    exact Ev.sub [2, 3, 4, 1, 5, 0] rfl (ih t a3 x4 v7 x7 v8 _ HF)

set_option maxRecDepth 20000 in
theorem lk_X11_addTurnFigures_41 {g : aG} {l : Launch} {d : Nat} {h0 : aH} (hdd : 6 ≤ d) {r : Int64 × aH} : ∀ (n : Nat) (t : Nat) (a3 : Nat) (x4 : Int32) (x5 : Int64) (x7 : Int32) (h : aH), F_X11_addTurnFigures_41  n t a3 x4 x5 x7 h = some r → Ev g l cX11_addTurnFigures 9 yX11_addTurnFigures (some .long) d h0 (some (.long r.1), r.2) 41 [(0, .ref t), (3, .ref a3), (4, .int x4), (5, .long x5), (7, .int x7)] [] h := by
  intro n
  induction n with
  | zero => intro t a3 x4 x5 x7 h HF; cases HF
  | succ n ih =>
  intro t a3 x4 x5 x7 h HF
  unfold F_X11_addTurnFigures_41 at HF
  refine ev_iload 4 dX11_addTurnFigures_41 rfl ?_
  refine ev_bipush (v := 11) dX11_addTurnFigures_43 (by decide) ?_
  by_cases c1 : 11 ≤ x7
  · replace HF := ite_T c1 HF
    refine ev_icmp_geT (tgt := 126) dX11_addTurnFigures_45 (by decide) c1 ?_
    refine ev_lload 3 dX11_addTurnFigures_126 rfl ?_
    obtain rfl := Option.some.inj HF
    exact ev_lret dX11_addTurnFigures_128
  · replace HF := ite_F c1 HF
    refine ev_icmp_geF (tgt := 126) dX11_addTurnFigures_45 (by decide) c1 ?_
    refine ev_iconst (v := 0) dX11_addTurnFigures_48 (by decide) ?_
    refine ev_istore (lv' := [(8, .int 0), (0, .ref t), (3, .ref a3), (4, .int x4), (5, .long x5), (7, .int x7)]) dX11_addTurnFigures_49 (by decide) (rfl) ?_
    exact Ev.sub [1, 2, 3, 4, 5, 0] rfl (lk_X11_addTurnFigures_51 hdd (F_X11_addTurnFigures_41 n) ih fu t a3 x4 x5 x7 0 _ HF)

set_option maxRecDepth 20000 in
theorem lk_X11_addTurnFigures_6 {g : aG} {l : Launch} {d : Nat} {h0 : aH} (hdd : 6 ≤ d) {r : Int64 × aH} : ∀ (n : Nat) (t : Nat) (a3 : Nat) (x4 : Int32) (x5 : Int64) (x7 : Int32) (h : aH), F_X11_addTurnFigures_6  n t a3 x4 x5 x7 h = some r → Ev g l cX11_addTurnFigures 9 yX11_addTurnFigures (some .long) d h0 (some (.long r.1), r.2) 6 [(0, .ref t), (3, .ref a3), (4, .int x4), (5, .long x5), (7, .int x7)] [] h := by
  intro n
  induction n with
  | zero => intro t a3 x4 x5 x7 h HF; cases HF
  | succ n ih =>
  intro t a3 x4 x5 x7 h HF
  unfold F_X11_addTurnFigures_6 at HF
  refine ev_iload 4 dX11_addTurnFigures_6 rfl ?_
  refine ev_bipush (v := 16) dX11_addTurnFigures_8 (by decide) ?_
  by_cases c1 : 16 ≤ x7
  · replace HF := ite_T c1 HF
    refine ev_icmp_geT (tgt := 38) dX11_addTurnFigures_10 (by decide) c1 ?_
    refine ev_iconst (v := 0) dX11_addTurnFigures_38 (by decide) ?_
    refine ev_istore (lv' := [(7, .int 0), (0, .ref t), (3, .ref a3), (4, .int x4), (5, .long x5)]) dX11_addTurnFigures_39 (by decide) (rfl) ?_
    exact Ev.sub [1, 2, 3, 4, 0] rfl (lk_X11_addTurnFigures_41 hdd  fu t a3 x4 x5 0 _ HF)
  · replace HF := ite_F c1 HF
    refine ev_icmp_geF (tgt := 38) dX11_addTurnFigures_10 (by decide) c1 ?_
    refine ev_ldc2 kc_X11_309 dX11_addTurnFigures_13 ?_
    refine ev_lload 3 dX11_addTurnFigures_16 rfl ?_
    refine ev_lmul dX11_addTurnFigures_18 ?_
    refine ev_aload_n 0 dX11_addTurnFigures_19 rfl ?_
    refine ev_aload_n 1 dX11_addTurnFigures_20 rfl ?_
    refine ev_iload 2 dX11_addTurnFigures_21 rfl ?_
    refine ev_iload 4 dX11_addTurnFigures_23 rfl ?_
    show EvG _ _ _ _ _ _ _ _ _ _ _ 25 _ _ _
    replace HF := bind_ck HF
    obtain ⟨c2, HF⟩ := HF
    replace HF := bind_o HF
    obtain ⟨⟨z5, h4⟩, e3, HF⟩ := HF
    replace HF := bd_o (bd_o HF)
    dsimp only at HF
    refine ev_callV (As := [.ref a3, .int x4, .int x7]) (R1 := (some (.int z5), h4)) (lk_X11_scoreFigure (d := 5) (Nat.le_refl _) c2 e3) ce_X11_scoreFigure im_X11_scoreFigure sl_X11_scoreFigure ml_X11_236 cl_X11 c2 dX11_addTurnFigures_25 (by omega) (Nat.le_of_ble_eq_true rfl) rfl rfl ?_
    show EvG _ _ _ _ _ _ _ _ _ _ _ 28 [(0, .ref t), (3, .ref a3), (4, .int x4), (5, .long x5), (7, .int x7)] [.int z5, .long (31 * x5)] h4
    refine ev_i2l dX11_addTurnFigures_28 ?_
    refine ev_ladd dX11_addTurnFigures_29 ?_
    replace HF := bd_n HF
    obtain ⟨v7, ev7, HF⟩ := HF
    refine ev_topJ ev7 ?_
    refine ev_lstore (lv' := [(5, .long v7), (0, .ref t), (3, .ref a3), (4, .int x4), (7, .int x7)]) dX11_addTurnFigures_30 (by decide) (rfl) ?_
    replace HF := bd_n HF
    obtain ⟨v8, ev8, HF⟩ := HF
    refine ev_iinc (v := v8) (lv' := [(7, .int v8), (5, .long v7), (0, .ref t), (3, .ref a3), (4, .int x4)]) 4 dX11_addTurnFigures_32 rfl (by rw [ev8]; rfl) (by decide) (rfl) ?_
    refine ev_goto (tgt := 6) dX11_addTurnFigures_35 (by decide) ?_
    exact Ev.sub [2, 3, 4, 1, 0] rfl (ih t a3 x4 v7 v8 _ HF)

set_option maxRecDepth 20000 in
theorem lk_X11_addTurnFigures {g : aG} {l : Launch} {d : Nat} (hdd : 6 ≤ d) {t : Nat} {x1 : Int64} {a3 : Nat} {x4 : Int32} {h : aH} {r : Int64 × aH} (hT : hK h t = 13) (HF : F_X11_addTurnFigures t x1 a3 x4 h = some r) : MA g l yX11_addTurnFigures cX11_addTurnFigures 9 (some .long) d [.ref t, .long x1, .ref a3, .int x4] h (some (.long r.1), r.2) := by
  refine MA.of (lv0 := [(0, .ref t), (1, .long x1), (3, .ref a3), (4, .int x4)]) (by decide +kernel) (rfl) (Nat.le_of_ble_eq_true rfl) ?_
  unfold F_X11_addTurnFigures at HF
  refine ev_lload_n 1 dX11_addTurnFigures_0 rfl ?_
  refine ev_lstore (lv' := [(5, .long x1), (0, .ref t), (1, .long x1), (3, .ref a3), (4, .int x4)]) dX11_addTurnFigures_1 (by decide) (rfl) ?_
  refine ev_iconst (v := 0) dX11_addTurnFigures_3 (by decide) ?_
  refine ev_istore (lv' := [(7, .int 0), (5, .long x1), (0, .ref t), (1, .long x1), (3, .ref a3), (4, .int x4)]) dX11_addTurnFigures_4 (by decide) (rfl) ?_
  exact Ev.sub [2, 4, 5, 1, 0] rfl (lk_X11_addTurnFigures_6 hdd  fu t a3 x4 x1 0 _ HF)

