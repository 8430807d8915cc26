def F_X12_init (t : Nat) (h : aH) : Option (aH) :=
  bd (hz h) fun b1 =>
  bd (nA h 21 60) fun h2 =>
  (ck (hK h2 t = 14)).bind fun _ =>
  bd (sG h2 1303 t (some b1)) fun h4 =>
  bd (hz h4) fun b6 =>
  bd (nA h4 21 800) fun h7 =>
  (ck (hK h7 t = 14)).bind fun _ =>
  bd (sG h7 1304 t (some b6)) fun h9 =>
  bd (hz h9) fun b11 =>
  bd (nA h9 21 400) fun h12 =>
  (ck (hK h12 t = 14)).bind fun _ =>
  bd (sG h12 1305 t (some b11)) fun h14 =>
  bd (hz h14) fun b16 =>
  bd (nA h14 21 400) fun h17 =>
  (ck (hK h17 t = 14)).bind fun _ =>
  bd (sG h17 1306 t (some b16)) fun h19 =>
  bd (hz h19) fun b21 =>
  bd (nA h19 21 8800) fun h22 =>
  (ck (hK h22 t = 14)).bind fun _ =>
  bd (sG h22 1307 t (some b21)) fun h24 =>
  bd (hz h24) fun b26 =>
  bd (nA h24 21 400) fun h27 =>
  (ck (hK h27 t = 14)).bind fun _ =>
  bd (sG h27 1308 t (some b26)) fun h29 =>
  bd (hz h29) fun b31 =>
  bd (nA h29 21 1600) fun h32 =>
  (ck (hK h32 t = 14)).bind fun _ =>
  bd (sG h32 1309 t (some b31)) fun h34 =>
  bd (hz h34) fun b36 =>
  bd (nA h34 21 208000) fun h37 =>
  (ck (hK h37 t = 14)).bind fun _ =>
  bd (sG h37 1310 t (some b36)) fun h39 =>
  bd (hz h39) fun b41 =>
  bd (nA h39 21 6000) fun h42 =>
  (ck (hK h42 t = 14)).bind fun _ =>
  bd (sG h42 1312 t (some b41)) fun h44 =>
  bd (hz h44) fun b46 =>
  bd (nA h44 21 6000) fun h47 =>
  (ck (hK h47 t = 14)).bind fun _ =>
  bd (sG h47 1313 t (some b46)) fun h49 =>
  bd (hz h49) fun b51 =>
  bd (nA h49 21 240000) fun h52 =>
  (ck (hK h52 t = 14)).bind fun _ =>
  bd (sG h52 1314 t (some b51)) fun h54 =>
  bd (hz h54) fun b56 =>
  bd (nA h54 21 6000) fun h57 =>
  (ck (hK h57 t = 14)).bind fun _ =>
  bd (sG h57 1315 t (some b56)) fun h59 =>
  bd (hz h59) fun b61 =>
  bd (nA h59 21 8000) fun h62 =>
  (ck (hK h62 t = 14)).bind fun _ =>
  bd (sG h62 1317 t (some b61)) fun h64 =>
  bd (hz h64) fun b66 =>
  bd (nA h64 21 40) fun h67 =>
  (ck (hK h67 t = 14)).bind fun _ =>
  bd (sG h67 1321 t (some b66)) fun h69 =>
  bd (hz h69) fun b71 =>
  bd (nA h69 21 40) fun h72 =>
  (ck (hK h72 t = 14)).bind fun _ =>
  bd (sG h72 1322 t (some b71)) fun h74 =>
  bd (hz h74) fun b76 =>
  bd (nA h74 21 40) fun h77 =>
  (ck (hK h77 t = 14)).bind fun _ =>
  bd (sG h77 1323 t (some b76)) fun h79 =>
  bd (hz h79) fun b81 =>
  bd (nA h79 21 40) fun h82 =>
  (ck (hK h82 t = 14)).bind fun _ =>
  bd (sG h82 1324 t (some b81)) fun h84 =>
  bd (hz h84) fun b86 =>
  bd (nA h84 21 40) fun h87 =>
  (ck (hK h87 t = 14)).bind fun _ =>
  bd (sG h87 1325 t (some b86)) fun h89 =>
  bd (hz h89) fun b91 =>
  bd (nA h89 21 40) fun h92 =>
  (ck (hK h92 t = 14)).bind fun _ =>
  bd (sG h92 1326 t (some b91)) fun h94 =>
  bd (hz h94) fun b96 =>
  bd (nA h94 21 1600) fun h97 =>
  (ck (hK h97 t = 14)).bind fun _ =>
  bd (sG h97 1327 t (some b96)) fun h99 =>
  bd (hz h99) fun b101 =>
  bd (nA h99 21 4) fun h102 =>
  (ck (hK h102 t = 14)).bind fun _ =>
  bd (sG h102 1335 t (some b101)) fun h104 =>
  bd (hz h104) fun b106 =>
  bd (nA h104 21 4) fun h107 =>
  (ck (hK h107 t = 14)).bind fun _ =>
  bd (sG h107 1336 t (some b106)) fun h109 =>
  bd (hz h109) fun b111 =>
  bd (nA h109 21 4) fun h112 =>
  (ck (hK h112 t = 14)).bind fun _ =>
  bd (sG h112 1337 t (some b111)) fun h114 =>
  bd (hz h114) fun b116 =>
  bd (nA h114 21 4) fun h117 =>
  (ck (hK h117 t = 14)).bind fun _ =>
  bd (sG h117 1338 t (some b116)) fun h119 =>
  bd (hz h119) fun b121 =>
  bd (nA h119 21 4) fun h122 =>
  (ck (hK h122 t = 14)).bind fun _ =>
  bd (sG h122 1339 t (some b121)) fun h124 =>
  bd (hz h124) fun b126 =>
  bd (nA h124 21 4) fun h127 =>
  (ck (hK h127 t = 14)).bind fun _ =>
  bd (sG h127 1340 t (some b126)) fun h129 =>
  bd (hz h129) fun b131 =>
  bd (nA h129 21 4) fun h132 =>
  (ck (hK h132 t = 14)).bind fun _ =>
  bd (sG h132 1341 t (some b131)) fun h134 =>
  bd (hz h134) fun b136 =>
  bd (nA h134 21 4) fun h137 =>
  (ck (hK h137 t = 14)).bind fun _ =>
  bd (sG h137 1342 t (some b136)) fun h139 =>
  bd (hz h139) fun b141 =>
  bd (nA h139 21 4) fun h142 =>
  (ck (hK h142 t = 14)).bind fun _ =>
  bd (sG h142 1343 t (some b141)) fun h144 =>
  bd (hz h144) fun b146 =>
  bd (nA h144 21 4) fun h147 =>
  (ck (hK h147 t = 14)).bind fun _ =>
  bd (sG h147 1344 t (some b146)) fun h149 =>
  bd (hz h149) fun b151 =>
  bd (nA h149 21 4) fun h152 =>
  (ck (hK h152 t = 14)).bind fun _ =>
  bd (sG h152 1345 t (some b151)) fun h154 =>
  bd (hz h154) fun b156 =>
  bd (nA h154 21 4) fun h157 =>
  (ck (hK h157 t = 14)).bind fun _ =>
  bd (sG h157 1346 t (some b156)) fun h159 =>
  bd (hz h159) fun b161 =>
  bd (nA h159 21 4) fun h162 =>
  (ck (hK h162 t = 14)).bind fun _ =>
  bd (sG h162 1347 t (some b161)) fun h164 =>
  bd (hz h164) fun b166 =>
  bd (nA h164 21 4) fun h167 =>
  (ck (hK h167 t = 14)).bind fun _ =>
  bd (sG h167 1348 t (some b166)) fun h169 =>
  bd (hz h169) fun b171 =>
  bd (nA h169 21 4) fun h172 =>
  (ck (hK h172 t = 14)).bind fun _ =>
  bd (sG h172 1349 t (some b171)) fun h174 =>
  bd (hz h174) fun b176 =>
  bd (nA h174 21 4) fun h177 =>
  (ck (hK h177 t = 14)).bind fun _ =>
  bd (sG h177 1350 t (some b176)) fun h179 =>
  bd (hz h179) fun b181 =>
  bd (nA h179 21 4) fun h182 =>
  (ck (hK h182 t = 14)).bind fun _ =>
  bd (sG h182 1351 t (some b181)) fun h184 =>
  bd (hz h184) fun b186 =>
  bd (nA h184 22 4) fun h187 =>
  (ck (hK h187 t = 14)).bind fun _ =>
  bd (sG h187 1352 t (some b186)) fun h189 =>
  bd (hz h189) fun b191 =>
  bd (nA h189 21 44) fun h192 =>
  (ck (hK h192 t = 14)).bind fun _ =>
  bd (sG h192 1353 t (some b191)) fun h194 =>
  bd (hz h194) fun b196 =>
  bd (nA h194 21 44) fun h197 =>
  (ck (hK h197 t = 14)).bind fun _ =>
  bd (sG h197 1354 t (some b196)) fun h199 =>
  bd (hz h199) fun b201 =>
  bd (nA h199 21 44) fun h202 =>
  (ck (hK h202 t = 14)).bind fun _ =>
  bd (sG h202 1355 t (some b201)) fun h204 =>
  bd (hz h204) fun b206 =>
  bd (nA h204 21 44) fun h207 =>
  (ck (hK h207 t = 14)).bind fun _ =>
  bd (sG h207 1356 t (some b206)) fun h209 =>
  bd (hz h209) fun b211 =>
  bd (nA h209 21 44) fun h212 =>
  (ck (hK h212 t = 14)).bind fun _ =>
  bd (sG h212 1357 t (some b211)) fun h214 =>
  bd (hz h214) fun b216 =>
  bd (nA h214 21 44) fun h217 =>
  (ck (hK h217 t = 14)).bind fun _ =>
  bd (sG h217 1358 t (some b216)) fun h219 =>
  bd (hz h219) fun b221 =>
  bd (nA h219 21 6000) fun h222 =>
  (ck (hK h222 t = 14)).bind fun _ =>
  bd (sG h222 1359 t (some b221)) fun h224 =>
  bd (hz h224) fun b226 =>
  bd (nA h224 21 6000) fun h227 =>
  (ck (hK h227 t = 14)).bind fun _ =>
  bd (sG h227 1360 t (some b226)) fun h229 =>
  bd (hz h229) fun b231 =>
  bd (nA h229 21 6000) fun h232 =>
  (ck (hK h232 t = 14)).bind fun _ =>
  bd (sG h232 1361 t (some b231)) fun h234 =>
  bd (hz h234) fun b236 =>
  bd (nA h234 22 6000) fun h237 =>
  (ck (hK h237 t = 14)).bind fun _ =>
  bd (sG h237 1362 t (some b236)) fun h239 =>
  bd (hz h239) fun b241 =>
  bd (nA h239 22 6000) fun h242 =>
  (ck (hK h242 t = 14)).bind fun _ =>
  bd (sG h242 1363 t (some b241)) fun h244 =>
  bd (hz h244) fun b246 =>
  bd (nA h244 22 6000) fun h247 =>
  (ck (hK h247 t = 14)).bind fun _ =>
  bd (sG h247 1364 t (some b246)) fun h249 =>
  bd (hz h249) fun b251 =>
  bd (nA h249 21 6) fun h252 =>
  (ck (hK h252 t = 14)).bind fun _ =>
  bd (sG h252 1367 t (some b251)) fun h254 =>
  bd (hz h254) fun b256 =>
  bd (nA h254 21 1800) fun h257 =>
  (ck (hK h257 t = 14)).bind fun _ =>
  bd (sG h257 1368 t (some b256)) fun h259 =>
  bd (hz h259) fun b261 =>
  bd (nA h259 21 4) fun h262 =>
  (ck (hK h262 t = 14)).bind fun _ =>
  bd (sG h262 1370 t (some b261)) fun h264 =>
  bd (hz h264) fun b266 =>
  bd (nA h264 21 600) fun h267 =>
  (ck (hK h267 t = 14)).bind fun _ =>
  bd (sG h267 1371 t (some b266)) fun h269 =>
  some h269

def F_X12_thrown (t : Nat) (h : aH) : Option (Int32 × aH) :=
  some (hF h 1300 t, h)

def F_X12_fail (t : Nat) (h : aH) : Option (Int32 × aH) :=
  bd (sF h 1300 t 1) fun h1 =>
  some (0, h1)

def F_X12_side (t : Nat) (x1 : Int32) (h : aH) : Option (Int32 × aH) :=
  bd (sF h 1300 t 0) fun h1 =>
  if hF h1 1301 t = 60 then
    some ((-1), h1)
  else
    if x1 < 11 then
      some ((-1), h1)
    else
      if x1 ≤ 30 then
        (hG h1 1303 t).bind fun b6 =>
        (ck (hK h1 b6 = 21 ∧ inR (hF h1 1301 t) (hN h1 b6))).bind fun _ =>
        bd (sI h1 b6 (hF h1 1301 t).toNatClampNeg x1) fun h9 =>
        bd (sF h9 1301 t ((hF h9 1301 t) + 1)) fun h11 =>
        some ((hF h11 1301 t) - 1, h11)
      else
        some ((-1), h1)

def F_X12_isSide (t : Nat) (x1 : Int32) (h : aH) : Option (Int32 × aH) :=
  if x1 < 0 then
    some (0, h)
  else
    if hF h 1301 t ≤ x1 then
      some (0, h)
    else
      some (1, h)

def F_X12_isGame (t : Nat) (x1 : Int32) (h : aH) : Option (Int32 × aH) :=
  if x1 < 0 then
    some (0, h)
  else
    if hF h 1302 t ≤ x1 then
      some (0, h)
    else
      some (1, h)

def F_X12_player (t : Nat) (x1 : Int32) (h : aH) : Option (Int32 × aH) :=
  bd (sF h 1300 t 0) fun h1 =>
  (F_X12_isSide t x1 h1).bind fun q6 =>
  bd q6.1 fun z5 =>
  bd q6.2 fun h4 =>
  if z5 = 0 then
    some ((-1), h4)
  else
    (ck (hK h4 t = 14)).bind fun _ =>
    (hG h4 1303 t).bind fun b9 =>
    (ck (hK h4 b9 = 21 ∧ inR x1 (hN h4 b9))).bind fun _ =>
    if hI h4 b9 x1.toNatClampNeg = 30 then
      some ((-1), h4)
    else
      (hG h4 1303 t).bind fun b13 =>
      (ck (hK h4 b13 = 21 ∧ inR x1 (hN h4 b13))).bind fun _ =>
      bd (sI h4 b13 x1.toNatClampNeg ((hI h4 b13 x1.toNatClampNeg) + 1)) fun h16 =>
      (hG h16 1303 t).bind fun b18 =>
      (ck (hK h16 b18 = 21 ∧ inR x1 (hN h16 b18))).bind fun _ =>
      some ((hI h16 b18 x1.toNatClampNeg) - 1, h16)

def F_X12_newGame_60 : Nat → Nat → Int32 → aH → Option (aH)
  | 0, _, _, _ => none
  | n + 1, t, x5, h =>
  if 22 ≤ x5 then
    (ck (hK h t = 14)).bind fun _ =>
    bd (sF h 1302 t ((hF h 1302 t) + 1)) fun h3 =>
    some h3
  else
    (ck (hK h t = 14)).bind fun _ =>
    (hG h 1307 t).bind fun b6 =>
    (ck (hK h b6 = 21 ∧ inR ((22 * (hF h 1302 t)) + x5) (hN h b6))).bind fun _ =>
    bd (sI h b6 ((22 * (hF h 1302 t)) + x5).toNatClampNeg (x5 - x5 / 11 * 11)) fun h9 =>
    bd (x5 + 1) fun v11 =>
    F_X12_newGame_60 n t v11 h9

def F_X12_newGame (t : Nat) (x1 : Int32) (x2 : Int32) (x3 : Int32) (x4 : Int32) (h : aH) : Option (aH) :=
  (hG h 1304 t).bind fun b1 =>
  (ck (hK h b1 = 21 ∧ inR (2 * (hF h 1302 t)) (hN h b1))).bind fun _ =>
  bd (sI h b1 (2 * (hF h 1302 t)).toNatClampNeg x1) fun h4 =>
  (hG h4 1304 t).bind fun b6 =>
  (ck (hK h4 b6 = 21 ∧ inR ((2 * (hF h4 1302 t)) + 1) (hN h4 b6))).bind fun _ =>
  bd (sI h4 b6 ((2 * (hF h4 1302 t)) + 1).toNatClampNeg x2) fun h9 =>
  (hG h9 1305 t).bind fun b11 =>
  (ck (hK h9 b11 = 21 ∧ inR (hF h9 1302 t) (hN h9 b11))).bind fun _ =>
  bd (sI h9 b11 (hF h9 1302 t).toNatClampNeg x3) fun h14 =>
  (hG h14 1306 t).bind fun b16 =>
  (ck (hK h14 b16 = 21 ∧ inR (hF h14 1302 t) (hN h14 b16))).bind fun _ =>
  bd (sI h14 b16 (hF h14 1302 t).toNatClampNeg x4) fun h19 =>
  (hG h19 1308 t).bind fun b21 =>
  (ck (hK h19 b21 = 21 ∧ inR (hF h19 1302 t) (hN h19 b21))).bind fun _ =>
  bd (sI h19 b21 (hF h19 1302 t).toNatClampNeg 0) fun h24 =>
  F_X12_newGame_60 fu t 0 h24

def F_X12_toss (t : Nat) (x1 : Int32) (x2 : Int32) (x3 : Int32) (x4 : Int32) (h : aH) : Option (Int32 × aH) :=
  bd (sF h 1300 t 0) fun h1 =>
  if hF h1 1302 t = 400 then
    some ((-1), h1)
  else
    (F_X12_isSide t x1 h1).bind fun q7 =>
    bd q7.1 fun z6 =>
    bd q7.2 fun h5 =>
    if z6 = 0 then
      some ((-1), h5)
    else
      (ck (hK h5 t = 14)).bind fun _ =>
      (F_X12_isSide t x2 h5).bind fun q13 =>
      bd q13.1 fun z12 =>
      bd q13.2 fun h11 =>
      if z12 = 0 then
        some ((-1), h11)
      else
        if x1 = x2 then
          some ((-1), h11)
        else
          if x3 < 1 then
            some ((-1), h11)
          else
            if 120 < x3 then
              some ((-1), h11)
            else
              if x4 < 1 then
                some ((-1), h11)
              else
                if x4 ≤ 2 then
                  (ck (hK h11 t = 14)).bind fun _ =>
                  (F_X12_newGame t x1 x2 x3 x4 h11).bind fun h22 =>
                  (ck (hK h22 t = 14)).bind fun _ =>
                  some ((hF h22 1302 t) - 1, h22)
                else
                  some ((-1), h11)

def F_X12_seat_123 (k82 : Nat → Int32 → Int32 → Int32 → Int32 → aH → Option (Int32 × aH)) (t : Nat) (x3 : Int32) (x4 : Int32) (x5 : Int32) (x6 : Int32) (h : aH) : Option (Int32 × aH) :=
  bd (x6 + 1) fun v1 =>
  k82 t x3 x4 x5 v1 h

def F_X12_seat_82 : Nat → Nat → Int32 → Int32 → Int32 → Int32 → aH → Option (Int32 × aH)
  | 0, _, _, _, _, _, _ => none
  | n + 1, t, x3, x4, x5, x6, h =>
  if 11 ≤ x6 then
    (ck (hK h t = 14)).bind fun _ =>
    (hG h 1307 t).bind fun b3 =>
    (ck (hK h b3 = 21 ∧ inR (x5 + x3) (hN h b3))).bind fun _ =>
    bd (sI h b3 (x5 + x3).toNatClampNeg x4) fun h6 =>
    some (1, h6)
  else
    (ck (hK h t = 14)).bind fun _ =>
    (hG h 1307 t).bind fun b9 =>
    (ck (hK h b9 = 21 ∧ inR (x5 + x6) (hN h b9))).bind fun _ =>
    if hI h b9 (x5 + x6).toNatClampNeg = x4 then
      (hG h 1307 t).bind fun b13 =>
      (hG h 1307 t).bind fun b15 =>
      (ck (hK h b15 = 21 ∧ inR (x5 + x3) (hN h b15))).bind fun _ =>
      (ck (hK h b13 = 21 ∧ inR (x5 + x6) (hN h b13))).bind fun _ =>
      bd (sI h b13 (x5 + x6).toNatClampNeg (hI h b15 (x5 + x3).toNatClampNeg)) fun h19 =>
      F_X12_seat_123 (F_X12_seat_82 n) t x3 x4 x5 x6 h19
    else
      F_X12_seat_123 (F_X12_seat_82 n) t x3 x4 x5 x6 h

def F_X12_seat (t : Nat) (x1 : Int32) (x2 : Int32) (x3 : Int32) (x4 : Int32) (h : aH) : Option (Int32 × aH) :=
  bd (sF h 1300 t 0) fun h1 =>
  (F_X12_isGame t x1 h1).bind fun q6 =>
  bd q6.1 fun z5 =>
  bd q6.2 fun h4 =>
  if z5 = 0 then
    some (0, h4)
  else
    if x2 < 0 then
      some (0, h4)
    else
      if 1 < x2 then
        some (0, h4)
      else
        if x3 < 0 then
          some (0, h4)
        else
          if 10 < x3 then
            some (0, h4)
          else
            if x4 < 0 then
              some (0, h4)
            else
              (ck (hK h4 t = 14)).bind fun _ =>
              (hG h4 1303 t).bind fun b14 =>
              (hG h4 1304 t).bind fun b16 =>
              (ck (hK h4 b16 = 21 ∧ inR ((2 * x1) + x2) (hN h4 b16))).bind fun _ =>
              (ck (hK h4 b14 = 21 ∧ inR (hI h4 b16 ((2 * x1) + x2).toNatClampNeg) (hN h4 b14))).bind fun _ =>
              if hI h4 b14 (hI h4 b16 ((2 * x1) + x2).toNatClampNeg).toNatClampNeg ≤ x4 then
                some (0, h4)
              else
                (hG h4 1308 t).bind fun b21 =>
                (ck (hK h4 b21 = 21 ∧ inR x1 (hN h4 b21))).bind fun _ =>
                if hI h4 b21 x1.toNatClampNeg ≤ 0 then
                  bd ((22 * x1) + (11 * x2)) fun v25 =>
                  F_X12_seat_82 fu t x3 x4 v25 0 h4
                else
                  some (0, h4)

def F_X12_table (x0 : Int32) (x1 : Int32) (h : aH) : Option (Int32 × aH) :=
  some (((((1000 * ((100 - (x1 * x1)).toInt64)) * x0.toInt64) * ((1440 - x0).toInt64)) / 51840000).toInt32, h)

def F_X12_left (t : Nat) (x1 : Int32) (h : aH) : Option (Int32 × aH) :=
  (hG h 1340 t).bind fun b1 =>
  (ck (hK h b1 = 21 ∧ inR x1 (hN h b1))).bind fun _ =>
  (hG h 1337 t).bind fun b4 =>
  (ck (hK h b4 = 21 ∧ inR x1 (hN h b4))).bind fun _ =>
  (hG h 1338 t).bind fun b7 =>
  (ck (hK h b7 = 21 ∧ inR x1 (hN h b7))).bind fun _ =>
  some (((6 * (hI h b1 x1.toNatClampNeg)) - (6 * (hI h b4 x1.toNatClampNeg))) - (hI h b7 x1.toNatClampNeg), h)

def F_X12_lastTurn (t : Nat) (x1 : Int32) (h : aH) : Option (Int32 × aH) :=
  (hG h 1306 t).bind fun b1 =>
  (ck (hK h b1 = 21 ∧ inR x1 (hN h b1))).bind fun _ =>
  some ((2 * (hI h b1 x1.toNatClampNeg)) - 1, h)

def F_X12_stop (t : Nat) (x1 : Int32) (x2 : Int32) (x3 : Int32) (x4 : Int32) (h : aH) : Option (aH) :=
  bd (sF h 1328 t x1) fun h1 =>
  bd (sF h1 1329 t x2) fun h3 =>
  bd (sF h3 1330 t x3) fun h5 =>
  bd (sF h5 1331 t x4) fun h7 =>
  some h7

def F_X12_clearTurn_131 : Nat → Nat → Int32 → Int32 → aH → Option (aH)
  | 0, _, _, _, _ => none
  | n + 1, t, x1, x2, h =>
  if (11 * x1) + 11 ≤ x2 then
    some h
  else
    (ck (hK h t = 14)).bind fun _ =>
    (hG h 1353 t).bind fun b3 =>
    (ck (hK h b3 = 21 ∧ inR x2 (hN h b3))).bind fun _ =>
    bd (sI h b3 x2.toNatClampNeg 0) fun h6 =>
    (hG h6 1354 t).bind fun b8 =>
    (ck (hK h6 b8 = 21 ∧ inR x2 (hN h6 b8))).bind fun _ =>
    bd (sI h6 b8 x2.toNatClampNeg 0) fun h11 =>
    (hG h11 1355 t).bind fun b13 =>
    (ck (hK h11 b13 = 21 ∧ inR x2 (hN h11 b13))).bind fun _ =>
    bd (sI h11 b13 x2.toNatClampNeg 0) fun h16 =>
    (hG h16 1356 t).bind fun b18 =>
    (ck (hK h16 b18 = 21 ∧ inR x2 (hN h16 b18))).bind fun _ =>
    bd (sI h16 b18 x2.toNatClampNeg 0) fun h21 =>
    (hG h21 1357 t).bind fun b23 =>
    (ck (hK h21 b23 = 21 ∧ inR x2 (hN h21 b23))).bind fun _ =>
    bd (sI h21 b23 x2.toNatClampNeg 0) fun h26 =>
    (hG h26 1358 t).bind fun b28 =>
    (ck (hK h26 b28 = 21 ∧ inR x2 (hN h26 b28))).bind fun _ =>
    bd (sI h26 b28 x2.toNatClampNeg 0) fun h31 =>
    bd (x2 + 1) fun v33 =>
    F_X12_clearTurn_131 n t x1 v33 h31

def F_X12_clearTurn (t : Nat) (x1 : Int32) (h : aH) : Option (aH) :=
  (hG h 1335 t).bind fun b1 =>
  (ck (hK h b1 = 21 ∧ inR x1 (hN h b1))).bind fun _ =>
  bd (sI h b1 x1.toNatClampNeg 0) fun h4 =>
  (hG h4 1336 t).bind fun b6 =>
  (ck (hK h4 b6 = 21 ∧ inR x1 (hN h4 b6))).bind fun _ =>
  bd (sI h4 b6 x1.toNatClampNeg 0) fun h9 =>
  (hG h9 1337 t).bind fun b11 =>
  (ck (hK h9 b11 = 21 ∧ inR x1 (hN h9 b11))).bind fun _ =>
  bd (sI h9 b11 x1.toNatClampNeg 0) fun h14 =>
  (hG h14 1338 t).bind fun b16 =>
  (ck (hK h14 b16 = 21 ∧ inR x1 (hN h14 b16))).bind fun _ =>
  bd (sI h14 b16 x1.toNatClampNeg 0) fun h19 =>
  (hG h19 1339 t).bind fun b21 =>
  (ck (hK h19 b21 = 21 ∧ inR x1 (hN h19 b21))).bind fun _ =>
  bd (sI h19 b21 x1.toNatClampNeg 0) fun h24 =>
  (hG h24 1340 t).bind fun b26 =>
  (ck (hK h24 b26 = 21 ∧ inR x1 (hN h24 b26))).bind fun _ =>
  bd (sI h24 b26 x1.toNatClampNeg 0) fun h29 =>
  (hG h29 1341 t).bind fun b31 =>
  (ck (hK h29 b31 = 21 ∧ inR x1 (hN h29 b31))).bind fun _ =>
  bd (sI h29 b31 x1.toNatClampNeg 0) fun h34 =>
  (hG h34 1342 t).bind fun b36 =>
  (ck (hK h34 b36 = 21 ∧ inR x1 (hN h34 b36))).bind fun _ =>
  bd (sI h34 b36 x1.toNatClampNeg 0) fun h39 =>
  (hG h39 1343 t).bind fun b41 =>
  (ck (hK h39 b41 = 21 ∧ inR x1 (hN h39 b41))).bind fun _ =>
  bd (sI h39 b41 x1.toNatClampNeg 0) fun h44 =>
  (hG h44 1344 t).bind fun b46 =>
  (ck (hK h44 b46 = 21 ∧ inR x1 (hN h44 b46))).bind fun _ =>
  bd (sI h44 b46 x1.toNatClampNeg 0) fun h49 =>
  (hG h49 1345 t).bind fun b51 =>
  (ck (hK h49 b51 = 21 ∧ inR x1 (hN h49 b51))).bind fun _ =>
  bd (sI h49 b51 x1.toNatClampNeg ((-1))) fun h54 =>
  (hG h54 1346 t).bind fun b56 =>
  (ck (hK h54 b56 = 21 ∧ inR x1 (hN h54 b56))).bind fun _ =>
  bd (sI h54 b56 x1.toNatClampNeg ((-1))) fun h59 =>
  (hG h59 1347 t).bind fun b61 =>
  (ck (hK h59 b61 = 21 ∧ inR x1 (hN h59 b61))).bind fun _ =>
  bd (sI h59 b61 x1.toNatClampNeg 2) fun h64 =>
  (hG h64 1348 t).bind fun b66 =>
  (ck (hK h64 b66 = 21 ∧ inR x1 (hN h64 b66))).bind fun _ =>
  bd (sI h64 b66 x1.toNatClampNeg 0) fun h69 =>
  (hG h69 1349 t).bind fun b71 =>
  (ck (hK h69 b71 = 21 ∧ inR x1 (hN h69 b71))).bind fun _ =>
  bd (sI h69 b71 x1.toNatClampNeg 0) fun h74 =>
  (hG h74 1350 t).bind fun b76 =>
  (ck (hK h74 b76 = 21 ∧ inR x1 (hN h74 b76))).bind fun _ =>
  bd (sI h74 b76 x1.toNatClampNeg 0) fun h79 =>
  (hG h79 1351 t).bind fun b81 =>
  (ck (hK h79 b81 = 21 ∧ inR x1 (hN h79 b81))).bind fun _ =>
  bd (sI h79 b81 x1.toNatClampNeg ((-1))) fun h84 =>
  (hG h84 1352 t).bind fun b86 =>
  (ck (hK h84 b86 = 22 ∧ inR x1 (hN h84 b86))).bind fun _ =>
  bd (sI h84 b86 x1.toNatClampNeg 0) fun h89 =>
  bd (11 * x1) fun v91 =>
  F_X12_clearTurn_131 fu t x1 v91 h89

def F_X12_rowOf (t : Nat) (x1 : Int32) (x2 : Int32) (x3 : Int32) (h : aH) : Option (Int32 × aH) :=
  (hG h 1310 t).bind fun b1 =>
  (ck (hK h b1 = 21 ∧ inR ((130 * ((4 * x1) + x2)) + x3) (hN h b1))).bind fun _ =>
  some (hI h b1 ((130 * ((4 * x1) + x2)) + x3).toNatClampNeg, h)

def F_X12_aim (t : Nat) (x1 : Int32) (x2 : Int32) (h : aH) : Option (aH) :=
  if x2 = 3 then
    (hG h 1335 t).bind fun b2 =>
    (ck (hK h b2 = 21 ∧ inR 0 (hN h b2))).bind fun _ =>
    (hG h 1335 t).bind fun b5 =>
    (ck (hK h b5 = 21 ∧ inR 2 (hN h b5))).bind fun _ =>
    (hG h 1335 t).bind fun b8 =>
    (ck (hK h b8 = 21 ∧ inR 1 (hN h b8))).bind fun _ =>
    bd (sF h 1334 t ((((hI h b2 (0 : Int32).toNatClampNeg) + (hI h b5 (2 : Int32).toNatClampNeg)) - (hI h b8 (1 : Int32).toNatClampNeg)) + 1)) fun h11 =>
    some h11
  else
    (hG h 1335 t).bind fun b13 =>
    (ck (hK h b13 = 21 ∧ inR 0 (hN h b13))).bind fun _ =>
    bd (hI h b13 (0 : Int32).toNatClampNeg) fun v16 =>
    (hG h 1343 t).bind fun b17 =>
    (ck (hK h b17 = 21 ∧ inR 0 (hN h b17))).bind fun _ =>
    bd (hI h b17 (0 : Int32).toNatClampNeg) fun v20 =>
    (hG h 1343 t).bind fun b21 =>
    (ck (hK h b21 = 21 ∧ inR 1 (hN h b21))).bind fun _ =>
    bd (hI h b21 (1 : Int32).toNatClampNeg) fun v24 =>
    if v24 ≤ v20 then
      if v20 = 0 then
        bd (sF h 1334 t 1) fun h27 =>
        some h27
      else
        (ck (¬ v20.toInt64 = 0)).bind fun _ =>
        bd (sF h 1334 t ((((v16.toInt64 * v24.toInt64) / v20.toInt64).toInt32) + 1)) fun h30 =>
        some h30
    else
      bd (sF h 1334 t ((v16 + ((200 * (v24 - v20)) / 1000)) + 1)) fun h32 =>
      some h32

def F_X12_change (t : Nat) (x1 : Int32) (h : aH) : Option (aH) :=
  (hG h 1345 t).bind fun b1 =>
  (ck (hK h b1 = 21 ∧ inR x1 (hN h b1))).bind fun _ =>
  bd (hI h b1 x1.toNatClampNeg) fun v4 =>
  (hG h 1345 t).bind fun b5 =>
  (hG h 1346 t).bind fun b7 =>
  (ck (hK h b7 = 21 ∧ inR x1 (hN h b7))).bind fun _ =>
  (ck (hK h b5 = 21 ∧ inR x1 (hN h b5))).bind fun _ =>
  bd (sI h b5 x1.toNatClampNeg (hI h b7 x1.toNatClampNeg)) fun h11 =>
  (hG h11 1346 t).bind fun b13 =>
  (ck (hK h11 b13 = 21 ∧ inR x1 (hN h11 b13))).bind fun _ =>
  bd (sI h11 b13 x1.toNatClampNeg v4) fun h16 =>
  some h16

def F_X12_becomesWhole (t : Nat) (x1 : Int32) (x2 : Int32) (h : aH) : Option (aH) :=
  (hG h 1362 t).bind fun b1 =>
  (ck (hK h b1 = 22 ∧ inR x2 (hN h b1))).bind fun _ =>
  bd (sI h b1 x2.toNatClampNeg 1) fun h4 =>
  (hG h4 1337 t).bind fun b6 =>
  (ck (hK h4 b6 = 21 ∧ inR x1 (hN h4 b6))).bind fun _ =>
  bd (sI h4 b6 x1.toNatClampNeg ((hI h4 b6 x1.toNatClampNeg) + 1)) fun h9 =>
  (hG h9 1338 t).bind fun b11 =>
  (ck (hK h9 b11 = 21 ∧ inR x1 (hN h9 b11))).bind fun _ =>
  bd (sI h9 b11 x1.toNatClampNeg 0) fun h14 =>
  (F_X12_change t x1 h14).bind fun h17 =>
  some h17

def F_X12_isEntry (x0 : Int32) (x1 : Int32) (h : aH) : Option (Int32 × aH) :=
  if x0 = 0 then
    if 6 < x1 then
      some (0, h)
    else
      some (1, h)
  else
  if x0 = 1 then
    if 4 < x1 then
      some (0, h)
    else
      some (1, h)
  else
  if x0 = 2 then
    if 6 < x1 then
      some (0, h)
    else
      some (1, h)
  else
  if x0 = 3 then
    if 3 < x1 then
      some (0, h)
    else
      some (1, h)
  else
  if x0 = 4 then
    if 7 < x1 then
      some (0, h)
    else
      some (1, h)
  else
  if x0 = 6 then
    if x1 < 1 then
      some (0, h)
    else
      if 4 < x1 then
        some (0, h)
      else
        some (1, h)
  else
  if x0 = 8 then
    if x1 < 1 then
      some (0, h)
    else
      some (1, h)
  else
  if x0 = 9 then
    if x1 = 0 then
      some (1, h)
    else
      some (0, h)
  else
  if x0 = 5 then
    some (1, h)
  else
    if x0 = 7 then
      some (1, h)
    else
      some (0, h)

def F_X12_counts (x0 : Int32) (h : aH) : Option (Int32 × aH) :=
  if x0 = 0 then
    some (1, h)
  else
    if x0 = 3 then
      some (1, h)
    else
      if x0 = 4 then
        some (1, h)
      else
        if x0 = 6 then
          some (1, h)
        else
          some (0, h)

def F_X12_against_57 (t : Nat) (x1 : Int32) (x2 : Int32) (x4 : Int32) (x5 : Int32) (h : aH) : Option (Int32 × aH) :=
  if x4 = 8 then
    (ck (hK h t = 14)).bind fun _ =>
    (hG h 1306 t).bind fun b3 =>
    (ck (hK h b3 = 21 ∧ inR x1 (hN h b3))).bind fun _ =>
    if hI h b3 x1.toNatClampNeg = 2 then
      some (10, h)
    else
      (hG h 1340 t).bind fun b7 =>
      (ck (hK h b7 = 21 ∧ inR x2 (hN h b7))).bind fun _ =>
      (hG h 1344 t).bind fun b10 =>
      (ck (hK h b10 = 21 ∧ inR x2 (hN h b10))).bind fun _ =>
      if hI h b10 x2.toNatClampNeg ≤ (hI h b7 x2.toNatClampNeg) - x5 then
        some (0, h)
      else
        some (10, h)
  else
    some (0, h)

def F_X12_against (t : Nat) (x1 : Int32) (x2 : Int32) (x3 : Int32) (x4 : Int32) (x5 : Int32) (h : aH) : Option (Int32 × aH) :=
  (F_X12_isEntry x4 x5 h).bind fun q4 =>
  bd q4.1 fun z3 =>
  bd q4.2 fun h2 =>
  if z3 = 0 then
    some (7, h2)
  else
    (ck (hK h2 t = 14)).bind fun _ =>
    (hG h2 1341 t).bind fun b7 =>
    (ck (hK h2 b7 = 21 ∧ inR x2 (hN h2 b7))).bind fun _ =>
    if hI h2 b7 x2.toNatClampNeg = 0 then
      (hG h2 1362 t).bind fun b11 =>
      (ck (hK h2 b11 = 22 ∧ inR x3 (hN h2 b11))).bind fun _ =>
      if hI h2 b11 x3.toNatClampNeg = 0 then
        F_X12_against_57 t x1 x2 x4 x5 h2
      else
        (F_X12_counts x4 h2).bind fun q18 =>
        bd q18.1 fun z17 =>
        bd q18.2 fun h16 =>
        if z17 = 0 then
          if x4 = 1 then
            some (9, h16)
          else
            if x4 = 2 then
              some (9, h16)
            else
              F_X12_against_57 t x1 x2 x4 x5 h16
        else
          some (9, h16)
    else
      some (8, h2)

def F_X12_adds (t : Nat) (x1 : Int32) (x2 : Int32) (x3 : Int32) (h : aH) : Option (aH) :=
  (hG h 1335 t).bind fun b1 =>
  (ck (hK h b1 = 21 ∧ inR x1 (hN h b1))).bind fun _ =>
  bd (sI h b1 x1.toNatClampNeg ((hI h b1 x1.toNatClampNeg) + x3)) fun h4 =>
  (hG h4 1359 t).bind fun b6 =>
  (ck (hK h4 b6 = 21 ∧ inR x2 (hN h4 b6))).bind fun _ =>
  bd (sI h4 b6 x2.toNatClampNeg ((hI h4 b6 x2.toNatClampNeg) + x3)) fun h9 =>
  some h9

def F_X12_hit (t : Nat) (x1 : Int32) (x2 : Int32) (x3 : Int32) (h : aH) : Option (aH) :=
  (hG h 1353 t).bind fun b1 =>
  (hG h 1345 t).bind fun b3 =>
  (ck (hK h b3 = 21 ∧ inR x1 (hN h b3))).bind fun _ =>
  (ck (hK h b1 = 21 ∧ inR ((11 * x1) + (hI h b3 x1.toNatClampNeg)) (hN h b1))).bind fun _ =>
  bd (sI h b1 ((11 * x1) + (hI h b3 x1.toNatClampNeg)).toNatClampNeg ((hI h b1 ((11 * x1) + (hI h b3 x1.toNatClampNeg)).toNatClampNeg) + x3)) fun h7 =>
  (hG h7 1357 t).bind fun b9 =>
  (hG h7 1351 t).bind fun b11 =>
  (ck (hK h7 b11 = 21 ∧ inR x1 (hN h7 b11))).bind fun _ =>
  (ck (hK h7 b9 = 21 ∧ inR ((11 * x1) + (hI h7 b11 x1.toNatClampNeg)) (hN h7 b9))).bind fun _ =>
  bd (sI h7 b9 ((11 * x1) + (hI h7 b11 x1.toNatClampNeg)).toNatClampNeg ((hI h7 b9 ((11 * x1) + (hI h7 b11 x1.toNatClampNeg)).toNatClampNeg) + x3)) fun h15 =>
  (F_X12_adds t x1 x2 x3 h15).bind fun h18 =>
  some h18

def F_X12_crosses (t : Nat) (x1 : Int32) (x2 : Int32) (h : aH) : Option (aH) :=
  if x2 - x2 / 2 * 2 = 1 then
    (F_X12_change t x1 h).bind fun h3 =>
    some h3
  else
    some h

def F_X12_leaves_100 (t : Nat) (x1 : Int32) (x3 : Int32) (x6 : Int32) (h : aH) : Option (aH) :=
  if x3 = 0 then
    (ck (hK h t = 14)).bind fun _ =>
    (hG h 1346 t).bind fun b3 =>
    (ck (hK h b3 = 21 ∧ inR x1 (hN h b3))).bind fun _ =>
    bd (sI h b3 x1.toNatClampNeg x6) fun h6 =>
    some h6
  else
    (ck (hK h t = 14)).bind fun _ =>
    (hG h 1345 t).bind fun b9 =>
    (ck (hK h b9 = 21 ∧ inR x1 (hN h b9))).bind fun _ =>
    bd (sI h b9 x1.toNatClampNeg x6) fun h12 =>
    some h12

def F_X12_leaves_19 (t : Nat) (x1 : Int32) (x2 : Int32) (x3 : Int32) (x4 : Int32) (y0 : Int32) (h : aH) : Option (aH) :=
  (ck (hK h t = 14)).bind fun _ =>
  (hG h 1355 t).bind fun b2 =>
  (ck (hK h b2 = 21 ∧ inR ((11 * x1) + y0) (hN h b2))).bind fun _ =>
  bd (sI h b2 ((11 * x1) + y0).toNatClampNeg x4) fun h5 =>
  (hG h5 1336 t).bind fun b7 =>
  (ck (hK h5 b7 = 21 ∧ inR x1 (hN h5 b7))).bind fun _ =>
  bd (sI h5 b7 x1.toNatClampNeg ((hI h5 b7 x1.toNatClampNeg) + 1)) fun h10 =>
  (hG h10 1360 t).bind fun b12 =>
  (ck (hK h10 b12 = 21 ∧ inR x2 (hN h10 b12))).bind fun _ =>
  bd (sI h10 b12 x2.toNatClampNeg ((hI h10 b12 x2.toNatClampNeg) + 1)) fun h15 =>
  (hG h15 1336 t).bind fun b17 =>
  (ck (hK h15 b17 = 21 ∧ inR x1 (hN h15 b17))).bind fun _ =>
  if 10 ≤ hI h15 b17 x1.toNatClampNeg then
    F_X12_leaves_100 t x1 x3 ((-1)) h15
  else
    (hG h15 1347 t).bind fun b21 =>
    (ck (hK h15 b21 = 21 ∧ inR x1 (hN h15 b21))).bind fun _ =>
    bd (hI h15 b21 x1.toNatClampNeg) fun v24 =>
    (hG h15 1347 t).bind fun b25 =>
    (ck (hK h15 b25 = 21 ∧ inR x1 (hN h15 b25))).bind fun _ =>
    bd (sI h15 b25 x1.toNatClampNeg ((hI h15 b25 x1.toNatClampNeg) + 1)) fun h28 =>
    (hG h28 1355 t).bind fun b30 =>
    (ck (hK h28 b30 = 21 ∧ inR ((11 * x1) + v24) (hN h28 b30))).bind fun _ =>
    bd (sI h28 b30 ((11 * x1) + v24).toNatClampNeg 1) fun h33 =>
    F_X12_leaves_100 t x1 x3 v24 h33

def F_X12_leaves (t : Nat) (x1 : Int32) (x2 : Int32) (x3 : Int32) (x4 : Int32) (h : aH) : Option (aH) :=
  if x3 = 0 then
    (hG h 1346 t).bind fun b2 =>
    (ck (hK h b2 = 21 ∧ inR x1 (hN h b2))).bind fun _ =>
    F_X12_leaves_19 t x1 x2 x3 x4 (hI h b2 x1.toNatClampNeg) h
  else
    (hG h 1345 t).bind fun b5 =>
    (ck (hK h b5 = 21 ∧ inR x1 (hN h b5))).bind fun _ =>
    F_X12_leaves_19 t x1 x2 x3 x4 (hI h b5 x1.toNatClampNeg) h

def F_X12_ends_37 (t : Nat) (x2 : Int32) (x3 : Int32) (h : aH) : Option (aH) :=
  (ck (hK h t = 14)).bind fun _ =>
  (hG h 1336 t).bind fun b2 =>
  (ck (hK h b2 = 21 ∧ inR x2 (hN h b2))).bind fun _ =>
  if hI h b2 x2.toNatClampNeg = 10 then
    (hG h 1341 t).bind fun b6 =>
    (ck (hK h b6 = 21 ∧ inR x2 (hN h b6))).bind fun _ =>
    bd (sI h b6 x2.toNatClampNeg 1) fun h9 =>
    some h9
  else
    if x3 = 9 then
      (hG h 1341 t).bind fun b12 =>
      (ck (hK h b12 = 21 ∧ inR x2 (hN h b12))).bind fun _ =>
      bd (sI h b12 x2.toNatClampNeg 3) fun h15 =>
      some h15
    else
      (hG h 1337 t).bind fun b17 =>
      (ck (hK h b17 = 21 ∧ inR x2 (hN h b17))).bind fun _ =>
      (hG h 1340 t).bind fun b20 =>
      (ck (hK h b20 = 21 ∧ inR x2 (hN h b20))).bind fun _ =>
      if hI h b17 x2.toNatClampNeg = hI h b20 x2.toNatClampNeg then
        (hG h 1341 t).bind fun b24 =>
        (ck (hK h b24 = 21 ∧ inR x2 (hN h b24))).bind fun _ =>
        bd (sI h b24 x2.toNatClampNeg 2) fun h27 =>
        some h27
      else
        some h

def F_X12_ends (t : Nat) (x1 : Int32) (x2 : Int32) (x3 : Int32) (h : aH) : Option (aH) :=
  (F_X12_lastTurn t x1 h).bind fun q4 =>
  bd q4.1 fun z3 =>
  bd q4.2 fun h2 =>
  if x2 = z3 then
    (ck (hK h2 t = 14)).bind fun _ =>
    (hG h2 1335 t).bind fun b7 =>
    (ck (hK h2 b7 = 21 ∧ inR x2 (hN h2 b7))).bind fun _ =>
    if hI h2 b7 x2.toNatClampNeg < hF h2 1334 t then
      F_X12_ends_37 t x2 x3 h2
    else
      (hG h2 1341 t).bind fun b11 =>
      (ck (hK h2 b11 = 21 ∧ inR x2 (hN h2 b11))).bind fun _ =>
      bd (sI h2 b11 x2.toNatClampNeg 4) fun h14 =>
      bd (sF h14 1333 t 2) fun h16 =>
      some h16
  else
    F_X12_ends_37 t x2 x3 h2

def F_X12_playEntry_481 (t : Nat) (x1 : Int32) (x2 : Int32) (x4 : Int32) (h : aH) : Option (aH) :=
  (ck (hK h t = 14)).bind fun _ =>
  (F_X12_ends t x1 x2 x4 h).bind fun h3 =>
  some h3

def F_X12_playEntry_466 (t : Nat) (x1 : Int32) (x2 : Int32) (x4 : Int32) (h : aH) : Option (aH) :=
  (ck (hK h t = 14)).bind fun _ =>
  (F_X12_lastTurn t x1 h).bind fun q5 =>
  bd q5.1 fun z4 =>
  bd q5.2 fun h3 =>
  if x2 = z4 then
    (ck (hK h3 t = 14)).bind fun _ =>
    (F_X12_aim t x1 x2 h3).bind fun h9 =>
    F_X12_playEntry_481 t x1 x2 x4 h9
  else
    F_X12_playEntry_481 t x1 x2 x4 h3

def F_X12_playEntry_421 (t : Nat) (x1 : Int32) (x2 : Int32) (x3 : Int32) (x4 : Int32) (h : aH) : Option (aH) :=
  (F_X12_counts x4 h).bind fun q4 =>
  bd q4.1 fun z3 =>
  bd q4.2 fun h2 =>
  if z3 = 0 then
    F_X12_playEntry_466 t x1 x2 x4 h2
  else
    (ck (hK h2 t = 14)).bind fun _ =>
    (hG h2 1361 t).bind fun b7 =>
    (ck (hK h2 b7 = 21 ∧ inR x3 (hN h2 b7))).bind fun _ =>
    bd (sI h2 b7 x3.toNatClampNeg ((hI h2 b7 x3.toNatClampNeg) + 1)) fun h10 =>
    (hG h10 1338 t).bind fun b12 =>
    (ck (hK h10 b12 = 21 ∧ inR x2 (hN h10 b12))).bind fun _ =>
    bd (sI h10 b12 x2.toNatClampNeg ((hI h10 b12 x2.toNatClampNeg) + 1)) fun h15 =>
    (hG h15 1361 t).bind fun b17 =>
    (ck (hK h15 b17 = 21 ∧ inR x3 (hN h15 b17))).bind fun _ =>
    if hI h15 b17 x3.toNatClampNeg = 6 then
      (F_X12_becomesWhole t x2 x3 h15).bind fun h22 =>
      F_X12_playEntry_466 t x1 x2 x4 h22
    else
      F_X12_playEntry_466 t x1 x2 x4 h15

def F_X12_playEntry_38 (t : Nat) (x1 : Int32) (x2 : Int32) (x3 : Int32) (x4 : Int32) (x5 : Int32) (h : aH) : Option (aH) :=
  if x4 = 0 then
    (ck (hK h t = 14)).bind fun _ =>
    (F_X12_hit t x2 x3 x5 h).bind fun h4 =>
    (ck (hK h4 t = 14)).bind fun _ =>
    (F_X12_crosses t x2 x5 h4).bind fun h8 =>
    F_X12_playEntry_421 t x1 x2 x3 x4 h8
  else
  if x4 = 1 then
    (ck (hK h t = 14)).bind fun _ =>
    (hG h 1357 t).bind fun b12 =>
    (hG h 1351 t).bind fun b14 =>
    (ck (hK h b14 = 21 ∧ inR x2 (hN h b14))).bind fun _ =>
    (ck (hK h b12 = 21 ∧ inR ((11 * x2) + (hI h b14 x2.toNatClampNeg)) (hN h b12))).bind fun _ =>
    bd (sI h b12 ((11 * x2) + (hI h b14 x2.toNatClampNeg)).toNatClampNeg ((hI h b12 ((11 * x2) + (hI h b14 x2.toNatClampNeg)).toNatClampNeg) + 1)) fun h18 =>
    (hG h18 1348 t).bind fun b20 =>
    (ck (hK h18 b20 = 21 ∧ inR x2 (hN h18 b20))).bind fun _ =>
    bd (sI h18 b20 x2.toNatClampNeg ((hI h18 b20 x2.toNatClampNeg) + x5)) fun h23 =>
    (hG h23 1339 t).bind fun b25 =>
    (ck (hK h23 b25 = 21 ∧ inR x2 (hN h23 b25))).bind fun _ =>
    bd (sI h23 b25 x2.toNatClampNeg ((hI h23 b25 x2.toNatClampNeg) + (x5 + 1))) fun h28 =>
    (F_X12_adds t x2 x3 (x5 + 1) h28).bind fun h31 =>
    (ck (hK h31 t = 14)).bind fun _ =>
    (F_X12_crosses t x2 x5 h31).bind fun h35 =>
    F_X12_playEntry_421 t x1 x2 x3 x4 h35
  else
  if x4 = 2 then
    (ck (hK h t = 14)).bind fun _ =>
    (F_X12_hit t x2 x3 x5 h).bind fun h40 =>
    (ck (hK h40 t = 14)).bind fun _ =>
    (hG h40 1357 t).bind fun b43 =>
    (hG h40 1351 t).bind fun b45 =>
    (ck (hK h40 b45 = 21 ∧ inR x2 (hN h40 b45))).bind fun _ =>
    (ck (hK h40 b43 = 21 ∧ inR ((11 * x2) + (hI h40 b45 x2.toNatClampNeg)) (hN h40 b43))).bind fun _ =>
    bd (sI h40 b43 ((11 * x2) + (hI h40 b45 x2.toNatClampNeg)).toNatClampNeg ((hI h40 b43 ((11 * x2) + (hI h40 b45 x2.toNatClampNeg)).toNatClampNeg) + 1)) fun h49 =>
    (hG h49 1339 t).bind fun b51 =>
    (ck (hK h49 b51 = 21 ∧ inR x2 (hN h49 b51))).bind fun _ =>
    bd (sI h49 b51 x2.toNatClampNeg ((hI h49 b51 x2.toNatClampNeg) + 1)) fun h54 =>
    (F_X12_adds t x2 x3 1 h54).bind fun h57 =>
    (ck (hK h57 t = 14)).bind fun _ =>
    (F_X12_crosses t x2 x5 h57).bind fun h61 =>
    F_X12_playEntry_421 t x1 x2 x3 x4 h61
  else
  if x4 = 3 then
    (ck (hK h t = 14)).bind fun _ =>
    (hG h 1358 t).bind fun b65 =>
    (hG h 1351 t).bind fun b67 =>
    (ck (hK h b67 = 21 ∧ inR x2 (hN h b67))).bind fun _ =>
    (ck (hK h b65 = 21 ∧ inR ((11 * x2) + (hI h b67 x2.toNatClampNeg)) (hN h b65))).bind fun _ =>
    bd (sI h b65 ((11 * x2) + (hI h b67 x2.toNatClampNeg)).toNatClampNeg ((hI h b65 ((11 * x2) + (hI h b67 x2.toNatClampNeg)).toNatClampNeg) + 1)) fun h71 =>
    (hG h71 1349 t).bind fun b73 =>
    (ck (hK h71 b73 = 21 ∧ inR x2 (hN h71 b73))).bind fun _ =>
    bd (sI h71 b73 x2.toNatClampNeg ((hI h71 b73 x2.toNatClampNeg) + 1)) fun h76 =>
    (F_X12_leaves t x2 x3 1 (2 + x5) h76).bind fun h79 =>
    F_X12_playEntry_421 t x1 x2 x3 x4 h79
  else
  if x4 = 4 then
    (ck (hK h t = 14)).bind fun _ =>
    (F_X12_hit t x2 x3 (x5 / 2) h).bind fun h84 =>
    (ck (hK h84 t = 14)).bind fun _ =>
    (F_X12_crosses t x2 (x5 / 2) h84).bind fun h88 =>
    (ck (hK h88 t = 14)).bind fun _ =>
    (hG h88 1350 t).bind fun b91 =>
    (ck (hK h88 b91 = 21 ∧ inR x2 (hN h88 b91))).bind fun _ =>
    bd (sI h88 b91 x2.toNatClampNeg ((hI h88 b91 x2.toNatClampNeg) + 1)) fun h94 =>
    if x5 - x5 / 2 * 2 = 0 then
      (F_X12_leaves t x2 x3 1 6 h94).bind fun h98 =>
      F_X12_playEntry_421 t x1 x2 x3 x4 h98
    else
      (F_X12_leaves t x2 x3 0 6 h94).bind fun h101 =>
      F_X12_playEntry_421 t x1 x2 x3 x4 h101
  else
  if x4 = 6 then
    (ck (hK h t = 14)).bind fun _ =>
    (hG h 1348 t).bind fun b105 =>
    (ck (hK h b105 = 21 ∧ inR x2 (hN h b105))).bind fun _ =>
    bd (sI h b105 x2.toNatClampNeg ((hI h b105 x2.toNatClampNeg) + x5)) fun h108 =>
    (hG h108 1339 t).bind fun b110 =>
    (ck (hK h108 b110 = 21 ∧ inR x2 (hN h108 b110))).bind fun _ =>
    bd (sI h108 b110 x2.toNatClampNeg ((hI h108 b110 x2.toNatClampNeg) + x5)) fun h113 =>
    (F_X12_adds t x2 x3 x5 h113).bind fun h116 =>
    (ck (hK h116 t = 14)).bind fun _ =>
    (F_X12_crosses t x2 x5 h116).bind fun h120 =>
    F_X12_playEntry_421 t x1 x2 x3 x4 h120
  else
  if x4 = 8 then
    (ck (hK h t = 14)).bind fun _ =>
    (F_X12_left t x2 h).bind fun q127 =>
    bd q127.1 fun z126 =>
    bd q127.2 fun h125 =>
    (ck (hK h125 t = 14)).bind fun _ =>
    (hG h125 1336 t).bind fun b129 =>
    (ck (hK h125 b129 = 21 ∧ inR x2 (hN h125 b129))).bind fun _ =>
    (F_X12_table z126 (hI h125 b129 x2.toNatClampNeg) h125).bind fun q135 =>
    bd q135.1 fun z134 =>
    bd q135.2 fun h133 =>
    (ck (hK h133 t = 14)).bind fun _ =>
    (hG h133 1340 t).bind fun b137 =>
    (ck (hK h133 b137 = 21 ∧ inR x2 (hN h133 b137))).bind fun _ =>
    bd (sI h133 b137 x2.toNatClampNeg ((hI h133 b137 x2.toNatClampNeg) - x5)) fun h140 =>
    (hG h140 1343 t).bind fun b142 =>
    (ck (hK h140 b142 = 21 ∧ inR x2 (hN h140 b142))).bind fun _ =>
    (F_X12_left t x2 h140).bind fun q148 =>
    bd q148.1 fun z147 =>
    bd q148.2 fun h146 =>
    (ck (hK h146 t = 14)).bind fun _ =>
    (hG h146 1336 t).bind fun b150 =>
    (ck (hK h146 b150 = 21 ∧ inR x2 (hN h146 b150))).bind fun _ =>
    (F_X12_table z147 (hI h146 b150 x2.toNatClampNeg) h146).bind fun q156 =>
    bd q156.1 fun z155 =>
    bd q156.2 fun h154 =>
    (ck (hK h154 b142 = 21 ∧ inR x2 (hN h154 b142))).bind fun _ =>
    bd (sI h154 b142 x2.toNatClampNeg ((hI h140 b142 x2.toNatClampNeg) - (z134 - z155))) fun h158 =>
    F_X12_playEntry_421 t x1 x2 x3 x4 h158
  else
  F_X12_playEntry_421 t x1 x2 x3 x4 h

def F_X12_playEntry_27 (t : Nat) (x1 : Int32) (x2 : Int32) (x3 : Int32) (x4 : Int32) (x5 : Int32) (x6 : Int32) (h : aH) : Option (aH) :=
  (ck (hK h t = 14)).bind fun _ =>
  (hG h 1354 t).bind fun b2 =>
  (ck (hK h b2 = 21 ∧ inR x6 (hN h b2))).bind fun _ =>
  bd (sI h b2 x6.toNatClampNeg ((hI h b2 x6.toNatClampNeg) + 1)) fun h5 =>
  F_X12_playEntry_38 t x1 x2 x3 x4 x5 h5

def F_X12_playEntry (t : Nat) (x1 : Int32) (x2 : Int32) (x3 : Int32) (x4 : Int32) (x5 : Int32) (h : aH) : Option (aH) :=
  (hG h 1345 t).bind fun b1 =>
  (ck (hK h b1 = 21 ∧ inR x2 (hN h b1))).bind fun _ =>
  bd ((11 * x2) + (hI h b1 x2.toNatClampNeg)) fun v4 =>
  (F_X12_counts x4 h).bind fun q8 =>
  bd q8.1 fun z7 =>
  bd q8.2 fun h6 =>
  if z7 = 0 then
    if x4 = 2 then
      F_X12_playEntry_27 t x1 x2 x3 x4 x5 v4 h6
    else
      F_X12_playEntry_38 t x1 x2 x3 x4 x5 h6
  else
    F_X12_playEntry_27 t x1 x2 x3 x4 x5 v4 h6

def F_X12_playOver_374 (k284 : Nat → Int32 → Int32 → Int32 → Int32 → Int32 → aH → Option (aH)) (t : Nat) (x1 : Int32) (x2 : Int32) (x3 : Int32) (x4 : Int32) (x7 : Int32) (h : aH) : Option (aH) :=
  bd (x7 + 1) fun v1 =>
  k284 t x1 x2 x3 x4 v1 h

def F_X12_playOver_284 : Nat → Nat → Int32 → Int32 → Int32 → Int32 → Int32 → aH → Option (aH)
  | 0, _, _, _, _, _, _, _ => none
  | n + 1, t, x1, x2, x3, x4, x7, h =>
  (ck (hK h t = 14)).bind fun _ =>
  (hG h 1313 t).bind fun b2 =>
  (ck (hK h b2 = 21 ∧ inR x4 (hN h b2))).bind fun _ =>
  if hI h b2 x4.toNatClampNeg ≤ x7 then
    some h
  else
    if hF h 1328 t = 0 then
      (hG h 1314 t).bind fun b7 =>
      (ck (hK h b7 = 21 ∧ inR ((40 * x4) + x7) (hN h b7))).bind fun _ =>
      bd (hI h b7 ((40 * x4) + x7).toNatClampNeg) fun v10 =>
      (F_X12_against t x1 x2 x4 (v10 / 16) (v10 - v10 / 16 * 16) h).bind fun q14 =>
      bd q14.1 fun z13 =>
      bd q14.2 fun h12 =>
      if z13 = 0 then
        (ck (hK h12 t = 14)).bind fun _ =>
        (F_X12_playEntry t x1 x2 x4 (v10 / 16) (v10 - v10 / 16 * 16) h12).bind fun h18 =>
        F_X12_playOver_374 (F_X12_playOver_284 n) t x1 x2 x3 x4 x7 h18
      else
        (ck (hK h12 t = 14)).bind fun _ =>
        (F_X12_stop t z13 x2 x3 x7 h12).bind fun h22 =>
        F_X12_playOver_374 (F_X12_playOver_284 n) t x1 x2 x3 x4 x7 h22
    else
      some h

def F_X12_playOver_180 (t : Nat) (x1 : Int32) (x2 : Int32) (x3 : Int32) (x4 : Int32) (x5 : Int32) (h : aH) : Option (aH) :=
  (ck (hK h t = 14)).bind fun _ =>
  (hG h 1344 t).bind fun b2 =>
  (ck (hK h b2 = 21 ∧ inR x2 (hN h b2))).bind fun _ =>
  bd (sI h b2 x2.toNatClampNeg ((hI h b2 x2.toNatClampNeg) + 1)) fun h5 =>
  (hG h5 1351 t).bind fun b7 =>
  (ck (hK h5 b7 = 21 ∧ inR x2 (hN h5 b7))).bind fun _ =>
  bd (sI h5 b7 x2.toNatClampNeg x5) fun h10 =>
  (hG h10 1356 t).bind fun b12 =>
  (ck (hK h10 b12 = 21 ∧ inR ((11 * x2) + x5) (hN h10 b12))).bind fun _ =>
  bd (sI h10 b12 ((11 * x2) + x5).toNatClampNeg ((hI h10 b12 ((11 * x2) + x5).toNatClampNeg) + 1)) fun h15 =>
  (hG h15 1364 t).bind fun b17 =>
  (ck (hK h15 b17 = 22 ∧ inR x4 (hN h15 b17))).bind fun _ =>
  bd (sI h15 b17 x4.toNatClampNeg 1) fun h20 =>
  (hG h20 1313 t).bind fun b22 =>
  (ck (hK h20 b22 = 21 ∧ inR x4 (hN h20 b22))).bind fun _ =>
  if hI h20 b22 x4.toNatClampNeg = (-1) then
    (hG h20 1363 t).bind fun b26 =>
    (ck (hK h20 b26 = 22 ∧ inR x4 (hN h20 b26))).bind fun _ =>
    bd (sI h20 b26 x4.toNatClampNeg 1) fun h29 =>
    (hG h29 1342 t).bind fun b31 =>
    (ck (hK h29 b31 = 21 ∧ inR x2 (hN h29 b31))).bind fun _ =>
    bd (sI h29 b31 x2.toNatClampNeg ((hI h29 b31 x2.toNatClampNeg) + 1)) fun h34 =>
    (F_X12_becomesWhole t x2 x4 h34).bind fun h37 =>
    (ck (hK h37 t = 14)).bind fun _ =>
    (hG h37 1337 t).bind fun b40 =>
    (ck (hK h37 b40 = 21 ∧ inR x2 (hN h37 b40))).bind fun _ =>
    (hG h37 1340 t).bind fun b43 =>
    (ck (hK h37 b43 = 21 ∧ inR x2 (hN h37 b43))).bind fun _ =>
    if hI h37 b40 x2.toNatClampNeg = hI h37 b43 x2.toNatClampNeg then
      (hG h37 1341 t).bind fun b47 =>
      (ck (hK h37 b47 = 21 ∧ inR x2 (hN h37 b47))).bind fun _ =>
      bd (sI h37 b47 x2.toNatClampNeg 2) fun h50 =>
      some h50
    else
      some h37
  else
    F_X12_playOver_284 fu t x1 x2 x3 x4 0 h20

def F_X12_playOver_103 (t : Nat) (x1 : Int32) (x2 : Int32) (x3 : Int32) (x4 : Int32) (x5 : Int32) (y0 : Int32) (h : aH) : Option (aH) :=
  if y0 = 0 then
    if x3 ≤ 0 then
      F_X12_playOver_180 t x1 x2 x3 x4 x5 h
    else
      (ck (hK h t = 14)).bind fun _ =>
      (hG h 1362 t).bind fun b4 =>
      (F_X12_rowOf t x1 x2 (x3 - 1) h).bind fun q9 =>
      bd q9.1 fun z8 =>
      bd q9.2 fun h7 =>
      (ck (hK h7 b4 = 22 ∧ inR z8 (hN h7 b4))).bind fun _ =>
      if hI h7 b4 z8.toNatClampNeg = 0 then
        (ck (hK h7 t = 14)).bind fun _ =>
        (hG h7 1363 t).bind fun b13 =>
        (F_X12_rowOf t x1 x2 (x3 - 1) h7).bind fun q18 =>
        bd q18.1 fun z17 =>
        bd q18.2 fun h16 =>
        (ck (hK h16 b13 = 22 ∧ inR z17 (hN h16 b13))).bind fun _ =>
        bd (sI h16 b13 z17.toNatClampNeg 1) fun h20 =>
        (ck (hK h20 t = 14)).bind fun _ =>
        (hG h20 1342 t).bind fun b22 =>
        (ck (hK h20 b22 = 21 ∧ inR x2 (hN h20 b22))).bind fun _ =>
        bd (sI h20 b22 x2.toNatClampNeg ((hI h20 b22 x2.toNatClampNeg) + 1)) fun h25 =>
        (F_X12_rowOf t x1 x2 (x3 - 1) h25).bind fun q30 =>
        bd q30.1 fun z29 =>
        bd q30.2 fun h28 =>
        (ck (hK h28 t = 14)).bind fun _ =>
        (F_X12_becomesWhole t x2 z29 h28).bind fun h33 =>
        F_X12_playOver_180 t x1 x2 x3 x4 x5 h33
      else
        F_X12_playOver_180 t x1 x2 x3 x4 x5 h7
  else
    (ck (hK h t = 14)).bind fun _ =>
    (F_X12_stop t y0 x2 x3 ((-1)) h).bind fun h37 =>
    some h37

def F_X12_playOver_42 (t : Nat) (x1 : Int32) (x2 : Int32) (x3 : Int32) (x4 : Int32) (x5 : Int32) (h : aH) : Option (aH) :=
  F_X12_playOver_103 t x1 x2 x3 x4 x5 3 h

def F_X12_playOver (t : Nat) (x1 : Int32) (x2 : Int32) (x3 : Int32) (h : aH) : Option (aH) :=
  (F_X12_rowOf t x1 x2 x3 h).bind fun q4 =>
  bd q4.1 fun z3 =>
  bd q4.2 fun h2 =>
  (ck (hK h2 t = 14)).bind fun _ =>
  (hG h2 1312 t).bind fun b6 =>
  (ck (hK h2 b6 = 21 ∧ inR z3 (hN h2 b6))).bind fun _ =>
  bd (hI h2 b6 z3.toNatClampNeg) fun v9 =>
  (hG h2 1341 t).bind fun b10 =>
  (ck (hK h2 b10 = 21 ∧ inR x2 (hN h2 b10))).bind fun _ =>
  if hI h2 b10 x2.toNatClampNeg = 0 then
    (hG h2 1344 t).bind fun b14 =>
    (ck (hK h2 b14 = 21 ∧ inR x2 (hN h2 b14))).bind fun _ =>
    (hG h2 1340 t).bind fun b17 =>
    (ck (hK h2 b17 = 21 ∧ inR x2 (hN h2 b17))).bind fun _ =>
    if hI h2 b14 x2.toNatClampNeg = hI h2 b17 x2.toNatClampNeg then
      F_X12_playOver_42 t x1 x2 x3 z3 v9 h2
    else
      if v9 ≤ 10 then
        (hG h2 1351 t).bind fun b22 =>
        (ck (hK h2 b22 = 21 ∧ inR x2 (hN h2 b22))).bind fun _ =>
        if v9 = hI h2 b22 x2.toNatClampNeg then
          F_X12_playOver_103 t x1 x2 x3 z3 v9 5 h2
        else
          (hG h2 1356 t).bind fun b26 =>
          (ck (hK h2 b26 = 21 ∧ inR ((11 * x2) + v9) (hN h2 b26))).bind fun _ =>
          (hG h2 1305 t).bind fun b29 =>
          (ck (hK h2 b29 = 21 ∧ inR x1 (hN h2 b29))).bind fun _ =>
          if hI h2 b26 ((11 * x2) + v9).toNatClampNeg = ((hI h2 b29 x1.toNatClampNeg) + 4) / 5 then
            F_X12_playOver_103 t x1 x2 x3 z3 v9 6 h2
          else
            F_X12_playOver_103 t x1 x2 x3 z3 v9 0 h2
      else
        F_X12_playOver_103 t x1 x2 x3 z3 v9 4 h2
  else
    F_X12_playOver_42 t x1 x2 x3 z3 v9 h2

def F_X12_playTurn_154 (t : Nat) (x1 : Int32) (x2 : Int32) (h : aH) : Option (aH) :=
  (ck (hK h t = 14)).bind fun _ =>
  (hG h 1341 t).bind fun b2 =>
  (ck (hK h b2 = 21 ∧ inR x2 (hN h b2))).bind fun _ =>
  if hI h b2 x2.toNatClampNeg = 0 then
    some h
  else
    (F_X12_lastTurn t x1 h).bind fun q9 =>
    bd q9.1 fun z8 =>
    bd q9.2 fun h7 =>
    if x2 = z8 then
      (ck (hK h7 t = 14)).bind fun _ =>
      if hF h7 1333 t = 0 then
        (hG h7 1335 t).bind fun b13 =>
        (ck (hK h7 b13 = 21 ∧ inR x2 (hN h7 b13))).bind fun _ =>
        if hI h7 b13 x2.toNatClampNeg = (hF h7 1334 t) - 1 then
          bd (sF h7 1333 t 3) fun h17 =>
          some h17
        else
          bd (sF h7 1333 t 1) fun h19 =>
          some h19
      else
        some h7
    else
      (ck (hK h7 t = 14)).bind fun _ =>
      (hG h7 1306 t).bind fun b22 =>
      (ck (hK h7 b22 = 21 ∧ inR x1 (hN h7 b22))).bind fun _ =>
      if hI h7 b22 x1.toNatClampNeg = 2 then
        if x2 = 2 then
          (hG h7 1335 t).bind fun b27 =>
          (ck (hK h7 b27 = 21 ∧ inR 0 (hN h7 b27))).bind fun _ =>
          (hG h7 1335 t).bind fun b30 =>
          (ck (hK h7 b30 = 21 ∧ inR 2 (hN h7 b30))).bind fun _ =>
          (hG h7 1335 t).bind fun b33 =>
          (ck (hK h7 b33 = 21 ∧ inR 1 (hN h7 b33))).bind fun _ =>
          if 1 ≤ (((hI h7 b27 (0 : Int32).toNatClampNeg) + (hI h7 b30 (2 : Int32).toNatClampNeg)) - (hI h7 b33 (1 : Int32).toNatClampNeg)) + 1 then
            some h7
          else
            bd (sF h7 1333 t 2) fun h37 =>
            some h37
        else
          some h7
      else
        some h7

def F_X12_playTurn_120 : Nat → Nat → Int32 → Int32 → Int32 → aH → Option (aH)
  | 0, _, _, _, _, _ => none
  | n + 1, t, x1, x2, x3, h =>
  (ck (hK h t = 14)).bind fun _ =>
  (hG h 1309 t).bind fun b2 =>
  (ck (hK h b2 = 21 ∧ inR ((4 * x1) + x2) (hN h b2))).bind fun _ =>
  if hI h b2 ((4 * x1) + x2).toNatClampNeg ≤ x3 then
    F_X12_playTurn_154 t x1 x2 h
  else
    if hF h 1328 t = 0 then
      (F_X12_playOver t x1 x2 x3 h).bind fun h8 =>
      bd (x3 + 1) fun v10 =>
      F_X12_playTurn_120 n t x1 x2 v10 h8
    else
      F_X12_playTurn_154 t x1 x2 h

def F_X12_playTurn_118 (t : Nat) (x1 : Int32) (x2 : Int32) (h : aH) : Option (aH) :=
  F_X12_playTurn_120 fu t x1 x2 0 h

def F_X12_playTurn (t : Nat) (x1 : Int32) (x2 : Int32) (h : aH) : Option (aH) :=
  bd (sF h 1332 t x2) fun h1 =>
  (hG h1 1352 t).bind fun b3 =>
  (ck (hK h1 b3 = 22 ∧ inR x2 (hN h1 b3))).bind fun _ =>
  bd (sI h1 b3 x2.toNatClampNeg 1) fun h6 =>
  (hG h6 1340 t).bind fun b8 =>
  if x2 = 1 then
    (hG h6 1306 t).bind fun b11 =>
    (ck (hK h6 b11 = 21 ∧ inR x1 (hN h6 b11))).bind fun _ =>
    if hI h6 b11 x1.toNatClampNeg = 1 then
      (hG h6 1340 t).bind fun b15 =>
      (ck (hK h6 b15 = 21 ∧ inR 0 (hN h6 b15))).bind fun _ =>
      (ck (hK h6 b8 = 21 ∧ inR x2 (hN h6 b8))).bind fun _ =>
      bd (sI h6 b8 x2.toNatClampNeg (hI h6 b15 (0 : Int32).toNatClampNeg)) fun h19 =>
      (hG h19 1343 t).bind fun b21 =>
      (hG h19 1340 t).bind fun b23 =>
      (ck (hK h19 b23 = 21 ∧ inR x2 (hN h19 b23))).bind fun _ =>
      (F_X12_table (6 * (hI h19 b23 x2.toNatClampNeg)) 0 h19).bind fun q29 =>
      bd q29.1 fun z28 =>
      bd q29.2 fun h27 =>
      (ck (hK h27 b21 = 21 ∧ inR x2 (hN h27 b21))).bind fun _ =>
      bd (sI h27 b21 x2.toNatClampNeg z28) fun h31 =>
      (ck (hK h31 t = 14)).bind fun _ =>
      (hG h31 1345 t).bind fun b33 =>
      (ck (hK h31 b33 = 21 ∧ inR x2 (hN h31 b33))).bind fun _ =>
      bd (sI h31 b33 x2.toNatClampNeg 0) fun h36 =>
      (hG h36 1346 t).bind fun b38 =>
      (ck (hK h36 b38 = 21 ∧ inR x2 (hN h36 b38))).bind fun _ =>
      bd (sI h36 b38 x2.toNatClampNeg 1) fun h41 =>
      (hG h41 1355 t).bind fun b43 =>
      (ck (hK h41 b43 = 21 ∧ inR (11 * x2) (hN h41 b43))).bind fun _ =>
      bd (sI h41 b43 (11 * x2).toNatClampNeg 1) fun h46 =>
      (hG h46 1355 t).bind fun b48 =>
      (ck (hK h46 b48 = 21 ∧ inR ((11 * x2) + 1) (hN h46 b48))).bind fun _ =>
      bd (sI h46 b48 ((11 * x2) + 1).toNatClampNeg 1) fun h51 =>
      (F_X12_lastTurn t x1 h51).bind fun q56 =>
      bd q56.1 fun z55 =>
      bd q56.2 fun h54 =>
      if x2 = z55 then
        (ck (hK h54 t = 14)).bind fun _ =>
        (F_X12_aim t x1 x2 h54).bind fun h60 =>
        F_X12_playTurn_118 t x1 x2 h60
      else
        F_X12_playTurn_118 t x1 x2 h54
    else
      (hG h6 1305 t).bind fun b62 =>
      (ck (hK h6 b62 = 21 ∧ inR x1 (hN h6 b62))).bind fun _ =>
      (ck (hK h6 b8 = 21 ∧ inR x2 (hN h6 b8))).bind fun _ =>
      bd (sI h6 b8 x2.toNatClampNeg (hI h6 b62 x1.toNatClampNeg)) fun h66 =>
      (hG h66 1343 t).bind fun b68 =>
      (hG h66 1340 t).bind fun b70 =>
      (ck (hK h66 b70 = 21 ∧ inR x2 (hN h66 b70))).bind fun _ =>
      (F_X12_table (6 * (hI h66 b70 x2.toNatClampNeg)) 0 h66).bind fun q76 =>
      bd q76.1 fun z75 =>
      bd q76.2 fun h74 =>
      (ck (hK h74 b68 = 21 ∧ inR x2 (hN h74 b68))).bind fun _ =>
      bd (sI h74 b68 x2.toNatClampNeg z75) fun h78 =>
      (ck (hK h78 t = 14)).bind fun _ =>
      (hG h78 1345 t).bind fun b80 =>
      (ck (hK h78 b80 = 21 ∧ inR x2 (hN h78 b80))).bind fun _ =>
      bd (sI h78 b80 x2.toNatClampNeg 0) fun h83 =>
      (hG h83 1346 t).bind fun b85 =>
      (ck (hK h83 b85 = 21 ∧ inR x2 (hN h83 b85))).bind fun _ =>
      bd (sI h83 b85 x2.toNatClampNeg 1) fun h88 =>
      (hG h88 1355 t).bind fun b90 =>
      (ck (hK h88 b90 = 21 ∧ inR (11 * x2) (hN h88 b90))).bind fun _ =>
      bd (sI h88 b90 (11 * x2).toNatClampNeg 1) fun h93 =>
      (hG h93 1355 t).bind fun b95 =>
      (ck (hK h93 b95 = 21 ∧ inR ((11 * x2) + 1) (hN h93 b95))).bind fun _ =>
      bd (sI h93 b95 ((11 * x2) + 1).toNatClampNeg 1) fun h98 =>
      (F_X12_lastTurn t x1 h98).bind fun q103 =>
      bd q103.1 fun z102 =>
      bd q103.2 fun h101 =>
      if x2 = z102 then
        (ck (hK h101 t = 14)).bind fun _ =>
        (F_X12_aim t x1 x2 h101).bind fun h107 =>
        F_X12_playTurn_118 t x1 x2 h107
      else
        F_X12_playTurn_118 t x1 x2 h101
  else
    (hG h6 1305 t).bind fun b109 =>
    (ck (hK h6 b109 = 21 ∧ inR x1 (hN h6 b109))).bind fun _ =>
    (ck (hK h6 b8 = 21 ∧ inR x2 (hN h6 b8))).bind fun _ =>
    bd (sI h6 b8 x2.toNatClampNeg (hI h6 b109 x1.toNatClampNeg)) fun h113 =>
    (hG h113 1343 t).bind fun b115 =>
    (hG h113 1340 t).bind fun b117 =>
    (ck (hK h113 b117 = 21 ∧ inR x2 (hN h113 b117))).bind fun _ =>
    (F_X12_table (6 * (hI h113 b117 x2.toNatClampNeg)) 0 h113).bind fun q123 =>
    bd q123.1 fun z122 =>
    bd q123.2 fun h121 =>
    (ck (hK h121 b115 = 21 ∧ inR x2 (hN h121 b115))).bind fun _ =>
    bd (sI h121 b115 x2.toNatClampNeg z122) fun h125 =>
    (ck (hK h125 t = 14)).bind fun _ =>
    (hG h125 1345 t).bind fun b127 =>
    (ck (hK h125 b127 = 21 ∧ inR x2 (hN h125 b127))).bind fun _ =>
    bd (sI h125 b127 x2.toNatClampNeg 0) fun h130 =>
    (hG h130 1346 t).bind fun b132 =>
    (ck (hK h130 b132 = 21 ∧ inR x2 (hN h130 b132))).bind fun _ =>
    bd (sI h130 b132 x2.toNatClampNeg 1) fun h135 =>
    (hG h135 1355 t).bind fun b137 =>
    (ck (hK h135 b137 = 21 ∧ inR (11 * x2) (hN h135 b137))).bind fun _ =>
    bd (sI h135 b137 (11 * x2).toNatClampNeg 1) fun h140 =>
    (hG h140 1355 t).bind fun b142 =>
    (ck (hK h140 b142 = 21 ∧ inR ((11 * x2) + 1) (hN h140 b142))).bind fun _ =>
    bd (sI h140 b142 ((11 * x2) + 1).toNatClampNeg 1) fun h145 =>
    (F_X12_lastTurn t x1 h145).bind fun q150 =>
    bd q150.1 fun z149 =>
    bd q150.2 fun h148 =>
    if x2 = z149 then
      (ck (hK h148 t = 14)).bind fun _ =>
      (F_X12_aim t x1 x2 h148).bind fun h154 =>
      F_X12_playTurn_118 t x1 x2 h154
    else
      F_X12_playTurn_118 t x1 x2 h148

def F_X12_play_207 (k140 : Nat → Int32 → Int32 → aH → Option (aH)) (t : Nat) (x1 : Int32) (x2 : Int32) (h : aH) : Option (aH) :=
  bd (x2 + 1) fun v1 =>
  k140 t x1 v1 h

def F_X12_play_183 (k140 : Nat → Int32 → Int32 → aH → Option (aH)) (t : Nat) (x1 : Int32) (x2 : Int32) (h : aH) : Option (aH) :=
  (ck (hK h t = 14)).bind fun _ =>
  if hF h 1333 t = 0 then
    (F_X12_playTurn t x1 x2 h).bind fun h4 =>
    F_X12_play_207 k140 t x1 x2 h4
  else
    (F_X12_stop t 2 x2 ((-1)) ((-1)) h).bind fun h7 =>
    F_X12_play_207 k140 t x1 x2 h7

def F_X12_play_140 : Nat → Nat → Int32 → Int32 → aH → Option (aH)
  | 0, _, _, _, _ => none
  | n + 1, t, x1, x2, h =>
  (ck (hK h t = 14)).bind fun _ =>
  (hG h 1308 t).bind fun b2 =>
  (ck (hK h b2 = 21 ∧ inR x1 (hN h b2))).bind fun _ =>
  if hI h b2 x1.toNatClampNeg ≤ x2 then
    some h
  else
    if hF h 1328 t = 0 then
      if x2 ≤ 0 then
        F_X12_play_183 (F_X12_play_140 n) t x1 x2 h
      else
        (hG h 1341 t).bind fun b8 =>
        (ck (hK h b8 = 21 ∧ inR (x2 - 1) (hN h b8))).bind fun _ =>
        if hI h b8 (x2 - 1).toNatClampNeg = 0 then
          (F_X12_stop t 1 x2 ((-1)) ((-1)) h).bind fun h13 =>
          F_X12_play_207 (F_X12_play_140 n) t x1 x2 h13
        else
          F_X12_play_183 (F_X12_play_140 n) t x1 x2 h
    else
      some h

def F_X12_play_55 (k43 : Nat → Int32 → Int32 → aH → Option (aH)) : Nat → Nat → Int32 → Int32 → Int32 → aH → Option (aH)
  | 0, _, _, _, _, _ => none
  | n + 1, t, x1, x2, x3, h =>
  (ck (hK h t = 14)).bind fun _ =>
  (hG h 1309 t).bind fun b2 =>
  (ck (hK h b2 = 21 ∧ inR ((4 * x1) + x2) (hN h b2))).bind fun _ =>
  if hI h b2 ((4 * x1) + x2).toNatClampNeg ≤ x3 then
    bd (x2 + 1) fun v6 =>
    k43 t x1 v6 h
  else
    (F_X12_rowOf t x1 x2 x3 h).bind fun q10 =>
    bd q10.1 fun z9 =>
    bd q10.2 fun h8 =>
    (ck (hK h8 t = 14)).bind fun _ =>
    (hG h8 1359 t).bind fun b12 =>
    (ck (hK h8 b12 = 21 ∧ inR z9 (hN h8 b12))).bind fun _ =>
    bd (sI h8 b12 z9.toNatClampNeg 0) fun h15 =>
    (hG h15 1360 t).bind fun b17 =>
    (ck (hK h15 b17 = 21 ∧ inR z9 (hN h15 b17))).bind fun _ =>
    bd (sI h15 b17 z9.toNatClampNeg 0) fun h20 =>
    (hG h20 1361 t).bind fun b22 =>
    (ck (hK h20 b22 = 21 ∧ inR z9 (hN h20 b22))).bind fun _ =>
    bd (sI h20 b22 z9.toNatClampNeg 0) fun h25 =>
    (hG h25 1362 t).bind fun b27 =>
    (ck (hK h25 b27 = 22 ∧ inR z9 (hN h25 b27))).bind fun _ =>
    bd (sI h25 b27 z9.toNatClampNeg 0) fun h30 =>
    (hG h30 1363 t).bind fun b32 =>
    (ck (hK h30 b32 = 22 ∧ inR z9 (hN h30 b32))).bind fun _ =>
    bd (sI h30 b32 z9.toNatClampNeg 0) fun h35 =>
    (hG h35 1364 t).bind fun b37 =>
    (ck (hK h35 b37 = 22 ∧ inR z9 (hN h35 b37))).bind fun _ =>
    bd (sI h35 b37 z9.toNatClampNeg 0) fun h40 =>
    bd (x3 + 1) fun v42 =>
    F_X12_play_55 k43 n t x1 x2 v42 h40

def F_X12_play_43 : Nat → Nat → Int32 → Int32 → aH → Option (aH)
  | 0, _, _, _, _ => none
  | n + 1, t, x1, x2, h =>
  (ck (hK h t = 14)).bind fun _ =>
  (hG h 1308 t).bind fun b2 =>
  (ck (hK h b2 = 21 ∧ inR x1 (hN h b2))).bind fun _ =>
  if hI h b2 x1.toNatClampNeg ≤ x2 then
    F_X12_play_140 fu t x1 0 h
  else
    F_X12_play_55 (F_X12_play_43 n) fu t x1 x2 0 h

def F_X12_play_25 : Nat → Nat → Int32 → Int32 → aH → Option (aH)
  | 0, _, _, _, _ => none
  | n + 1, t, x1, x2, h =>
  if 4 ≤ x2 then
    F_X12_play_43 fu t x1 0 h
  else
    (ck (hK h t = 14)).bind fun _ =>
    (F_X12_clearTurn t x2 h).bind fun h4 =>
    bd (x2 + 1) fun v6 =>
    F_X12_play_25 n t x1 v6 h4

def F_X12_play (t : Nat) (x1 : Int32) (h : aH) : Option (aH) :=
  (F_X12_stop t 0 ((-1)) ((-1)) ((-1)) h).bind fun h2 =>
  (ck (hK h2 t = 14)).bind fun _ =>
  bd (sF h2 1332 t ((-1))) fun h5 =>
  bd (sF h5 1333 t 0) fun h7 =>
  bd (sF h7 1334 t ((-1))) fun h9 =>
  F_X12_play_25 fu t x1 0 h9

def F_X12_done_175 (t : Nat) (x1 : Int32) (x2 : Int32) (x3 : Int32) (x4 : Int32) (x5 : Int32) (h : aH) : Option (aH) :=
  (ck (hK h t = 14)).bind fun _ =>
  (hG h 1321 t).bind fun b2 =>
  (ck (hK h b2 = 21 ∧ inR (hF h 1320 t) (hN h b2))).bind fun _ =>
  bd (sI h b2 (hF h 1320 t).toNatClampNeg x1) fun h5 =>
  (hG h5 1322 t).bind fun b7 =>
  (ck (hK h5 b7 = 21 ∧ inR (hF h5 1320 t) (hN h5 b7))).bind fun _ =>
  bd (sI h5 b7 (hF h5 1320 t).toNatClampNeg x2) fun h10 =>
  (hG h10 1323 t).bind fun b12 =>
  (ck (hK h10 b12 = 21 ∧ inR (hF h10 1320 t) (hN h10 b12))).bind fun _ =>
  bd (sI h10 b12 (hF h10 1320 t).toNatClampNeg x3) fun h15 =>
  (hG h15 1324 t).bind fun b17 =>
  (ck (hK h15 b17 = 21 ∧ inR (hF h15 1320 t) (hN h15 b17))).bind fun _ =>
  bd (sI h15 b17 (hF h15 1320 t).toNatClampNeg x4) fun h20 =>
  (hG h20 1325 t).bind fun b22 =>
  (ck (hK h20 b22 = 21 ∧ inR (hF h20 1320 t) (hN h20 b22))).bind fun _ =>
  bd (sI h20 b22 (hF h20 1320 t).toNatClampNeg x5) fun h25 =>
  bd (sF h25 1320 t ((hF h25 1320 t) + 1)) fun h27 =>
  some h27

def F_X12_done_118 (k12 : Nat → Int32 → Int32 → Int32 → Int32 → Int32 → Int32 → aH → Option (aH)) : Nat → Nat → Int32 → Int32 → Int32 → Int32 → Int32 → Int32 → Int32 → aH → Option (aH)
  | 0, _, _, _, _, _, _, _, _, _ => none
  | n + 1, t, x1, x2, x3, x4, x5, x6, x7, h =>
  if 40 ≤ x7 then
    bd (x6 + 1) fun v2 =>
    k12 t x1 x2 x3 x4 x5 v2 h
  else
    (ck (hK h t = 14)).bind fun _ =>
    (hG h 1327 t).bind fun b4 =>
    (hG h 1327 t).bind fun b6 =>
    (ck (hK h b6 = 21 ∧ inR ((40 * x6) + x7) (hN h b6))).bind fun _ =>
    (ck (hK h b4 = 21 ∧ inR ((40 * (x6 - 1)) + x7) (hN h b4))).bind fun _ =>
    bd (sI h b4 ((40 * (x6 - 1)) + x7).toNatClampNeg (hI h b6 ((40 * x6) + x7).toNatClampNeg)) fun h10 =>
    bd (x7 + 1) fun v12 =>
    F_X12_done_118 k12 n t x1 x2 x3 x4 x5 x6 v12 h10

def F_X12_done_12 : Nat → Nat → Int32 → Int32 → Int32 → Int32 → Int32 → Int32 → aH → Option (aH)
  | 0, _, _, _, _, _, _, _, _ => none
  | n + 1, t, x1, x2, x3, x4, x5, x6, h =>
  if 40 ≤ x6 then
    (ck (hK h t = 14)).bind fun _ =>
    bd (sF h 1320 t ((hF h 1320 t) - 1)) fun h3 =>
    F_X12_done_175 t x1 x2 x3 x4 x5 h3
  else
    (ck (hK h t = 14)).bind fun _ =>
    (hG h 1321 t).bind fun b6 =>
    (hG h 1321 t).bind fun b8 =>
    (ck (hK h b8 = 21 ∧ inR x6 (hN h b8))).bind fun _ =>
    (ck (hK h b6 = 21 ∧ inR (x6 - 1) (hN h b6))).bind fun _ =>
    bd (sI h b6 (x6 - 1).toNatClampNeg (hI h b8 x6.toNatClampNeg)) fun h12 =>
    (hG h12 1322 t).bind fun b14 =>
    (hG h12 1322 t).bind fun b16 =>
    (ck (hK h12 b16 = 21 ∧ inR x6 (hN h12 b16))).bind fun _ =>
    (ck (hK h12 b14 = 21 ∧ inR (x6 - 1) (hN h12 b14))).bind fun _ =>
    bd (sI h12 b14 (x6 - 1).toNatClampNeg (hI h12 b16 x6.toNatClampNeg)) fun h20 =>
    (hG h20 1323 t).bind fun b22 =>
    (hG h20 1323 t).bind fun b24 =>
    (ck (hK h20 b24 = 21 ∧ inR x6 (hN h20 b24))).bind fun _ =>
    (ck (hK h20 b22 = 21 ∧ inR (x6 - 1) (hN h20 b22))).bind fun _ =>
    bd (sI h20 b22 (x6 - 1).toNatClampNeg (hI h20 b24 x6.toNatClampNeg)) fun h28 =>
    (hG h28 1324 t).bind fun b30 =>
    (hG h28 1324 t).bind fun b32 =>
    (ck (hK h28 b32 = 21 ∧ inR x6 (hN h28 b32))).bind fun _ =>
    (ck (hK h28 b30 = 21 ∧ inR (x6 - 1) (hN h28 b30))).bind fun _ =>
    bd (sI h28 b30 (x6 - 1).toNatClampNeg (hI h28 b32 x6.toNatClampNeg)) fun h36 =>
    (hG h36 1325 t).bind fun b38 =>
    (hG h36 1325 t).bind fun b40 =>
    (ck (hK h36 b40 = 21 ∧ inR x6 (hN h36 b40))).bind fun _ =>
    (ck (hK h36 b38 = 21 ∧ inR (x6 - 1) (hN h36 b38))).bind fun _ =>
    bd (sI h36 b38 (x6 - 1).toNatClampNeg (hI h36 b40 x6.toNatClampNeg)) fun h44 =>
    (hG h44 1326 t).bind fun b46 =>
    (hG h44 1326 t).bind fun b48 =>
    (ck (hK h44 b48 = 21 ∧ inR x6 (hN h44 b48))).bind fun _ =>
    (ck (hK h44 b46 = 21 ∧ inR (x6 - 1) (hN h44 b46))).bind fun _ =>
    bd (sI h44 b46 (x6 - 1).toNatClampNeg (hI h44 b48 x6.toNatClampNeg)) fun h52 =>
    F_X12_done_118 (F_X12_done_12 n) fu t x1 x2 x3 x4 x5 x6 0 h52

def F_X12_done (t : Nat) (x1 : Int32) (x2 : Int32) (x3 : Int32) (x4 : Int32) (x5 : Int32) (h : aH) : Option (aH) :=
  if hF h 1320 t = 40 then
    F_X12_done_12 fu t x1 x2 x3 x4 x5 1 h
  else
    F_X12_done_175 t x1 x2 x3 x4 x5 h

def F_X12_keepRow_19 : Nat → Nat → Int32 → Int32 → aH → Option (aH)
  | 0, _, _, _, _ => none
  | n + 1, t, x1, x2, h =>
  (ck (hK h t = 14)).bind fun _ =>
  (hG h 1313 t).bind fun b2 =>
  (ck (hK h b2 = 21 ∧ inR x1 (hN h b2))).bind fun _ =>
  if hI h b2 x1.toNatClampNeg ≤ x2 then
    some h
  else
    (hG h 1327 t).bind fun b6 =>
    (hG h 1314 t).bind fun b8 =>
    (ck (hK h b8 = 21 ∧ inR ((40 * x1) + x2) (hN h b8))).bind fun _ =>
    (ck (hK h b6 = 21 ∧ inR ((40 * ((hF h 1320 t) - 1)) + x2) (hN h b6))).bind fun _ =>
    bd (sI h b6 ((40 * ((hF h 1320 t) - 1)) + x2).toNatClampNeg (hI h b8 ((40 * x1) + x2).toNatClampNeg)) fun h12 =>
    bd (x2 + 1) fun v14 =>
    F_X12_keepRow_19 n t x1 v14 h12

def F_X12_keepRow (t : Nat) (x1 : Int32) (h : aH) : Option (aH) :=
  (hG h 1326 t).bind fun b1 =>
  (hG h 1313 t).bind fun b3 =>
  (ck (hK h b3 = 21 ∧ inR x1 (hN h b3))).bind fun _ =>
  (ck (hK h b1 = 21 ∧ inR ((hF h 1320 t) - 1) (hN h b1))).bind fun _ =>
  bd (sI h b1 ((hF h 1320 t) - 1).toNatClampNeg (hI h b3 x1.toNatClampNeg)) fun h7 =>
  F_X12_keepRow_19 fu t x1 0 h7

def F_X12_newRow (t : Nat) (x1 : Int32) (x2 : Int32) (h : aH) : Option (Int32 × aH) :=
  (hG h 1312 t).bind fun b1 =>
  (ck (hK h b1 = 21 ∧ inR (hF h 1311 t) (hN h b1))).bind fun _ =>
  bd (sI h b1 (hF h 1311 t).toNatClampNeg x1) fun h4 =>
  (hG h4 1313 t).bind fun b6 =>
  (ck (hK h4 b6 = 21 ∧ inR (hF h4 1311 t) (hN h4 b6))).bind fun _ =>
  bd (sI h4 b6 (hF h4 1311 t).toNatClampNeg x2) fun h9 =>
  bd (sF h9 1311 t ((hF h9 1311 t) + 1)) fun h11 =>
  some ((hF h11 1311 t) - 1, h11)

def F_X12_turn_85 (t : Nat) (x1 : Int32) (h : aH) : Option (Int32 × aH) :=
  (ck (hK h t = 14)).bind fun _ =>
  if hF h 1319 t = 0 then
    (hG h 1309 t).bind fun b3 =>
    (hG h 1308 t).bind fun b5 =>
    (ck (hK h b5 = 21 ∧ inR x1 (hN h b5))).bind fun _ =>
    (ck (hK h b3 = 21 ∧ inR ((4 * x1) + (hI h b5 x1.toNatClampNeg)) (hN h b3))).bind fun _ =>
    bd (sI h b3 ((4 * x1) + (hI h b5 x1.toNatClampNeg)).toNatClampNeg 0) fun h9 =>
    (hG h9 1308 t).bind fun b11 =>
    (ck (hK h9 b11 = 21 ∧ inR x1 (hN h9 b11))).bind fun _ =>
    bd (sI h9 b11 x1.toNatClampNeg ((hI h9 b11 x1.toNatClampNeg) + 1)) fun h14 =>
    (F_X12_done t 0 x1 ((-1)) 0 0 h14).bind fun h17 =>
    some (1, h17)
  else
    some (0, h)

def F_X12_turn_74 (t : Nat) (x1 : Int32) (h : aH) : Option (Int32 × aH) :=
  F_X12_turn_85 t x1 h

def F_X12_turn_62 (t : Nat) (x1 : Int32) (h : aH) : Option (Int32 × aH) :=
  (ck (hK h t = 14)).bind fun _ =>
  if hF h 1333 t = 0 then
    F_X12_turn_74 t x1 h
  else
    bd (sF h 1319 t 2) fun h3 =>
    F_X12_turn_74 t x1 h3

def F_X12_turn (t : Nat) (x1 : Int32) (h : aH) : Option (Int32 × aH) :=
  bd (sF h 1300 t 0) fun h1 =>
  bd (sF h1 1319 t 0) fun h3 =>
  (F_X12_isGame t x1 h3).bind fun q8 =>
  bd q8.1 fun z7 =>
  bd q8.2 fun h6 =>
  if z7 = 0 then
    some (0, h6)
  else
    (ck (hK h6 t = 14)).bind fun _ =>
    (F_X12_play t x1 h6).bind fun h12 =>
    (ck (hK h12 t = 14)).bind fun _ =>
    if hF h12 1328 t = 0 then
      (hG h12 1308 t).bind fun b16 =>
      (ck (hK h12 b16 = 21 ∧ inR x1 (hN h12 b16))).bind fun _ =>
      bd (hI h12 b16 x1.toNatClampNeg) fun v19 =>
      if v19 ≤ 0 then
        F_X12_turn_62 t x1 h12
      else
        (hG h12 1341 t).bind fun b21 =>
        (ck (hK h12 b21 = 21 ∧ inR (v19 - 1) (hN h12 b21))).bind fun _ =>
        if hI h12 b21 (v19 - 1).toNatClampNeg = 0 then
          bd (sF h12 1319 t 1) fun h25 =>
          F_X12_turn_74 t x1 h25
        else
          F_X12_turn_62 t x1 h12
    else
      bd (sF h12 1319 t (hF h12 1328 t)) fun h27 =>
      F_X12_turn_85 t x1 h27

def F_X12_over_163 (t : Nat) (x1 : Int32) (x2 : Int32) (x3 : Int32) (h : aH) : Option (Int32 × aH) :=
  (ck (hK h t = 14)).bind fun _ =>
  if hF h 1319 t = 0 then
    (hG h 1310 t).bind fun b3 =>
    (hG h 1309 t).bind fun b5 =>
    (ck (hK h b5 = 21 ∧ inR ((4 * x1) + x3) (hN h b5))).bind fun _ =>
    (F_X12_newRow t x2 0 h).bind fun q11 =>
    bd q11.1 fun z10 =>
    bd q11.2 fun h9 =>
    (ck (hK h9 b3 = 21 ∧ inR ((130 * ((4 * x1) + x3)) + (hI h b5 ((4 * x1) + x3).toNatClampNeg)) (hN h9 b3))).bind fun _ =>
    bd (sI h9 b3 ((130 * ((4 * x1) + x3)) + (hI h b5 ((4 * x1) + x3).toNatClampNeg)).toNatClampNeg z10) fun h13 =>
    (ck (hK h13 t = 14)).bind fun _ =>
    (hG h13 1309 t).bind fun b15 =>
    (ck (hK h13 b15 = 21 ∧ inR ((4 * x1) + x3) (hN h13 b15))).bind fun _ =>
    bd (sI h13 b15 ((4 * x1) + x3).toNatClampNeg ((hI h13 b15 ((4 * x1) + x3).toNatClampNeg) + 1)) fun h18 =>
    (F_X12_done t 1 x1 ((-1)) x3 0 h18).bind fun h21 =>
    some (1, h21)
  else
    some (0, h)

def F_X12_over_107 (t : Nat) (x1 : Int32) (x2 : Int32) (x3 : Int32) (h : aH) : Option (Int32 × aH) :=
  (ck (hK h t = 14)).bind fun _ =>
  bd (sF h 1319 t 4) fun h2 =>
  F_X12_over_163 t x1 x2 x3 h2

def F_X12_over_89 (t : Nat) (x1 : Int32) (x2 : Int32) (x3 : Int32) (h : aH) : Option (Int32 × aH) :=
  (ck (hK h t = 14)).bind fun _ =>
  bd (sF h 1319 t 3) fun h2 =>
  F_X12_over_163 t x1 x2 x3 h2

def F_X12_over (t : Nat) (x1 : Int32) (x2 : Int32) (h : aH) : Option (Int32 × aH) :=
  bd (sF h 1300 t 0) fun h1 =>
  bd (sF h1 1319 t 0) fun h3 =>
  (F_X12_isGame t x1 h3).bind fun q8 =>
  bd q8.1 fun z7 =>
  bd q8.2 fun h6 =>
  if z7 = 0 then
    some (0, h6)
  else
    (ck (hK h6 t = 14)).bind fun _ =>
    (F_X12_play t x1 h6).bind fun h12 =>
    (ck (hK h12 t = 14)).bind fun _ =>
    (hG h12 1308 t).bind fun b15 =>
    (ck (hK h12 b15 = 21 ∧ inR x1 (hN h12 b15))).bind fun _ =>
    bd ((hI h12 b15 x1.toNatClampNeg) - 1) fun v18 =>
    if hF h12 1328 t = 0 then
      if 0 ≤ v18 then
        (hG h12 1341 t).bind fun b21 =>
        (ck (hK h12 b21 = 21 ∧ inR v18 (hN h12 b21))).bind fun _ =>
        if hI h12 b21 v18.toNatClampNeg = 0 then
          (hG h12 1344 t).bind fun b25 =>
          (ck (hK h12 b25 = 21 ∧ inR v18 (hN h12 b25))).bind fun _ =>
          (hG h12 1340 t).bind fun b28 =>
          (ck (hK h12 b28 = 21 ∧ inR v18 (hN h12 b28))).bind fun _ =>
          if hI h12 b25 v18.toNatClampNeg = hI h12 b28 v18.toNatClampNeg then
            F_X12_over_89 t x1 x2 v18 h12
          else
            if x2 < 0 then
              F_X12_over_107 t x1 x2 v18 h12
            else
              if x2 ≤ 10 then
                (hG h12 1351 t).bind fun b34 =>
                (ck (hK h12 b34 = 21 ∧ inR v18 (hN h12 b34))).bind fun _ =>
                if x2 = hI h12 b34 v18.toNatClampNeg then
                  bd (sF h12 1319 t 5) fun h38 =>
                  F_X12_over_163 t x1 x2 v18 h38
                else
                  (hG h12 1356 t).bind fun b40 =>
                  (ck (hK h12 b40 = 21 ∧ inR ((11 * v18) + x2) (hN h12 b40))).bind fun _ =>
                  (hG h12 1305 t).bind fun b43 =>
                  (ck (hK h12 b43 = 21 ∧ inR x1 (hN h12 b43))).bind fun _ =>
                  if hI h12 b40 ((11 * v18) + x2).toNatClampNeg = ((hI h12 b43 x1.toNatClampNeg) + 4) / 5 then
                    bd (sF h12 1319 t 6) fun h47 =>
                    F_X12_over_163 t x1 x2 v18 h47
                  else
                    F_X12_over_163 t x1 x2 v18 h12
              else
                F_X12_over_107 t x1 x2 v18 h12
        else
          F_X12_over_89 t x1 x2 v18 h12
      else
        bd (sF h12 1319 t 11) fun h49 =>
        F_X12_over_163 t x1 x2 v18 h49
    else
      bd (sF h12 1319 t (hF h12 1328 t)) fun h51 =>
      F_X12_over_163 t x1 x2 v18 h51

def F_X12_ball_169 (t : Nat) (x1 : Int32) (x4 : Int32) (x5 : Int32) (h : aH) : Option (Int32 × aH) :=
  (ck (hK h t = 14)).bind fun _ =>
  if hF h 1319 t = 0 then
    (hG h 1314 t).bind fun b3 =>
    (hG h 1313 t).bind fun b5 =>
    (ck (hK h b5 = 21 ∧ inR x4 (hN h b5))).bind fun _ =>
    (ck (hK h b3 = 21 ∧ inR ((40 * x4) + (hI h b5 x4.toNatClampNeg)) (hN h b3))).bind fun _ =>
    bd (sI h b3 ((40 * x4) + (hI h b5 x4.toNatClampNeg)).toNatClampNeg x5) fun h9 =>
    (hG h9 1313 t).bind fun b11 =>
    (ck (hK h9 b11 = 21 ∧ inR x4 (hN h9 b11))).bind fun _ =>
    bd (sI h9 b11 x4.toNatClampNeg ((hI h9 b11 x4.toNatClampNeg) + 1)) fun h14 =>
    (hG h14 1313 t).bind fun b16 =>
    (ck (hK h14 b16 = 21 ∧ inR x4 (hN h14 b16))).bind fun _ =>
    (F_X12_done t 2 x1 x4 ((hI h14 b16 x4.toNatClampNeg) - 1) 0 h14).bind fun h20 =>
    some (1, h20)
  else
    some (0, h)

def F_X12_ball_117 (t : Nat) (x1 : Int32) (x4 : Int32) (x5 : Int32) (h : aH) : Option (Int32 × aH) :=
  (ck (hK h t = 14)).bind fun _ =>
  bd (sF h 1319 t 11) fun h2 =>
  F_X12_ball_169 t x1 x4 x5 h2

def F_X12_ball_73 (t : Nat) (x1 : Int32) (x2 : Int32) (x3 : Int32) (y0 : Int32) (h : aH) : Option (Int32 × aH) :=
  bd (x2 &&& 255) fun v1 =>
  (ck (hK h t = 14)).bind fun _ =>
  if hF h 1328 t = 0 then
    if y0 = (-1) then
      F_X12_ball_117 t x1 y0 v1 h
    else
      (hG h 1313 t).bind fun b5 =>
      (ck (hK h b5 = 21 ∧ inR y0 (hN h b5))).bind fun _ =>
      if hI h b5 y0.toNatClampNeg = (-1) then
        F_X12_ball_117 t x1 y0 v1 h
      else
        (hG h 1313 t).bind fun b9 =>
        (ck (hK h b9 = 21 ∧ inR y0 (hN h b9))).bind fun _ =>
        if hI h b9 y0.toNatClampNeg = 40 then
          bd (sF h 1319 t 12) fun h13 =>
          F_X12_ball_169 t x1 y0 v1 h13
        else
          (F_X12_against t x1 x3 y0 (v1 / 16) (v1 - v1 / 16 * 16) h).bind fun q18 =>
          bd q18.1 fun z17 =>
          bd q18.2 fun h16 =>
          (ck (hK h16 t = 14)).bind fun _ =>
          bd (sF h16 1319 t z17) fun h20 =>
          F_X12_ball_169 t x1 y0 v1 h20
  else
    bd (sF h 1319 t (hF h 1328 t)) fun h22 =>
    F_X12_ball_169 t x1 y0 v1 h22

def F_X12_ball_51 (t : Nat) (x1 : Int32) (x2 : Int32) (x3 : Int32) (h : aH) : Option (Int32 × aH) :=
  F_X12_ball_73 t x1 x2 x3 ((-1)) h

def F_X12_ball (t : Nat) (x1 : Int32) (x2 : Int32) (h : aH) : Option (Int32 × aH) :=
  bd (sF h 1300 t 0) fun h1 =>
  bd (sF h1 1319 t 0) fun h3 =>
  (F_X12_isGame t x1 h3).bind fun q8 =>
  bd q8.1 fun z7 =>
  bd q8.2 fun h6 =>
  if z7 = 0 then
    some (0, h6)
  else
    (ck (hK h6 t = 14)).bind fun _ =>
    (F_X12_play t x1 h6).bind fun h12 =>
    (ck (hK h12 t = 14)).bind fun _ =>
    (hG h12 1308 t).bind fun b15 =>
    (ck (hK h12 b15 = 21 ∧ inR x1 (hN h12 b15))).bind fun _ =>
    bd ((hI h12 b15 x1.toNatClampNeg) - 1) fun v18 =>
    if v18 < 0 then
      F_X12_ball_51 t x1 x2 v18 h12
    else
      (hG h12 1309 t).bind fun b20 =>
      (ck (hK h12 b20 = 21 ∧ inR ((4 * x1) + v18) (hN h12 b20))).bind fun _ =>
      if hI h12 b20 ((4 * x1) + v18).toNatClampNeg = 0 then
        F_X12_ball_51 t x1 x2 v18 h12
      else
        (hG h12 1309 t).bind fun b24 =>
        (ck (hK h12 b24 = 21 ∧ inR ((4 * x1) + v18) (hN h12 b24))).bind fun _ =>
        (F_X12_rowOf t x1 v18 ((hI h12 b24 ((4 * x1) + v18).toNatClampNeg) - 1) h12).bind fun q30 =>
        bd q30.1 fun z29 =>
        bd q30.2 fun h28 =>
        F_X12_ball_73 t x1 x2 v18 z29 h28

def F_X12_feed_76 (k23 : Nat → Int32 → Int32 → Int32 → Int32 → Int32 → Int32 → aH → Option (Int32 × aH)) (t : Nat) (x1 : Int32) (x2 : Int32) (x3 : Int32) (x4 : Int32) (x5 : Int32) (x6 : Int32) (y0 : Int32) (h : aH) : Option (Int32 × aH) :=
  (ck (hK h t = 14)).bind fun _ =>
  (hG h 1315 t).bind fun b2 =>
  (ck (hK h b2 = 21 ∧ inR (hF h 1316 t) (hN h b2))).bind fun _ =>
  bd (sI h b2 (hF h 1316 t).toNatClampNeg ((y0 >>> (24 - (8 * (x6 - x6 / 4 * 4)) &&& 31)) &&& 255)) fun h5 =>
  bd (sF h5 1316 t ((hF h5 1316 t) + 1)) fun h7 =>
  bd (x6 + 1) fun v9 =>
  k23 t x1 x2 x3 x4 x5 v9 h7

def F_X12_feed_23 : Nat → Nat → Int32 → Int32 → Int32 → Int32 → Int32 → Int32 → aH → Option (Int32 × aH)
  | 0, _, _, _, _, _, _, _, _ => none
  | n + 1, t, x1, x2, x3, x4, x5, x6, h =>
  if 20 ≤ x6 then
    (ck (hK h t = 14)).bind fun _ =>
    some (hF h 1316 t, h)
  else
    if 4 ≤ x6 then
      if 8 ≤ x6 then
        if 12 ≤ x6 then
          if 16 ≤ x6 then
            F_X12_feed_76 (F_X12_feed_23 n) t x1 x2 x3 x4 x5 x6 x5 h
          else
            F_X12_feed_76 (F_X12_feed_23 n) t x1 x2 x3 x4 x5 x6 x4 h
        else
          F_X12_feed_76 (F_X12_feed_23 n) t x1 x2 x3 x4 x5 x6 x3 h
      else
        F_X12_feed_76 (F_X12_feed_23 n) t x1 x2 x3 x4 x5 x6 x2 h
    else
      F_X12_feed_76 (F_X12_feed_23 n) t x1 x2 x3 x4 x5 x6 x1 h

def F_X12_feed (t : Nat) (x1 : Int32) (x2 : Int32) (x3 : Int32) (x4 : Int32) (x5 : Int32) (h : aH) : Option (Int32 × aH) :=
  bd (sF h 1300 t 0) fun h1 =>
  if (hF h1 1316 t) + 20 ≤ 6000 then
    F_X12_feed_23 fu t x1 x2 x3 x4 x5 0 h1
  else
    some ((-1), h1)

def F_X12_find (t : Nat) (x1 : Int32) (x2 : Int32) (x3 : Int32) (h : aH) : Option (Int32 × aH) :=
  (F_X12_isGame t x1 h).bind fun q4 =>
  bd q4.1 fun z3 =>
  bd q4.2 fun h2 =>
  if z3 = 0 then
    some ((-1), h2)
  else
    if x2 < 0 then
      some ((-1), h2)
    else
      (ck (hK h2 t = 14)).bind fun _ =>
      (hG h2 1308 t).bind fun b8 =>
      (ck (hK h2 b8 = 21 ∧ inR x1 (hN h2 b8))).bind fun _ =>
      if hI h2 b8 x1.toNatClampNeg ≤ x2 then
        some ((-1), h2)
      else
        if x3 < 0 then
          some ((-1), h2)
        else
          (hG h2 1309 t).bind fun b13 =>
          (ck (hK h2 b13 = 21 ∧ inR ((4 * x1) + x2) (hN h2 b13))).bind fun _ =>
          if hI h2 b13 ((4 * x1) + x2).toNatClampNeg ≤ x3 then
            some ((-1), h2)
          else
            (F_X12_rowOf t x1 x2 x3 h2).bind fun q20 =>
            bd q20.1 fun z19 =>
            bd q20.2 fun h18 =>
            some (z19, h18)

def F_X12_open_71 : Nat → Nat → Int32 → Int32 → Int32 → aH → Option (Int32 × aH)
  | 0, _, _, _, _, _ => none
  | n + 1, t, x4, x5, x6, h =>
  if x4 ≤ x6 then
    (ck (hK h t = 14)).bind fun _ =>
    bd (sF h 1316 t 0) fun h3 =>
    some (1, h3)
  else
    (ck (hK h t = 14)).bind fun _ =>
    (hG h 1314 t).bind fun b6 =>
    (hG h 1315 t).bind fun b8 =>
    (ck (hK h b8 = 21 ∧ inR x6 (hN h b8))).bind fun _ =>
    (ck (hK h b6 = 21 ∧ inR ((40 * x5) + x6) (hN h b6))).bind fun _ =>
    bd (sI h b6 ((40 * x5) + x6).toNatClampNeg (hI h b8 x6.toNatClampNeg)) fun h12 =>
    bd (x6 + 1) fun v14 =>
    F_X12_open_71 n t x4 x5 v14 h12

def F_X12_open (t : Nat) (x1 : Int32) (x2 : Int32) (x3 : Int32) (x4 : Int32) (h : aH) : Option (Int32 × aH) :=
  bd (sF h 1300 t 0) fun h1 =>
  (F_X12_find t x1 x2 x3 h1).bind fun q6 =>
  bd q6.1 fun z5 =>
  bd q6.2 fun h4 =>
  if z5 = (-1) then
    some (0, h4)
  else
    if x4 < 0 then
      some (0, h4)
    else
      if 40 < x4 then
        some (0, h4)
      else
        (ck (hK h4 t = 14)).bind fun _ =>
        if x4 ≤ hF h4 1316 t then
          (F_X12_done t 3 x1 z5 0 0 h4).bind fun h13 =>
          (ck (hK h13 t = 14)).bind fun _ =>
          (F_X12_keepRow t z5 h13).bind fun h17 =>
          (ck (hK h17 t = 14)).bind fun _ =>
          (hG h17 1313 t).bind fun b20 =>
          (ck (hK h17 b20 = 21 ∧ inR z5 (hN h17 b20))).bind fun _ =>
          bd (sI h17 b20 z5.toNatClampNeg x4) fun h23 =>
          F_X12_open_71 fu t x4 z5 0 h23
        else
          some (0, h4)

def F_X12_tear (t : Nat) (x1 : Int32) (x2 : Int32) (x3 : Int32) (h : aH) : Option (Int32 × aH) :=
  bd (sF h 1300 t 0) fun h1 =>
  (F_X12_find t x1 x2 x3 h1).bind fun q6 =>
  bd q6.1 fun z5 =>
  bd q6.2 fun h4 =>
  if z5 = (-1) then
    some (0, h4)
  else
    (ck (hK h4 t = 14)).bind fun _ =>
    (hG h4 1313 t).bind fun b9 =>
    (ck (hK h4 b9 = 21 ∧ inR z5 (hN h4 b9))).bind fun _ =>
    if hI h4 b9 z5.toNatClampNeg = (-1) then
      some (0, h4)
    else
      (F_X12_done t 3 x1 z5 0 0 h4).bind fun h14 =>
      (ck (hK h14 t = 14)).bind fun _ =>
      (F_X12_keepRow t z5 h14).bind fun h18 =>
      (ck (hK h18 t = 14)).bind fun _ =>
      (hG h18 1313 t).bind fun b21 =>
      (ck (hK h18 b21 = 21 ∧ inR z5 (hN h18 b21))).bind fun _ =>
      bd (sI h18 b21 z5.toNatClampNeg ((-1))) fun h24 =>
      some (1, h24)

def F_X12_insert_8 : Nat → Nat → Int32 → Int32 → Int32 → Int32 → aH → Option (aH)
  | 0, _, _, _, _, _, _ => none
  | n + 1, t, x1, x2, x3, x4, h =>
  if x4 ≤ x2 then
    (ck (hK h t = 14)).bind fun _ =>
    (hG h 1314 t).bind fun b3 =>
    (ck (hK h b3 = 21 ∧ inR ((40 * x1) + x2) (hN h b3))).bind fun _ =>
    bd (sI h b3 ((40 * x1) + x2).toNatClampNeg x3) fun h6 =>
    (hG h6 1313 t).bind fun b8 =>
    (ck (hK h6 b8 = 21 ∧ inR x1 (hN h6 b8))).bind fun _ =>
    bd (sI h6 b8 x1.toNatClampNeg ((hI h6 b8 x1.toNatClampNeg) + 1)) fun h11 =>
    some h11
  else
    (ck (hK h t = 14)).bind fun _ =>
    (hG h 1314 t).bind fun b14 =>
    (hG h 1314 t).bind fun b16 =>
    (ck (hK h b16 = 21 ∧ inR (((40 * x1) + x4) - 1) (hN h b16))).bind fun _ =>
    (ck (hK h b14 = 21 ∧ inR ((40 * x1) + x4) (hN h b14))).bind fun _ =>
    bd (sI h b14 ((40 * x1) + x4).toNatClampNeg (hI h b16 (((40 * x1) + x4) - 1).toNatClampNeg)) fun h20 =>
    bd (x4 + (-1)) fun v22 =>
    F_X12_insert_8 n t x1 x2 x3 v22 h20

def F_X12_insert (t : Nat) (x1 : Int32) (x2 : Int32) (x3 : Int32) (h : aH) : Option (aH) :=
  (hG h 1313 t).bind fun b1 =>
  (ck (hK h b1 = 21 ∧ inR x1 (hN h b1))).bind fun _ =>
  bd (hI h b1 x1.toNatClampNeg) fun v4 =>
  F_X12_insert_8 fu t x1 x2 x3 v4 h

def F_X12_remove_2 : Nat → Nat → Int32 → Int32 → aH → Option (aH)
  | 0, _, _, _, _ => none
  | n + 1, t, x1, x3, h =>
  (ck (hK h t = 14)).bind fun _ =>
  (hG h 1313 t).bind fun b2 =>
  (ck (hK h b2 = 21 ∧ inR x1 (hN h b2))).bind fun _ =>
  if (hI h b2 x1.toNatClampNeg) - 1 ≤ x3 then
    (hG h 1313 t).bind fun b6 =>
    (ck (hK h b6 = 21 ∧ inR x1 (hN h b6))).bind fun _ =>
    bd (sI h b6 x1.toNatClampNeg ((hI h b6 x1.toNatClampNeg) - 1)) fun h9 =>
    some h9
  else
    (hG h 1314 t).bind fun b11 =>
    (hG h 1314 t).bind fun b13 =>
    (ck (hK h b13 = 21 ∧ inR (((40 * x1) + x3) + 1) (hN h b13))).bind fun _ =>
    (ck (hK h b11 = 21 ∧ inR ((40 * x1) + x3) (hN h b11))).bind fun _ =>
    bd (sI h b11 ((40 * x1) + x3).toNatClampNeg (hI h b13 (((40 * x1) + x3) + 1).toNatClampNeg)) fun h17 =>
    bd (x3 + 1) fun v19 =>
    F_X12_remove_2 n t x1 v19 h17

def F_X12_remove (t : Nat) (x1 : Int32) (x2 : Int32) (h : aH) : Option (aH) :=
  F_X12_remove_2 fu t x1 x2 h

def F_X12_put (t : Nat) (x1 : Int32) (x2 : Int32) (x3 : Int32) (x4 : Int32) (x5 : Int32) (h : aH) : Option (Int32 × aH) :=
  bd (sF h 1300 t 0) fun h1 =>
  (F_X12_find t x1 x2 x3 h1).bind fun q6 =>
  bd q6.1 fun z5 =>
  bd q6.2 fun h4 =>
  if z5 = (-1) then
    some (0, h4)
  else
    (ck (hK h4 t = 14)).bind fun _ =>
    (hG h4 1313 t).bind fun b9 =>
    (ck (hK h4 b9 = 21 ∧ inR z5 (hN h4 b9))).bind fun _ =>
    if hI h4 b9 z5.toNatClampNeg = (-1) then
      some (0, h4)
    else
      if x4 < 0 then
        some (0, h4)
      else
        (hG h4 1313 t).bind fun b14 =>
        (ck (hK h4 b14 = 21 ∧ inR z5 (hN h4 b14))).bind fun _ =>
        if hI h4 b14 z5.toNatClampNeg < x4 then
          some (0, h4)
        else
          (hG h4 1313 t).bind fun b18 =>
          (ck (hK h4 b18 = 21 ∧ inR z5 (hN h4 b18))).bind fun _ =>
          if hI h4 b18 z5.toNatClampNeg = 40 then
            some (0, h4)
          else
            (F_X12_insert t z5 x4 (x5 &&& 255) h4).bind fun h23 =>
            (ck (hK h23 t = 14)).bind fun _ =>
            (F_X12_done t 4 x1 z5 x4 0 h23).bind fun h27 =>
            some (1, h27)

def F_X12_mend (t : Nat) (x1 : Int32) (x2 : Int32) (x3 : Int32) (x4 : Int32) (x5 : Int32) (h : aH) : Option (Int32 × aH) :=
  bd (sF h 1300 t 0) fun h1 =>
  (F_X12_find t x1 x2 x3 h1).bind fun q6 =>
  bd q6.1 fun z5 =>
  bd q6.2 fun h4 =>
  if z5 = (-1) then
    some ((-1), h4)
  else
    if x4 < 0 then
      some ((-1), h4)
    else
      (ck (hK h4 t = 14)).bind fun _ =>
      (hG h4 1313 t).bind fun b10 =>
      (ck (hK h4 b10 = 21 ∧ inR z5 (hN h4 b10))).bind fun _ =>
      if x4 < hI h4 b10 z5.toNatClampNeg then
        (hG h4 1314 t).bind fun b14 =>
        (ck (hK h4 b14 = 21 ∧ inR ((40 * z5) + x4) (hN h4 b14))).bind fun _ =>
        bd (hI h4 b14 ((40 * z5) + x4).toNatClampNeg) fun v17 =>
        (hG h4 1314 t).bind fun b18 =>
        (ck (hK h4 b18 = 21 ∧ inR ((40 * z5) + x4) (hN h4 b18))).bind fun _ =>
        bd (sI h4 b18 ((40 * z5) + x4).toNatClampNeg (x5 &&& 255)) fun h21 =>
        (F_X12_done t 5 x1 z5 x4 v17 h21).bind fun h24 =>
        some (v17, h24)
      else
        some ((-1), h4)

def F_X12_out (t : Nat) (x1 : Int32) (x2 : Int32) (x3 : Int32) (x4 : Int32) (h : aH) : Option (Int32 × aH) :=
  bd (sF h 1300 t 0) fun h1 =>
  (F_X12_find t x1 x2 x3 h1).bind fun q6 =>
  bd q6.1 fun z5 =>
  bd q6.2 fun h4 =>
  if z5 = (-1) then
    some ((-1), h4)
  else
    if x4 < 0 then
      some ((-1), h4)
    else
      (ck (hK h4 t = 14)).bind fun _ =>
      (hG h4 1313 t).bind fun b10 =>
      (ck (hK h4 b10 = 21 ∧ inR z5 (hN h4 b10))).bind fun _ =>
      if x4 < hI h4 b10 z5.toNatClampNeg then
        (hG h4 1314 t).bind fun b14 =>
        (ck (hK h4 b14 = 21 ∧ inR ((40 * z5) + x4) (hN h4 b14))).bind fun _ =>
        bd (hI h4 b14 ((40 * z5) + x4).toNatClampNeg) fun v17 =>
        (F_X12_remove t z5 x4 h4).bind fun h19 =>
        (ck (hK h19 t = 14)).bind fun _ =>
        (F_X12_done t 6 x1 z5 x4 v17 h19).bind fun h23 =>
        some (v17, h23)
      else
        some ((-1), h4)

def F_X12_bowls (t : Nat) (x1 : Int32) (x2 : Int32) (x3 : Int32) (x4 : Int32) (h : aH) : Option (Int32 × aH) :=
  bd (sF h 1300 t 0) fun h1 =>
  (F_X12_find t x1 x2 x3 h1).bind fun q6 =>
  bd q6.1 fun z5 =>
  bd q6.2 fun h4 =>
  if z5 = (-1) then
    some ((-1), h4)
  else
    (ck (hK h4 t = 14)).bind fun _ =>
    (hG h4 1312 t).bind fun b9 =>
    (ck (hK h4 b9 = 21 ∧ inR z5 (hN h4 b9))).bind fun _ =>
    bd (hI h4 b9 z5.toNatClampNeg) fun v12 =>
    (hG h4 1312 t).bind fun b13 =>
    (ck (hK h4 b13 = 21 ∧ inR z5 (hN h4 b13))).bind fun _ =>
    bd (sI h4 b13 z5.toNatClampNeg (x4 &&& 15)) fun h16 =>
    (F_X12_done t 7 x1 z5 0 v12 h16).bind fun h19 =>
    some (v12, h19)

def F_X12_undo_156 : Nat → Nat → Int32 → Int32 → Int32 → Int32 → aH → Option (Int32 × aH)
  | 0, _, _, _, _, _, _ => none
  | n + 1, t, x1, x2, x3, x4, h =>
  (ck (hK h t = 14)).bind fun _ =>
  (hG h 1313 t).bind fun b2 =>
  (ck (hK h b2 = 21 ∧ inR x3 (hN h b2))).bind fun _ =>
  if hI h b2 x3.toNatClampNeg ≤ x4 then
    some (x2, h)
  else
    (hG h 1314 t).bind fun b6 =>
    (hG h 1327 t).bind fun b8 =>
    (ck (hK h b8 = 21 ∧ inR ((40 * x1) + x4) (hN h b8))).bind fun _ =>
    (ck (hK h b6 = 21 ∧ inR ((40 * x3) + x4) (hN h b6))).bind fun _ =>
    bd (sI h b6 ((40 * x3) + x4).toNatClampNeg (hI h b8 ((40 * x1) + x4).toNatClampNeg)) fun h12 =>
    bd (x4 + 1) fun v14 =>
    F_X12_undo_156 n t x1 x2 x3 v14 h12

def F_X12_undo (t : Nat) (h : aH) : Option (Int32 × aH) :=
  bd (sF h 1300 t 0) fun h1 =>
  if hF h1 1320 t = 0 then
    some ((-1), h1)
  else
    bd (sF h1 1320 t ((hF h1 1320 t) - 1)) fun h4 =>
    bd (hF h4 1320 t) fun v6 =>
    (hG h4 1322 t).bind fun b7 =>
    (ck (hK h4 b7 = 21 ∧ inR v6 (hN h4 b7))).bind fun _ =>
    bd (hI h4 b7 v6.toNatClampNeg) fun v10 =>
    (hG h4 1323 t).bind fun b11 =>
    (ck (hK h4 b11 = 21 ∧ inR v6 (hN h4 b11))).bind fun _ =>
    bd (hI h4 b11 v6.toNatClampNeg) fun v14 =>
    (hG h4 1321 t).bind fun b15 =>
    (ck (hK h4 b15 = 21 ∧ inR v6 (hN h4 b15))).bind fun _ =>
    if hI h4 b15 v6.toNatClampNeg = 0 then
      (hG h4 1308 t).bind fun b19 =>
      (ck (hK h4 b19 = 21 ∧ inR v10 (hN h4 b19))).bind fun _ =>
      bd (sI h4 b19 v10.toNatClampNeg ((hI h4 b19 v10.toNatClampNeg) - 1)) fun h22 =>
      some (v10, h22)
    else
    if hI h4 b15 v6.toNatClampNeg = 1 then
      (hG h4 1309 t).bind fun b25 =>
      (hG h4 1324 t).bind fun b27 =>
      (ck (hK h4 b27 = 21 ∧ inR v6 (hN h4 b27))).bind fun _ =>
      (ck (hK h4 b25 = 21 ∧ inR ((4 * v10) + (hI h4 b27 v6.toNatClampNeg)) (hN h4 b25))).bind fun _ =>
      bd (sI h4 b25 ((4 * v10) + (hI h4 b27 v6.toNatClampNeg)).toNatClampNeg ((hI h4 b25 ((4 * v10) + (hI h4 b27 v6.toNatClampNeg)).toNatClampNeg) - 1)) fun h31 =>
      some (v10, h31)
    else
    if hI h4 b15 v6.toNatClampNeg = 2 then
      (hG h4 1324 t).bind fun b34 =>
      (ck (hK h4 b34 = 21 ∧ inR v6 (hN h4 b34))).bind fun _ =>
      (F_X12_remove t v14 (hI h4 b34 v6.toNatClampNeg) h4).bind fun h38 =>
      some (v10, h38)
    else
    if hI h4 b15 v6.toNatClampNeg = 3 then
      (hG h4 1313 t).bind fun b41 =>
      (hG h4 1326 t).bind fun b43 =>
      (ck (hK h4 b43 = 21 ∧ inR v6 (hN h4 b43))).bind fun _ =>
      (ck (hK h4 b41 = 21 ∧ inR v14 (hN h4 b41))).bind fun _ =>
      bd (sI h4 b41 v14.toNatClampNeg (hI h4 b43 v6.toNatClampNeg)) fun h47 =>
      F_X12_undo_156 fu t v6 v10 v14 0 h47
    else
    if hI h4 b15 v6.toNatClampNeg = 4 then
      (hG h4 1324 t).bind fun b50 =>
      (ck (hK h4 b50 = 21 ∧ inR v6 (hN h4 b50))).bind fun _ =>
      (F_X12_remove t v14 (hI h4 b50 v6.toNatClampNeg) h4).bind fun h54 =>
      some (v10, h54)
    else
    if hI h4 b15 v6.toNatClampNeg = 5 then
      (hG h4 1314 t).bind fun b57 =>
      (hG h4 1324 t).bind fun b59 =>
      (ck (hK h4 b59 = 21 ∧ inR v6 (hN h4 b59))).bind fun _ =>
      (hG h4 1325 t).bind fun b62 =>
      (ck (hK h4 b62 = 21 ∧ inR v6 (hN h4 b62))).bind fun _ =>
      (ck (hK h4 b57 = 21 ∧ inR ((40 * v14) + (hI h4 b59 v6.toNatClampNeg)) (hN h4 b57))).bind fun _ =>
      bd (sI h4 b57 ((40 * v14) + (hI h4 b59 v6.toNatClampNeg)).toNatClampNeg (hI h4 b62 v6.toNatClampNeg)) fun h66 =>
      some (v10, h66)
    else
    if hI h4 b15 v6.toNatClampNeg = 6 then
      (hG h4 1324 t).bind fun b69 =>
      (ck (hK h4 b69 = 21 ∧ inR v6 (hN h4 b69))).bind fun _ =>
      (hG h4 1325 t).bind fun b72 =>
      (ck (hK h4 b72 = 21 ∧ inR v6 (hN h4 b72))).bind fun _ =>
      (F_X12_insert t v14 (hI h4 b69 v6.toNatClampNeg) (hI h4 b72 v6.toNatClampNeg) h4).bind fun h76 =>
      some (v10, h76)
    else
    (hG h4 1312 t).bind fun b78 =>
    (hG h4 1325 t).bind fun b80 =>
    (ck (hK h4 b80 = 21 ∧ inR v6 (hN h4 b80))).bind fun _ =>
    (ck (hK h4 b78 = 21 ∧ inR v14 (hN h4 b78))).bind fun _ =>
    bd (sI h4 b78 v14.toNatClampNeg (hI h4 b80 v6.toNatClampNeg)) fun h84 =>
    some (v10, h84)

def F_X12_why (t : Nat) (h : aH) : Option (Int32 × aH) :=
  bd (sF h 1300 t 0) fun h1 =>
  some (hF h1 1319 t, h1)

def F_X12_more (t : Nat) (x1 : Int32) (h : aH) : Option (Int32 × aH) :=
  (hG h 1341 t).bind fun b1 =>
  (ck (hK h b1 = 21 ∧ inR x1 (hN h b1))).bind fun _ =>
  if hI h b1 x1.toNatClampNeg = 0 then
    (F_X12_left t x1 h).bind fun q8 =>
    bd q8.1 fun z7 =>
    bd q8.2 fun h6 =>
    some (6 * z7, h6)
  else
    some (0, h)

def F_X12_nowOf (t : Nat) (x1 : Int32) (x2 : Int32) (h : aH) : Option (Int32 × aH) :=
  bd (hF h 1332 t) fun v1 =>
  if x2 = 0 then
    some (v1, h)
  else
  if x2 = 1 then
    if 0 ≤ v1 then
      (hG h 1345 t).bind fun b5 =>
      (ck (hK h b5 = 21 ∧ inR v1 (hN h b5))).bind fun _ =>
      some (hI h b5 v1.toNatClampNeg, h)
    else
      some ((-1), h)
  else
  if x2 = 2 then
    if 0 ≤ v1 then
      (hG h 1346 t).bind fun b10 =>
      (ck (hK h b10 = 21 ∧ inR v1 (hN h b10))).bind fun _ =>
      some (hI h b10 v1.toNatClampNeg, h)
    else
      some ((-1), h)
  else
  if x2 = 3 then
    if 0 ≤ v1 then
      (hG h 1351 t).bind fun b15 =>
      (ck (hK h b15 = 21 ∧ inR v1 (hN h b15))).bind fun _ =>
      some (hI h b15 v1.toNatClampNeg, h)
    else
      some ((-1), h)
  else
  if x2 = 4 then
    if 0 ≤ v1 then
      (F_X12_left t v1 h).bind fun q23 =>
      bd q23.1 fun z22 =>
      bd q23.2 fun h21 =>
      some (z22, h21)
    else
      some ((-1), h)
  else
  if x2 = 5 then
    if 0 ≤ v1 then
      (hG h 1341 t).bind fun b26 =>
      (ck (hK h b26 = 21 ∧ inR v1 (hN h b26))).bind fun _ =>
      some (hI h b26 v1.toNatClampNeg, h)
    else
      some ((-1), h)
  else
  if x2 = 6 then
    (F_X12_lastTurn t x1 h).bind fun q33 =>
    bd q33.1 fun z32 =>
    bd q33.2 fun h31 =>
    if v1 = z32 then
      (ck (hK h31 t = 14)).bind fun _ =>
      some (hF h31 1334 t, h31)
    else
      some ((-1), h31)
  else
  if x2 = 7 then
    (F_X12_lastTurn t x1 h).bind fun q40 =>
    bd q40.1 fun z39 =>
    bd q40.2 fun h38 =>
    if v1 = z39 then
      (ck (hK h38 t = 14)).bind fun _ =>
      (hG h38 1335 t).bind fun b43 =>
      (ck (hK h38 b43 = 21 ∧ inR v1 (hN h38 b43))).bind fun _ =>
      bd (if 0 < (hF h38 1334 t) - (hI h38 b43 v1.toNatClampNeg) then (hF h38 1334 t) - (hI h38 b43 v1.toNatClampNeg) else 0) fun z46 =>
      some (z46, h38)
    else
      some ((-1), h38)
  else
  if x2 = 8 then
    (F_X12_lastTurn t x1 h).bind fun q51 =>
    bd q51.1 fun z50 =>
    bd q51.2 fun h49 =>
    if v1 = z50 then
      (ck (hK h49 t = 14)).bind fun _ =>
      (hG h49 1335 t).bind fun b54 =>
      (ck (hK h49 b54 = 21 ∧ inR v1 (hN h49 b54))).bind fun _ =>
      (F_X12_more t v1 h49).bind fun q60 =>
      bd q60.1 fun z59 =>
      bd q60.2 fun h58 =>
      if z59 < (hF h49 1334 t) - (hI h49 b54 v1.toNatClampNeg) then
        some (0, h58)
      else
        some (1, h58)
    else
      some ((-1), h49)
  else
  if x2 = 9 then
    if 0 ≤ v1 then
      (hG h 1335 t).bind fun b64 =>
      (ck (hK h b64 = 21 ∧ inR v1 (hN h b64))).bind fun _ =>
      (F_X12_more t v1 h).bind fun q70 =>
      bd q70.1 fun z69 =>
      bd q70.2 fun h68 =>
      some ((hI h b64 v1.toNatClampNeg) + z69, h68)
    else
      some ((-1), h)
  else
  if x2 = 10 then
    some (hF h 1333 t, h)
  else
  if x2 = 11 then
    some (hF h 1328 t, h)
  else
  if x2 = 12 then
    some (hF h 1329 t, h)
  else
  if x2 = 13 then
    some (hF h 1330 t, h)
  else
  some (hF h 1331 t, h)

def F_X12_now_23 (t : Nat) (h : aH) : Option (Int32 × aH) :=
  (ck (hK h t = 14)).bind fun _ =>
  (F_X12_fail t h).bind fun q5 =>
  bd q5.1 fun z4 =>
  bd q5.2 fun h3 =>
  some (z4, h3)

def F_X12_now (t : Nat) (x1 : Int32) (x2 : Int32) (h : aH) : Option (Int32 × aH) :=
  bd (sF h 1300 t 0) fun h1 =>
  (F_X12_isGame t x1 h1).bind fun q6 =>
  bd q6.1 fun z5 =>
  bd q6.2 fun h4 =>
  if z5 = 0 then
    F_X12_now_23 t h4
  else
    if x2 < 0 then
      F_X12_now_23 t h4
    else
      if x2 ≤ 14 then
        (ck (hK h4 t = 14)).bind fun _ =>
        (F_X12_play t x1 h4).bind fun h12 =>
        (ck (hK h12 t = 14)).bind fun _ =>
        (F_X12_nowOf t x1 x2 h12).bind fun q18 =>
        bd q18.1 fun z17 =>
        bd q18.2 fun h16 =>
        some (z17, h16)
      else
        F_X12_now_23 t h4

def F_X12_sumOf_98 : Nat → Nat → Int32 → Int32 → Int32 → Int32 → Int32 → aH → Option (Int32 × aH)
  | 0, _, _, _, _, _, _, _ => none
  | n + 1, t, x1, x2, x3, x4, x5, h =>
  (ck (hK h t = 14)).bind fun _ =>
  (hG h 1309 t).bind fun b2 =>
  (ck (hK h b2 = 21 ∧ inR ((4 * x1) + x2) (hN h b2))).bind fun _ =>
  if hI h b2 ((4 * x1) + x2).toNatClampNeg ≤ x5 then
    some (x4, h)
  else
    if x3 = 13 then
      (hG h 1359 t).bind fun b7 =>
      (F_X12_rowOf t x1 x2 x5 h).bind fun q12 =>
      bd q12.1 fun z11 =>
      bd q12.2 fun h10 =>
      (ck (hK h10 b7 = 21 ∧ inR z11 (hN h10 b7))).bind fun _ =>
      bd (x4 + (hI h10 b7 z11.toNatClampNeg)) fun v14 =>
      bd (x5 + 1) fun v15 =>
      F_X12_sumOf_98 n t x1 x2 x3 v14 v15 h10
    else
      some (x4, h)

def F_X12_sumOf_86 (k39 : Nat → Int32 → Int32 → Int32 → Int32 → Int32 → aH → Option (Int32 × aH)) (t : Nat) (x1 : Int32) (x2 : Int32) (x3 : Int32) (x5 : Int32) (y0 : Int32) (y1 : Int32) (h : aH) : Option (Int32 × aH) :=
  bd (y0 + y1) fun v1 =>
  bd (x5 + 1) fun v2 =>
  k39 t x1 x2 x3 v1 v2 h

def F_X12_sumOf_39 : Nat → Nat → Int32 → Int32 → Int32 → Int32 → Int32 → aH → Option (Int32 × aH)
  | 0, _, _, _, _, _, _, _ => none
  | n + 1, t, x1, x2, x3, x4, x5, h =>
  if (11 * x2) + 11 ≤ x5 then
    F_X12_sumOf_98 fu t x1 x2 x3 x4 0 h
  else
    if x3 = 11 then
      (ck (hK h t = 14)).bind fun _ =>
      (hG h 1353 t).bind fun b4 =>
      (ck (hK h b4 = 21 ∧ inR x5 (hN h b4))).bind fun _ =>
      F_X12_sumOf_86 (F_X12_sumOf_39 n) t x1 x2 x3 x5 x4 (hI h b4 x5.toNatClampNeg) h
    else
      if x3 = 12 then
        (ck (hK h t = 14)).bind fun _ =>
        (hG h 1357 t).bind fun b9 =>
        (ck (hK h b9 = 21 ∧ inR x5 (hN h b9))).bind fun _ =>
        F_X12_sumOf_86 (F_X12_sumOf_39 n) t x1 x2 x3 x5 x4 (hI h b9 x5.toNatClampNeg) h
      else
        F_X12_sumOf_86 (F_X12_sumOf_39 n) t x1 x2 x3 x5 x4 0 h

def F_X12_sumOf_31 (t : Nat) (x1 : Int32) (x2 : Int32) (x3 : Int32) (y0 : Int32) (h : aH) : Option (Int32 × aH) :=
  bd (11 * x2) fun v1 =>
  F_X12_sumOf_39 fu t x1 x2 x3 y0 v1 h

def F_X12_sumOf (t : Nat) (x1 : Int32) (x2 : Int32) (x3 : Int32) (h : aH) : Option (Int32 × aH) :=
  if x3 = 11 then
    (hG h 1339 t).bind fun b2 =>
    (ck (hK h b2 = 21 ∧ inR x2 (hN h b2))).bind fun _ =>
    F_X12_sumOf_31 t x1 x2 x3 (hI h b2 x2.toNatClampNeg) h
  else
    if x3 = 12 then
      (hG h 1348 t).bind fun b6 =>
      (ck (hK h b6 = 21 ∧ inR x2 (hN h b6))).bind fun _ =>
      F_X12_sumOf_31 t x1 x2 x3 (hI h b6 x2.toNatClampNeg) h
    else
      F_X12_sumOf_31 t x1 x2 x3 0 h

def F_X12_scoreOf (t : Nat) (x1 : Int32) (x2 : Int32) (x3 : Int32) (h : aH) : Option (Int32 × aH) :=
  if x3 = 0 then
    (hG h 1335 t).bind fun b2 =>
    (ck (hK h b2 = 21 ∧ inR x2 (hN h b2))).bind fun _ =>
    some (hI h b2 x2.toNatClampNeg, h)
  else
  if x3 = 1 then
    (hG h 1336 t).bind fun b6 =>
    (ck (hK h b6 = 21 ∧ inR x2 (hN h b6))).bind fun _ =>
    some (hI h b6 x2.toNatClampNeg, h)
  else
  if x3 = 2 then
    (hG h 1337 t).bind fun b10 =>
    (ck (hK h b10 = 21 ∧ inR x2 (hN h b10))).bind fun _ =>
    some (hI h b10 x2.toNatClampNeg, h)
  else
  if x3 = 3 then
    (hG h 1338 t).bind fun b14 =>
    (ck (hK h b14 = 21 ∧ inR x2 (hN h b14))).bind fun _ =>
    some (hI h b14 x2.toNatClampNeg, h)
  else
  if x3 = 4 then
    (hG h 1339 t).bind fun b18 =>
    (ck (hK h b18 = 21 ∧ inR x2 (hN h b18))).bind fun _ =>
    some (hI h b18 x2.toNatClampNeg, h)
  else
  if x3 = 5 then
    (hG h 1340 t).bind fun b22 =>
    (ck (hK h b22 = 21 ∧ inR x2 (hN h b22))).bind fun _ =>
    some (hI h b22 x2.toNatClampNeg, h)
  else
  if x3 = 6 then
    (hG h 1341 t).bind fun b26 =>
    (ck (hK h b26 = 21 ∧ inR x2 (hN h b26))).bind fun _ =>
    some (hI h b26 x2.toNatClampNeg, h)
  else
  if x3 = 7 then
    (hG h 1342 t).bind fun b30 =>
    (ck (hK h b30 = 21 ∧ inR x2 (hN h b30))).bind fun _ =>
    some (hI h b30 x2.toNatClampNeg, h)
  else
  if x3 = 8 then
    (hG h 1343 t).bind fun b34 =>
    (ck (hK h b34 = 21 ∧ inR x2 (hN h b34))).bind fun _ =>
    some (hI h b34 x2.toNatClampNeg, h)
  else
  if x3 = 9 then
    (hG h 1352 t).bind fun b38 =>
    (ck (hK h b38 = 22 ∧ inR x2 (hN h b38))).bind fun _ =>
    if hI h b38 x2.toNatClampNeg = 0 then
      some (0, h)
    else
      some (1, h)
  else
  if x3 = 10 then
    (hG h 1309 t).bind fun b43 =>
    (ck (hK h b43 = 21 ∧ inR ((4 * x1) + x2) (hN h b43))).bind fun _ =>
    some (hI h b43 ((4 * x1) + x2).toNatClampNeg, h)
  else
  if x3 = 11 then
    (F_X12_sumOf t x1 x2 x3 h).bind fun q50 =>
    bd q50.1 fun z49 =>
    bd q50.2 fun h48 =>
    some (z49, h48)
  else
  if x3 = 12 then
    (F_X12_sumOf t x1 x2 x3 h).bind fun q55 =>
    bd q55.1 fun z54 =>
    bd q55.2 fun h53 =>
    some (z54, h53)
  else
  if x3 = 13 then
    (F_X12_sumOf t x1 x2 x3 h).bind fun q60 =>
    bd q60.1 fun z59 =>
    bd q60.2 fun h58 =>
    some (z59, h58)
  else
  if x3 = 14 then
    (hG h 1349 t).bind fun b62 =>
    (ck (hK h b62 = 21 ∧ inR x2 (hN h b62))).bind fun _ =>
    some (hI h b62 x2.toNatClampNeg, h)
  else
  (hG h 1350 t).bind fun b65 =>
  (ck (hK h b65 = 21 ∧ inR x2 (hN h b65))).bind fun _ =>
  some (hI h b65 x2.toNatClampNeg, h)

def F_X12_isTurn (t : Nat) (x1 : Int32) (x2 : Int32) (h : aH) : Option (Int32 × aH) :=
  (F_X12_isGame t x1 h).bind fun q4 =>
  bd q4.1 fun z3 =>
  bd q4.2 fun h2 =>
  if z3 = 0 then
    some (0, h2)
  else
    if x2 < 0 then
      some (0, h2)
    else
      (ck (hK h2 t = 14)).bind fun _ =>
      (hG h2 1308 t).bind fun b8 =>
      (ck (hK h2 b8 = 21 ∧ inR x1 (hN h2 b8))).bind fun _ =>
      if hI h2 b8 x1.toNatClampNeg ≤ x2 then
        some (0, h2)
      else
        some (1, h2)

def F_X12_score_24 (t : Nat) (h : aH) : Option (Int32 × aH) :=
  (ck (hK h t = 14)).bind fun _ =>
  (F_X12_fail t h).bind fun q5 =>
  bd q5.1 fun z4 =>
  bd q5.2 fun h3 =>
  some (z4, h3)

def F_X12_score (t : Nat) (x1 : Int32) (x2 : Int32) (x3 : Int32) (h : aH) : Option (Int32 × aH) :=
  bd (sF h 1300 t 0) fun h1 =>
  (F_X12_isTurn t x1 x2 h1).bind fun q6 =>
  bd q6.1 fun z5 =>
  bd q6.2 fun h4 =>
  if z5 = 0 then
    F_X12_score_24 t h4
  else
    if x3 < 0 then
      F_X12_score_24 t h4
    else
      if x3 ≤ 15 then
        (ck (hK h4 t = 14)).bind fun _ =>
        (F_X12_play t x1 h4).bind fun h12 =>
        (ck (hK h12 t = 14)).bind fun _ =>
        (F_X12_scoreOf t x1 x2 x3 h12).bind fun q18 =>
        bd q18.1 fun z17 =>
        bd q18.2 fun h16 =>
        some (z17, h16)
      else
        F_X12_score_24 t h4

def F_X12_overs_32 (t : Nat) (h : aH) : Option (Int32 × aH) :=
  (ck (hK h t = 14)).bind fun _ =>
  (F_X12_fail t h).bind fun q5 =>
  bd q5.1 fun z4 =>
  bd q5.2 fun h3 =>
  some (z4, h3)

def F_X12_overs (t : Nat) (x1 : Int32) (x2 : Int32) (x3 : Int32) (x4 : Int32) (h : aH) : Option (Int32 × aH) :=
  bd (sF h 1300 t 0) fun h1 =>
  (F_X12_find t x1 x2 x3 h1).bind fun q6 =>
  bd q6.1 fun z5 =>
  bd q6.2 fun h4 =>
  if z5 = (-1) then
    F_X12_overs_32 t h4
  else
    if x4 < 0 then
      F_X12_overs_32 t h4
    else
      if x4 ≤ 7 then
        (ck (hK h4 t = 14)).bind fun _ =>
        (F_X12_play t x1 h4).bind fun h12 =>
        if x4 = 0 then
          (ck (hK h12 t = 14)).bind fun _ =>
          (hG h12 1312 t).bind fun b16 =>
          (ck (hK h12 b16 = 21 ∧ inR z5 (hN h12 b16))).bind fun _ =>
          some (hI h12 b16 z5.toNatClampNeg, h12)
        else
        if x4 = 1 then
          (ck (hK h12 t = 14)).bind fun _ =>
          (hG h12 1313 t).bind fun b21 =>
          (ck (hK h12 b21 = 21 ∧ inR z5 (hN h12 b21))).bind fun _ =>
          some (hI h12 b21 z5.toNatClampNeg, h12)
        else
        if x4 = 2 then
          (ck (hK h12 t = 14)).bind fun _ =>
          (hG h12 1359 t).bind fun b26 =>
          (ck (hK h12 b26 = 21 ∧ inR z5 (hN h12 b26))).bind fun _ =>
          some (hI h12 b26 z5.toNatClampNeg, h12)
        else
        if x4 = 3 then
          (ck (hK h12 t = 14)).bind fun _ =>
          (hG h12 1360 t).bind fun b31 =>
          (ck (hK h12 b31 = 21 ∧ inR z5 (hN h12 b31))).bind fun _ =>
          some (hI h12 b31 z5.toNatClampNeg, h12)
        else
        if x4 = 4 then
          (ck (hK h12 t = 14)).bind fun _ =>
          (hG h12 1361 t).bind fun b36 =>
          (ck (hK h12 b36 = 21 ∧ inR z5 (hN h12 b36))).bind fun _ =>
          some (hI h12 b36 z5.toNatClampNeg, h12)
        else
        if x4 = 5 then
          (ck (hK h12 t = 14)).bind fun _ =>
          (hG h12 1362 t).bind fun b41 =>
          (ck (hK h12 b41 = 22 ∧ inR z5 (hN h12 b41))).bind fun _ =>
          if hI h12 b41 z5.toNatClampNeg = 0 then
            some (0, h12)
          else
            some (1, h12)
        else
        if x4 = 6 then
          (ck (hK h12 t = 14)).bind fun _ =>
          (hG h12 1363 t).bind fun b47 =>
          (ck (hK h12 b47 = 22 ∧ inR z5 (hN h12 b47))).bind fun _ =>
          if hI h12 b47 z5.toNatClampNeg = 0 then
            some (0, h12)
          else
            some (1, h12)
        else
        (ck (hK h12 t = 14)).bind fun _ =>
        (hG h12 1364 t).bind fun b52 =>
        (ck (hK h12 b52 = 22 ∧ inR z5 (hN h12 b52))).bind fun _ =>
        if hI h12 b52 z5.toNatClampNeg = 0 then
          some (0, h12)
        else
          some (1, h12)
      else
        F_X12_overs_32 t h4

def F_X12_entry_37 (t : Nat) (h : aH) : Option (Int32 × aH) :=
  (ck (hK h t = 14)).bind fun _ =>
  (F_X12_fail t h).bind fun q5 =>
  bd q5.1 fun z4 =>
  bd q5.2 fun h3 =>
  some (z4, h3)

def F_X12_entry (t : Nat) (x1 : Int32) (x2 : Int32) (x3 : Int32) (x4 : Int32) (h : aH) : Option (Int32 × aH) :=
  bd (sF h 1300 t 0) fun h1 =>
  (F_X12_find t x1 x2 x3 h1).bind fun q6 =>
  bd q6.1 fun z5 =>
  bd q6.2 fun h4 =>
  if z5 = (-1) then
    F_X12_entry_37 t h4
  else
    if x4 < 0 then
      F_X12_entry_37 t h4
    else
      (ck (hK h4 t = 14)).bind fun _ =>
      (hG h4 1313 t).bind fun b10 =>
      (ck (hK h4 b10 = 21 ∧ inR z5 (hN h4 b10))).bind fun _ =>
      if x4 < hI h4 b10 z5.toNatClampNeg then
        (hG h4 1314 t).bind fun b14 =>
        (ck (hK h4 b14 = 21 ∧ inR ((40 * z5) + x4) (hN h4 b14))).bind fun _ =>
        some (hI h4 b14 ((40 * z5) + x4).toNatClampNeg, h4)
      else
        F_X12_entry_37 t h4

def F_X12_batsOf (t : Nat) (x1 : Int32) (x2 : Int32) (x3 : Int32) (x4 : Int32) (h : aH) : Option (Int32 × aH) :=
  bd ((11 * x2) + x3) fun v1 =>
  if x4 = 0 then
    (hG h 1353 t).bind fun b3 =>
    (ck (hK h b3 = 21 ∧ inR v1 (hN h b3))).bind fun _ =>
    some (hI h b3 v1.toNatClampNeg, h)
  else
    if x4 = 1 then
      (hG h 1354 t).bind fun b7 =>
      (ck (hK h b7 = 21 ∧ inR v1 (hN h b7))).bind fun _ =>
      some (hI h b7 v1.toNatClampNeg, h)
    else
      if x4 = 2 then
        (hG h 1355 t).bind fun b11 =>
        (ck (hK h b11 = 21 ∧ inR v1 (hN h b11))).bind fun _ =>
        some (hI h b11 v1.toNatClampNeg, h)
      else
        (hG h 1307 t).bind fun b14 =>
        (ck (hK h b14 = 21 ∧ inR (((22 * x1) + (11 * (x2 - x2 / 2 * 2))) + x3) (hN h b14))).bind fun _ =>
        some (hI h b14 (((22 * x1) + (11 * (x2 - x2 / 2 * 2))) + x3).toNatClampNeg, h)

def F_X12_fieldsOf (t : Nat) (x1 : Int32) (x2 : Int32) (x3 : Int32) (x4 : Int32) (h : aH) : Option (Int32 × aH) :=
  bd ((11 * x2) + x3) fun v1 =>
  if x4 = 0 then
    (hG h 1356 t).bind fun b3 =>
    (ck (hK h b3 = 21 ∧ inR v1 (hN h b3))).bind fun _ =>
    some (hI h b3 v1.toNatClampNeg, h)
  else
    if x4 = 1 then
      (hG h 1357 t).bind fun b7 =>
      (ck (hK h b7 = 21 ∧ inR v1 (hN h b7))).bind fun _ =>
      some (hI h b7 v1.toNatClampNeg, h)
    else
      if x4 = 2 then
        (hG h 1358 t).bind fun b11 =>
        (ck (hK h b11 = 21 ∧ inR v1 (hN h b11))).bind fun _ =>
        some (hI h b11 v1.toNatClampNeg, h)
      else
        (hG h 1307 t).bind fun b14 =>
        (ck (hK h b14 = 21 ∧ inR (((22 * x1) + (11 * (1 - (x2 - x2 / 2 * 2)))) + x3) (hN h b14))).bind fun _ =>
        some (hI h b14 (((22 * x1) + (11 * (1 - (x2 - x2 / 2 * 2)))) + x3).toNatClampNeg, h)

def F_X12_bats_35 (t : Nat) (h : aH) : Option (Int32 × aH) :=
  (ck (hK h t = 14)).bind fun _ =>
  (F_X12_fail t h).bind fun q5 =>
  bd q5.1 fun z4 =>
  bd q5.2 fun h3 =>
  some (z4, h3)

def F_X12_bats (t : Nat) (x1 : Int32) (x2 : Int32) (x3 : Int32) (x4 : Int32) (h : aH) : Option (Int32 × aH) :=
  bd (sF h 1300 t 0) fun h1 =>
  (F_X12_isTurn t x1 x2 h1).bind fun q6 =>
  bd q6.1 fun z5 =>
  bd q6.2 fun h4 =>
  if z5 = 0 then
    F_X12_bats_35 t h4
  else
    if x3 < 0 then
      F_X12_bats_35 t h4
    else
      if 10 < x3 then
        F_X12_bats_35 t h4
      else
        if x4 < 0 then
          F_X12_bats_35 t h4
        else
          if x4 ≤ 3 then
            (ck (hK h4 t = 14)).bind fun _ =>
            (F_X12_play t x1 h4).bind fun h14 =>
            (ck (hK h14 t = 14)).bind fun _ =>
            (F_X12_batsOf t x1 x2 x3 x4 h14).bind fun q20 =>
            bd q20.1 fun z19 =>
            bd q20.2 fun h18 =>
            some (z19, h18)
          else
            F_X12_bats_35 t h4

def F_X12_fields_35 (t : Nat) (h : aH) : Option (Int32 × aH) :=
  (ck (hK h t = 14)).bind fun _ =>
  (F_X12_fail t h).bind fun q5 =>
  bd q5.1 fun z4 =>
  bd q5.2 fun h3 =>
  some (z4, h3)

def F_X12_fields (t : Nat) (x1 : Int32) (x2 : Int32) (x3 : Int32) (x4 : Int32) (h : aH) : Option (Int32 × aH) :=
  bd (sF h 1300 t 0) fun h1 =>
  (F_X12_isTurn t x1 x2 h1).bind fun q6 =>
  bd q6.1 fun z5 =>
  bd q6.2 fun h4 =>
  if z5 = 0 then
    F_X12_fields_35 t h4
  else
    if x3 < 0 then
      F_X12_fields_35 t h4
    else
      if 10 < x3 then
        F_X12_fields_35 t h4
      else
        if x4 < 0 then
          F_X12_fields_35 t h4
        else
          if x4 ≤ 3 then
            (ck (hK h4 t = 14)).bind fun _ =>
            (F_X12_play t x1 h4).bind fun h14 =>
            (ck (hK h14 t = 14)).bind fun _ =>
            (F_X12_fieldsOf t x1 x2 x3 x4 h14).bind fun q20 =>
            bd q20.1 fun z19 =>
            bd q20.2 fun h18 =>
            some (z19, h18)
          else
            F_X12_fields_35 t h4

def F_X12_better (t : Nat) (x1 : Int32) (x2 : Int32) (x3 : Int32) (x4 : Int32) (x5 : Int32) (x6 : Int32) (h : aH) : Option (aH) :=
  (hG h 1367 t).bind fun b1 =>
  (ck (hK h b1 = 21 ∧ inR 0 (hN h b1))).bind fun _ =>
  bd (sI h b1 (0 : Int32).toNatClampNeg x1) fun h4 =>
  (hG h4 1367 t).bind fun b6 =>
  (ck (hK h4 b6 = 21 ∧ inR 1 (hN h4 b6))).bind fun _ =>
  bd (sI h4 b6 (1 : Int32).toNatClampNeg x2) fun h9 =>
  (hG h9 1367 t).bind fun b11 =>
  (ck (hK h9 b11 = 21 ∧ inR 2 (hN h9 b11))).bind fun _ =>
  bd (sI h9 b11 (2 : Int32).toNatClampNeg x3) fun h14 =>
  (hG h14 1367 t).bind fun b16 =>
  (ck (hK h14 b16 = 21 ∧ inR 3 (hN h14 b16))).bind fun _ =>
  bd (sI h14 b16 (3 : Int32).toNatClampNeg x4) fun h19 =>
  (hG h19 1367 t).bind fun b21 =>
  (ck (hK h19 b21 = 21 ∧ inR 4 (hN h19 b21))).bind fun _ =>
  bd (sI h19 b21 (4 : Int32).toNatClampNeg x5) fun h24 =>
  (hG h24 1367 t).bind fun b26 =>
  (ck (hK h24 b26 = 21 ∧ inR 5 (hN h24 b26))).bind fun _ =>
  bd (sI h24 b26 (5 : Int32).toNatClampNeg x6) fun h29 =>
  some h29

def F_X12_recordOf_254 (k7 : Nat → Int32 → Int32 → Int32 → aH → Option (aH)) (k95 : Nat → Int32 → Int32 → Int32 → Int32 → Int32 → Int32 → aH → Option (aH)) (t : Nat) (x1 : Int32) (x2 : Int32) (x3 : Int32) (x4 : Int32) (x5 : Int32) (x6 : Int32) (x7 : Int32) (x8 : Int32) (h : aH) : Option (aH) :=
  (ck (hK h t = 14)).bind fun _ =>
  (hG h 1368 t).bind fun b2 =>
  (ck (hK h b2 = 21 ∧ inR ((30 * x4) + x8) (hN h b2))).bind fun _ =>
  (hG h 1353 t).bind fun b5 =>
  (ck (hK h b5 = 21 ∧ inR x7 (hN h b5))).bind fun _ =>
  bd (sI h b2 ((30 * x4) + x8).toNatClampNeg ((hI h b2 ((30 * x4) + x8).toNatClampNeg) + (hI h b5 x7.toNatClampNeg))) fun h8 =>
  bd (x6 + 1) fun v10 =>
  k95 t x1 x2 x3 x4 x5 v10 h8

def F_X12_recordOf_223 (k7 : Nat → Int32 → Int32 → Int32 → aH → Option (aH)) (k95 : Nat → Int32 → Int32 → Int32 → Int32 → Int32 → Int32 → aH → Option (aH)) (t : Nat) (x1 : Int32) (x2 : Int32) (x3 : Int32) (x4 : Int32) (x5 : Int32) (x6 : Int32) (x7 : Int32) (x8 : Int32) (h : aH) : Option (aH) :=
  (ck (hK h t = 14)).bind fun _ =>
  (hG h 1358 t).bind fun b2 =>
  (ck (hK h b2 = 21 ∧ inR x7 (hN h b2))).bind fun _ =>
  (F_X12_fieldsOf t x2 x3 x6 3 h).bind fun q8 =>
  bd q8.1 fun z7 =>
  bd q8.2 fun h6 =>
  (ck (hK h6 t = 14)).bind fun _ =>
  (hG h6 1357 t).bind fun b10 =>
  (ck (hK h6 b10 = 21 ∧ inR x7 (hN h6 b10))).bind fun _ =>
  (F_X12_better t (hI h b2 x7.toNatClampNeg) x2 x3 x5 z7 (hI h6 b10 x7.toNatClampNeg) h6).bind fun h14 =>
  F_X12_recordOf_254 k7 k95 t x1 x2 x3 x4 x5 x6 x7 x8 h14

def F_X12_recordOf_160 (k7 : Nat → Int32 → Int32 → Int32 → aH → Option (aH)) (k95 : Nat → Int32 → Int32 → Int32 → Int32 → Int32 → Int32 → aH → Option (aH)) (t : Nat) (x1 : Int32) (x2 : Int32) (x3 : Int32) (x4 : Int32) (x5 : Int32) (x6 : Int32) (x7 : Int32) (x8 : Int32) (h : aH) : Option (aH) :=
  if x1 = 1 then
    (ck (hK h t = 14)).bind fun _ =>
    (hG h 1356 t).bind fun b3 =>
    (ck (hK h b3 = 21 ∧ inR x7 (hN h b3))).bind fun _ =>
    if hI h b3 x7.toNatClampNeg ≤ 0 then
      F_X12_recordOf_254 k7 k95 t x1 x2 x3 x4 x5 x6 x7 x8 h
    else
      (hG h 1358 t).bind fun b7 =>
      (ck (hK h b7 = 21 ∧ inR x7 (hN h b7))).bind fun _ =>
      (hG h 1367 t).bind fun b10 =>
      (ck (hK h b10 = 21 ∧ inR 0 (hN h b10))).bind fun _ =>
      if hI h b10 (0 : Int32).toNatClampNeg < hI h b7 x7.toNatClampNeg then
        F_X12_recordOf_223 k7 k95 t x1 x2 x3 x4 x5 x6 x7 x8 h
      else
        (hG h 1358 t).bind fun b14 =>
        (ck (hK h b14 = 21 ∧ inR x7 (hN h b14))).bind fun _ =>
        (hG h 1367 t).bind fun b17 =>
        (ck (hK h b17 = 21 ∧ inR 0 (hN h b17))).bind fun _ =>
        if hI h b14 x7.toNatClampNeg = hI h b17 (0 : Int32).toNatClampNeg then
          (hG h 1357 t).bind fun b21 =>
          (ck (hK h b21 = 21 ∧ inR x7 (hN h b21))).bind fun _ =>
          (hG h 1367 t).bind fun b24 =>
          (ck (hK h b24 = 21 ∧ inR 5 (hN h b24))).bind fun _ =>
          if hI h b24 (5 : Int32).toNatClampNeg ≤ hI h b21 x7.toNatClampNeg then
            F_X12_recordOf_254 k7 k95 t x1 x2 x3 x4 x5 x6 x7 x8 h
          else
            F_X12_recordOf_223 k7 k95 t x1 x2 x3 x4 x5 x6 x7 x8 h
        else
          F_X12_recordOf_254 k7 k95 t x1 x2 x3 x4 x5 x6 x7 x8 h
  else
    F_X12_recordOf_254 k7 k95 t x1 x2 x3 x4 x5 x6 x7 x8 h

def F_X12_recordOf_95 (k7 : Nat → Int32 → Int32 → Int32 → aH → Option (aH)) : Nat → Nat → Int32 → Int32 → Int32 → Int32 → Int32 → Int32 → aH → Option (aH)
  | 0, _, _, _, _, _, _, _, _ => none
  | n + 1, t, x1, x2, x3, x4, x5, x6, h =>
  if 11 ≤ x6 then
    bd (x3 + 1) fun v2 =>
    k7 t x1 x2 v2 h
  else
    bd ((11 * x3) + x6) fun v3 =>
    (ck (hK h t = 14)).bind fun _ =>
    (F_X12_batsOf t x2 x3 x6 3 h).bind fun q8 =>
    bd q8.1 fun z7 =>
    bd q8.2 fun h6 =>
    if x1 = 0 then
      (ck (hK h6 t = 14)).bind fun _ =>
      (hG h6 1353 t).bind fun b11 =>
      (ck (hK h6 b11 = 21 ∧ inR v3 (hN h6 b11))).bind fun _ =>
      (hG h6 1367 t).bind fun b14 =>
      (ck (hK h6 b14 = 21 ∧ inR 0 (hN h6 b14))).bind fun _ =>
      if hI h6 b11 v3.toNatClampNeg ≤ hI h6 b14 (0 : Int32).toNatClampNeg then
        F_X12_recordOf_160 k7 (F_X12_recordOf_95 k7 n) t x1 x2 x3 x4 x5 x6 v3 z7 h6
      else
        (hG h6 1353 t).bind fun b18 =>
        (ck (hK h6 b18 = 21 ∧ inR v3 (hN h6 b18))).bind fun _ =>
        (F_X12_better t (hI h6 b18 v3.toNatClampNeg) x2 x3 x4 z7 0 h6).bind fun h22 =>
        F_X12_recordOf_160 k7 (F_X12_recordOf_95 k7 n) t x1 x2 x3 x4 x5 x6 v3 z7 h22
    else
      F_X12_recordOf_160 k7 (F_X12_recordOf_95 k7 n) t x1 x2 x3 x4 x5 x6 v3 z7 h6

def F_X12_recordOf_92 (k7 : Nat → Int32 → Int32 → Int32 → aH → Option (aH)) (t : Nat) (x1 : Int32) (x2 : Int32) (x3 : Int32) (x4 : Int32) (x5 : Int32) (h : aH) : Option (aH) :=
  F_X12_recordOf_95 k7 fu t x1 x2 x3 x4 x5 0 h

def F_X12_recordOf_7 : Nat → Nat → Int32 → Int32 → Int32 → aH → Option (aH)
  | 0, _, _, _, _, _ => none
  | n + 1, t, x1, x2, x3, h =>
  (ck (hK h t = 14)).bind fun _ =>
  (hG h 1308 t).bind fun b2 =>
  (ck (hK h b2 = 21 ∧ inR x2 (hN h b2))).bind fun _ =>
  if hI h b2 x2.toNatClampNeg ≤ x3 then
    some h
  else
    (hG h 1352 t).bind fun b6 =>
    (ck (hK h b6 = 22 ∧ inR x3 (hN h b6))).bind fun _ =>
    if hI h b6 x3.toNatClampNeg = 0 then
      some h
    else
      (hG h 1304 t).bind fun b10 =>
      (ck (hK h b10 = 21 ∧ inR ((2 * x2) + (x3 - x3 / 2 * 2)) (hN h b10))).bind fun _ =>
      bd (hI h b10 ((2 * x2) + (x3 - x3 / 2 * 2)).toNatClampNeg) fun v13 =>
      (hG h 1304 t).bind fun b14 =>
      (ck (hK h b14 = 21 ∧ inR (((2 * x2) + 1) - (x3 - x3 / 2 * 2)) (hN h b14))).bind fun _ =>
      bd (hI h b14 (((2 * x2) + 1) - (x3 - x3 / 2 * 2)).toNatClampNeg) fun v17 =>
      if x1 = 2 then
        (hG h 1335 t).bind fun b19 =>
        (ck (hK h b19 = 21 ∧ inR x3 (hN h b19))).bind fun _ =>
        (hG h 1367 t).bind fun b22 =>
        (ck (hK h b22 = 21 ∧ inR 0 (hN h b22))).bind fun _ =>
        if hI h b19 x3.toNatClampNeg ≤ hI h b22 (0 : Int32).toNatClampNeg then
          F_X12_recordOf_92 (F_X12_recordOf_7 n) t x1 x2 x3 v13 v17 h
        else
          (hG h 1335 t).bind fun b26 =>
          (ck (hK h b26 = 21 ∧ inR x3 (hN h b26))).bind fun _ =>
          (F_X12_better t (hI h b26 x3.toNatClampNeg) x2 x3 v13 ((-1)) 0 h).bind fun h30 =>
          F_X12_recordOf_92 (F_X12_recordOf_7 n) t x1 x2 x3 v13 v17 h30
      else
        F_X12_recordOf_92 (F_X12_recordOf_7 n) t x1 x2 x3 v13 v17 h

def F_X12_recordOf (t : Nat) (x1 : Int32) (x2 : Int32) (h : aH) : Option (aH) :=
  (F_X12_play t x2 h).bind fun h2 =>
  F_X12_recordOf_7 fu t x1 x2 0 h2

def F_X12_record_154 (k84 : Nat → Int32 → Int32 → Int32 → aH → Option (Int32 × aH)) (k100 : Nat → Int32 → Int32 → Int32 → Int32 → aH → Option (Int32 × aH)) (t : Nat) (x1 : Int32) (x2 : Int32) (x3 : Int32) (x4 : Int32) (h : aH) : Option (Int32 × aH) :=
  bd (x4 + 1) fun v1 =>
  k100 t x1 x2 x3 v1 h

def F_X12_record_100 (k84 : Nat → Int32 → Int32 → Int32 → aH → Option (Int32 × aH)) : Nat → Nat → Int32 → Int32 → Int32 → Int32 → aH → Option (Int32 × aH)
  | 0, _, _, _, _, _, _ => none
  | n + 1, t, x1, x2, x3, x4, h =>
  (ck (hK h t = 14)).bind fun _ =>
  (hG h 1303 t).bind fun b2 =>
  (ck (hK h b2 = 21 ∧ inR x3 (hN h b2))).bind fun _ =>
  if hI h b2 x3.toNatClampNeg ≤ x4 then
    bd (x3 + 1) fun v6 =>
    k84 t x1 x2 v6 h
  else
    (hG h 1368 t).bind fun b7 =>
    (ck (hK h b7 = 21 ∧ inR ((30 * x3) + x4) (hN h b7))).bind fun _ =>
    (hG h 1367 t).bind fun b10 =>
    (ck (hK h b10 = 21 ∧ inR 0 (hN h b10))).bind fun _ =>
    if hI h b7 ((30 * x3) + x4).toNatClampNeg ≤ hI h b10 (0 : Int32).toNatClampNeg then
      F_X12_record_154 k84 (F_X12_record_100 k84 n) t x1 x2 x3 x4 h
    else
      (hG h 1368 t).bind fun b14 =>
      (ck (hK h b14 = 21 ∧ inR ((30 * x3) + x4) (hN h b14))).bind fun _ =>
      (F_X12_better t (hI h b14 ((30 * x3) + x4).toNatClampNeg) ((-1)) ((-1)) x3 x4 0 h).bind fun h18 =>
      F_X12_record_154 k84 (F_X12_record_100 k84 n) t x1 x2 x3 x4 h18

def F_X12_record_84 : Nat → Nat → Int32 → Int32 → Int32 → aH → Option (Int32 × aH)
  | 0, _, _, _, _, _ => none
  | n + 1, t, x1, x2, x3, h =>
  (ck (hK h t = 14)).bind fun _ =>
  if hF h 1301 t ≤ x3 then
    (hG h 1367 t).bind fun b3 =>
    (ck (hK h b3 = 21 ∧ inR x2 (hN h b3))).bind fun _ =>
    some (hI h b3 x2.toNatClampNeg, h)
  else
    if x1 = 3 then
      F_X12_record_100 (F_X12_record_84 n) fu t x1 x2 x3 0 h
    else
      (hG h 1367 t).bind fun b7 =>
      (ck (hK h b7 = 21 ∧ inR x2 (hN h b7))).bind fun _ =>
      some (hI h b7 x2.toNatClampNeg, h)

def F_X12_record_62 : Nat → Nat → Int32 → Int32 → Int32 → aH → Option (Int32 × aH)
  | 0, _, _, _, _, _ => none
  | n + 1, t, x1, x2, x3, h =>
  (ck (hK h t = 14)).bind fun _ =>
  if hF h 1302 t ≤ x3 then
    F_X12_record_84 fu t x1 x2 0 h
  else
    (F_X12_recordOf t x1 x3 h).bind fun h4 =>
    bd (x3 + 1) fun v6 =>
    F_X12_record_62 n t x1 x2 v6 h4

def F_X12_record_40 : Nat → Nat → Int32 → Int32 → Int32 → aH → Option (Int32 × aH)
  | 0, _, _, _, _, _ => none
  | n + 1, t, x1, x2, x3, h =>
  if 1800 ≤ x3 then
    F_X12_record_62 fu t x1 x2 0 h
  else
    (ck (hK h t = 14)).bind fun _ =>
    (hG h 1368 t).bind fun b3 =>
    (ck (hK h b3 = 21 ∧ inR x3 (hN h b3))).bind fun _ =>
    bd (sI h b3 x3.toNatClampNeg 0) fun h6 =>
    bd (x3 + 1) fun v8 =>
    F_X12_record_40 n t x1 x2 v8 h6

def F_X12_record_23 (t : Nat) (h : aH) : Option (Int32 × aH) :=
  (ck (hK h t = 14)).bind fun _ =>
  (F_X12_fail t h).bind fun q5 =>
  bd q5.1 fun z4 =>
  bd q5.2 fun h3 =>
  some (z4, h3)

def F_X12_record (t : Nat) (x1 : Int32) (x2 : Int32) (h : aH) : Option (Int32 × aH) :=
  bd (sF h 1300 t 0) fun h1 =>
  if x1 < 0 then
    F_X12_record_23 t h1
  else
    if 3 < x1 then
      F_X12_record_23 t h1
    else
      if x2 < 0 then
        F_X12_record_23 t h1
      else
        if x2 ≤ 5 then
          (F_X12_better t ((-1)) ((-1)) ((-1)) ((-1)) ((-1)) ((-1)) h1).bind fun h8 =>
          F_X12_record_40 fu t x1 x2 0 h8
        else
          F_X12_record_23 t h1

def F_X12_say_20 (t : Nat) (h : aH) : Option (aH) :=
  (ck (hK h t = 14)).bind fun _ =>
  bd (sF h 1318 t ((hF h 1318 t) + 1)) fun h2 =>
  some h2

def F_X12_say (t : Nat) (x1 : Int32) (h : aH) : Option (aH) :=
  if 8000 ≤ hF h 1318 t then
    F_X12_say_20 t h
  else
    (hG h 1317 t).bind fun b2 =>
    (ck (hK h b2 = 21 ∧ inR (hF h 1318 t) (hN h b2))).bind fun _ =>
    bd (sI h b2 (hF h 1318 t).toNatClampNeg x1) fun h5 =>
    F_X12_say_20 t h5

def F_X12_image_194 (k118 : Nat → Int32 → Int32 → aH → Option (Int32 × aH)) (k144 : Nat → Int32 → Int32 → Int32 → aH → Option (Int32 × aH)) : Nat → Nat → Int32 → Int32 → Int32 → Int32 → Int32 → aH → Option (Int32 × aH)
  | 0, _, _, _, _, _, _, _ => none
  | n + 1, t, x1, x2, x3, x4, x5, h =>
  (ck (hK h t = 14)).bind fun _ =>
  (hG h 1313 t).bind fun b2 =>
  (ck (hK h b2 = 21 ∧ inR x4 (hN h b2))).bind fun _ =>
  if hI h b2 x4.toNatClampNeg ≤ x5 then
    bd (x3 + 1) fun v6 =>
    k144 t x1 x2 v6 h
  else
    (hG h 1314 t).bind fun b7 =>
    (ck (hK h b7 = 21 ∧ inR ((40 * x4) + x5) (hN h b7))).bind fun _ =>
    (F_X12_say t (hI h b7 ((40 * x4) + x5).toNatClampNeg) h).bind fun h11 =>
    bd (x5 + 1) fun v13 =>
    F_X12_image_194 k118 k144 n t x1 x2 x3 x4 v13 h11

def F_X12_image_144 (k118 : Nat → Int32 → Int32 → aH → Option (Int32 × aH)) : Nat → Nat → Int32 → Int32 → Int32 → aH → Option (Int32 × aH)
  | 0, _, _, _, _, _ => none
  | n + 1, t, x1, x2, x3, h =>
  (ck (hK h t = 14)).bind fun _ =>
  (hG h 1309 t).bind fun b2 =>
  (ck (hK h b2 = 21 ∧ inR ((4 * x1) + x2) (hN h b2))).bind fun _ =>
  if hI h b2 ((4 * x1) + x2).toNatClampNeg ≤ x3 then
    (hG h 1335 t).bind fun b6 =>
    (ck (hK h b6 = 21 ∧ inR x2 (hN h b6))).bind fun _ =>
    (F_X12_say t (((hI h b6 x2.toNatClampNeg) / 256) - ((hI h b6 x2.toNatClampNeg) / 256) / 256 * 256) h).bind fun h10 =>
    (ck (hK h10 t = 14)).bind fun _ =>
    (hG h10 1335 t).bind fun b13 =>
    (ck (hK h10 b13 = 21 ∧ inR x2 (hN h10 b13))).bind fun _ =>
    (F_X12_say t ((hI h10 b13 x2.toNatClampNeg) - (hI h10 b13 x2.toNatClampNeg) / 256 * 256) h10).bind fun h17 =>
    bd (x2 + 1) fun v19 =>
    k118 t x1 v19 h17
  else
    (F_X12_rowOf t x1 x2 x3 h).bind fun q23 =>
    bd q23.1 fun z22 =>
    bd q23.2 fun h21 =>
    (ck (hK h21 t = 14)).bind fun _ =>
    (hG h21 1312 t).bind fun b25 =>
    (ck (hK h21 b25 = 21 ∧ inR z22 (hN h21 b25))).bind fun _ =>
    (F_X12_say t (hI h21 b25 z22.toNatClampNeg) h21).bind fun h29 =>
    (ck (hK h29 t = 14)).bind fun _ =>
    (hG h29 1313 t).bind fun b32 =>
    (ck (hK h29 b32 = 21 ∧ inR z22 (hN h29 b32))).bind fun _ =>
    (F_X12_say t ((hI h29 b32 z22.toNatClampNeg) + 1) h29).bind fun h36 =>
    F_X12_image_194 k118 (F_X12_image_144 k118 n) fu t x1 x2 x3 z22 0 h36

def F_X12_image_118 : Nat → Nat → Int32 → Int32 → aH → Option (Int32 × aH)
  | 0, _, _, _, _ => none
  | n + 1, t, x1, x2, h =>
  (ck (hK h t = 14)).bind fun _ =>
  (hG h 1308 t).bind fun b2 =>
  (ck (hK h b2 = 21 ∧ inR x1 (hN h b2))).bind fun _ =>
  if hI h b2 x1.toNatClampNeg ≤ x2 then
    if hF h 1318 t ≤ 8000 then
      some (hF h 1318 t, h)
    else
      bd (sF h 1318 t 0) fun h7 =>
      some ((-1), h7)
  else
    (hG h 1309 t).bind fun b9 =>
    (ck (hK h b9 = 21 ∧ inR ((4 * x1) + x2) (hN h b9))).bind fun _ =>
    (F_X12_say t (hI h b9 ((4 * x1) + x2).toNatClampNeg) h).bind fun h13 =>
    F_X12_image_144 (F_X12_image_118 n) fu t x1 x2 0 h13

def F_X12_image_79 : Nat → Nat → Int32 → Int32 → aH → Option (Int32 × aH)
  | 0, _, _, _, _ => none
  | n + 1, t, x1, x2, h =>
  if 22 ≤ x2 then
    (ck (hK h t = 14)).bind fun _ =>
    (hG h 1308 t).bind fun b3 =>
    (ck (hK h b3 = 21 ∧ inR x1 (hN h b3))).bind fun _ =>
    (F_X12_say t (hI h b3 x1.toNatClampNeg) h).bind fun h7 =>
    F_X12_image_118 fu t x1 0 h7
  else
    (ck (hK h t = 14)).bind fun _ =>
    (hG h 1307 t).bind fun b10 =>
    (ck (hK h b10 = 21 ∧ inR ((22 * x1) + x2) (hN h b10))).bind fun _ =>
    (F_X12_say t (hI h b10 ((22 * x1) + x2).toNatClampNeg) h).bind fun h14 =>
    bd (x2 + 1) fun v16 =>
    F_X12_image_79 n t x1 v16 h14

def F_X12_image (t : Nat) (x1 : Int32) (h : aH) : Option (Int32 × aH) :=
  bd (sF h 1300 t 0) fun h1 =>
  (F_X12_isGame t x1 h1).bind fun q6 =>
  bd q6.1 fun z5 =>
  bd q6.2 fun h4 =>
  if z5 = 0 then
    some ((-1), h4)
  else
    (ck (hK h4 t = 14)).bind fun _ =>
    (F_X12_play t x1 h4).bind fun h10 =>
    (ck (hK h10 t = 14)).bind fun _ =>
    bd (sF h10 1318 t 0) fun h13 =>
    (F_X12_say t 66 h13).bind fun h16 =>
    (ck (hK h16 t = 14)).bind fun _ =>
    (hG h16 1304 t).bind fun b19 =>
    (ck (hK h16 b19 = 21 ∧ inR (2 * x1) (hN h16 b19))).bind fun _ =>
    (F_X12_say t (hI h16 b19 (2 * x1).toNatClampNeg) h16).bind fun h23 =>
    (ck (hK h23 t = 14)).bind fun _ =>
    (hG h23 1304 t).bind fun b26 =>
    (ck (hK h23 b26 = 21 ∧ inR ((2 * x1) + 1) (hN h23 b26))).bind fun _ =>
    (F_X12_say t (hI h23 b26 ((2 * x1) + 1).toNatClampNeg) h23).bind fun h30 =>
    (ck (hK h30 t = 14)).bind fun _ =>
    (hG h30 1305 t).bind fun b33 =>
    (ck (hK h30 b33 = 21 ∧ inR x1 (hN h30 b33))).bind fun _ =>
    (F_X12_say t (hI h30 b33 x1.toNatClampNeg) h30).bind fun h37 =>
    (ck (hK h37 t = 14)).bind fun _ =>
    (hG h37 1306 t).bind fun b40 =>
    (ck (hK h37 b40 = 21 ∧ inR x1 (hN h37 b40))).bind fun _ =>
    (F_X12_say t (hI h37 b40 x1.toNatClampNeg) h37).bind fun h44 =>
    F_X12_image_79 fu t x1 0 h44

def F_X12_told_17 (t : Nat) (h : aH) : Option (Int32 × aH) :=
  (ck (hK h t = 14)).bind fun _ =>
  (F_X12_fail t h).bind fun q5 =>
  bd q5.1 fun z4 =>
  bd q5.2 fun h3 =>
  some (z4, h3)

def F_X12_told (t : Nat) (x1 : Int32) (h : aH) : Option (Int32 × aH) :=
  bd (sF h 1300 t 0) fun h1 =>
  if x1 < 0 then
    F_X12_told_17 t h1
  else
    if x1 < hF h1 1318 t then
      (hG h1 1317 t).bind fun b5 =>
      (ck (hK h1 b5 = 21 ∧ inR x1 (hN h1 b5))).bind fun _ =>
      some (hI h1 b5 x1.toNatClampNeg, h1)
    else
      F_X12_told_17 t h1

def F_X12_read_46 (t : Nat) (x1 : Int32) (h : aH) : Option (Int32 × aH) :=
  (ck (hK h t = 14)).bind fun _ =>
  bd (sF h 1369 t 1) fun h2 =>
  some (x1, h2)

def F_X12_read (t : Nat) (x1 : Int32) (x2 : Int32) (h : aH) : Option (Int32 × aH) :=
  if hF h 1369 t = 0 then
    if hF h 1365 t = hF h 1366 t then
      F_X12_read_46 t x1 h
    else
      (hG h 1315 t).bind fun b3 =>
      (ck (hK h b3 = 21 ∧ inR (hF h 1365 t) (hN h b3))).bind fun _ =>
      if hI h b3 (hF h 1365 t).toNatClampNeg < x1 then
        F_X12_read_46 t x1 h
      else
        (hG h 1315 t).bind fun b7 =>
        (ck (hK h b7 = 21 ∧ inR (hF h 1365 t) (hN h b7))).bind fun _ =>
        if hI h b7 (hF h 1365 t).toNatClampNeg ≤ x2 then
          bd (sF h 1365 t ((hF h 1365 t) + 1)) fun h11 =>
          (hG h11 1315 t).bind fun b13 =>
          (ck (hK h11 b13 = 21 ∧ inR ((hF h11 1365 t) - 1) (hN h11 b13))).bind fun _ =>
          some (hI h11 b13 ((hF h11 1365 t) - 1).toNatClampNeg, h11)
        else
          F_X12_read_46 t x1 h
  else
    some (x1, h)

def F_X12_readPlayer_85 (t : Nat) (x1 : Int32) (x2 : Int32) (x3 : Int32) (h : aH) : Option (aH) :=
  (ck (hK h t = 14)).bind fun _ =>
  (hG h 1307 t).bind fun b2 =>
  (ck (hK h b2 = 21 ∧ inR ((22 * x1) + x2) (hN h b2))).bind fun _ =>
  bd (sI h b2 ((22 * x1) + x2).toNatClampNeg x3) fun h5 =>
  some h5

def F_X12_readPlayer_79 (k35 : Nat → Int32 → Int32 → Int32 → Int32 → aH → Option (aH)) (t : Nat) (x1 : Int32) (x2 : Int32) (x3 : Int32) (x4 : Int32) (h : aH) : Option (aH) :=
  bd (x4 + 1) fun v1 =>
  k35 t x1 x2 x3 v1 h

def F_X12_readPlayer_35 : Nat → Nat → Int32 → Int32 → Int32 → Int32 → aH → Option (aH)
  | 0, _, _, _, _, _, _ => none
  | n + 1, t, x1, x2, x3, x4, h =>
  if x2 ≤ x4 then
    F_X12_readPlayer_85 t x1 x2 x3 h
  else
    (ck (hK h t = 14)).bind fun _ =>
    if hF h 1369 t = 0 then
      (hG h 1307 t).bind fun b4 =>
      (ck (hK h b4 = 21 ∧ inR ((22 * x1) + x4) (hN h b4))).bind fun _ =>
      if hI h b4 ((22 * x1) + x4).toNatClampNeg = x3 then
        bd (sF h 1369 t 1) fun h8 =>
        bd (sF h8 1365 t ((hF h8 1365 t) - 1)) fun h10 =>
        F_X12_readPlayer_79 (F_X12_readPlayer_35 n) t x1 x2 x3 x4 h10
      else
        F_X12_readPlayer_79 (F_X12_readPlayer_35 n) t x1 x2 x3 x4 h
    else
      F_X12_readPlayer_85 t x1 x2 x3 h

def F_X12_readPlayer (t : Nat) (x1 : Int32) (x2 : Int32) (h : aH) : Option (aH) :=
  (hG h 1303 t).bind fun b1 =>
  (hG h 1304 t).bind fun b3 =>
  (ck (hK h b3 = 21 ∧ inR ((2 * x1) + (x2 / 11)) (hN h b3))).bind fun _ =>
  (ck (hK h b1 = 21 ∧ inR (hI h b3 ((2 * x1) + (x2 / 11)).toNatClampNeg) (hN h b1))).bind fun _ =>
  (F_X12_read t 0 ((hI h b1 (hI h b3 ((2 * x1) + (x2 / 11)).toNatClampNeg).toNatClampNeg) - 1) h).bind fun q10 =>
  bd q10.1 fun z9 =>
  bd q10.2 fun h8 =>
  bd ((x2 / 11) * 11) fun v11 =>
  F_X12_readPlayer_35 fu t x1 x2 z9 v11 h8

def F_X12_readTurn_155 (t : Nat) (x2 : Int32) (h : aH) : Option (aH) :=
  (ck (hK h t = 14)).bind fun _ =>
  (hG h 1370 t).bind fun b2 =>
  (F_X12_read t 0 255 h).bind fun q7 =>
  bd q7.1 fun z6 =>
  bd q7.2 fun h5 =>
  (ck (hK h5 t = 14)).bind fun _ =>
  (F_X12_read t 0 255 h5).bind fun q12 =>
  bd q12.1 fun z11 =>
  bd q12.2 fun h10 =>
  (ck (hK h10 b2 = 21 ∧ inR x2 (hN h10 b2))).bind fun _ =>
  bd (sI h10 b2 x2.toNatClampNeg ((256 * z6) + z11)) fun h14 =>
  some h14

def F_X12_readTurn_116 (k23 : Nat → Int32 → Int32 → Int32 → Int32 → aH → Option (aH)) (t : Nat) (x1 : Int32) (x2 : Int32) (x3 : Int32) (x4 : Int32) (x5 : Int32) (h : aH) : Option (aH) :=
  (ck (hK h t = 14)).bind fun _ =>
  (hG h 1310 t).bind fun b2 =>
  (ck (hK h b2 = 21 ∧ inR ((130 * ((4 * x1) + x2)) + x4) (hN h b2))).bind fun _ =>
  bd (sI h b2 ((130 * ((4 * x1) + x2)) + x4).toNatClampNeg x5) fun h5 =>
  (hG h5 1309 t).bind fun b7 =>
  (ck (hK h5 b7 = 21 ∧ inR ((4 * x1) + x2) (hN h5 b7))).bind fun _ =>
  bd (sI h5 b7 ((4 * x1) + x2).toNatClampNeg ((hI h5 b7 ((4 * x1) + x2).toNatClampNeg) + 1)) fun h10 =>
  bd (x4 + 1) fun v12 =>
  k23 t x1 x2 x3 v12 h10

def F_X12_readTurn_73 (k23 : Nat → Int32 → Int32 → Int32 → Int32 → aH → Option (aH)) : Nat → Nat → Int32 → Int32 → Int32 → Int32 → Int32 → Int32 → Int32 → aH → Option (aH)
  | 0, _, _, _, _, _, _, _, _, _ => none
  | n + 1, t, x1, x2, x3, x4, x5, x6, x7, h =>
  if x6 - 1 ≤ x7 then
    F_X12_readTurn_116 k23 t x1 x2 x3 x4 x5 h
  else
    (ck (hK h t = 14)).bind fun _ =>
    if hF h 1369 t = 0 then
      (hG h 1314 t).bind fun b4 =>
      (F_X12_read t 0 255 h).bind fun q9 =>
      bd q9.1 fun z8 =>
      bd q9.2 fun h7 =>
      (ck (hK h7 b4 = 21 ∧ inR ((40 * x5) + x7) (hN h7 b4))).bind fun _ =>
      bd (sI h7 b4 ((40 * x5) + x7).toNatClampNeg z8) fun h11 =>
      bd (x7 + 1) fun v12 =>
      F_X12_readTurn_73 k23 n t x1 x2 x3 x4 x5 x6 v12 h11
    else
      F_X12_readTurn_116 k23 t x1 x2 x3 x4 x5 h

def F_X12_readTurn_23 : Nat → Nat → Int32 → Int32 → Int32 → Int32 → aH → Option (aH)
  | 0, _, _, _, _, _, _ => none
  | n + 1, t, x1, x2, x3, x4, h =>
  if x3 ≤ x4 then
    F_X12_readTurn_155 t x2 h
  else
    (ck (hK h t = 14)).bind fun _ =>
    if hF h 1369 t = 0 then
      (F_X12_read t 0 15 h).bind fun q7 =>
      bd q7.1 fun z6 =>
      bd q7.2 fun h5 =>
      (ck (hK h5 t = 14)).bind fun _ =>
      (F_X12_newRow t z6 0 h5).bind fun q12 =>
      bd q12.1 fun z11 =>
      bd q12.2 fun h10 =>
      (ck (hK h10 t = 14)).bind fun _ =>
      (F_X12_read t 0 41 h10).bind fun q17 =>
      bd q17.1 fun z16 =>
      bd q17.2 fun h15 =>
      (ck (hK h15 t = 14)).bind fun _ =>
      (hG h15 1313 t).bind fun b19 =>
      (ck (hK h15 b19 = 21 ∧ inR z11 (hN h15 b19))).bind fun _ =>
      bd (sI h15 b19 z11.toNatClampNeg (z16 - 1)) fun h22 =>
      F_X12_readTurn_73 (F_X12_readTurn_23 n) fu t x1 x2 x3 x4 z11 z16 0 h22
    else
      F_X12_readTurn_155 t x2 h

def F_X12_readTurn (t : Nat) (x1 : Int32) (x2 : Int32) (h : aH) : Option (aH) :=
  (F_X12_read t 0 130 h).bind fun q4 =>
  bd q4.1 fun z3 =>
  bd q4.2 fun h2 =>
  (ck (hK h2 t = 14)).bind fun _ =>
  (hG h2 1309 t).bind fun b6 =>
  (ck (hK h2 b6 = 21 ∧ inR ((4 * x1) + x2) (hN h2 b6))).bind fun _ =>
  bd (sI h2 b6 ((4 * x1) + x2).toNatClampNeg 0) fun h9 =>
  F_X12_readTurn_23 fu t x1 x2 z3 0 h9

def F_X12_placeWrong_229 (k11 : Nat → Int32 → Int32 → Int32 → Int32 → Int32 → aH → Option (Int32 × aH)) (t : Nat) (x1 : Int32) (x2 : Int32) (x3 : Int32) (x4 : Int32) (x5 : Int32) (h : aH) : Option (Int32 × aH) :=
  bd (x2 + 2) fun v1 =>
  bd (x5 + 1) fun v2 =>
  k11 t x1 v1 x3 x4 v2 h

def F_X12_placeWrong_194 (k11 : Nat → Int32 → Int32 → Int32 → Int32 → Int32 → aH → Option (Int32 × aH)) (t : Nat) (x1 : Int32) (x2 : Int32) (x3 : Int32) (x4 : Int32) (x5 : Int32) (h : aH) : Option (Int32 × aH) :=
  if x4 = 0 then
    (ck (hK h t = 14)).bind fun _ =>
    (hG h 1370 t).bind fun b3 =>
    (ck (hK h b3 = 21 ∧ inR x5 (hN h b3))).bind fun _ =>
    (hG h 1335 t).bind fun b6 =>
    (ck (hK h b6 = 21 ∧ inR x5 (hN h b6))).bind fun _ =>
    if (hI h b3 x5.toNatClampNeg) - (hI h b3 x5.toNatClampNeg) / 256 * 256 = (hI h b6 x5.toNatClampNeg) - (hI h b6 x5.toNatClampNeg) / 256 * 256 then
      F_X12_placeWrong_229 k11 t x1 x2 x3 x4 x5 h
    else
      bd (x2 + 2) fun v10 =>
      F_X12_placeWrong_229 k11 t x1 x2 x3 v10 x5 h
  else
    F_X12_placeWrong_229 k11 t x1 x2 x3 x4 x5 h

def F_X12_placeWrong_133 (k11 : Nat → Int32 → Int32 → Int32 → Int32 → Int32 → aH → Option (Int32 × aH)) (k56 : Nat → Int32 → Int32 → Int32 → Int32 → Int32 → Int32 → aH → Option (Int32 × aH)) (t : Nat) (x1 : Int32) (x2 : Int32) (x3 : Int32) (x4 : Int32) (x5 : Int32) (x6 : Int32) (x7 : Int32) (h : aH) : Option (Int32 × aH) :=
  (ck (hK h t = 14)).bind fun _ =>
  (hG h 1313 t).bind fun b2 =>
  (ck (hK h b2 = 21 ∧ inR x7 (hN h b2))).bind fun _ =>
  bd (if 0 < hI h b2 x7.toNatClampNeg then hI h b2 x7.toNatClampNeg else 0) fun z5 =>
  bd (x2 + (2 + z5)) fun v6 =>
  bd (x6 + 1) fun v7 =>
  k56 t x1 v6 x3 x4 x5 v7 h

def F_X12_placeWrong_132 (k11 : Nat → Int32 → Int32 → Int32 → Int32 → Int32 → aH → Option (Int32 × aH)) (k56 : Nat → Int32 → Int32 → Int32 → Int32 → Int32 → Int32 → aH → Option (Int32 × aH)) (t : Nat) (x1 : Int32) (x2 : Int32) (x4 : Int32) (x5 : Int32) (x6 : Int32) (x7 : Int32) (y0 : Int32) (h : aH) : Option (Int32 × aH) :=
  F_X12_placeWrong_133 k11 k56 t x1 x2 y0 x4 x5 x6 x7 h

def F_X12_placeWrong_56 (k11 : Nat → Int32 → Int32 → Int32 → Int32 → Int32 → aH → Option (Int32 × aH)) : Nat → Nat → Int32 → Int32 → Int32 → Int32 → Int32 → Int32 → aH → Option (Int32 × aH)
  | 0, _, _, _, _, _, _, _, _ => none
  | n + 1, t, x1, x2, x3, x4, x5, x6, h =>
  (ck (hK h t = 14)).bind fun _ =>
  (hG h 1309 t).bind fun b2 =>
  (ck (hK h b2 = 21 ∧ inR ((4 * x1) + x5) (hN h b2))).bind fun _ =>
  if hI h b2 ((4 * x1) + x5).toNatClampNeg ≤ x6 then
    if x4 = 0 then
      (hG h 1370 t).bind fun b7 =>
      (ck (hK h b7 = 21 ∧ inR x5 (hN h b7))).bind fun _ =>
      (hG h 1335 t).bind fun b10 =>
      (ck (hK h b10 = 21 ∧ inR x5 (hN h b10))).bind fun _ =>
      if (hI h b7 x5.toNatClampNeg) / 256 = ((hI h b10 x5.toNatClampNeg) / 256) - ((hI h b10 x5.toNatClampNeg) / 256) / 256 * 256 then
        F_X12_placeWrong_194 k11 t x1 x2 x3 x4 x5 h
      else
        bd (x2 + 1) fun v14 =>
        F_X12_placeWrong_194 k11 t x1 x2 x3 v14 x5 h
    else
      F_X12_placeWrong_194 k11 t x1 x2 x3 x4 x5 h
  else
    (F_X12_rowOf t x1 x5 x6 h).bind fun q18 =>
    bd q18.1 fun z17 =>
    bd q18.2 fun h16 =>
    (ck (hK h16 t = 14)).bind fun _ =>
    if hF h16 1328 t = 0 then
      F_X12_placeWrong_133 k11 (F_X12_placeWrong_56 k11 n) t x1 x2 x3 x4 x5 x6 z17 h16
    else
      if hF h16 1329 t = x5 then
        if hF h16 1330 t = x6 then
          if hF h16 1331 t = (-1) then
            F_X12_placeWrong_132 k11 (F_X12_placeWrong_56 k11 n) t x1 x2 x4 x5 x6 z17 (x2 + 1) h16
          else
            F_X12_placeWrong_132 k11 (F_X12_placeWrong_56 k11 n) t x1 x2 x4 x5 x6 z17 (((x2 + 2) + (hF h16 1331 t)) + 1) h16
        else
          F_X12_placeWrong_133 k11 (F_X12_placeWrong_56 k11 n) t x1 x2 x3 x4 x5 x6 z17 h16
      else
        F_X12_placeWrong_133 k11 (F_X12_placeWrong_56 k11 n) t x1 x2 x3 x4 x5 x6 z17 h16

def F_X12_placeWrong_50 (k11 : Nat → Int32 → Int32 → Int32 → Int32 → Int32 → aH → Option (Int32 × aH)) (t : Nat) (x1 : Int32) (x2 : Int32) (x3 : Int32) (x4 : Int32) (x5 : Int32) (h : aH) : Option (Int32 × aH) :=
  bd (x2 + 1) fun v1 =>
  F_X12_placeWrong_56 k11 fu t x1 v1 x3 x4 x5 0 h

def F_X12_placeWrong_11 : Nat → Nat → Int32 → Int32 → Int32 → Int32 → Int32 → aH → Option (Int32 × aH)
  | 0, _, _, _, _, _, _, _ => none
  | n + 1, t, x1, x2, x3, x4, x5, h =>
  (ck (hK h t = 14)).bind fun _ =>
  (hG h 1308 t).bind fun b2 =>
  (ck (hK h b2 = 21 ∧ inR x1 (hN h b2))).bind fun _ =>
  if hI h b2 x1.toNatClampNeg ≤ x5 then
    if hF h 1328 t = 0 then
      some (x4, h)
    else
      some (x3, h)
  else
    if hF h 1328 t = 0 then
      F_X12_placeWrong_50 (F_X12_placeWrong_11 n) t x1 x2 x3 x4 x5 h
    else
      if hF h 1329 t = x5 then
        if hF h 1330 t = (-1) then
          bd (x2 + 1) fun v10 =>
          F_X12_placeWrong_50 (F_X12_placeWrong_11 n) t x1 x2 v10 x4 x5 h
        else
          F_X12_placeWrong_50 (F_X12_placeWrong_11 n) t x1 x2 x3 x4 x5 h
      else
        F_X12_placeWrong_50 (F_X12_placeWrong_11 n) t x1 x2 x3 x4 x5 h

def F_X12_placeWrong (t : Nat) (x1 : Int32) (h : aH) : Option (Int32 × aH) :=
  F_X12_placeWrong_11 fu t x1 28 0 0 0 h

def F_X12_readImage_248 (t : Nat) (x2 : Int32) (h : aH) : Option (Int32 × aH) :=
  (ck (hK h t = 14)).bind fun _ =>
  if hF h 1369 t = 0 then
    (F_X12_play t x2 h).bind fun h4 =>
    (ck (hK h4 t = 14)).bind fun _ =>
    (F_X12_placeWrong t x2 h4).bind fun q10 =>
    bd q10.1 fun z9 =>
    bd q10.2 fun h8 =>
    some (z9, h8)
  else
    some ((hF h 1365 t) + 1, h)

def F_X12_readImage_228 (t : Nat) (x1 : Int32) (x2 : Int32) (h : aH) : Option (Int32 × aH) :=
  (ck (hK h t = 14)).bind fun _ =>
  if hF h 1369 t = 0 then
    if x1 ≤ hF h 1365 t then
      F_X12_readImage_248 t x2 h
    else
      bd (sF h 1369 t 1) fun h4 =>
      F_X12_readImage_248 t x2 h4
  else
    F_X12_readImage_248 t x2 h

def F_X12_readImage_197 : Nat → Nat → Int32 → Int32 → Int32 → aH → Option (Int32 × aH)
  | 0, _, _, _, _, _ => none
  | n + 1, t, x1, x2, x8, h =>
  (ck (hK h t = 14)).bind fun _ =>
  (hG h 1308 t).bind fun b2 =>
  (ck (hK h b2 = 21 ∧ inR x2 (hN h b2))).bind fun _ =>
  if hI h b2 x2.toNatClampNeg ≤ x8 then
    F_X12_readImage_228 t x1 x2 h
  else
    if hF h 1369 t = 0 then
      (F_X12_readTurn t x2 x8 h).bind fun h8 =>
      bd (x8 + 1) fun v10 =>
      F_X12_readImage_197 n t x1 x2 v10 h8
    else
      F_X12_readImage_228 t x1 x2 h

def F_X12_readImage_164 (t : Nat) (x1 : Int32) (x2 : Int32) (x6 : Int32) (h : aH) : Option (Int32 × aH) :=
  (ck (hK h t = 14)).bind fun _ =>
  (F_X12_read t 0 (2 * x6) h).bind fun q5 =>
  bd q5.1 fun z4 =>
  bd q5.2 fun h3 =>
  (ck (hK h3 t = 14)).bind fun _ =>
  (hG h3 1308 t).bind fun b7 =>
  if hF h3 1369 t = 0 then
    (ck (hK h3 b7 = 21 ∧ inR x2 (hN h3 b7))).bind fun _ =>
    bd (sI h3 b7 x2.toNatClampNeg z4) fun h11 =>
    F_X12_readImage_197 fu t x1 x2 0 h11
  else
    (ck (hK h3 b7 = 21 ∧ inR x2 (hN h3 b7))).bind fun _ =>
    bd (sI h3 b7 x2.toNatClampNeg 0) fun h14 =>
    F_X12_readImage_197 fu t x1 x2 0 h14

def F_X12_readImage_137 : Nat → Nat → Int32 → Int32 → Int32 → Int32 → aH → Option (Int32 × aH)
  | 0, _, _, _, _, _, _ => none
  | n + 1, t, x1, x2, x6, x7, h =>
  if 22 ≤ x7 then
    F_X12_readImage_164 t x1 x2 x6 h
  else
    (ck (hK h t = 14)).bind fun _ =>
    if hF h 1369 t = 0 then
      (F_X12_readPlayer t x2 x7 h).bind fun h5 =>
      bd (x7 + 1) fun v7 =>
      F_X12_readImage_137 n t x1 x2 x6 v7 h5
    else
      F_X12_readImage_164 t x1 x2 x6 h

def F_X12_readImage_82 (t : Nat) (x1 : Int32) (x2 : Int32) (x3 : Int32) (x4 : Int32) (h : aH) : Option (Int32 × aH) :=
  (ck (hK h t = 14)).bind fun _ =>
  (F_X12_read t 1 120 h).bind fun q5 =>
  bd q5.1 fun z4 =>
  bd q5.2 fun h3 =>
  (ck (hK h3 t = 14)).bind fun _ =>
  (F_X12_read t 1 2 h3).bind fun q10 =>
  bd q10.1 fun z9 =>
  bd q10.2 fun h8 =>
  (ck (hK h8 t = 14)).bind fun _ =>
  if hF h8 1369 t = 0 then
    (F_X12_newGame t x3 x4 z4 z9 h8).bind fun h14 =>
    (ck (hK h14 t = 14)).bind fun _ =>
    bd (sF h14 1302 t ((hF h14 1302 t) - 1)) fun h17 =>
    F_X12_readImage_137 fu t x1 x2 z9 0 h17
  else
    some ((hF h8 1365 t) + 1, h8)

def F_X12_readImage (t : Nat) (x1 : Int32) (h : aH) : Option (Int32 × aH) :=
  bd (sF h 1365 t 0) fun h1 =>
  bd (sF h1 1366 t x1) fun h3 =>
  bd (sF h3 1369 t 0) fun h5 =>
  bd (hF h5 1302 t) fun v7 =>
  (F_X12_read t 66 66 h5).bind fun q11 =>
  bd q11.1 fun z10 =>
  bd q11.2 fun h9 =>
  (ck (hK h9 t = 14)).bind fun _ =>
  (F_X12_read t 0 ((hF h9 1301 t) - 1) h9).bind fun q16 =>
  bd q16.1 fun z15 =>
  bd q16.2 fun h14 =>
  (ck (hK h14 t = 14)).bind fun _ =>
  (F_X12_read t 0 ((hF h14 1301 t) - 1) h14).bind fun q21 =>
  bd q21.1 fun z20 =>
  bd q21.2 fun h19 =>
  (ck (hK h19 t = 14)).bind fun _ =>
  if hF h19 1369 t = 0 then
    if z15 = z20 then
      bd (sF h19 1369 t 1) fun h25 =>
      bd (sF h25 1365 t ((hF h25 1365 t) - 1)) fun h27 =>
      F_X12_readImage_82 t x1 v7 z15 z20 h27
    else
      F_X12_readImage_82 t x1 v7 z15 z20 h19
  else
    F_X12_readImage_82 t x1 v7 z15 z20 h19

def F_X12_readFull_309 : Nat → Nat → Int32 → Nat → Int32 → Int32 → aH → Option (Int32 × aH)
  | 0, _, _, _, _, _, _ => none
  | n + 1, t, x2, a3, x4, x5, h =>
  if 520 ≤ x5 then
    some (x4, h)
  else
    (ck (hK h t = 14)).bind fun _ =>
    (hG h 1310 t).bind fun b3 =>
    (ck (hK h a3 = 21 ∧ inR (31 + x5) (hN h a3))).bind fun _ =>
    (ck (hK h b3 = 21 ∧ inR ((520 * x2) + x5) (hN h b3))).bind fun _ =>
    bd (sI h b3 ((520 * x2) + x5).toNatClampNeg (hI h a3 (31 + x5).toNatClampNeg)) fun h7 =>
    bd (x5 + 1) fun v9 =>
    F_X12_readFull_309 n t x2 a3 x4 v9 h7

def F_X12_readFull_276 : Nat → Nat → Int32 → Nat → Int32 → Int32 → aH → Option (Int32 × aH)
  | 0, _, _, _, _, _, _ => none
  | n + 1, t, x2, a3, x4, x5, h =>
  if 4 ≤ x5 then
    F_X12_readFull_309 fu t x2 a3 x4 0 h
  else
    (ck (hK h t = 14)).bind fun _ =>
    (hG h 1309 t).bind fun b3 =>
    (ck (hK h a3 = 21 ∧ inR (27 + x5) (hN h a3))).bind fun _ =>
    (ck (hK h b3 = 21 ∧ inR ((4 * x2) + x5) (hN h b3))).bind fun _ =>
    bd (sI h b3 ((4 * x2) + x5).toNatClampNeg (hI h a3 (27 + x5).toNatClampNeg)) fun h7 =>
    bd (x5 + 1) fun v9 =>
    F_X12_readFull_276 n t x2 a3 x4 v9 h7

def F_X12_readFull_242 : Nat → Nat → Int32 → Nat → Int32 → Int32 → aH → Option (Int32 × aH)
  | 0, _, _, _, _, _, _ => none
  | n + 1, t, x2, a3, x4, x5, h =>
  if 22 ≤ x5 then
    F_X12_readFull_276 fu t x2 a3 x4 0 h
  else
    (ck (hK h t = 14)).bind fun _ =>
    (hG h 1307 t).bind fun b3 =>
    (ck (hK h a3 = 21 ∧ inR (5 + x5) (hN h a3))).bind fun _ =>
    (ck (hK h b3 = 21 ∧ inR ((22 * x2) + x5) (hN h b3))).bind fun _ =>
    bd (sI h b3 ((22 * x2) + x5).toNatClampNeg (hI h a3 (5 + x5).toNatClampNeg)) fun h7 =>
    bd (x5 + 1) fun v9 =>
    F_X12_readFull_242 n t x2 a3 x4 v9 h7

def F_X12_readFull_130 : Nat → Nat → Int32 → Int32 → Nat → Int32 → aH → Option (Int32 × aH)
  | 0, _, _, _, _, _, _ => none
  | n + 1, t, x1, x2, a3, x4, h =>
  if 520 ≤ x4 then
    (ck (hK h t = 14)).bind fun _ =>
    bd (sF h 1302 t ((hF h 1302 t) - 1)) fun h3 =>
    (F_X12_readImage t x1 h3).bind fun q8 =>
    bd q8.1 fun z7 =>
    bd q8.2 fun h6 =>
    (ck (hK h6 t = 14)).bind fun _ =>
    bd (sF h6 1302 t 400) fun h10 =>
    (hG h10 1304 t).bind fun b12 =>
    (ck (hK h10 a3 = 21 ∧ inR 0 (hN h10 a3))).bind fun _ =>
    (ck (hK h10 b12 = 21 ∧ inR (2 * x2) (hN h10 b12))).bind fun _ =>
    bd (sI h10 b12 (2 * x2).toNatClampNeg (hI h10 a3 (0 : Int32).toNatClampNeg)) fun h16 =>
    (hG h16 1304 t).bind fun b18 =>
    (ck (hK h16 a3 = 21 ∧ inR 1 (hN h16 a3))).bind fun _ =>
    (ck (hK h16 b18 = 21 ∧ inR ((2 * x2) + 1) (hN h16 b18))).bind fun _ =>
    bd (sI h16 b18 ((2 * x2) + 1).toNatClampNeg (hI h16 a3 (1 : Int32).toNatClampNeg)) fun h22 =>
    (hG h22 1305 t).bind fun b24 =>
    (ck (hK h22 a3 = 21 ∧ inR 2 (hN h22 a3))).bind fun _ =>
    (ck (hK h22 b24 = 21 ∧ inR x2 (hN h22 b24))).bind fun _ =>
    bd (sI h22 b24 x2.toNatClampNeg (hI h22 a3 (2 : Int32).toNatClampNeg)) fun h28 =>
    (hG h28 1306 t).bind fun b30 =>
    (ck (hK h28 a3 = 21 ∧ inR 3 (hN h28 a3))).bind fun _ =>
    (ck (hK h28 b30 = 21 ∧ inR x2 (hN h28 b30))).bind fun _ =>
    bd (sI h28 b30 x2.toNatClampNeg (hI h28 a3 (3 : Int32).toNatClampNeg)) fun h34 =>
    (hG h34 1308 t).bind fun b36 =>
    (ck (hK h34 a3 = 21 ∧ inR 4 (hN h34 a3))).bind fun _ =>
    (ck (hK h34 b36 = 21 ∧ inR x2 (hN h34 b36))).bind fun _ =>
    bd (sI h34 b36 x2.toNatClampNeg (hI h34 a3 (4 : Int32).toNatClampNeg)) fun h40 =>
    F_X12_readFull_242 fu t x2 a3 z7 0 h40
  else
    (ck (hK h t = 14)).bind fun _ =>
    (hG h 1310 t).bind fun b43 =>
    (ck (hK h b43 = 21 ∧ inR ((520 * x2) + x4) (hN h b43))).bind fun _ =>
    (ck (hK h a3 = 21 ∧ inR (31 + x4) (hN h a3))).bind fun _ =>
    bd (sI h a3 (31 + x4).toNatClampNeg (hI h b43 ((520 * x2) + x4).toNatClampNeg)) fun h47 =>
    bd (x4 + 1) fun v49 =>
    F_X12_readFull_130 n t x1 x2 a3 v49 h47

def F_X12_readFull_97 : Nat → Nat → Int32 → Int32 → Nat → Int32 → aH → Option (Int32 × aH)
  | 0, _, _, _, _, _, _ => none
  | n + 1, t, x1, x2, a3, x4, h =>
  if 4 ≤ x4 then
    F_X12_readFull_130 fu t x1 x2 a3 0 h
  else
    (ck (hK h t = 14)).bind fun _ =>
    (hG h 1309 t).bind fun b3 =>
    (ck (hK h b3 = 21 ∧ inR ((4 * x2) + x4) (hN h b3))).bind fun _ =>
    (ck (hK h a3 = 21 ∧ inR (27 + x4) (hN h a3))).bind fun _ =>
    bd (sI h a3 (27 + x4).toNatClampNeg (hI h b3 ((4 * x2) + x4).toNatClampNeg)) fun h7 =>
    bd (x4 + 1) fun v9 =>
    F_X12_readFull_97 n t x1 x2 a3 v9 h7

def F_X12_readFull_63 : Nat → Nat → Int32 → Int32 → Nat → Int32 → aH → Option (Int32 × aH)
  | 0, _, _, _, _, _, _ => none
  | n + 1, t, x1, x2, a3, x4, h =>
  if 22 ≤ x4 then
    F_X12_readFull_97 fu t x1 x2 a3 0 h
  else
    (ck (hK h t = 14)).bind fun _ =>
    (hG h 1307 t).bind fun b3 =>
    (ck (hK h b3 = 21 ∧ inR ((22 * x2) + x4) (hN h b3))).bind fun _ =>
    (ck (hK h a3 = 21 ∧ inR (5 + x4) (hN h a3))).bind fun _ =>
    bd (sI h a3 (5 + x4).toNatClampNeg (hI h b3 ((22 * x2) + x4).toNatClampNeg)) fun h7 =>
    bd (x4 + 1) fun v9 =>
    F_X12_readFull_63 n t x1 x2 a3 v9 h7

def F_X12_readFull (t : Nat) (x1 : Int32) (h : aH) : Option (Int32 × aH) :=
  (hG h 1371 t).bind fun b1 =>
  (hG h 1304 t).bind fun b3 =>
  (ck (hK h b3 = 21 ∧ inR (2 * 399) (hN h b3))).bind fun _ =>
  (ck (hK h b1 = 21 ∧ inR 0 (hN h b1))).bind fun _ =>
  bd (sI h b1 (0 : Int32).toNatClampNeg (hI h b3 (2 * 399 : Int32).toNatClampNeg)) fun h7 =>
  (hG h7 1304 t).bind fun b9 =>
  (ck (hK h7 b9 = 21 ∧ inR ((2 * 399) + 1) (hN h7 b9))).bind fun _ =>
  (ck (hK h7 b1 = 21 ∧ inR 1 (hN h7 b1))).bind fun _ =>
  bd (sI h7 b1 (1 : Int32).toNatClampNeg (hI h7 b9 ((2 * 399) + 1 : Int32).toNatClampNeg)) fun h13 =>
  (hG h13 1305 t).bind fun b15 =>
  (ck (hK h13 b15 = 21 ∧ inR 399 (hN h13 b15))).bind fun _ =>
  (ck (hK h13 b1 = 21 ∧ inR 2 (hN h13 b1))).bind fun _ =>
  bd (sI h13 b1 (2 : Int32).toNatClampNeg (hI h13 b15 (399 : Int32).toNatClampNeg)) fun h19 =>
  (hG h19 1306 t).bind fun b21 =>
  (ck (hK h19 b21 = 21 ∧ inR 399 (hN h19 b21))).bind fun _ =>
  (ck (hK h19 b1 = 21 ∧ inR 3 (hN h19 b1))).bind fun _ =>
  bd (sI h19 b1 (3 : Int32).toNatClampNeg (hI h19 b21 (399 : Int32).toNatClampNeg)) fun h25 =>
  (hG h25 1308 t).bind fun b27 =>
  (ck (hK h25 b27 = 21 ∧ inR 399 (hN h25 b27))).bind fun _ =>
  (ck (hK h25 b1 = 21 ∧ inR 4 (hN h25 b1))).bind fun _ =>
  bd (sI h25 b1 (4 : Int32).toNatClampNeg (hI h25 b27 (399 : Int32).toNatClampNeg)) fun h31 =>
  F_X12_readFull_63 fu t x1 399 b1 0 h31

def F_X12_check_52 (t : Nat) (x2 : Int32) (y0 : Int32) (h : aH) : Option (Int32 × aH) :=
  (ck (hK h t = 14)).bind fun _ =>
  bd (sF h 1311 t x2) fun h2 =>
  some (y0, h2)

def F_X12_check (t : Nat) (x1 : Int32) (h : aH) : Option (Int32 × aH) :=
  bd (sF h 1300 t 0) fun h1 =>
  if x1 < 0 then
    some ((-1), h1)
  else
    if x1 ≤ hF h1 1316 t then
      bd (hF h1 1311 t) fun v5 =>
      bd (sF h1 1316 t 0) fun h6 =>
      if hF h6 1302 t = 400 then
        (F_X12_readFull t x1 h6).bind fun q12 =>
        bd q12.1 fun z11 =>
        bd q12.2 fun h10 =>
        F_X12_check_52 t v5 z11 h10
      else
        (F_X12_readImage t x1 h6).bind fun q16 =>
        bd q16.1 fun z15 =>
        bd q16.2 fun h14 =>
        F_X12_check_52 t v5 z15 h14
    else
      some ((-1), h1)

def F_X12_take (t : Nat) (x1 : Int32) (h : aH) : Option (Int32 × aH) :=
  bd (sF h 1300 t 0) fun h1 =>
  if x1 < 0 then
    some ((-1), h1)
  else
    if hF h1 1316 t < x1 then
      some ((-1), h1)
    else
      if hF h1 1302 t = 400 then
        some ((-1), h1)
      else
        bd (hF h1 1311 t) fun v6 =>
        bd (sF h1 1316 t 0) fun h7 =>
        (F_X12_readImage t x1 h7).bind fun q12 =>
        bd q12.1 fun z11 =>
        bd q12.2 fun h10 =>
        if z11 = 0 then
          (ck (hK h10 t = 14)).bind fun _ =>
          bd (sF h10 1302 t ((hF h10 1302 t) + 1)) fun h15 =>
          some ((hF h15 1302 t) - 1, h15)
        else
          (ck (hK h10 t = 14)).bind fun _ =>
          bd (sF h10 1311 t v6) fun h18 =>
          some (((-1)) - z11, h18)

def F_X12_list_91 (t : Nat) (h : aH) : Option (Int32 × aH) :=
  (ck (hK h t = 14)).bind fun _ =>
  (F_X12_fail t h).bind fun q5 =>
  bd q5.1 fun z4 =>
  bd q5.2 fun h3 =>
  some (z4, h3)

def F_X12_list (t : Nat) (x1 : Int32) (h : aH) : Option (Int32 × aH) :=
  bd (sF h 1300 t 0) fun h1 =>
  if x1 = 0 then
    some (hF h1 1301 t, h1)
  else
  if x1 = 1 then
    some (hF h1 1302 t, h1)
  else
  if x1 = 2 then
    some (hF h1 1316 t, h1)
  else
  if x1 = 3 then
    some (hF h1 1320 t, h1)
  else
  if x1 = 4 then
    some (hF h1 1318 t, h1)
  else
  if x1 < 5 then
    F_X12_list_91 t h1
  else
    if hF h1 1301 t ≤ x1 - 5 then
      F_X12_list_91 t h1
    else
      (hG h1 1303 t).bind fun b10 =>
      (ck (hK h1 b10 = 21 ∧ inR (x1 - 5) (hN h1 b10))).bind fun _ =>
      some (hI h1 b10 (x1 - 5).toNatClampNeg, h1)

def F_X12_sum_151 (k60 : Nat → Int32 → Int64 → Int32 → aH → Option (Int64 × aH)) (k107 : Nat → Int32 → Int64 → Int32 → Int32 → aH → Option (Int64 × aH)) : Nat → Nat → Int32 → Int64 → Int32 → Int32 → Int32 → aH → Option (Int64 × aH)
  | 0, _, _, _, _, _, _, _ => none
  | n + 1, t, x1, x2, x4, x5, x6, h =>
  if 4 ≤ x6 then
    bd (x5 + 1) fun v2 =>
    k107 t x1 x2 x4 v2 h
  else
    (ck (hK h t = 14)).bind fun _ =>
    (F_X12_fieldsOf t x1 x4 x5 x6 h).bind fun q7 =>
    bd q7.1 fun z6 =>
    bd q7.2 fun h5 =>
    bd ((31 * x2) + z6.toInt64) fun v8 =>
    bd (x6 + 1) fun v9 =>
    F_X12_sum_151 k60 k107 n t x1 v8 x4 x5 v9 h5

def F_X12_sum_117 (k60 : Nat → Int32 → Int64 → Int32 → aH → Option (Int64 × aH)) (k107 : Nat → Int32 → Int64 → Int32 → Int32 → aH → Option (Int64 × aH)) : Nat → Nat → Int32 → Int64 → Int32 → Int32 → Int32 → aH → Option (Int64 × aH)
  | 0, _, _, _, _, _, _, _ => none
  | n + 1, t, x1, x2, x4, x5, x6, h =>
  if 4 ≤ x6 then
    F_X12_sum_151 k60 k107 fu t x1 x2 x4 x5 0 h
  else
    (ck (hK h t = 14)).bind fun _ =>
    (F_X12_batsOf t x1 x4 x5 x6 h).bind fun q6 =>
    bd q6.1 fun z5 =>
    bd q6.2 fun h4 =>
    bd ((31 * x2) + z5.toInt64) fun v7 =>
    bd (x6 + 1) fun v8 =>
    F_X12_sum_117 k60 k107 n t x1 v7 x4 x5 v8 h4

def F_X12_sum_107 (k60 : Nat → Int32 → Int64 → Int32 → aH → Option (Int64 × aH)) : Nat → Nat → Int32 → Int64 → Int32 → Int32 → aH → Option (Int64 × aH)
  | 0, _, _, _, _, _, _ => none
  | n + 1, t, x1, x2, x4, x5, h =>
  if 11 ≤ x5 then
    bd (x4 + 1) fun v2 =>
    k60 t x1 x2 v2 h
  else
    F_X12_sum_117 k60 (F_X12_sum_107 k60 n) fu t x1 x2 x4 x5 0 h

def F_X12_sum_74 (k60 : Nat → Int32 → Int64 → Int32 → aH → Option (Int64 × aH)) : Nat → Nat → Int32 → Int64 → Int32 → Int32 → aH → Option (Int64 × aH)
  | 0, _, _, _, _, _, _ => none
  | n + 1, t, x1, x2, x4, x5, h =>
  if 16 ≤ x5 then
    F_X12_sum_107 k60 fu t x1 x2 x4 0 h
  else
    (ck (hK h t = 14)).bind fun _ =>
    (F_X12_scoreOf t x1 x4 x5 h).bind fun q6 =>
    bd q6.1 fun z5 =>
    bd q6.2 fun h4 =>
    bd ((31 * x2) + z5.toInt64) fun v7 =>
    bd (x5 + 1) fun v8 =>
    F_X12_sum_74 k60 n t x1 v7 x4 v8 h4

def F_X12_sum_60 : Nat → Nat → Int32 → Int64 → Int32 → aH → Option (Int64 × aH)
  | 0, _, _, _, _, _ => none
  | n + 1, t, x1, x2, x4, h =>
  (ck (hK h t = 14)).bind fun _ =>
  (hG h 1308 t).bind fun b2 =>
  (ck (hK h b2 = 21 ∧ inR x1 (hN h b2))).bind fun _ =>
  if hI h b2 x1.toNatClampNeg ≤ x4 then
    some (x2, h)
  else
    F_X12_sum_74 (F_X12_sum_60 n) fu t x1 x2 x4 0 h

def F_X12_sum_29 : Nat → Nat → Int32 → Int64 → Int32 → aH → Option (Int64 × aH)
  | 0, _, _, _, _, _ => none
  | n + 1, t, x1, x2, x4, h =>
  if 15 ≤ x4 then
    F_X12_sum_60 fu t x1 x2 0 h
  else
    (ck (hK h t = 14)).bind fun _ =>
    (F_X12_nowOf t x1 x4 h).bind fun q6 =>
    bd q6.1 fun z5 =>
    bd q6.2 fun h4 =>
    bd ((31 * x2) + z5.toInt64) fun v7 =>
    bd (x4 + 1) fun v8 =>
    F_X12_sum_29 n t x1 v7 v8 h4

def F_X12_sum (t : Nat) (x1 : Int32) (h : aH) : Option (Int64 × aH) :=
  bd (sF h 1300 t 0) fun h1 =>
  (F_X12_isGame t x1 h1).bind fun q6 =>
  bd q6.1 fun z5 =>
  bd q6.2 fun h4 =>
  if z5 = 0 then
    (ck (hK h4 t = 14)).bind fun _ =>
    (F_X12_fail t h4).bind fun q12 =>
    bd q12.1 fun z11 =>
    bd q12.2 fun h10 =>
    some (z11.toInt64, h10)
  else
    (ck (hK h4 t = 14)).bind fun _ =>
    (F_X12_play t x1 h4).bind fun h15 =>
    F_X12_sum_29 fu t x1 0 0 h15

set_option maxRecDepth 20000 in
theorem lk_X12_init {g : aG} {l : Launch} {d : Nat} (hdd : 1 ≤ d) {t : Nat} {h : aH} {r : aH} (hT : hK h t = 14) (HF : F_X12_init t h = some r) : MA g l yX12_init cX12_init 1 (none) d [.ref t] h (none, r) := by
  refine MA.of (lv0 := [(0, .ref t)]) (by decide +kernel) (rfl) (Nat.le_of_ble_eq_true rfl) ?_
  unfold F_X12_init at HF
  refine ev_aload_n 0 dX12_init_0 rfl ?_
  refine ev_obj ml_X12_1 im_obj cd_obj dX12_init_1 (by omega) (Nat.le_of_ble_eq_true rfl) ?_
  refine ev_aload_n 0 dX12_init_4 rfl ?_
  refine ev_bipush (v := 60) dX12_init_5 (by decide) ?_
  refine ev_newI (n' := 60) ar_int dX12_init_7 (by decide) (by decide) (by decide) ?_
  replace HF := bd_n HF
  obtain ⟨b1, eb1, HF⟩ := HF
  refine ev_topR eb1 ?_
  replace HF := bd_n HF
  obtain ⟨h2, eh2, HF⟩ := HF
  refine ev_heap eh2 ?_
  replace HF := bind_ck HF
  obtain ⟨c3, HF⟩ := HF
  refine ev_pSF (f := 1303) cl_X12 (k := 3) (by decide) fi_X12_3 rfl fl_X12_9 rfl rfl rfl rfl dX12_init_9 c3 ?_
  replace HF := bd_n HF
  obtain ⟨h4, eh4, HF⟩ := HF
  refine ev_heap eh4 ?_
  have c5 : hK h4 t = 14 := by rw [eh4]; exact c3
  refine ev_aload_n 0 dX12_init_12 rfl ?_
  show EvG _ _ _ _ _ _ _ _ _ _ _ 13 _ _ _
  refine ev_sipush (v := 800) dX12_init_13 (by decide) ?_
  refine ev_newI (n' := 800) ar_int dX12_init_16 (by decide) (by decide) (by decide) ?_
  replace HF := bd_n HF
  obtain ⟨b6, eb6, HF⟩ := HF
  refine ev_topR eb6 ?_
  replace HF := bd_n HF
  obtain ⟨h7, eh7, HF⟩ := HF
  refine ev_heap eh7 ?_
  replace HF := bind_ck HF
  obtain ⟨c8, HF⟩ := HF
  refine ev_pSF (f := 1304) cl_X12 (k := 4) (by decide) fi_X12_4 rfl fl_X12_13 rfl rfl rfl rfl dX12_init_18 c8 ?_
  replace HF := bd_n HF
  obtain ⟨h9, eh9, HF⟩ := HF
  refine ev_heap eh9 ?_
  have c10 : hK h9 t = 14 := by rw [eh9]; exact c8
  refine ev_aload_n 0 dX12_init_21 rfl ?_
  refine ev_sipush (v := 400) dX12_init_22 (by decide) ?_
  refine ev_newI (n' := 400) ar_int dX12_init_25 (by decide) (by decide) (by decide) ?_
  replace HF := bd_n HF
  obtain ⟨b11, eb11, HF⟩ := HF
  refine ev_topR eb11 ?_
  replace HF := bd_n HF
  obtain ⟨h12, eh12, HF⟩ := HF
  refine ev_heap eh12 ?_
  replace HF := bind_ck HF
  obtain ⟨c13, HF⟩ := HF
  refine ev_pSF (f := 1305) cl_X12 (k := 5) (by decide) fi_X12_5 rfl fl_X12_16 rfl rfl rfl rfl dX12_init_27 c13 ?_
  replace HF := bd_n HF
  obtain ⟨h14, eh14, HF⟩ := HF
  refine ev_heap eh14 ?_
  have c15 : hK h14 t = 14 := by rw [eh14]; exact c13
  refine ev_aload_n 0 dX12_init_30 rfl ?_
  show EvG _ _ _ _ _ _ _ _ _ _ _ 31 _ _ _
  refine ev_sipush (v := 400) dX12_init_31 (by decide) ?_
  refine ev_newI (n' := 400) ar_int dX12_init_34 (by decide) (by decide) (by decide) ?_
  replace HF := bd_n HF
  obtain ⟨b16, eb16, HF⟩ := HF
  refine ev_topR eb16 ?_
  replace HF := bd_n HF
  obtain ⟨h17, eh17, HF⟩ := HF
  refine ev_heap eh17 ?_
  replace HF := bind_ck HF
  obtain ⟨c18, HF⟩ := HF
  refine ev_pSF (f := 1306) cl_X12 (k := 6) (by decide) fi_X12_6 rfl fl_X12_19 rfl rfl rfl rfl dX12_init_36 c18 ?_
  replace HF := bd_n HF
  obtain ⟨h19, eh19, HF⟩ := HF
  refine ev_heap eh19 ?_
  have c20 : hK h19 t = 14 := by rw [eh19]; exact c18
  refine ev_aload_n 0 dX12_init_39 rfl ?_
  refine ev_sipush (v := 8800) dX12_init_40 (by decide) ?_
  refine ev_newI (n' := 8800) ar_int dX12_init_43 (by decide) (by decide) (by decide) ?_
  replace HF := bd_n HF
  obtain ⟨b21, eb21, HF⟩ := HF
  refine ev_topR eb21 ?_
  replace HF := bd_n HF
  obtain ⟨h22, eh22, HF⟩ := HF
  refine ev_heap eh22 ?_
  replace HF := bind_ck HF
  obtain ⟨c23, HF⟩ := HF
  refine ev_pSF (f := 1307) cl_X12 (k := 7) (by decide) fi_X12_7 rfl fl_X12_22 rfl rfl rfl rfl dX12_init_45 c23 ?_
  replace HF := bd_n HF
  obtain ⟨h24, eh24, HF⟩ := HF
  refine ev_heap eh24 ?_
  have c25 : hK h24 t = 14 := by rw [eh24]; exact c23
  refine ev_aload_n 0 dX12_init_48 rfl ?_
  show EvG _ _ _ _ _ _ _ _ _ _ _ 49 _ _ _
  refine ev_sipush (v := 400) dX12_init_49 (by decide) ?_
  refine ev_newI (n' := 400) ar_int dX12_init_52 (by decide) (by decide) (by decide) ?_
  replace HF := bd_n HF
  obtain ⟨b26, eb26, HF⟩ := HF
  refine ev_topR eb26 ?_
  replace HF := bd_n HF
  obtain ⟨h27, eh27, HF⟩ := HF
  refine ev_heap eh27 ?_
  replace HF := bind_ck HF
  obtain ⟨c28, HF⟩ := HF
  refine ev_pSF (f := 1308) cl_X12 (k := 8) (by decide) fi_X12_8 rfl fl_X12_25 rfl rfl rfl rfl dX12_init_54 c28 ?_
  replace HF := bd_n HF
  obtain ⟨h29, eh29, HF⟩ := HF
  refine ev_heap eh29 ?_
  have c30 : hK h29 t = 14 := by rw [eh29]; exact c28
  refine ev_aload_n 0 dX12_init_57 rfl ?_
  refine ev_sipush (v := 1600) dX12_init_58 (by decide) ?_
  refine ev_newI (n' := 1600) ar_int dX12_init_61 (by decide) (by decide) (by decide) ?_
  replace HF := bd_n HF
  obtain ⟨b31, eb31, HF⟩ := HF
  refine ev_topR eb31 ?_
  replace HF := bd_n HF
  obtain ⟨h32, eh32, HF⟩ := HF
  refine ev_heap eh32 ?_
  replace HF := bind_ck HF
  obtain ⟨c33, HF⟩ := HF
  refine ev_pSF (f := 1309) cl_X12 (k := 9) (by decide) fi_X12_9 rfl fl_X12_28 rfl rfl rfl rfl dX12_init_63 c33 ?_
  replace HF := bd_n HF
  obtain ⟨h34, eh34, HF⟩ := HF
  refine ev_heap eh34 ?_
  have c35 : hK h34 t = 14 := by rw [eh34]; exact c33
  refine ev_aload_n 0 dX12_init_66 rfl ?_
  show EvG _ _ _ _ _ _ _ _ _ _ _ 67 _ _ _
  refine ev_ldc kc_X12_31 dX12_init_67 ?_
  refine ev_newI (n' := 208000) ar_int dX12_init_69 (by decide) (by decide) (by decide) ?_
  replace HF := bd_n HF
  obtain ⟨b36, eb36, HF⟩ := HF
  refine ev_topR eb36 ?_
  replace HF := bd_n HF
  obtain ⟨h37, eh37, HF⟩ := HF
  refine ev_heap eh37 ?_
  replace HF := bind_ck HF
  obtain ⟨c38, HF⟩ := HF
  refine ev_pSF (f := 1310) cl_X12 (k := 10) (by decide) fi_X12_10 rfl fl_X12_32 rfl rfl rfl rfl dX12_init_71 c38 ?_
  replace HF := bd_n HF
  obtain ⟨h39, eh39, HF⟩ := HF
  refine ev_heap eh39 ?_
  have c40 : hK h39 t = 14 := by rw [eh39]; exact c38
  refine ev_aload_n 0 dX12_init_74 rfl ?_
  refine ev_sipush (v := 6000) dX12_init_75 (by decide) ?_
  refine ev_newI (n' := 6000) ar_int dX12_init_78 (by decide) (by decide) (by decide) ?_
  replace HF := bd_n HF
  obtain ⟨b41, eb41, HF⟩ := HF
  refine ev_topR eb41 ?_
  replace HF := bd_n HF
  obtain ⟨h42, eh42, HF⟩ := HF
  refine ev_heap eh42 ?_
  replace HF := bind_ck HF
  obtain ⟨c43, HF⟩ := HF
  refine ev_pSF (f := 1312) cl_X12 (k := 12) (by decide) fi_X12_12 rfl fl_X12_35 rfl rfl rfl rfl dX12_init_80 c43 ?_
  replace HF := bd_n HF
  obtain ⟨h44, eh44, HF⟩ := HF
  refine ev_heap eh44 ?_
  have c45 : hK h44 t = 14 := by rw [eh44]; exact c43
  refine ev_aload_n 0 dX12_init_83 rfl ?_
  show EvG _ _ _ _ _ _ _ _ _ _ _ 84 _ _ _
  refine ev_sipush (v := 6000) dX12_init_84 (by decide) ?_
  refine ev_newI (n' := 6000) ar_int dX12_init_87 (by decide) (by decide) (by decide) ?_
  replace HF := bd_n HF
  obtain ⟨b46, eb46, HF⟩ := HF
  refine ev_topR eb46 ?_
  replace HF := bd_n HF
  obtain ⟨h47, eh47, HF⟩ := HF
  refine ev_heap eh47 ?_
  replace HF := bind_ck HF
  obtain ⟨c48, HF⟩ := HF
  refine ev_pSF (f := 1313) cl_X12 (k := 13) (by decide) fi_X12_13 rfl fl_X12_38 rfl rfl rfl rfl dX12_init_89 c48 ?_
  replace HF := bd_n HF
  obtain ⟨h49, eh49, HF⟩ := HF
  refine ev_heap eh49 ?_
  have c50 : hK h49 t = 14 := by rw [eh49]; exact c48
  refine ev_aload_n 0 dX12_init_92 rfl ?_
  refine ev_ldc kc_X12_41 dX12_init_93 ?_
  refine ev_newI (n' := 240000) ar_int dX12_init_95 (by decide) (by decide) (by decide) ?_
  replace HF := bd_n HF
  obtain ⟨b51, eb51, HF⟩ := HF
  refine ev_topR eb51 ?_
  replace HF := bd_n HF
  obtain ⟨h52, eh52, HF⟩ := HF
  refine ev_heap eh52 ?_
  replace HF := bind_ck HF
  obtain ⟨c53, HF⟩ := HF
  refine ev_pSF (f := 1314) cl_X12 (k := 14) (by decide) fi_X12_14 rfl fl_X12_42 rfl rfl rfl rfl dX12_init_97 c53 ?_
  replace HF := bd_n HF
  obtain ⟨h54, eh54, HF⟩ := HF
  refine ev_heap eh54 ?_
  have c55 : hK h54 t = 14 := by rw [eh54]; exact c53
  refine ev_aload_n 0 dX12_init_100 rfl ?_
  show EvG _ _ _ _ _ _ _ _ _ _ _ 101 _ _ _
  refine ev_sipush (v := 6000) dX12_init_101 (by decide) ?_
  refine ev_newI (n' := 6000) ar_int dX12_init_104 (by decide) (by decide) (by decide) ?_
  replace HF := bd_n HF
  obtain ⟨b56, eb56, HF⟩ := HF
  refine ev_topR eb56 ?_
  replace HF := bd_n HF
  obtain ⟨h57, eh57, HF⟩ := HF
  refine ev_heap eh57 ?_
  replace HF := bind_ck HF
  obtain ⟨c58, HF⟩ := HF
  refine ev_pSF (f := 1315) cl_X12 (k := 15) (by decide) fi_X12_15 rfl fl_X12_45 rfl rfl rfl rfl dX12_init_106 c58 ?_
  replace HF := bd_n HF
  obtain ⟨h59, eh59, HF⟩ := HF
  refine ev_heap eh59 ?_
  have c60 : hK h59 t = 14 := by rw [eh59]; exact c58
  refine ev_aload_n 0 dX12_init_109 rfl ?_
  refine ev_sipush (v := 8000) dX12_init_110 (by decide) ?_
  refine ev_newI (n' := 8000) ar_int dX12_init_113 (by decide) (by decide) (by decide) ?_
  replace HF := bd_n HF
  obtain ⟨b61, eb61, HF⟩ := HF
  refine ev_topR eb61 ?_
  replace HF := bd_n HF
  obtain ⟨h62, eh62, HF⟩ := HF
  refine ev_heap eh62 ?_
  replace HF := bind_ck HF
  obtain ⟨c63, HF⟩ := HF
  refine ev_pSF (f := 1317) cl_X12 (k := 17) (by decide) fi_X12_17 rfl fl_X12_48 rfl rfl rfl rfl dX12_init_115 c63 ?_
  replace HF := bd_n HF
  obtain ⟨h64, eh64, HF⟩ := HF
  refine ev_heap eh64 ?_
  have c65 : hK h64 t = 14 := by rw [eh64]; exact c63
  refine ev_aload_n 0 dX12_init_118 rfl ?_
  show EvG _ _ _ _ _ _ _ _ _ _ _ 119 _ _ _
  refine ev_bipush (v := 40) dX12_init_119 (by decide) ?_
  refine ev_newI (n' := 40) ar_int dX12_init_121 (by decide) (by decide) (by decide) ?_
  replace HF := bd_n HF
  obtain ⟨b66, eb66, HF⟩ := HF
  refine ev_topR eb66 ?_
  replace HF := bd_n HF
  obtain ⟨h67, eh67, HF⟩ := HF
  refine ev_heap eh67 ?_
  replace HF := bind_ck HF
  obtain ⟨c68, HF⟩ := HF
  refine ev_pSF (f := 1321) cl_X12 (k := 21) (by decide) fi_X12_21 rfl fl_X12_51 rfl rfl rfl rfl dX12_init_123 c68 ?_
  replace HF := bd_n HF
  obtain ⟨h69, eh69, HF⟩ := HF
  refine ev_heap eh69 ?_
  have c70 : hK h69 t = 14 := by rw [eh69]; exact c68
  refine ev_aload_n 0 dX12_init_126 rfl ?_
  refine ev_bipush (v := 40) dX12_init_127 (by decide) ?_
  refine ev_newI (n' := 40) ar_int dX12_init_129 (by decide) (by decide) (by decide) ?_
  replace HF := bd_n HF
  obtain ⟨b71, eb71, HF⟩ := HF
  refine ev_topR eb71 ?_
  replace HF := bd_n HF
  obtain ⟨h72, eh72, HF⟩ := HF
  refine ev_heap eh72 ?_
  replace HF := bind_ck HF
  obtain ⟨c73, HF⟩ := HF
  refine ev_pSF (f := 1322) cl_X12 (k := 22) (by decide) fi_X12_22 rfl fl_X12_54 rfl rfl rfl rfl dX12_init_131 c73 ?_
  replace HF := bd_n HF
  obtain ⟨h74, eh74, HF⟩ := HF
  refine ev_heap eh74 ?_
  have c75 : hK h74 t = 14 := by rw [eh74]; exact c73
  refine ev_aload_n 0 dX12_init_134 rfl ?_
  show EvG _ _ _ _ _ _ _ _ _ _ _ 135 _ _ _
  refine ev_bipush (v := 40) dX12_init_135 (by decide) ?_
  refine ev_newI (n' := 40) ar_int dX12_init_137 (by decide) (by decide) (by decide) ?_
  replace HF := bd_n HF
  obtain ⟨b76, eb76, HF⟩ := HF
  refine ev_topR eb76 ?_
  replace HF := bd_n HF
  obtain ⟨h77, eh77, HF⟩ := HF
  refine ev_heap eh77 ?_
  replace HF := bind_ck HF
  obtain ⟨c78, HF⟩ := HF
  refine ev_pSF (f := 1323) cl_X12 (k := 23) (by decide) fi_X12_23 rfl fl_X12_57 rfl rfl rfl rfl dX12_init_139 c78 ?_
  replace HF := bd_n HF
  obtain ⟨h79, eh79, HF⟩ := HF
  refine ev_heap eh79 ?_
  have c80 : hK h79 t = 14 := by rw [eh79]; exact c78
  refine ev_aload_n 0 dX12_init_142 rfl ?_
  refine ev_bipush (v := 40) dX12_init_143 (by decide) ?_
  refine ev_newI (n' := 40) ar_int dX12_init_145 (by decide) (by decide) (by decide) ?_
  replace HF := bd_n HF
  obtain ⟨b81, eb81, HF⟩ := HF
  refine ev_topR eb81 ?_
  replace HF := bd_n HF
  obtain ⟨h82, eh82, HF⟩ := HF
  refine ev_heap eh82 ?_
  replace HF := bind_ck HF
  obtain ⟨c83, HF⟩ := HF
  refine ev_pSF (f := 1324) cl_X12 (k := 24) (by decide) fi_X12_24 rfl fl_X12_60 rfl rfl rfl rfl dX12_init_147 c83 ?_
  replace HF := bd_n HF
  obtain ⟨h84, eh84, HF⟩ := HF
  refine ev_heap eh84 ?_
  have c85 : hK h84 t = 14 := by rw [eh84]; exact c83
  refine ev_aload_n 0 dX12_init_150 rfl ?_
  show EvG _ _ _ _ _ _ _ _ _ _ _ 151 _ _ _
  refine ev_bipush (v := 40) dX12_init_151 (by decide) ?_
  refine ev_newI (n' := 40) ar_int dX12_init_153 (by decide) (by decide) (by decide) ?_
  replace HF := bd_n HF
  obtain ⟨b86, eb86, HF⟩ := HF
  refine ev_topR eb86 ?_
  replace HF := bd_n HF
  obtain ⟨h87, eh87, HF⟩ := HF
  refine ev_heap eh87 ?_
  replace HF := bind_ck HF
  obtain ⟨c88, HF⟩ := HF
  refine ev_pSF (f := 1325) cl_X12 (k := 25) (by decide) fi_X12_25 rfl fl_X12_63 rfl rfl rfl rfl dX12_init_155 c88 ?_
  replace HF := bd_n HF
  obtain ⟨h89, eh89, HF⟩ := HF
  refine ev_heap eh89 ?_
  have c90 : hK h89 t = 14 := by rw [eh89]; exact c88
  refine ev_aload_n 0 dX12_init_158 rfl ?_
  refine ev_bipush (v := 40) dX12_init_159 (by decide) ?_
  refine ev_newI (n' := 40) ar_int dX12_init_161 (by decide) (by decide) (by decide) ?_
  replace HF := bd_n HF
  obtain ⟨b91, eb91, HF⟩ := HF
  refine ev_topR eb91 ?_
  replace HF := bd_n HF
  obtain ⟨h92, eh92, HF⟩ := HF
  refine ev_heap eh92 ?_
  replace HF := bind_ck HF
  obtain ⟨c93, HF⟩ := HF
  refine ev_pSF (f := 1326) cl_X12 (k := 26) (by decide) fi_X12_26 rfl fl_X12_66 rfl rfl rfl rfl dX12_init_163 c93 ?_
  replace HF := bd_n HF
  obtain ⟨h94, eh94, HF⟩ := HF
  refine ev_heap eh94 ?_
  have c95 : hK h94 t = 14 := by rw [eh94]; exact c93
  refine ev_aload_n 0 dX12_init_166 rfl ?_
  show EvG _ _ _ _ _ _ _ _ _ _ _ 167 _ _ _
  refine ev_sipush (v := 1600) dX12_init_167 (by decide) ?_
  refine ev_newI (n' := 1600) ar_int dX12_init_170 (by decide) (by decide) (by decide) ?_
  replace HF := bd_n HF
  obtain ⟨b96, eb96, HF⟩ := HF
  refine ev_topR eb96 ?_
  replace HF := bd_n HF
  obtain ⟨h97, eh97, HF⟩ := HF
  refine ev_heap eh97 ?_
  replace HF := bind_ck HF
  obtain ⟨c98, HF⟩ := HF
  refine ev_pSF (f := 1327) cl_X12 (k := 27) (by decide) fi_X12_27 rfl fl_X12_69 rfl rfl rfl rfl dX12_init_172 c98 ?_
  replace HF := bd_n HF
  obtain ⟨h99, eh99, HF⟩ := HF
  refine ev_heap eh99 ?_
  have c100 : hK h99 t = 14 := by rw [eh99]; exact c98
  refine ev_aload_n 0 dX12_init_175 rfl ?_
  refine ev_iconst (v := 4) dX12_init_176 (by decide) ?_
  refine ev_newI (n' := 4) ar_int dX12_init_177 (by decide) (by decide) (by decide) ?_
  replace HF := bd_n HF
  obtain ⟨b101, eb101, HF⟩ := HF
  refine ev_topR eb101 ?_
  replace HF := bd_n HF
  obtain ⟨h102, eh102, HF⟩ := HF
  refine ev_heap eh102 ?_
  replace HF := bind_ck HF
  obtain ⟨c103, HF⟩ := HF
  refine ev_pSF (f := 1335) cl_X12 (k := 35) (by decide) fi_X12_35 rfl fl_X12_72 rfl rfl rfl rfl dX12_init_179 c103 ?_
  replace HF := bd_n HF
  obtain ⟨h104, eh104, HF⟩ := HF
  refine ev_heap eh104 ?_
  have c105 : hK h104 t = 14 := by rw [eh104]; exact c103
  refine ev_aload_n 0 dX12_init_182 rfl ?_
  show EvG _ _ _ _ _ _ _ _ _ _ _ 183 _ _ _
  refine ev_iconst (v := 4) dX12_init_183 (by decide) ?_
  refine ev_newI (n' := 4) ar_int dX12_init_184 (by decide) (by decide) (by decide) ?_
  replace HF := bd_n HF
  obtain ⟨b106, eb106, HF⟩ := HF
  refine ev_topR eb106 ?_
  replace HF := bd_n HF
  obtain ⟨h107, eh107, HF⟩ := HF
  refine ev_heap eh107 ?_
  replace HF := bind_ck HF
  obtain ⟨c108, HF⟩ := HF
  refine ev_pSF (f := 1336) cl_X12 (k := 36) (by decide) fi_X12_36 rfl fl_X12_75 rfl rfl rfl rfl dX12_init_186 c108 ?_
  replace HF := bd_n HF
  obtain ⟨h109, eh109, HF⟩ := HF
  refine ev_heap eh109 ?_
  have c110 : hK h109 t = 14 := by rw [eh109]; exact c108
  refine ev_aload_n 0 dX12_init_189 rfl ?_
  refine ev_iconst (v := 4) dX12_init_190 (by decide) ?_
  refine ev_newI (n' := 4) ar_int dX12_init_191 (by decide) (by decide) (by decide) ?_
  replace HF := bd_n HF
  obtain ⟨b111, eb111, HF⟩ := HF
  refine ev_topR eb111 ?_
  replace HF := bd_n HF
  obtain ⟨h112, eh112, HF⟩ := HF
  refine ev_heap eh112 ?_
  replace HF := bind_ck HF
  obtain ⟨c113, HF⟩ := HF
  refine ev_pSF (f := 1337) cl_X12 (k := 37) (by decide) fi_X12_37 rfl fl_X12_78 rfl rfl rfl rfl dX12_init_193 c113 ?_
  replace HF := bd_n HF
  obtain ⟨h114, eh114, HF⟩ := HF
  refine ev_heap eh114 ?_
  have c115 : hK h114 t = 14 := by rw [eh114]; exact c113
  refine ev_aload_n 0 dX12_init_196 rfl ?_
  show EvG _ _ _ _ _ _ _ _ _ _ _ 197 _ _ _
  refine ev_iconst (v := 4) dX12_init_197 (by decide) ?_
  refine ev_newI (n' := 4) ar_int dX12_init_198 (by decide) (by decide) (by decide) ?_
  replace HF := bd_n HF
  obtain ⟨b116, eb116, HF⟩ := HF
  refine ev_topR eb116 ?_
  replace HF := bd_n HF
  obtain ⟨h117, eh117, HF⟩ := HF
  refine ev_heap eh117 ?_
  replace HF := bind_ck HF
  obtain ⟨c118, HF⟩ := HF
  refine ev_pSF (f := 1338) cl_X12 (k := 38) (by decide) fi_X12_38 rfl fl_X12_81 rfl rfl rfl rfl dX12_init_200 c118 ?_
  replace HF := bd_n HF
  obtain ⟨h119, eh119, HF⟩ := HF
  refine ev_heap eh119 ?_
  have c120 : hK h119 t = 14 := by rw [eh119]; exact c118
  refine ev_aload_n 0 dX12_init_203 rfl ?_
  refine ev_iconst (v := 4) dX12_init_204 (by decide) ?_
  refine ev_newI (n' := 4) ar_int dX12_init_205 (by decide) (by decide) (by decide) ?_
  replace HF := bd_n HF
  obtain ⟨b121, eb121, HF⟩ := HF
  refine ev_topR eb121 ?_
  replace HF := bd_n HF
  obtain ⟨h122, eh122, HF⟩ := HF
  refine ev_heap eh122 ?_
  replace HF := bind_ck HF
  obtain ⟨c123, HF⟩ := HF
  refine ev_pSF (f := 1339) cl_X12 (k := 39) (by decide) fi_X12_39 rfl fl_X12_84 rfl rfl rfl rfl dX12_init_207 c123 ?_
  replace HF := bd_n HF
  obtain ⟨h124, eh124, HF⟩ := HF
  refine ev_heap eh124 ?_
  have c125 : hK h124 t = 14 := by rw [eh124]; exact c123
  refine ev_aload_n 0 dX12_init_210 rfl ?_
  show EvG _ _ _ _ _ _ _ _ _ _ _ 211 _ _ _
  refine ev_iconst (v := 4) dX12_init_211 (by decide) ?_
  refine ev_newI (n' := 4) ar_int dX12_init_212 (by decide) (by decide) (by decide) ?_
  replace HF := bd_n HF
  obtain ⟨b126, eb126, HF⟩ := HF
  refine ev_topR eb126 ?_
  replace HF := bd_n HF
  obtain ⟨h127, eh127, HF⟩ := HF
  refine ev_heap eh127 ?_
  replace HF := bind_ck HF
  obtain ⟨c128, HF⟩ := HF
  refine ev_pSF (f := 1340) cl_X12 (k := 40) (by decide) fi_X12_40 rfl fl_X12_87 rfl rfl rfl rfl dX12_init_214 c128 ?_
  replace HF := bd_n HF
  obtain ⟨h129, eh129, HF⟩ := HF
  refine ev_heap eh129 ?_
  have c130 : hK h129 t = 14 := by rw [eh129]; exact c128
  refine ev_aload_n 0 dX12_init_217 rfl ?_
  refine ev_iconst (v := 4) dX12_init_218 (by decide) ?_
  refine ev_newI (n' := 4) ar_int dX12_init_219 (by decide) (by decide) (by decide) ?_
  replace HF := bd_n HF
  obtain ⟨b131, eb131, HF⟩ := HF
  refine ev_topR eb131 ?_
  replace HF := bd_n HF
  obtain ⟨h132, eh132, HF⟩ := HF
  refine ev_heap eh132 ?_
  replace HF := bind_ck HF
  obtain ⟨c133, HF⟩ := HF
  refine ev_pSF (f := 1341) cl_X12 (k := 41) (by decide) fi_X12_41 rfl fl_X12_90 rfl rfl rfl rfl dX12_init_221 c133 ?_
  replace HF := bd_n HF
  obtain ⟨h134, eh134, HF⟩ := HF
  refine ev_heap eh134 ?_
  have c135 : hK h134 t = 14 := by rw [eh134]; exact c133
  refine ev_aload_n 0 dX12_init_224 rfl ?_
  show EvG _ _ _ _ _ _ _ _ _ _ _ 225 _ _ _
  refine ev_iconst (v := 4) dX12_init_225 (by decide) ?_
  refine ev_newI (n' := 4) ar_int dX12_init_226 (by decide) (by decide) (by decide) ?_
  replace HF := bd_n HF
  obtain ⟨b136, eb136, HF⟩ := HF
  refine ev_topR eb136 ?_
  replace HF := bd_n HF
  obtain ⟨h137, eh137, HF⟩ := HF
  refine ev_heap eh137 ?_
  replace HF := bind_ck HF
  obtain ⟨c138, HF⟩ := HF
  refine ev_pSF (f := 1342) cl_X12 (k := 42) (by decide) fi_X12_42 rfl fl_X12_93 rfl rfl rfl rfl dX12_init_228 c138 ?_
  replace HF := bd_n HF
  obtain ⟨h139, eh139, HF⟩ := HF
  refine ev_heap eh139 ?_
  have c140 : hK h139 t = 14 := by rw [eh139]; exact c138
  refine ev_aload_n 0 dX12_init_231 rfl ?_
  refine ev_iconst (v := 4) dX12_init_232 (by decide) ?_
  refine ev_newI (n' := 4) ar_int dX12_init_233 (by decide) (by decide) (by decide) ?_
  replace HF := bd_n HF
  obtain ⟨b141, eb141, HF⟩ := HF
  refine ev_topR eb141 ?_
  replace HF := bd_n HF
  obtain ⟨h142, eh142, HF⟩ := HF
  refine ev_heap eh142 ?_
  replace HF := bind_ck HF
  obtain ⟨c143, HF⟩ := HF
  refine ev_pSF (f := 1343) cl_X12 (k := 43) (by decide) fi_X12_43 rfl fl_X12_96 rfl rfl rfl rfl dX12_init_235 c143 ?_
  replace HF := bd_n HF
  obtain ⟨h144, eh144, HF⟩ := HF
  refine ev_heap eh144 ?_
  have c145 : hK h144 t = 14 := by rw [eh144]; exact c143
  refine ev_aload_n 0 dX12_init_238 rfl ?_
  show EvG _ _ _ _ _ _ _ _ _ _ _ 239 _ _ _
  refine ev_iconst (v := 4) dX12_init_239 (by decide) ?_
  refine ev_newI (n' := 4) ar_int dX12_init_240 (by decide) (by decide) (by decide) ?_
  replace HF := bd_n HF
  obtain ⟨b146, eb146, HF⟩ := HF
  refine ev_topR eb146 ?_
  replace HF := bd_n HF
  obtain ⟨h147, eh147, HF⟩ := HF
  refine ev_heap eh147 ?_
  replace HF := bind_ck HF
  obtain ⟨c148, HF⟩ := HF
  refine ev_pSF (f := 1344) cl_X12 (k := 44) (by decide) fi_X12_44 rfl fl_X12_99 rfl rfl rfl rfl dX12_init_242 c148 ?_
  replace HF := bd_n HF
  obtain ⟨h149, eh149, HF⟩ := HF
  refine ev_heap eh149 ?_
  have c150 : hK h149 t = 14 := by rw [eh149]; exact c148
  refine ev_aload_n 0 dX12_init_245 rfl ?_
  refine ev_iconst (v := 4) dX12_init_246 (by decide) ?_
  refine ev_newI (n' := 4) ar_int dX12_init_247 (by decide) (by decide) (by decide) ?_
  replace HF := bd_n HF
  obtain ⟨b151, eb151, HF⟩ := HF
  refine ev_topR eb151 ?_
  replace HF := bd_n HF
  obtain ⟨h152, eh152, HF⟩ := HF
  refine ev_heap eh152 ?_
  replace HF := bind_ck HF
  obtain ⟨c153, HF⟩ := HF
  refine ev_pSF (f := 1345) cl_X12 (k := 45) (by decide) fi_X12_45 rfl fl_X12_102 rfl rfl rfl rfl dX12_init_249 c153 ?_
  replace HF := bd_n HF
  obtain ⟨h154, eh154, HF⟩ := HF
  refine ev_heap eh154 ?_
  have c155 : hK h154 t = 14 := by rw [eh154]; exact c153
  refine ev_aload_n 0 dX12_init_252 rfl ?_
  show EvG _ _ _ _ _ _ _ _ _ _ _ 253 _ _ _
  refine ev_iconst (v := 4) dX12_init_253 (by decide) ?_
  refine ev_newI (n' := 4) ar_int dX12_init_254 (by decide) (by decide) (by decide) ?_
  replace HF := bd_n HF
  obtain ⟨b156, eb156, HF⟩ := HF
  refine ev_topR eb156 ?_
  replace HF := bd_n HF
  obtain ⟨h157, eh157, HF⟩ := HF
  refine ev_heap eh157 ?_
  replace HF := bind_ck HF
  obtain ⟨c158, HF⟩ := HF
  refine ev_pSF (f := 1346) cl_X12 (k := 46) (by decide) fi_X12_46 rfl fl_X12_105 rfl rfl rfl rfl dX12_init_256 c158 ?_
  replace HF := bd_n HF
  obtain ⟨h159, eh159, HF⟩ := HF
  refine ev_heap eh159 ?_
  have c160 : hK h159 t = 14 := by rw [eh159]; exact c158
  refine ev_aload_n 0 dX12_init_259 rfl ?_
  refine ev_iconst (v := 4) dX12_init_260 (by decide) ?_
  refine ev_newI (n' := 4) ar_int dX12_init_261 (by decide) (by decide) (by decide) ?_
  replace HF := bd_n HF
  obtain ⟨b161, eb161, HF⟩ := HF
  refine ev_topR eb161 ?_
  replace HF := bd_n HF
  obtain ⟨h162, eh162, HF⟩ := HF
  refine ev_heap eh162 ?_
  replace HF := bind_ck HF
  obtain ⟨c163, HF⟩ := HF
  refine ev_pSF (f := 1347) cl_X12 (k := 47) (by decide) fi_X12_47 rfl fl_X12_108 rfl rfl rfl rfl dX12_init_263 c163 ?_
  replace HF := bd_n HF
  obtain ⟨h164, eh164, HF⟩ := HF
  refine ev_heap eh164 ?_
  have c165 : hK h164 t = 14 := by rw [eh164]; exact c163
  refine ev_aload_n 0 dX12_init_266 rfl ?_
  show EvG _ _ _ _ _ _ _ _ _ _ _ 267 _ _ _
  refine ev_iconst (v := 4) dX12_init_267 (by decide) ?_
  refine ev_newI (n' := 4) ar_int dX12_init_268 (by decide) (by decide) (by decide) ?_
  replace HF := bd_n HF
  obtain ⟨b166, eb166, HF⟩ := HF
  refine ev_topR eb166 ?_
  replace HF := bd_n HF
  obtain ⟨h167, eh167, HF⟩ := HF
  refine ev_heap eh167 ?_
  replace HF := bind_ck HF
  obtain ⟨c168, HF⟩ := HF
  refine ev_pSF (f := 1348) cl_X12 (k := 48) (by decide) fi_X12_48 rfl fl_X12_111 rfl rfl rfl rfl dX12_init_270 c168 ?_
  replace HF := bd_n HF
  obtain ⟨h169, eh169, HF⟩ := HF
  refine ev_heap eh169 ?_
  have c170 : hK h169 t = 14 := by rw [eh169]; exact c168
  refine ev_aload_n 0 dX12_init_273 rfl ?_
  refine ev_iconst (v := 4) dX12_init_274 (by decide) ?_
  refine ev_newI (n' := 4) ar_int dX12_init_275 (by decide) (by decide) (by decide) ?_
  replace HF := bd_n HF
  obtain ⟨b171, eb171, HF⟩ := HF
  refine ev_topR eb171 ?_
  replace HF := bd_n HF
  obtain ⟨h172, eh172, HF⟩ := HF
  refine ev_heap eh172 ?_
  replace HF := bind_ck HF
  obtain ⟨c173, HF⟩ := HF
  refine ev_pSF (f := 1349) cl_X12 (k := 49) (by decide) fi_X12_49 rfl fl_X12_114 rfl rfl rfl rfl dX12_init_277 c173 ?_
  replace HF := bd_n HF
  obtain ⟨h174, eh174, HF⟩ := HF
  refine ev_heap eh174 ?_
  have c175 : hK h174 t = 14 := by rw [eh174]; exact c173
  refine ev_aload_n 0 dX12_init_280 rfl ?_
  show EvG _ _ _ _ _ _ _ _ _ _ _ 281 _ _ _
  refine ev_iconst (v := 4) dX12_init_281 (by decide) ?_
  refine ev_newI (n' := 4) ar_int dX12_init_282 (by decide) (by decide) (by decide) ?_
  replace HF := bd_n HF
  obtain ⟨b176, eb176, HF⟩ := HF
  refine ev_topR eb176 ?_
  replace HF := bd_n HF
  obtain ⟨h177, eh177, HF⟩ := HF
  refine ev_heap eh177 ?_
  replace HF := bind_ck HF
  obtain ⟨c178, HF⟩ := HF
  refine ev_pSF (f := 1350) cl_X12 (k := 50) (by decide) fi_X12_50 rfl fl_X12_117 rfl rfl rfl rfl dX12_init_284 c178 ?_
  replace HF := bd_n HF
  obtain ⟨h179, eh179, HF⟩ := HF
  refine ev_heap eh179 ?_
  have c180 : hK h179 t = 14 := by rw [eh179]; exact c178
  refine ev_aload_n 0 dX12_init_287 rfl ?_
  refine ev_iconst (v := 4) dX12_init_288 (by decide) ?_
  refine ev_newI (n' := 4) ar_int dX12_init_289 (by decide) (by decide) (by decide) ?_
  replace HF := bd_n HF
  obtain ⟨b181, eb181, HF⟩ := HF
  refine ev_topR eb181 ?_
  replace HF := bd_n HF
  obtain ⟨h182, eh182, HF⟩ := HF
  refine ev_heap eh182 ?_
  replace HF := bind_ck HF
  obtain ⟨c183, HF⟩ := HF
  refine ev_pSF (f := 1351) cl_X12 (k := 51) (by decide) fi_X12_51 rfl fl_X12_120 rfl rfl rfl rfl dX12_init_291 c183 ?_
  replace HF := bd_n HF
  obtain ⟨h184, eh184, HF⟩ := HF
  refine ev_heap eh184 ?_
  have c185 : hK h184 t = 14 := by rw [eh184]; exact c183
  refine ev_aload_n 0 dX12_init_294 rfl ?_
  show EvG _ _ _ _ _ _ _ _ _ _ _ 295 _ _ _
  refine ev_iconst (v := 4) dX12_init_295 (by decide) ?_
  refine ev_newZ (n' := 4) ar_boolean dX12_init_296 (by decide) (by decide) (by decide) ?_
  replace HF := bd_n HF
  obtain ⟨b186, eb186, HF⟩ := HF
  refine ev_topR eb186 ?_
  replace HF := bd_n HF
  obtain ⟨h187, eh187, HF⟩ := HF
  refine ev_heap eh187 ?_
  replace HF := bind_ck HF
  obtain ⟨c188, HF⟩ := HF
  refine ev_pSF (f := 1352) cl_X12 (k := 52) (by decide) fi_X12_52 rfl fl_X12_123 rfl rfl rfl rfl dX12_init_298 c188 ?_
  replace HF := bd_n HF
  obtain ⟨h189, eh189, HF⟩ := HF
  refine ev_heap eh189 ?_
  have c190 : hK h189 t = 14 := by rw [eh189]; exact c188
  refine ev_aload_n 0 dX12_init_301 rfl ?_
  refine ev_bipush (v := 44) dX12_init_302 (by decide) ?_
  refine ev_newI (n' := 44) ar_int dX12_init_304 (by decide) (by decide) (by decide) ?_
  replace HF := bd_n HF
  obtain ⟨b191, eb191, HF⟩ := HF
  refine ev_topR eb191 ?_
  replace HF := bd_n HF
  obtain ⟨h192, eh192, HF⟩ := HF
  refine ev_heap eh192 ?_
  replace HF := bind_ck HF
  obtain ⟨c193, HF⟩ := HF
  refine ev_pSF (f := 1353) cl_X12 (k := 53) (by decide) fi_X12_53 rfl fl_X12_127 rfl rfl rfl rfl dX12_init_306 c193 ?_
  replace HF := bd_n HF
  obtain ⟨h194, eh194, HF⟩ := HF
  refine ev_heap eh194 ?_
  have c195 : hK h194 t = 14 := by rw [eh194]; exact c193
  refine ev_aload_n 0 dX12_init_309 rfl ?_
  show EvG _ _ _ _ _ _ _ _ _ _ _ 310 _ _ _
  refine ev_bipush (v := 44) dX12_init_310 (by decide) ?_
  refine ev_newI (n' := 44) ar_int dX12_init_312 (by decide) (by decide) (by decide) ?_
  replace HF := bd_n HF
  obtain ⟨b196, eb196, HF⟩ := HF
  refine ev_topR eb196 ?_
  replace HF := bd_n HF
  obtain ⟨h197, eh197, HF⟩ := HF
  refine ev_heap eh197 ?_
  replace HF := bind_ck HF
  obtain ⟨c198, HF⟩ := HF
  refine ev_pSF (f := 1354) cl_X12 (k := 54) (by decide) fi_X12_54 rfl fl_X12_130 rfl rfl rfl rfl dX12_init_314 c198 ?_
  replace HF := bd_n HF
  obtain ⟨h199, eh199, HF⟩ := HF
  refine ev_heap eh199 ?_
  have c200 : hK h199 t = 14 := by rw [eh199]; exact c198
  refine ev_aload_n 0 dX12_init_317 rfl ?_
  refine ev_bipush (v := 44) dX12_init_318 (by decide) ?_
  refine ev_newI (n' := 44) ar_int dX12_init_320 (by decide) (by decide) (by decide) ?_
  replace HF := bd_n HF
  obtain ⟨b201, eb201, HF⟩ := HF
  refine ev_topR eb201 ?_
  replace HF := bd_n HF
  obtain ⟨h202, eh202, HF⟩ := HF
  refine ev_heap eh202 ?_
  replace HF := bind_ck HF
  obtain ⟨c203, HF⟩ := HF
  refine ev_pSF (f := 1355) cl_X12 (k := 55) (by decide) fi_X12_55 rfl fl_X12_133 rfl rfl rfl rfl dX12_init_322 c203 ?_
  replace HF := bd_n HF
  obtain ⟨h204, eh204, HF⟩ := HF
  refine ev_heap eh204 ?_
  have c205 : hK h204 t = 14 := by rw [eh204]; exact c203
  refine ev_aload_n 0 dX12_init_325 rfl ?_
  show EvG _ _ _ _ _ _ _ _ _ _ _ 326 _ _ _
  refine ev_bipush (v := 44) dX12_init_326 (by decide) ?_
  refine ev_newI (n' := 44) ar_int dX12_init_328 (by decide) (by decide) (by decide) ?_
  replace HF := bd_n HF
  obtain ⟨b206, eb206, HF⟩ := HF
  refine ev_topR eb206 ?_
  replace HF := bd_n HF
  obtain ⟨h207, eh207, HF⟩ := HF
  refine ev_heap eh207 ?_
  replace HF := bind_ck HF
  obtain ⟨c208, HF⟩ := HF
  refine ev_pSF (f := 1356) cl_X12 (k := 56) (by decide) fi_X12_56 rfl fl_X12_136 rfl rfl rfl rfl dX12_init_330 c208 ?_
  replace HF := bd_n HF
  obtain ⟨h209, eh209, HF⟩ := HF
  refine ev_heap eh209 ?_
  have c210 : hK h209 t = 14 := by rw [eh209]; exact c208
  refine ev_aload_n 0 dX12_init_333 rfl ?_
  refine ev_bipush (v := 44) dX12_init_334 (by decide) ?_
  refine ev_newI (n' := 44) ar_int dX12_init_336 (by decide) (by decide) (by decide) ?_
  replace HF := bd_n HF
  obtain ⟨b211, eb211, HF⟩ := HF
  refine ev_topR eb211 ?_
  replace HF := bd_n HF
  obtain ⟨h212, eh212, HF⟩ := HF
  refine ev_heap eh212 ?_
  replace HF := bind_ck HF
  obtain ⟨c213, HF⟩ := HF
  refine ev_pSF (f := 1357) cl_X12 (k := 57) (by decide) fi_X12_57 rfl fl_X12_139 rfl rfl rfl rfl dX12_init_338 c213 ?_
  replace HF := bd_n HF
  obtain ⟨h214, eh214, HF⟩ := HF
  refine ev_heap eh214 ?_
  have c215 : hK h214 t = 14 := by rw [eh214]; exact c213
  refine ev_aload_n 0 dX12_init_341 rfl ?_
  show EvG _ _ _ _ _ _ _ _ _ _ _ 342 _ _ _
  refine ev_bipush (v := 44) dX12_init_342 (by decide) ?_
  refine ev_newI (n' := 44) ar_int dX12_init_344 (by decide) (by decide) (by decide) ?_
  replace HF := bd_n HF
  obtain ⟨b216, eb216, HF⟩ := HF
  refine ev_topR eb216 ?_
  replace HF := bd_n HF
  obtain ⟨h217, eh217, HF⟩ := HF
  refine ev_heap eh217 ?_
  replace HF := bind_ck HF
  obtain ⟨c218, HF⟩ := HF
  refine ev_pSF (f := 1358) cl_X12 (k := 58) (by decide) fi_X12_58 rfl fl_X12_142 rfl rfl rfl rfl dX12_init_346 c218 ?_
  replace HF := bd_n HF
  obtain ⟨h219, eh219, HF⟩ := HF
  refine ev_heap eh219 ?_
  have c220 : hK h219 t = 14 := by rw [eh219]; exact c218
  refine ev_aload_n 0 dX12_init_349 rfl ?_
  refine ev_sipush (v := 6000) dX12_init_350 (by decide) ?_
  refine ev_newI (n' := 6000) ar_int dX12_init_353 (by decide) (by decide) (by decide) ?_
  replace HF := bd_n HF
  obtain ⟨b221, eb221, HF⟩ := HF
  refine ev_topR eb221 ?_
  replace HF := bd_n HF
  obtain ⟨h222, eh222, HF⟩ := HF
  refine ev_heap eh222 ?_
  replace HF := bind_ck HF
  obtain ⟨c223, HF⟩ := HF
  refine ev_pSF (f := 1359) cl_X12 (k := 59) (by decide) fi_X12_59 rfl fl_X12_145 rfl rfl rfl rfl dX12_init_355 c223 ?_
  replace HF := bd_n HF
  obtain ⟨h224, eh224, HF⟩ := HF
  refine ev_heap eh224 ?_
  have c225 : hK h224 t = 14 := by rw [eh224]; exact c223
  refine ev_aload_n 0 dX12_init_358 rfl ?_
  show EvG _ _ _ _ _ _ _ _ _ _ _ 359 _ _ _
  refine ev_sipush (v := 6000) dX12_init_359 (by decide) ?_
  refine ev_newI (n' := 6000) ar_int dX12_init_362 (by decide) (by decide) (by decide) ?_
  replace HF := bd_n HF
  obtain ⟨b226, eb226, HF⟩ := HF
  refine ev_topR eb226 ?_
  replace HF := bd_n HF
  obtain ⟨h227, eh227, HF⟩ := HF
  refine ev_heap eh227 ?_
  replace HF := bind_ck HF
  obtain ⟨c228, HF⟩ := HF
  refine ev_pSF (f := 1360) cl_X12 (k := 60) (by decide) fi_X12_60 rfl fl_X12_148 rfl rfl rfl rfl dX12_init_364 c228 ?_
  replace HF := bd_n HF
  obtain ⟨h229, eh229, HF⟩ := HF
  refine ev_heap eh229 ?_
  have c230 : hK h229 t = 14 := by rw [eh229]; exact c228
  refine ev_aload_n 0 dX12_init_367 rfl ?_
  refine ev_sipush (v := 6000) dX12_init_368 (by decide) ?_
  refine ev_newI (n' := 6000) ar_int dX12_init_371 (by decide) (by decide) (by decide) ?_
  replace HF := bd_n HF
  obtain ⟨b231, eb231, HF⟩ := HF
  refine ev_topR eb231 ?_
  replace HF := bd_n HF
  obtain ⟨h232, eh232, HF⟩ := HF
  refine ev_heap eh232 ?_
  replace HF := bind_ck HF
  obtain ⟨c233, HF⟩ := HF
  refine ev_pSF (f := 1361) cl_X12 (k := 61) (by decide) fi_X12_61 rfl fl_X12_151 rfl rfl rfl rfl dX12_init_373 c233 ?_
  replace HF := bd_n HF
  obtain ⟨h234, eh234, HF⟩ := HF
  refine ev_heap eh234 ?_
  have c235 : hK h234 t = 14 := by rw [eh234]; exact c233
  refine ev_aload_n 0 dX12_init_376 rfl ?_
  show EvG _ _ _ _ _ _ _ _ _ _ _ 377 _ _ _
  refine ev_sipush (v := 6000) dX12_init_377 (by decide) ?_
  refine ev_newZ (n' := 6000) ar_boolean dX12_init_380 (by decide) (by decide) (by decide) ?_
  replace HF := bd_n HF
  obtain ⟨b236, eb236, HF⟩ := HF
  refine ev_topR eb236 ?_
  replace HF := bd_n HF
  obtain ⟨h237, eh237, HF⟩ := HF
  refine ev_heap eh237 ?_
  replace HF := bind_ck HF
  obtain ⟨c238, HF⟩ := HF
  refine ev_pSF (f := 1362) cl_X12 (k := 62) (by decide) fi_X12_62 rfl fl_X12_154 rfl rfl rfl rfl dX12_init_382 c238 ?_
  replace HF := bd_n HF
  obtain ⟨h239, eh239, HF⟩ := HF
  refine ev_heap eh239 ?_
  have c240 : hK h239 t = 14 := by rw [eh239]; exact c238
  refine ev_aload_n 0 dX12_init_385 rfl ?_
  refine ev_sipush (v := 6000) dX12_init_386 (by decide) ?_
  refine ev_newZ (n' := 6000) ar_boolean dX12_init_389 (by decide) (by decide) (by decide) ?_
  replace HF := bd_n HF
  obtain ⟨b241, eb241, HF⟩ := HF
  refine ev_topR eb241 ?_
  replace HF := bd_n HF
  obtain ⟨h242, eh242, HF⟩ := HF
  refine ev_heap eh242 ?_
  replace HF := bind_ck HF
  obtain ⟨c243, HF⟩ := HF
  refine ev_pSF (f := 1363) cl_X12 (k := 63) (by decide) fi_X12_63 rfl fl_X12_157 rfl rfl rfl rfl dX12_init_391 c243 ?_
  replace HF := bd_n HF
  obtain ⟨h244, eh244, HF⟩ := HF
  refine ev_heap eh244 ?_
  have c245 : hK h244 t = 14 := by rw [eh244]; exact c243
  refine ev_aload_n 0 dX12_init_394 rfl ?_
  show EvG _ _ _ _ _ _ _ _ _ _ _ 395 _ _ _
  refine ev_sipush (v := 6000) dX12_init_395 (by decide) ?_
  refine ev_newZ (n' := 6000) ar_boolean dX12_init_398 (by decide) (by decide) (by decide) ?_
  replace HF := bd_n HF
  obtain ⟨b246, eb246, HF⟩ := HF
  refine ev_topR eb246 ?_
  replace HF := bd_n HF
  obtain ⟨h247, eh247, HF⟩ := HF
  refine ev_heap eh247 ?_
  replace HF := bind_ck HF
  obtain ⟨c248, HF⟩ := HF
  refine ev_pSF (f := 1364) cl_X12 (k := 64) (by decide) fi_X12_64 rfl fl_X12_160 rfl rfl rfl rfl dX12_init_400 c248 ?_
  replace HF := bd_n HF
  obtain ⟨h249, eh249, HF⟩ := HF
  refine ev_heap eh249 ?_
  have c250 : hK h249 t = 14 := by rw [eh249]; exact c248
  refine ev_aload_n 0 dX12_init_403 rfl ?_
  refine ev_bipush (v := 6) dX12_init_404 (by decide) ?_
  refine ev_newI (n' := 6) ar_int dX12_init_406 (by decide) (by decide) (by decide) ?_
  replace HF := bd_n HF
  obtain ⟨b251, eb251, HF⟩ := HF
  refine ev_topR eb251 ?_
  replace HF := bd_n HF
  obtain ⟨h252, eh252, HF⟩ := HF
  refine ev_heap eh252 ?_
  replace HF := bind_ck HF
  obtain ⟨c253, HF⟩ := HF
  refine ev_pSF (f := 1367) cl_X12 (k := 67) (by decide) fi_X12_67 rfl fl_X12_163 rfl rfl rfl rfl dX12_init_408 c253 ?_
  replace HF := bd_n HF
  obtain ⟨h254, eh254, HF⟩ := HF
  refine ev_heap eh254 ?_
  have c255 : hK h254 t = 14 := by rw [eh254]; exact c253
  refine ev_aload_n 0 dX12_init_411 rfl ?_
  show EvG _ _ _ _ _ _ _ _ _ _ _ 412 _ _ _
  refine ev_sipush (v := 1800) dX12_init_412 (by decide) ?_
  refine ev_newI (n' := 1800) ar_int dX12_init_415 (by decide) (by decide) (by decide) ?_
  replace HF := bd_n HF
  obtain ⟨b256, eb256, HF⟩ := HF
  refine ev_topR eb256 ?_
  replace HF := bd_n HF
  obtain ⟨h257, eh257, HF⟩ := HF
  refine ev_heap eh257 ?_
  replace HF := bind_ck HF
  obtain ⟨c258, HF⟩ := HF
  refine ev_pSF (f := 1368) cl_X12 (k := 68) (by decide) fi_X12_68 rfl fl_X12_166 rfl rfl rfl rfl dX12_init_417 c258 ?_
  replace HF := bd_n HF
  obtain ⟨h259, eh259, HF⟩ := HF
  refine ev_heap eh259 ?_
  have c260 : hK h259 t = 14 := by rw [eh259]; exact c258
  refine ev_aload_n 0 dX12_init_420 rfl ?_
  refine ev_iconst (v := 4) dX12_init_421 (by decide) ?_
  refine ev_newI (n' := 4) ar_int dX12_init_422 (by decide) (by decide) (by decide) ?_
  replace HF := bd_n HF
  obtain ⟨b261, eb261, HF⟩ := HF
  refine ev_topR eb261 ?_
  replace HF := bd_n HF
  obtain ⟨h262, eh262, HF⟩ := HF
  refine ev_heap eh262 ?_
  replace HF := bind_ck HF
  obtain ⟨c263, HF⟩ := HF
  refine ev_pSF (f := 1370) cl_X12 (k := 70) (by decide) fi_X12_70 rfl fl_X12_169 rfl rfl rfl rfl dX12_init_424 c263 ?_
  replace HF := bd_n HF
  obtain ⟨h264, eh264, HF⟩ := HF
  refine ev_heap eh264 ?_
  have c265 : hK h264 t = 14 := by rw [eh264]; exact c263
  refine ev_aload_n 0 dX12_init_427 rfl ?_
  show EvG _ _ _ _ _ _ _ _ _ _ _ 428 _ _ _
  refine ev_sipush (v := 600) dX12_init_428 (by decide) ?_
  refine ev_newI (n' := 600) ar_int dX12_init_431 (by decide) (by decide) (by decide) ?_
  replace HF := bd_n HF
  obtain ⟨b266, eb266, HF⟩ := HF
  refine ev_topR eb266 ?_
  replace HF := bd_n HF
  obtain ⟨h267, eh267, HF⟩ := HF
  refine ev_heap eh267 ?_
  replace HF := bind_ck HF
  obtain ⟨c268, HF⟩ := HF
  refine ev_pSF (f := 1371) cl_X12 (k := 71) (by decide) fi_X12_71 rfl fl_X12_172 rfl rfl rfl rfl dX12_init_433 c268 ?_
  replace HF := bd_n HF
  obtain ⟨h269, eh269, HF⟩ := HF
  refine ev_heap eh269 ?_
  have c270 : hK h269 t = 14 := by rw [eh269]; exact c268
  obtain rfl := Option.some.inj HF
  exact ev_vret dX12_init_436

set_option maxRecDepth 20000 in
theorem lk_X12_thrown {g : aG} {l : Launch} {d : Nat} (hdd : 0 ≤ d) {t : Nat} {h : aH} {r : Int32 × aH} (hT : hK h t = 14) (HF : F_X12_thrown t h = some r) : MA g l yX12_thrown cX12_thrown 1 (some .int) d [.ref t] h (some (.int r.1), r.2) := by
  refine MA.of (lv0 := [(0, .ref t)]) (by decide +kernel) (rfl) (Nat.le_of_ble_eq_true rfl) ?_
  unfold F_X12_thrown at HF
  refine ev_aload_n 0 dX12_thrown_0 rfl ?_
  refine ev_gI (f := 1300) cl_X12 (k := 0) (by decide) fi_X12_0 rfl fl_X12_175 dX12_thrown_1 hT ?_
  obtain rfl := Option.some.inj HF
  exact ev_iret dX12_thrown_4

set_option maxRecDepth 20000 in
theorem lk_X12_fail {g : aG} {l : Launch} {d : Nat} (hdd : 0 ≤ d) {t : Nat} {h : aH} {r : Int32 × aH} (hT : hK h t = 14) (HF : F_X12_fail t h = some r) : MA g l yX12_fail cX12_fail 1 (some .int) d [.ref t] h (some (.int r.1), r.2) := by
  refine MA.of (lv0 := [(0, .ref t)]) (by decide +kernel) (rfl) (Nat.le_of_ble_eq_true rfl) ?_
  unfold F_X12_fail at HF
  refine ev_aload_n 0 dX12_fail_0 rfl ?_
  refine ev_iconst (v := 1) dX12_fail_1 (by decide) ?_
  refine ev_pI (f := 1300) cl_X12 (k := 0) (by decide) fi_X12_0 rfl fl_X12_175 rfl rfl rfl dX12_fail_2 hT ?_
  replace HF := bd_n HF
  obtain ⟨h1, eh1, HF⟩ := HF
  refine ev_heap eh1 ?_
  have c2 : hK h1 t = 14 := by rw [eh1]; exact hT
  refine ev_iconst (v := 0) dX12_fail_5 (by decide) ?_
  obtain rfl := Option.some.inj HF
  exact ev_iret dX12_fail_6

set_option maxRecDepth 20000 in
theorem lk_X12_side {g : aG} {l : Launch} {d : Nat} (hdd : 0 ≤ d) {t : Nat} {x1 : Int32} {h : aH} {r : Int32 × aH} (hT : hK h t = 14) (HF : F_X12_side t x1 h = some r) : MA g l yX12_side cX12_side 2 (some .int) d [.ref t, .int x1] h (some (.int r.1), r.2) := by
  refine MA.of (lv0 := [(0, .ref t), (1, .int x1)]) (by decide +kernel) (rfl) (Nat.le_of_ble_eq_true rfl) ?_
  unfold F_X12_side at HF
  refine ev_aload_n 0 dX12_side_0 rfl ?_
  refine ev_iconst (v := 0) dX12_side_1 (by decide) ?_
  refine ev_pI (f := 1300) cl_X12 (k := 0) (by decide) fi_X12_0 rfl fl_X12_175 rfl rfl rfl dX12_side_2 hT ?_
  replace HF := bd_n HF
  obtain ⟨h1, eh1, HF⟩ := HF
  refine ev_heap eh1 ?_
  have c2 : hK h1 t = 14 := by rw [eh1]; exact hT
  refine ev_aload_n 0 dX12_side_5 rfl ?_
  refine ev_gI (f := 1301) cl_X12 (k := 1) (by decide) fi_X12_1 rfl fl_X12_179 dX12_side_6 c2 ?_
  refine ev_bipush (v := 60) dX12_side_9 (by decide) ?_
  by_cases c3 : hF h1 1301 t = 60
  · replace HF := ite_T c3 HF
    refine ev_icmp_eqT (tgt := 26) dX12_side_11 (by decide) c3 ?_
    refine ev_iconst (v := (-1)) dX12_side_26 (by decide) ?_
    obtain rfl := Option.some.inj HF
    exact ev_iret dX12_side_27
  · replace HF := ite_F c3 HF
    refine ev_icmp_eqF (tgt := 26) dX12_side_11 (by decide) c3 ?_
    refine ev_iload_n 1 dX12_side_14 rfl ?_
    refine ev_bipush (v := 11) dX12_side_15 (by decide) ?_
    by_cases c4 : x1 < 11
    · replace HF := ite_T c4 HF
      refine ev_icmp_ltT (tgt := 26) dX12_side_17 (by decide) c4 ?_
      refine ev_iconst (v := (-1)) dX12_side_26 (by decide) ?_
      obtain rfl := Option.some.inj HF
      exact ev_iret dX12_side_27
    · replace HF := ite_F c4 HF
      refine ev_icmp_ltF (tgt := 26) dX12_side_17 (by decide) c4 ?_
      refine ev_iload_n 1 dX12_side_20 rfl ?_
      refine ev_bipush (v := 30) dX12_side_21 (by decide) ?_
      by_cases c5 : x1 ≤ 30
      · replace HF := ite_T c5 HF
        refine ev_icmp_leT (tgt := 28) dX12_side_23 (by decide) c5 ?_
        refine ev_aload_n 0 dX12_side_28 rfl ?_
        replace HF := bind_o HF
        obtain ⟨b6, e7, HF⟩ := HF
        refine ev_gS (f := 1303) cl_X12 (k := 3) (by decide) fi_X12_3 rfl fl_X12_9 dX12_side_29 c2 e7 ?_
        refine ev_aload_n 0 dX12_side_32 rfl ?_
        refine ev_gI (f := 1301) cl_X12 (k := 1) (by decide) fi_X12_1 rfl fl_X12_179 dX12_side_33 c2 ?_
        refine ev_iload_n 1 dX12_side_36 rfl ?_
        replace HF := bind_ck HF
        obtain ⟨c8, HF⟩ := HF
        refine ev_iast dX12_side_37 c8.1 c8.2 ?_
        replace HF := bd_n HF
        obtain ⟨h9, eh9, HF⟩ := HF
        refine ev_heap eh9 ?_
        have c10 : hK h9 t = 14 := by rw [eh9]; exact c2
        refine ev_aload_n 0 dX12_side_38 rfl ?_
        show EvG _ _ _ _ _ _ _ _ _ _ _ 39 _ _ _
        refine ev_dup dX12_side_39 rfl ?_
        refine ev_gI (f := 1301) cl_X12 (k := 1) (by decide) fi_X12_1 rfl fl_X12_179 dX12_side_40 c10 ?_
        refine ev_iconst (v := 1) dX12_side_43 (by decide) ?_
        refine ev_iadd dX12_side_44 ?_
        refine ev_pI (f := 1301) cl_X12 (k := 1) (by decide) fi_X12_1 rfl fl_X12_179 rfl rfl rfl dX12_side_45 c10 ?_
        replace HF := bd_n HF
        obtain ⟨h11, eh11, HF⟩ := HF
        refine ev_heap eh11 ?_
        have c12 : hK h11 t = 14 := by rw [eh11]; exact c10
        refine ev_aload_n 0 dX12_side_48 rfl ?_
        refine ev_gI (f := 1301) cl_X12 (k := 1) (by decide) fi_X12_1 rfl fl_X12_179 dX12_side_49 c12 ?_
        refine ev_iconst (v := 1) dX12_side_52 (by decide) ?_
        show EvG _ _ _ _ _ _ _ _ _ _ _ 53 _ _ _
        refine ev_isub dX12_side_53 ?_
        obtain rfl := Option.some.inj HF
        exact ev_iret dX12_side_54
      · replace HF := ite_F c5 HF
        refine ev_icmp_leF (tgt := 28) dX12_side_23 (by decide) c5 ?_
        refine ev_iconst (v := (-1)) dX12_side_26 (by decide) ?_
        obtain rfl := Option.some.inj HF
        exact ev_iret dX12_side_27

set_option maxRecDepth 20000 in
theorem lk_X12_isSide {g : aG} {l : Launch} {d : Nat} (hdd : 0 ≤ d) {t : Nat} {x1 : Int32} {h : aH} {r : Int32 × aH} (hT : hK h t = 14) (HF : F_X12_isSide t x1 h = some r) : MA g l yX12_isSide cX12_isSide 2 (some .boolean) d [.ref t, .int x1] h (some (.int r.1), r.2) := by
  refine MA.of (lv0 := [(0, .ref t), (1, .int x1)]) (by decide +kernel) (rfl) (Nat.le_of_ble_eq_true rfl) ?_
  unfold F_X12_isSide at HF
  refine ev_iload_n 1 dX12_isSide_0 rfl ?_
  by_cases c1 : x1 < 0
  · replace HF := ite_T c1 HF
    refine ev_if_ltT (tgt := 16) dX12_isSide_1 (by decide) c1 ?_
    refine ev_iconst (v := 0) dX12_isSide_16 (by decide) ?_
    obtain rfl := Option.some.inj HF
    exact ev_zret (v := 0) narrow_b0 dX12_isSide_17
  · replace HF := ite_F c1 HF
    refine ev_if_ltF (tgt := 16) dX12_isSide_1 (by decide) c1 ?_
    refine ev_iload_n 1 dX12_isSide_4 rfl ?_
    refine ev_aload_n 0 dX12_isSide_5 rfl ?_
    refine ev_gI (f := 1301) cl_X12 (k := 1) (by decide) fi_X12_1 rfl fl_X12_179 dX12_isSide_6 hT ?_
    by_cases c2 : hF h 1301 t ≤ x1
    · replace HF := ite_T c2 HF
      refine ev_icmp_geT (tgt := 16) dX12_isSide_9 (by decide) c2 ?_
      refine ev_iconst (v := 0) dX12_isSide_16 (by decide) ?_
      obtain rfl := Option.some.inj HF
      exact ev_zret (v := 0) narrow_b0 dX12_isSide_17
    · replace HF := ite_F c2 HF
      refine ev_icmp_geF (tgt := 16) dX12_isSide_9 (by decide) c2 ?_
      refine ev_iconst (v := 1) dX12_isSide_12 (by decide) ?_
      refine ev_goto (tgt := 17) dX12_isSide_13 (by decide) ?_
      obtain rfl := Option.some.inj HF
      exact ev_zret (v := 1) narrow_b1 dX12_isSide_17

set_option maxRecDepth 20000 in
theorem lk_X12_isGame {g : aG} {l : Launch} {d : Nat} (hdd : 0 ≤ d) {t : Nat} {x1 : Int32} {h : aH} {r : Int32 × aH} (hT : hK h t = 14) (HF : F_X12_isGame t x1 h = some r) : MA g l yX12_isGame cX12_isGame 2 (some .boolean) d [.ref t, .int x1] h (some (.int r.1), r.2) := by
  refine MA.of (lv0 := [(0, .ref t), (1, .int x1)]) (by decide +kernel) (rfl) (Nat.le_of_ble_eq_true rfl) ?_
  unfold F_X12_isGame at HF
  refine ev_iload_n 1 dX12_isGame_0 rfl ?_
  by_cases c1 : x1 < 0
  · replace HF := ite_T c1 HF
    refine ev_if_ltT (tgt := 16) dX12_isGame_1 (by decide) c1 ?_
    refine ev_iconst (v := 0) dX12_isGame_16 (by decide) ?_
    obtain rfl := Option.some.inj HF
    exact ev_zret (v := 0) narrow_b0 dX12_isGame_17
  · replace HF := ite_F c1 HF
    refine ev_if_ltF (tgt := 16) dX12_isGame_1 (by decide) c1 ?_
    refine ev_iload_n 1 dX12_isGame_4 rfl ?_
    refine ev_aload_n 0 dX12_isGame_5 rfl ?_
    refine ev_gI (f := 1302) cl_X12 (k := 2) (by decide) fi_X12_2 rfl fl_X12_182 dX12_isGame_6 hT ?_
    by_cases c2 : hF h 1302 t ≤ x1
    · replace HF := ite_T c2 HF
      refine ev_icmp_geT (tgt := 16) dX12_isGame_9 (by decide) c2 ?_
      refine ev_iconst (v := 0) dX12_isGame_16 (by decide) ?_
      obtain rfl := Option.some.inj HF
      exact ev_zret (v := 0) narrow_b0 dX12_isGame_17
    · replace HF := ite_F c2 HF
      refine ev_icmp_geF (tgt := 16) dX12_isGame_9 (by decide) c2 ?_
      refine ev_iconst (v := 1) dX12_isGame_12 (by decide) ?_
      refine ev_goto (tgt := 17) dX12_isGame_13 (by decide) ?_
      obtain rfl := Option.some.inj HF
      exact ev_zret (v := 1) narrow_b1 dX12_isGame_17

set_option maxRecDepth 20000 in
theorem lk_X12_player {g : aG} {l : Launch} {d : Nat} (hdd : 1 ≤ d) {t : Nat} {x1 : Int32} {h : aH} {r : Int32 × aH} (hT : hK h t = 14) (HF : F_X12_player t x1 h = some r) : MA g l yX12_player cX12_player 2 (some .int) d [.ref t, .int x1] h (some (.int r.1), r.2) := by
  refine MA.of (lv0 := [(0, .ref t), (1, .int x1)]) (by decide +kernel) (rfl) (Nat.le_of_ble_eq_true rfl) ?_
  unfold F_X12_player at HF
  refine ev_aload_n 0 dX12_player_0 rfl ?_
  refine ev_iconst (v := 0) dX12_player_1 (by decide) ?_
  refine ev_pI (f := 1300) cl_X12 (k := 0) (by decide) fi_X12_0 rfl fl_X12_175 rfl rfl rfl dX12_player_2 hT ?_
  replace HF := bd_n HF
  obtain ⟨h1, eh1, HF⟩ := HF
  refine ev_heap eh1 ?_
  have c2 : hK h1 t = 14 := by rw [eh1]; exact hT
  refine ev_aload_n 0 dX12_player_5 rfl ?_
  refine ev_iload_n 1 dX12_player_6 rfl ?_
  replace HF := bind_o HF
  obtain ⟨⟨z5, h4⟩, e3, HF⟩ := HF
  replace HF := bd_o (bd_o HF)
  dsimp only at HF
  refine ev_callV (As := [.int x1]) (R1 := (some (.int z5), h4)) (lk_X12_isSide (d := 0) (Nat.le_refl _) c2 e3) ce_X12_isSide im_X12_isSide sl_X12_isSide ml_X12_185 cl_X12 c2 dX12_player_7 (by omega) (Nat.le_of_ble_eq_true rfl) rfl rfl ?_
  show EvG _ _ _ _ _ _ _ _ _ _ _ 10 [(0, .ref t), (1, .int x1)] [.int z5] h4
  by_cases c7 : z5 = 0
  · replace HF := ite_T c7 HF
    refine ev_if_eqT (tgt := 24) dX12_player_10 (by decide) c7 ?_
    refine ev_iconst (v := (-1)) dX12_player_24 (by decide) ?_
    obtain rfl := Option.some.inj HF
    exact ev_iret dX12_player_25
  · replace HF := ite_F c7 HF
    refine ev_if_eqF (tgt := 24) dX12_player_10 (by decide) c7 ?_
    refine ev_aload_n 0 dX12_player_13 rfl ?_
    replace HF := bind_ck HF
    obtain ⟨c8, HF⟩ := HF
    replace HF := bind_o HF
    obtain ⟨b9, e10, HF⟩ := HF
    refine ev_gS (f := 1303) cl_X12 (k := 3) (by decide) fi_X12_3 rfl fl_X12_9 dX12_player_14 c8 e10 ?_
    refine ev_iload_n 1 dX12_player_17 rfl ?_
    replace HF := bind_ck HF
    obtain ⟨c11, HF⟩ := HF
    refine ev_iald dX12_player_18 c11.1 c11.2 ?_
    refine ev_bipush (v := 30) dX12_player_19 (by decide) ?_
    by_cases c12 : hI h4 b9 x1.toNatClampNeg = 30
    · replace HF := ite_T c12 HF
      refine ev_icmp_neF (tgt := 26) dX12_player_21 (by decide) c12 ?_
      refine ev_iconst (v := (-1)) dX12_player_24 (by decide) ?_
      obtain rfl := Option.some.inj HF
      exact ev_iret dX12_player_25
    · replace HF := ite_F c12 HF
      refine ev_icmp_neT (tgt := 26) dX12_player_21 (by decide) c12 ?_
      refine ev_aload_n 0 dX12_player_26 rfl ?_
      replace HF := bind_o HF
      obtain ⟨b13, e14, HF⟩ := HF
      refine ev_gS (f := 1303) cl_X12 (k := 3) (by decide) fi_X12_3 rfl fl_X12_9 dX12_player_27 c8 e14 ?_
      refine ev_iload_n 1 dX12_player_30 rfl ?_
      refine ev_dup2 dX12_player_31 rfl rfl ?_
      replace HF := bind_ck HF
      obtain ⟨c15, HF⟩ := HF
      refine ev_iald dX12_player_32 c15.1 c15.2 ?_
      refine ev_iconst (v := 1) dX12_player_33 (by decide) ?_
      refine ev_iadd dX12_player_34 ?_
      show EvG _ _ _ _ _ _ _ _ _ _ _ 35 _ _ _
      refine ev_iast dX12_player_35 c15.1 c15.2 ?_
      replace HF := bd_n HF
      obtain ⟨h16, eh16, HF⟩ := HF
      refine ev_heap eh16 ?_
      have c17 : hK h16 t = 14 := by rw [eh16]; exact c8
      refine ev_aload_n 0 dX12_player_36 rfl ?_
      replace HF := bind_o HF
      obtain ⟨b18, e19, HF⟩ := HF
      refine ev_gS (f := 1303) cl_X12 (k := 3) (by decide) fi_X12_3 rfl fl_X12_9 dX12_player_37 c17 e19 ?_
      refine ev_iload_n 1 dX12_player_40 rfl ?_
      replace HF := bind_ck HF
      obtain ⟨c20, HF⟩ := HF
      refine ev_iald dX12_player_41 c20.1 c20.2 ?_
      refine ev_iconst (v := 1) dX12_player_42 (by decide) ?_
      refine ev_isub dX12_player_43 ?_
      obtain rfl := Option.some.inj HF
      exact ev_iret dX12_player_44

set_option maxRecDepth 20000 in
theorem lk_X12_newGame_60 {g : aG} {l : Launch} {d : Nat} {h0 : aH} (hdd : 0 ≤ d) {r : aH} : ∀ (n : Nat) (t : Nat) (x5 : Int32) (h : aH), F_X12_newGame_60  n t x5 h = some r → Ev g l cX12_newGame 6 yX12_newGame (none) d h0 (none, r) 60 [(0, .ref t), (5, .int x5)] [] h := by
  intro n
  induction n with
  | zero => intro t x5 h HF; cases HF
  | succ n ih =>
  intro t x5 h HF
  unfold F_X12_newGame_60 at HF
  refine ev_iload 1 dX12_newGame_60 rfl ?_
  refine ev_bipush (v := 22) dX12_newGame_62 (by decide) ?_
  by_cases c1 : 22 ≤ x5
  · replace HF := ite_T c1 HF
    refine ev_icmp_geT (tgt := 93) dX12_newGame_64 (by decide) c1 ?_
    refine ev_aload_n 0 dX12_newGame_93 rfl ?_
    refine ev_dup dX12_newGame_94 rfl ?_
    replace HF := bind_ck HF
    obtain ⟨c2, HF⟩ := HF
    refine ev_gI (f := 1302) cl_X12 (k := 2) (by decide) fi_X12_2 rfl fl_X12_182 dX12_newGame_95 c2 ?_
    refine ev_iconst (v := 1) dX12_newGame_98 (by decide) ?_
    refine ev_iadd dX12_newGame_99 ?_
    refine ev_pI (f := 1302) cl_X12 (k := 2) (by decide) fi_X12_2 rfl fl_X12_182 rfl rfl rfl dX12_newGame_100 c2 ?_
    replace HF := bd_n HF
    obtain ⟨h3, eh3, HF⟩ := HF
    refine ev_heap eh3 ?_
    have c4 : hK h3 t = 14 := by rw [eh3]; exact c2
    obtain rfl := Option.some.inj HF
    exact ev_vret dX12_newGame_103
  · replace HF := ite_F c1 HF
    refine ev_icmp_geF (tgt := 93) dX12_newGame_64 (by decide) c1 ?_
    refine ev_aload_n 0 dX12_newGame_67 rfl ?_
    replace HF := bind_ck HF
    obtain ⟨c5, HF⟩ := HF
    replace HF := bind_o HF
    obtain ⟨b6, e7, HF⟩ := HF
    refine ev_gS (f := 1307) cl_X12 (k := 7) (by decide) fi_X12_7 rfl fl_X12_22 dX12_newGame_68 c5 e7 ?_
    refine ev_bipush (v := 22) dX12_newGame_71 (by decide) ?_
    refine ev_aload_n 0 dX12_newGame_73 rfl ?_
    refine ev_gI (f := 1302) cl_X12 (k := 2) (by decide) fi_X12_2 rfl fl_X12_182 dX12_newGame_74 c5 ?_
    refine ev_imul dX12_newGame_77 ?_
    refine ev_iload 1 dX12_newGame_78 rfl ?_
    show EvG _ _ _ _ _ _ _ _ _ _ _ 80 _ _ _
    refine ev_iadd dX12_newGame_80 ?_
    refine ev_iload 1 dX12_newGame_81 rfl ?_
    refine ev_bipush (v := 11) dX12_newGame_83 (by decide) ?_
    refine ev_irem dX12_newGame_85 (by decide) ?_
    replace HF := bind_ck HF
    obtain ⟨c8, HF⟩ := HF
    refine ev_iast dX12_newGame_86 c8.1 c8.2 ?_
    replace HF := bd_n HF
    obtain ⟨h9, eh9, HF⟩ := HF
    refine ev_heap eh9 ?_
    have c10 : hK h9 t = 14 := by rw [eh9]; exact c5
    replace HF := bd_n HF
    obtain ⟨v11, ev11, HF⟩ := HF
    refine ev_iinc (v := v11) (lv' := [(5, .int v11), (0, .ref t)]) 1 dX12_newGame_87 rfl (by rw [ev11]; rfl) (by decide) (rfl) ?_
    refine ev_goto (tgt := 60) dX12_newGame_90 (by decide) ?_
    exact Ev.sub [1, 0] rfl (ih t v11 _ HF)

set_option maxRecDepth 20000 in
theorem lk_X12_newGame {g : aG} {l : Launch} {d : Nat} (hdd : 0 ≤ d) {t : Nat} {x1 : Int32} {x2 : Int32} {x3 : Int32} {x4 : Int32} {h : aH} {r : aH} (hT : hK h t = 14) (HF : F_X12_newGame t x1 x2 x3 x4 h = some r) : MA g l yX12_newGame cX12_newGame 6 (none) d [.ref t, .int x1, .int x2, .int x3, .int x4] h (none, r) := by
  refine MA.of (lv0 := [(0, .ref t), (1, .int x1), (2, .int x2), (3, .int x3), (4, .int x4)]) (by decide +kernel) (rfl) (Nat.le_of_ble_eq_true rfl) ?_
  unfold F_X12_newGame at HF
  refine ev_aload_n 0 dX12_newGame_0 rfl ?_
  replace HF := bind_o HF
  obtain ⟨b1, e2, HF⟩ := HF
  refine ev_gS (f := 1304) cl_X12 (k := 4) (by decide) fi_X12_4 rfl fl_X12_13 dX12_newGame_1 hT e2 ?_
  refine ev_iconst (v := 2) dX12_newGame_4 (by decide) ?_
  refine ev_aload_n 0 dX12_newGame_5 rfl ?_
  refine ev_gI (f := 1302) cl_X12 (k := 2) (by decide) fi_X12_2 rfl fl_X12_182 dX12_newGame_6 hT ?_
  refine ev_imul dX12_newGame_9 ?_
  refine ev_iload_n 1 dX12_newGame_10 rfl ?_
  show EvG _ _ _ _ _ _ _ _ _ _ _ 11 _ _ _
  replace HF := bind_ck HF
  obtain ⟨c3, HF⟩ := HF
  refine ev_iast dX12_newGame_11 c3.1 c3.2 ?_
  replace HF := bd_n HF
  obtain ⟨h4, eh4, HF⟩ := HF
  refine ev_heap eh4 ?_
  have c5 : hK h4 t = 14 := by rw [eh4]; exact hT
  refine ev_aload_n 0 dX12_newGame_12 rfl ?_
  replace HF := bind_o HF
  obtain ⟨b6, e7, HF⟩ := HF
  refine ev_gS (f := 1304) cl_X12 (k := 4) (by decide) fi_X12_4 rfl fl_X12_13 dX12_newGame_13 c5 e7 ?_
  refine ev_iconst (v := 2) dX12_newGame_16 (by decide) ?_
  refine ev_aload_n 0 dX12_newGame_17 rfl ?_
  refine ev_gI (f := 1302) cl_X12 (k := 2) (by decide) fi_X12_2 rfl fl_X12_182 dX12_newGame_18 c5 ?_
  refine ev_imul dX12_newGame_21 ?_
  refine ev_iconst (v := 1) dX12_newGame_22 (by decide) ?_
  show EvG _ _ _ _ _ _ _ _ _ _ _ 23 _ _ _
  refine ev_iadd dX12_newGame_23 ?_
  refine ev_iload_n 2 dX12_newGame_24 rfl ?_
  replace HF := bind_ck HF
  obtain ⟨c8, HF⟩ := HF
  refine ev_iast dX12_newGame_25 c8.1 c8.2 ?_
  replace HF := bd_n HF
  obtain ⟨h9, eh9, HF⟩ := HF
  refine ev_heap eh9 ?_
  have c10 : hK h9 t = 14 := by rw [eh9]; exact c5
  refine ev_aload_n 0 dX12_newGame_26 rfl ?_
  replace HF := bind_o HF
  obtain ⟨b11, e12, HF⟩ := HF
  refine ev_gS (f := 1305) cl_X12 (k := 5) (by decide) fi_X12_5 rfl fl_X12_16 dX12_newGame_27 c10 e12 ?_
  refine ev_aload_n 0 dX12_newGame_30 rfl ?_
  refine ev_gI (f := 1302) cl_X12 (k := 2) (by decide) fi_X12_2 rfl fl_X12_182 dX12_newGame_31 c10 ?_
  refine ev_iload_n 3 dX12_newGame_34 rfl ?_
  show EvG _ _ _ _ _ _ _ _ _ _ _ 35 _ _ _
  replace HF := bind_ck HF
  obtain ⟨c13, HF⟩ := HF
  refine ev_iast dX12_newGame_35 c13.1 c13.2 ?_
  replace HF := bd_n HF
  obtain ⟨h14, eh14, HF⟩ := HF
  refine ev_heap eh14 ?_
  have c15 : hK h14 t = 14 := by rw [eh14]; exact c10
  refine ev_aload_n 0 dX12_newGame_36 rfl ?_
  replace HF := bind_o HF
  obtain ⟨b16, e17, HF⟩ := HF
  refine ev_gS (f := 1306) cl_X12 (k := 6) (by decide) fi_X12_6 rfl fl_X12_19 dX12_newGame_37 c15 e17 ?_
  refine ev_aload_n 0 dX12_newGame_40 rfl ?_
  refine ev_gI (f := 1302) cl_X12 (k := 2) (by decide) fi_X12_2 rfl fl_X12_182 dX12_newGame_41 c15 ?_
  refine ev_iload 4 dX12_newGame_44 rfl ?_
  replace HF := bind_ck HF
  obtain ⟨c18, HF⟩ := HF
  refine ev_iast dX12_newGame_46 c18.1 c18.2 ?_
  replace HF := bd_n HF
  obtain ⟨h19, eh19, HF⟩ := HF
  refine ev_heap eh19 ?_
  have c20 : hK h19 t = 14 := by rw [eh19]; exact c15
  refine ev_aload_n 0 dX12_newGame_47 rfl ?_
  show EvG _ _ _ _ _ _ _ _ _ _ _ 48 _ _ _
  replace HF := bind_o HF
  obtain ⟨b21, e22, HF⟩ := HF
  refine ev_gS (f := 1308) cl_X12 (k := 8) (by decide) fi_X12_8 rfl fl_X12_25 dX12_newGame_48 c20 e22 ?_
  refine ev_aload_n 0 dX12_newGame_51 rfl ?_
  refine ev_gI (f := 1302) cl_X12 (k := 2) (by decide) fi_X12_2 rfl fl_X12_182 dX12_newGame_52 c20 ?_
  refine ev_iconst (v := 0) dX12_newGame_55 (by decide) ?_
  replace HF := bind_ck HF
  obtain ⟨c23, HF⟩ := HF
  refine ev_iast dX12_newGame_56 c23.1 c23.2 ?_
  replace HF := bd_n HF
  obtain ⟨h24, eh24, HF⟩ := HF
  refine ev_heap eh24 ?_
  have c25 : hK h24 t = 14 := by rw [eh24]; exact c20
  refine ev_iconst (v := 0) dX12_newGame_57 (by decide) ?_
  refine ev_istore (lv' := [(5, .int 0), (0, .ref t), (1, .int x1), (2, .int x2), (3, .int x3), (4, .int x4)]) dX12_newGame_58 (by decide) (rfl) ?_
  exact Ev.sub [1, 0] rfl (lk_X12_newGame_60 hdd  fu t 0 _ HF)

set_option maxRecDepth 20000 in
theorem lk_X12_toss {g : aG} {l : Launch} {d : Nat} (hdd : 1 ≤ d) {t : Nat} {x1 : Int32} {x2 : Int32} {x3 : Int32} {x4 : Int32} {h : aH} {r : Int32 × aH} (hT : hK h t = 14) (HF : F_X12_toss t x1 x2 x3 x4 h = some r) : MA g l yX12_toss cX12_toss 5 (some .int) d [.ref t, .int x1, .int x2, .int x3, .int x4] h (some (.int r.1), r.2) := by
  refine MA.of (lv0 := [(0, .ref t), (1, .int x1), (2, .int x2), (3, .int x3), (4, .int x4)]) (by decide +kernel) (rfl) (Nat.le_of_ble_eq_true rfl) ?_
  unfold F_X12_toss at HF
  refine ev_aload_n 0 dX12_toss_0 rfl ?_
  refine ev_iconst (v := 0) dX12_toss_1 (by decide) ?_
  refine ev_pI (f := 1300) cl_X12 (k := 0) (by decide) fi_X12_0 rfl fl_X12_175 rfl rfl rfl dX12_toss_2 hT ?_
  replace HF := bd_n HF
  obtain ⟨h1, eh1, HF⟩ := HF
  refine ev_heap eh1 ?_
  have c2 : hK h1 t = 14 := by rw [eh1]; exact hT
  refine ev_aload_n 0 dX12_toss_5 rfl ?_
  refine ev_gI (f := 1302) cl_X12 (k := 2) (by decide) fi_X12_2 rfl fl_X12_182 dX12_toss_6 c2 ?_
  refine ev_sipush (v := 400) dX12_toss_9 (by decide) ?_
  by_cases c3 : hF h1 1302 t = 400
  · replace HF := ite_T c3 HF
    refine ev_icmp_eqT (tgt := 59) dX12_toss_12 (by decide) c3 ?_
    refine ev_iconst (v := (-1)) dX12_toss_59 (by decide) ?_
    obtain rfl := Option.some.inj HF
    exact ev_iret dX12_toss_60
  · replace HF := ite_F c3 HF
    refine ev_icmp_eqF (tgt := 59) dX12_toss_12 (by decide) c3 ?_
    refine ev_aload_n 0 dX12_toss_15 rfl ?_
    refine ev_iload_n 1 dX12_toss_16 rfl ?_
    replace HF := bind_o HF
    obtain ⟨⟨z6, h5⟩, e4, HF⟩ := HF
    replace HF := bd_o (bd_o HF)
    dsimp only at HF
    refine ev_callV (As := [.int x1]) (R1 := (some (.int z6), h5)) (lk_X12_isSide (d := 0) (Nat.le_refl _) c2 e4) ce_X12_isSide im_X12_isSide sl_X12_isSide ml_X12_185 cl_X12 c2 dX12_toss_17 (by omega) (Nat.le_of_ble_eq_true rfl) rfl rfl ?_
    show EvG _ _ _ _ _ _ _ _ _ _ _ 20 [(0, .ref t), (1, .int x1), (2, .int x2), (3, .int x3), (4, .int x4)] [.int z6] h5
    by_cases c8 : z6 = 0
    · replace HF := ite_T c8 HF
      refine ev_if_eqT (tgt := 59) dX12_toss_20 (by decide) c8 ?_
      refine ev_iconst (v := (-1)) dX12_toss_59 (by decide) ?_
      obtain rfl := Option.some.inj HF
      exact ev_iret dX12_toss_60
    · replace HF := ite_F c8 HF
      refine ev_if_eqF (tgt := 59) dX12_toss_20 (by decide) c8 ?_
      refine ev_aload_n 0 dX12_toss_23 rfl ?_
      refine ev_iload_n 2 dX12_toss_24 rfl ?_
      replace HF := bind_ck HF
      obtain ⟨c9, HF⟩ := HF
      replace HF := bind_o HF
      obtain ⟨⟨z12, h11⟩, e10, HF⟩ := HF
      replace HF := bd_o (bd_o HF)
      dsimp only at HF
      refine ev_callV (As := [.int x2]) (R1 := (some (.int z12), h11)) (lk_X12_isSide (d := 0) (Nat.le_refl _) c9 e10) ce_X12_isSide im_X12_isSide sl_X12_isSide ml_X12_185 cl_X12 c9 dX12_toss_25 (by omega) (Nat.le_of_ble_eq_true rfl) rfl rfl ?_
      show EvG _ _ _ _ _ _ _ _ _ _ _ 28 [(0, .ref t), (1, .int x1), (2, .int x2), (3, .int x3), (4, .int x4)] [.int z12] h11
      by_cases c14 : z12 = 0
      · replace HF := ite_T c14 HF
        refine ev_if_eqT (tgt := 59) dX12_toss_28 (by decide) c14 ?_
        refine ev_iconst (v := (-1)) dX12_toss_59 (by decide) ?_
        obtain rfl := Option.some.inj HF
        exact ev_iret dX12_toss_60
      · replace HF := ite_F c14 HF
        refine ev_if_eqF (tgt := 59) dX12_toss_28 (by decide) c14 ?_
        refine ev_iload_n 1 dX12_toss_31 rfl ?_
        refine ev_iload_n 2 dX12_toss_32 rfl ?_
        by_cases c15 : x1 = x2
        · replace HF := ite_T c15 HF
          refine ev_icmp_eqT (tgt := 59) dX12_toss_33 (by decide) c15 ?_
          refine ev_iconst (v := (-1)) dX12_toss_59 (by decide) ?_
          obtain rfl := Option.some.inj HF
          exact ev_iret dX12_toss_60
        · replace HF := ite_F c15 HF
          refine ev_icmp_eqF (tgt := 59) dX12_toss_33 (by decide) c15 ?_
          refine ev_iload_n 3 dX12_toss_36 rfl ?_
          refine ev_iconst (v := 1) dX12_toss_37 (by decide) ?_
          by_cases c16 : x3 < 1
          · replace HF := ite_T c16 HF
            refine ev_icmp_ltT (tgt := 59) dX12_toss_38 (by decide) c16 ?_
            refine ev_iconst (v := (-1)) dX12_toss_59 (by decide) ?_
            obtain rfl := Option.some.inj HF
            exact ev_iret dX12_toss_60
          · replace HF := ite_F c16 HF
            refine ev_icmp_ltF (tgt := 59) dX12_toss_38 (by decide) c16 ?_
            refine ev_iload_n 3 dX12_toss_41 rfl ?_
            refine ev_bipush (v := 120) dX12_toss_42 (by decide) ?_
            by_cases c17 : 120 < x3
            · replace HF := ite_T c17 HF
              refine ev_icmp_gtT (tgt := 59) dX12_toss_44 (by decide) c17 ?_
              refine ev_iconst (v := (-1)) dX12_toss_59 (by decide) ?_
              obtain rfl := Option.some.inj HF
              exact ev_iret dX12_toss_60
            · replace HF := ite_F c17 HF
              refine ev_icmp_gtF (tgt := 59) dX12_toss_44 (by decide) c17 ?_
              refine ev_iload 4 dX12_toss_47 rfl ?_
              refine ev_iconst (v := 1) dX12_toss_49 (by decide) ?_
              by_cases c18 : x4 < 1
              · replace HF := ite_T c18 HF
                refine ev_icmp_ltT (tgt := 59) dX12_toss_50 (by decide) c18 ?_
                refine ev_iconst (v := (-1)) dX12_toss_59 (by decide) ?_
                obtain rfl := Option.some.inj HF
                exact ev_iret dX12_toss_60
              · replace HF := ite_F c18 HF
                refine ev_icmp_ltF (tgt := 59) dX12_toss_50 (by decide) c18 ?_
                refine ev_iload 4 dX12_toss_53 rfl ?_
                refine ev_iconst (v := 2) dX12_toss_55 (by decide) ?_
                by_cases c19 : x4 ≤ 2
                · replace HF := ite_T c19 HF
                  refine ev_icmp_leT (tgt := 61) dX12_toss_56 (by decide) c19 ?_
                  refine ev_aload_n 0 dX12_toss_61 rfl ?_
                  refine ev_iload_n 1 dX12_toss_62 rfl ?_
                  refine ev_iload_n 2 dX12_toss_63 rfl ?_
                  refine ev_iload_n 3 dX12_toss_64 rfl ?_
                  refine ev_iload 4 dX12_toss_65 rfl ?_
                  replace HF := bind_ck HF
                  obtain ⟨c20, HF⟩ := HF
                  replace HF := bind_o HF
                  obtain ⟨h22, e21, HF⟩ := HF
                  refine ev_callV (As := [.int x1, .int x2, .int x3, .int x4]) (R1 := (none, h22)) (lk_X12_newGame (d := 0) (Nat.le_refl _) c20 e21) ce_X12_newGame im_X12_newGame sl_X12_newGame ml_X12_189 cl_X12 c20 dX12_toss_67 (by omega) (Nat.le_of_ble_eq_true rfl) rfl rfl ?_
                  show EvG _ _ _ _ _ _ _ _ _ _ _ 70 [(0, .ref t), (1, .int x1), (2, .int x2), (3, .int x3), (4, .int x4)] [] h22
                  refine ev_aload_n 0 dX12_toss_70 rfl ?_
                  show EvG _ _ _ _ _ _ _ _ _ _ _ 71 _ _ _
                  replace HF := bind_ck HF
                  obtain ⟨c24, HF⟩ := HF
                  refine ev_gI (f := 1302) cl_X12 (k := 2) (by decide) fi_X12_2 rfl fl_X12_182 dX12_toss_71 c24 ?_
                  refine ev_iconst (v := 1) dX12_toss_74 (by decide) ?_
                  refine ev_isub dX12_toss_75 ?_
                  obtain rfl := Option.some.inj HF
                  exact ev_iret dX12_toss_76
                · replace HF := ite_F c19 HF
                  refine ev_icmp_leF (tgt := 61) dX12_toss_56 (by decide) c19 ?_
                  refine ev_iconst (v := (-1)) dX12_toss_59 (by decide) ?_
                  obtain rfl := Option.some.inj HF
                  exact ev_iret dX12_toss_60

set_option maxRecDepth 20000 in
theorem lk_X12_seat_123 {g : aG} {l : Launch} {d : Nat} {h0 : aH} (hdd : 1 ≤ d) {r : Int32 × aH} (k82 : Nat → Int32 → Int32 → Int32 → Int32 → aH → Option (Int32 × aH)) (hk82 : ∀ (t : Nat) (x3 : Int32) (x4 : Int32) (x5 : Int32) (x6 : Int32) (h : aH), k82 t x3 x4 x5 x6 h = some r → Ev g l cX12_seat 7 yX12_seat (some .boolean) d h0 (some (.int r.1), r.2) 82 [(0, .ref t), (3, .int x3), (4, .int x4), (5, .int x5), (6, .int x6)] [] h) (t : Nat) (x3 : Int32) (x4 : Int32) (x5 : Int32) (x6 : Int32) (h : aH) (HF : F_X12_seat_123 k82 t x3 x4 x5 x6 h = some r) : Ev g l cX12_seat 7 yX12_seat (some .boolean) d h0 (some (.int r.1), r.2) 123 [(0, .ref t), (3, .int x3), (4, .int x4), (5, .int x5), (6, .int x6)] [] h := by
  unfold F_X12_seat_123 at HF
  replace HF := bd_n HF
  obtain ⟨v1, ev1, HF⟩ := HF
  refine ev_iinc (v := v1) (lv' := [(6, .int v1), (0, .ref t), (3, .int x3), (4, .int x4), (5, .int x5)]) 4 dX12_seat_123 rfl (by rw [ev1]; rfl) (by decide) (rfl) ?_
  refine ev_goto (tgt := 82) dX12_seat_126 (by decide) ?_
  exact Ev.sub [1, 2, 3, 4, 0] rfl (hk82 t x3 x4 x5 v1 _ HF)

set_option maxRecDepth 20000 in
theorem lk_X12_seat_82 {g : aG} {l : Launch} {d : Nat} {h0 : aH} (hdd : 1 ≤ d) {r : Int32 × aH} : ∀ (n : Nat) (t : Nat) (x3 : Int32) (x4 : Int32) (x5 : Int32) (x6 : Int32) (h : aH), F_X12_seat_82  n t x3 x4 x5 x6 h = some r → Ev g l cX12_seat 7 yX12_seat (some .boolean) d h0 (some (.int r.1), r.2) 82 [(0, .ref t), (3, .int x3), (4, .int x4), (5, .int x5), (6, .int x6)] [] h := by
  intro n
  induction n with
  | zero => intro t x3 x4 x5 x6 h HF; cases HF
  | succ n ih =>
  intro t x3 x4 x5 x6 h HF
  unfold F_X12_seat_82 at HF
  refine ev_iload 4 dX12_seat_82 rfl ?_
  refine ev_bipush (v := 11) dX12_seat_84 (by decide) ?_
  by_cases c1 : 11 ≤ x6
  · replace HF := ite_T c1 HF
    refine ev_icmp_geT (tgt := 129) dX12_seat_86 (by decide) c1 ?_
    refine ev_aload_n 0 dX12_seat_129 rfl ?_
    replace HF := bind_ck HF
    obtain ⟨c2, HF⟩ := HF
    replace HF := bind_o HF
    obtain ⟨b3, e4, HF⟩ := HF
    refine ev_gS (f := 1307) cl_X12 (k := 7) (by decide) fi_X12_7 rfl fl_X12_22 dX12_seat_130 c2 e4 ?_
    refine ev_iload 3 dX12_seat_133 rfl ?_
    refine ev_iload_n 1 dX12_seat_135 rfl ?_
    refine ev_iadd dX12_seat_136 ?_
    refine ev_iload 2 dX12_seat_137 rfl ?_
    replace HF := bind_ck HF
    obtain ⟨c5, HF⟩ := HF
    refine ev_iast dX12_seat_139 c5.1 c5.2 ?_
    replace HF := bd_n HF
    obtain ⟨h6, eh6, HF⟩ := HF
    refine ev_heap eh6 ?_
    have c7 : hK h6 t = 14 := by rw [eh6]; exact c2
    show EvG _ _ _ _ _ _ _ _ _ _ _ 140 _ _ _
    refine ev_iconst (v := 1) dX12_seat_140 (by decide) ?_
    obtain rfl := Option.some.inj HF
    exact ev_zret (v := 1) narrow_b1 dX12_seat_141
  · replace HF := ite_F c1 HF
    refine ev_icmp_geF (tgt := 129) dX12_seat_86 (by decide) c1 ?_
    refine ev_aload_n 0 dX12_seat_89 rfl ?_
    replace HF := bind_ck HF
    obtain ⟨c8, HF⟩ := HF
    replace HF := bind_o HF
    obtain ⟨b9, e10, HF⟩ := HF
    refine ev_gS (f := 1307) cl_X12 (k := 7) (by decide) fi_X12_7 rfl fl_X12_22 dX12_seat_90 c8 e10 ?_
    refine ev_iload 3 dX12_seat_93 rfl ?_
    refine ev_iload 4 dX12_seat_95 rfl ?_
    refine ev_iadd dX12_seat_97 ?_
    replace HF := bind_ck HF
    obtain ⟨c11, HF⟩ := HF
    refine ev_iald dX12_seat_98 c11.1 c11.2 ?_
    refine ev_iload 2 dX12_seat_99 rfl ?_
    show EvG _ _ _ _ _ _ _ _ _ _ _ 101 _ _ _
    by_cases c12 : hI h b9 (x5 + x6).toNatClampNeg = x4
    · replace HF := ite_T c12 HF
      refine ev_icmp_neF (tgt := 123) dX12_seat_101 (by decide) c12 ?_
      refine ev_aload_n 0 dX12_seat_104 rfl ?_
      replace HF := bind_o HF
      obtain ⟨b13, e14, HF⟩ := HF
      refine ev_gS (f := 1307) cl_X12 (k := 7) (by decide) fi_X12_7 rfl fl_X12_22 dX12_seat_105 c8 e14 ?_
      refine ev_iload 3 dX12_seat_108 rfl ?_
      refine ev_iload 4 dX12_seat_110 rfl ?_
      refine ev_iadd dX12_seat_112 ?_
      refine ev_aload_n 0 dX12_seat_113 rfl ?_
      replace HF := bind_o HF
      obtain ⟨b15, e16, HF⟩ := HF
      refine ev_gS (f := 1307) cl_X12 (k := 7) (by decide) fi_X12_7 rfl fl_X12_22 dX12_seat_114 c8 e16 ?_
      show EvG _ _ _ _ _ _ _ _ _ _ _ 117 _ _ _
      refine ev_iload 3 dX12_seat_117 rfl ?_
      refine ev_iload_n 1 dX12_seat_119 rfl ?_
      refine ev_iadd dX12_seat_120 ?_
      replace HF := bind_ck HF
      obtain ⟨c17, HF⟩ := HF
      refine ev_iald dX12_seat_121 c17.1 c17.2 ?_
      replace HF := bind_ck HF
      obtain ⟨c18, HF⟩ := HF
      refine ev_iast dX12_seat_122 c18.1 c18.2 ?_
      replace HF := bd_n HF
      obtain ⟨h19, eh19, HF⟩ := HF
      refine ev_heap eh19 ?_
      have c20 : hK h19 t = 14 := by rw [eh19]; exact c8
      exact Ev.sub [0, 1, 2, 3, 4] rfl (lk_X12_seat_123 hdd (F_X12_seat_82 n) ih t x3 x4 x5 x6 _ HF)
    · replace HF := ite_F c12 HF
      refine ev_icmp_neT (tgt := 123) dX12_seat_101 (by decide) c12 ?_
      exact Ev.sub [0, 1, 2, 3, 4] rfl (lk_X12_seat_123 hdd (F_X12_seat_82 n) ih t x3 x4 x5 x6 _ HF)

set_option maxRecDepth 20000 in
theorem lk_X12_seat {g : aG} {l : Launch} {d : Nat} (hdd : 1 ≤ d) {t : Nat} {x1 : Int32} {x2 : Int32} {x3 : Int32} {x4 : Int32} {h : aH} {r : Int32 × aH} (hT : hK h t = 14) (HF : F_X12_seat t x1 x2 x3 x4 h = some r) : MA g l yX12_seat cX12_seat 7 (some .boolean) d [.ref t, .int x1, .int x2, .int x3, .int x4] h (some (.int r.1), r.2) := by
  refine MA.of (lv0 := [(0, .ref t), (1, .int x1), (2, .int x2), (3, .int x3), (4, .int x4)]) (by decide +kernel) (rfl) (Nat.le_of_ble_eq_true rfl) ?_
  unfold F_X12_seat at HF
  refine ev_aload_n 0 dX12_seat_0 rfl ?_
  refine ev_iconst (v := 0) dX12_seat_1 (by decide) ?_
  refine ev_pI (f := 1300) cl_X12 (k := 0) (by decide) fi_X12_0 rfl fl_X12_175 rfl rfl rfl dX12_seat_2 hT ?_
  replace HF := bd_n HF
  obtain ⟨h1, eh1, HF⟩ := HF
  refine ev_heap eh1 ?_
  have c2 : hK h1 t = 14 := by rw [eh1]; exact hT
  refine ev_aload_n 0 dX12_seat_5 rfl ?_
  refine ev_iload_n 1 dX12_seat_6 rfl ?_
  replace HF := bind_o HF
  obtain ⟨⟨z5, h4⟩, e3, HF⟩ := HF
  replace HF := bd_o (bd_o HF)
  dsimp only at HF
  refine ev_callV (As := [.int x1]) (R1 := (some (.int z5), h4)) (lk_X12_isGame (d := 0) (Nat.le_refl _) c2 e3) ce_X12_isGame im_X12_isGame sl_X12_isGame ml_X12_193 cl_X12 c2 dX12_seat_7 (by omega) (Nat.le_of_ble_eq_true rfl) rfl rfl ?_
  show EvG _ _ _ _ _ _ _ _ _ _ _ 10 [(0, .ref t), (1, .int x1), (2, .int x2), (3, .int x3), (4, .int x4)] [.int z5] h4
  by_cases c7 : z5 = 0
  · replace HF := ite_T c7 HF
    refine ev_if_eqT (tgt := 66) dX12_seat_10 (by decide) c7 ?_
    refine ev_iconst (v := 0) dX12_seat_66 (by decide) ?_
    obtain rfl := Option.some.inj HF
    exact ev_zret (v := 0) narrow_b0 dX12_seat_67
  · replace HF := ite_F c7 HF
    refine ev_if_eqF (tgt := 66) dX12_seat_10 (by decide) c7 ?_
    refine ev_iload_n 2 dX12_seat_13 rfl ?_
    by_cases c8 : x2 < 0
    · replace HF := ite_T c8 HF
      refine ev_if_ltT (tgt := 66) dX12_seat_14 (by decide) c8 ?_
      refine ev_iconst (v := 0) dX12_seat_66 (by decide) ?_
      obtain rfl := Option.some.inj HF
      exact ev_zret (v := 0) narrow_b0 dX12_seat_67
    · replace HF := ite_F c8 HF
      refine ev_if_ltF (tgt := 66) dX12_seat_14 (by decide) c8 ?_
      refine ev_iload_n 2 dX12_seat_17 rfl ?_
      refine ev_iconst (v := 1) dX12_seat_18 (by decide) ?_
      by_cases c9 : 1 < x2
      · replace HF := ite_T c9 HF
        refine ev_icmp_gtT (tgt := 66) dX12_seat_19 (by decide) c9 ?_
        refine ev_iconst (v := 0) dX12_seat_66 (by decide) ?_
        obtain rfl := Option.some.inj HF
        exact ev_zret (v := 0) narrow_b0 dX12_seat_67
      · replace HF := ite_F c9 HF
        refine ev_icmp_gtF (tgt := 66) dX12_seat_19 (by decide) c9 ?_
        refine ev_iload_n 3 dX12_seat_22 rfl ?_
        by_cases c10 : x3 < 0
        · replace HF := ite_T c10 HF
          refine ev_if_ltT (tgt := 66) dX12_seat_23 (by decide) c10 ?_
          refine ev_iconst (v := 0) dX12_seat_66 (by decide) ?_
          obtain rfl := Option.some.inj HF
          exact ev_zret (v := 0) narrow_b0 dX12_seat_67
        · replace HF := ite_F c10 HF
          refine ev_if_ltF (tgt := 66) dX12_seat_23 (by decide) c10 ?_
          refine ev_iload_n 3 dX12_seat_26 rfl ?_
          refine ev_bipush (v := 10) dX12_seat_27 (by decide) ?_
          by_cases c11 : 10 < x3
          · replace HF := ite_T c11 HF
            refine ev_icmp_gtT (tgt := 66) dX12_seat_29 (by decide) c11 ?_
            refine ev_iconst (v := 0) dX12_seat_66 (by decide) ?_
            obtain rfl := Option.some.inj HF
            exact ev_zret (v := 0) narrow_b0 dX12_seat_67
          · replace HF := ite_F c11 HF
            refine ev_icmp_gtF (tgt := 66) dX12_seat_29 (by decide) c11 ?_
            refine ev_iload 4 dX12_seat_32 rfl ?_
            by_cases c12 : x4 < 0
            · replace HF := ite_T c12 HF
              refine ev_if_ltT (tgt := 66) dX12_seat_34 (by decide) c12 ?_
              refine ev_iconst (v := 0) dX12_seat_66 (by decide) ?_
              obtain rfl := Option.some.inj HF
              exact ev_zret (v := 0) narrow_b0 dX12_seat_67
            · replace HF := ite_F c12 HF
              refine ev_if_ltF (tgt := 66) dX12_seat_34 (by decide) c12 ?_
              refine ev_iload 4 dX12_seat_37 rfl ?_
              refine ev_aload_n 0 dX12_seat_39 rfl ?_
              replace HF := bind_ck HF
              obtain ⟨c13, HF⟩ := HF
              replace HF := bind_o HF
              obtain ⟨b14, e15, HF⟩ := HF
              refine ev_gS (f := 1303) cl_X12 (k := 3) (by decide) fi_X12_3 rfl fl_X12_9 dX12_seat_40 c13 e15 ?_
              refine ev_aload_n 0 dX12_seat_43 rfl ?_
              replace HF := bind_o HF
              obtain ⟨b16, e17, HF⟩ := HF
              refine ev_gS (f := 1304) cl_X12 (k := 4) (by decide) fi_X12_4 rfl fl_X12_13 dX12_seat_44 c13 e17 ?_
              refine ev_iconst (v := 2) dX12_seat_47 (by decide) ?_
              refine ev_iload_n 1 dX12_seat_48 rfl ?_
              show EvG _ _ _ _ _ _ _ _ _ _ _ 49 _ _ _
              refine ev_imul dX12_seat_49 ?_
              refine ev_iload_n 2 dX12_seat_50 rfl ?_
              refine ev_iadd dX12_seat_51 ?_
              replace HF := bind_ck HF
              obtain ⟨c18, HF⟩ := HF
              refine ev_iald dX12_seat_52 c18.1 c18.2 ?_
              replace HF := bind_ck HF
              obtain ⟨c19, HF⟩ := HF
              refine ev_iald dX12_seat_53 c19.1 c19.2 ?_
              by_cases c20 : hI h4 b14 (hI h4 b16 ((2 * x1) + x2).toNatClampNeg).toNatClampNeg ≤ x4
              · replace HF := ite_T c20 HF
                refine ev_icmp_geT (tgt := 66) dX12_seat_54 (by decide) c20 ?_
                refine ev_iconst (v := 0) dX12_seat_66 (by decide) ?_
                obtain rfl := Option.some.inj HF
                exact ev_zret (v := 0) narrow_b0 dX12_seat_67
              · replace HF := ite_F c20 HF
                refine ev_icmp_geF (tgt := 66) dX12_seat_54 (by decide) c20 ?_
                refine ev_aload_n 0 dX12_seat_57 rfl ?_
                replace HF := bind_o HF
                obtain ⟨b21, e22, HF⟩ := HF
                refine ev_gS (f := 1308) cl_X12 (k := 8) (by decide) fi_X12_8 rfl fl_X12_25 dX12_seat_58 c13 e22 ?_
                refine ev_iload_n 1 dX12_seat_61 rfl ?_
                replace HF := bind_ck HF
                obtain ⟨c23, HF⟩ := HF
                refine ev_iald dX12_seat_62 c23.1 c23.2 ?_
                by_cases c24 : hI h4 b21 x1.toNatClampNeg ≤ 0
                · replace HF := ite_T c24 HF
                  refine ev_if_leT (tgt := 68) dX12_seat_63 (by decide) c24 ?_
                  refine ev_bipush (v := 22) dX12_seat_68 (by decide) ?_
                  refine ev_iload_n 1 dX12_seat_70 rfl ?_
                  refine ev_imul dX12_seat_71 ?_
                  refine ev_bipush (v := 11) dX12_seat_72 (by decide) ?_
                  refine ev_iload_n 2 dX12_seat_74 rfl ?_
                  refine ev_imul dX12_seat_75 ?_
                  refine ev_iadd dX12_seat_76 ?_
                  show EvG _ _ _ _ _ _ _ _ _ _ _ 77 _ _ _
                  replace HF := bd_n HF
                  obtain ⟨v25, ev25, HF⟩ := HF
                  refine ev_topI ev25 ?_
                  refine ev_istore (lv' := [(5, .int v25), (0, .ref t), (1, .int x1), (2, .int x2), (3, .int x3), (4, .int x4)]) dX12_seat_77 (by decide) (rfl) ?_
                  refine ev_iconst (v := 0) dX12_seat_79 (by decide) ?_
                  refine ev_istore (lv' := [(6, .int 0), (5, .int v25), (0, .ref t), (1, .int x1), (2, .int x2), (3, .int x3), (4, .int x4)]) dX12_seat_80 (by decide) (rfl) ?_
                  exact Ev.sub [2, 5, 6, 1, 0] rfl (lk_X12_seat_82 hdd  fu t x3 x4 v25 0 _ HF)
                · replace HF := ite_F c24 HF
                  refine ev_if_leF (tgt := 68) dX12_seat_63 (by decide) c24 ?_
                  refine ev_iconst (v := 0) dX12_seat_66 (by decide) ?_
                  obtain rfl := Option.some.inj HF
                  exact ev_zret (v := 0) narrow_b0 dX12_seat_67

set_option maxRecDepth 20000 in
theorem lk_X12_table {g : aG} {l : Launch} {d : Nat} (hdd : 0 ≤ d) {x0 : Int32} {x1 : Int32} {h : aH} {r : Int32 × aH} (HF : F_X12_table x0 x1 h = some r) : MA g l yX12_table cX12_table 2 (some .int) d [.int x0, .int x1] h (some (.int r.1), r.2) := by
  refine MA.of (lv0 := [(0, .int x0), (1, .int x1)]) (by decide +kernel) (rfl) (Nat.le_of_ble_eq_true rfl) ?_
  unfold F_X12_table at HF
  refine ev_ldc2 kc_X12_196 dX12_table_0 ?_
  refine ev_bipush (v := 100) dX12_table_3 (by decide) ?_
  refine ev_iload_n 1 dX12_table_5 rfl ?_
  refine ev_iload_n 1 dX12_table_6 rfl ?_
  refine ev_imul dX12_table_7 ?_
  refine ev_isub dX12_table_8 ?_
  refine ev_i2l dX12_table_9 ?_
  show EvG _ _ _ _ _ _ _ _ _ _ _ 10 _ _ _
  refine ev_lmul dX12_table_10 ?_
  refine ev_iload_n 0 dX12_table_11 rfl ?_
  refine ev_i2l dX12_table_12 ?_
  refine ev_lmul dX12_table_13 ?_
  refine ev_sipush (v := 1440) dX12_table_14 (by decide) ?_
  refine ev_iload_n 0 dX12_table_17 rfl ?_
  refine ev_isub dX12_table_18 ?_
  refine ev_i2l dX12_table_19 ?_
  show EvG _ _ _ _ _ _ _ _ _ _ _ 20 _ _ _
  refine ev_lmul dX12_table_20 ?_
  refine ev_ldc2 kc_X12_198 dX12_table_21 ?_
  refine ev_ldiv dX12_table_24 (by decide) ?_
  refine ev_l2i dX12_table_25 ?_
  obtain rfl := Option.some.inj HF
  exact ev_iret dX12_table_26

set_option maxRecDepth 20000 in
theorem lk_X12_left {g : aG} {l : Launch} {d : Nat} (hdd : 0 ≤ d) {t : Nat} {x1 : Int32} {h : aH} {r : Int32 × aH} (hT : hK h t = 14) (HF : F_X12_left t x1 h = some r) : MA g l yX12_left cX12_left 2 (some .int) d [.ref t, .int x1] h (some (.int r.1), r.2) := by
  refine MA.of (lv0 := [(0, .ref t), (1, .int x1)]) (by decide +kernel) (rfl) (Nat.le_of_ble_eq_true rfl) ?_
  unfold F_X12_left at HF
  refine ev_bipush (v := 6) dX12_left_0 (by decide) ?_
  refine ev_aload_n 0 dX12_left_2 rfl ?_
  replace HF := bind_o HF
  obtain ⟨b1, e2, HF⟩ := HF
  refine ev_gS (f := 1340) cl_X12 (k := 40) (by decide) fi_X12_40 rfl fl_X12_87 dX12_left_3 hT e2 ?_
  refine ev_iload_n 1 dX12_left_6 rfl ?_
  replace HF := bind_ck HF
  obtain ⟨c3, HF⟩ := HF
  refine ev_iald dX12_left_7 c3.1 c3.2 ?_
  refine ev_imul dX12_left_8 ?_
  refine ev_bipush (v := 6) dX12_left_9 (by decide) ?_
  show EvG _ _ _ _ _ _ _ _ _ _ _ 11 _ _ _
  refine ev_aload_n 0 dX12_left_11 rfl ?_
  replace HF := bind_o HF
  obtain ⟨b4, e5, HF⟩ := HF
  refine ev_gS (f := 1337) cl_X12 (k := 37) (by decide) fi_X12_37 rfl fl_X12_78 dX12_left_12 hT e5 ?_
  refine ev_iload_n 1 dX12_left_15 rfl ?_
  replace HF := bind_ck HF
  obtain ⟨c6, HF⟩ := HF
  refine ev_iald dX12_left_16 c6.1 c6.2 ?_
  refine ev_imul dX12_left_17 ?_
  refine ev_isub dX12_left_18 ?_
  refine ev_aload_n 0 dX12_left_19 rfl ?_
  replace HF := bind_o HF
  obtain ⟨b7, e8, HF⟩ := HF
  refine ev_gS (f := 1338) cl_X12 (k := 38) (by decide) fi_X12_38 rfl fl_X12_81 dX12_left_20 hT e8 ?_
  show EvG _ _ _ _ _ _ _ _ _ _ _ 23 _ _ _
  refine ev_iload_n 1 dX12_left_23 rfl ?_
  replace HF := bind_ck HF
  obtain ⟨c9, HF⟩ := HF
  refine ev_iald dX12_left_24 c9.1 c9.2 ?_
  refine ev_isub dX12_left_25 ?_
  obtain rfl := Option.some.inj HF
  exact ev_iret dX12_left_26

set_option maxRecDepth 20000 in
theorem lk_X12_lastTurn {g : aG} {l : Launch} {d : Nat} (hdd : 0 ≤ d) {t : Nat} {x1 : Int32} {h : aH} {r : Int32 × aH} (hT : hK h t = 14) (HF : F_X12_lastTurn t x1 h = some r) : MA g l yX12_lastTurn cX12_lastTurn 2 (some .int) d [.ref t, .int x1] h (some (.int r.1), r.2) := by
  refine MA.of (lv0 := [(0, .ref t), (1, .int x1)]) (by decide +kernel) (rfl) (Nat.le_of_ble_eq_true rfl) ?_
  unfold F_X12_lastTurn at HF
  refine ev_iconst (v := 2) dX12_lastTurn_0 (by decide) ?_
  refine ev_aload_n 0 dX12_lastTurn_1 rfl ?_
  replace HF := bind_o HF
  obtain ⟨b1, e2, HF⟩ := HF
  refine ev_gS (f := 1306) cl_X12 (k := 6) (by decide) fi_X12_6 rfl fl_X12_19 dX12_lastTurn_2 hT e2 ?_
  refine ev_iload_n 1 dX12_lastTurn_5 rfl ?_
  replace HF := bind_ck HF
  obtain ⟨c3, HF⟩ := HF
  refine ev_iald dX12_lastTurn_6 c3.1 c3.2 ?_
  refine ev_imul dX12_lastTurn_7 ?_
  refine ev_iconst (v := 1) dX12_lastTurn_8 (by decide) ?_
  show EvG _ _ _ _ _ _ _ _ _ _ _ 9 _ _ _
  refine ev_isub dX12_lastTurn_9 ?_
  obtain rfl := Option.some.inj HF
  exact ev_iret dX12_lastTurn_10

set_option maxRecDepth 20000 in
theorem lk_X12_stop {g : aG} {l : Launch} {d : Nat} (hdd : 0 ≤ d) {t : Nat} {x1 : Int32} {x2 : Int32} {x3 : Int32} {x4 : Int32} {h : aH} {r : aH} (hT : hK h t = 14) (HF : F_X12_stop t x1 x2 x3 x4 h = some r) : MA g l yX12_stop cX12_stop 5 (none) d [.ref t, .int x1, .int x2, .int x3, .int x4] h (none, r) := by
  refine MA.of (lv0 := [(0, .ref t), (1, .int x1), (2, .int x2), (3, .int x3), (4, .int x4)]) (by decide +kernel) (rfl) (Nat.le_of_ble_eq_true rfl) ?_
  unfold F_X12_stop at HF
  refine ev_aload_n 0 dX12_stop_0 rfl ?_
  refine ev_iload_n 1 dX12_stop_1 rfl ?_
  refine ev_pI (f := 1328) cl_X12 (k := 28) (by decide) fi_X12_28 rfl fl_X12_200 rfl rfl rfl dX12_stop_2 hT ?_
  replace HF := bd_n HF
  obtain ⟨h1, eh1, HF⟩ := HF
  refine ev_heap eh1 ?_
  have c2 : hK h1 t = 14 := by rw [eh1]; exact hT
  refine ev_aload_n 0 dX12_stop_5 rfl ?_
  refine ev_iload_n 2 dX12_stop_6 rfl ?_
  refine ev_pI (f := 1329) cl_X12 (k := 29) (by decide) fi_X12_29 rfl fl_X12_203 rfl rfl rfl dX12_stop_7 c2 ?_
  replace HF := bd_n HF
  obtain ⟨h3, eh3, HF⟩ := HF
  refine ev_heap eh3 ?_
  have c4 : hK h3 t = 14 := by rw [eh3]; exact c2
  refine ev_aload_n 0 dX12_stop_10 rfl ?_
  show EvG _ _ _ _ _ _ _ _ _ _ _ 11 _ _ _
  refine ev_iload_n 3 dX12_stop_11 rfl ?_
  refine ev_pI (f := 1330) cl_X12 (k := 30) (by decide) fi_X12_30 rfl fl_X12_206 rfl rfl rfl dX12_stop_12 c4 ?_
  replace HF := bd_n HF
  obtain ⟨h5, eh5, HF⟩ := HF
  refine ev_heap eh5 ?_
  have c6 : hK h5 t = 14 := by rw [eh5]; exact c4
  refine ev_aload_n 0 dX12_stop_15 rfl ?_
  refine ev_iload 4 dX12_stop_16 rfl ?_
  refine ev_pI (f := 1331) cl_X12 (k := 31) (by decide) fi_X12_31 rfl fl_X12_209 rfl rfl rfl dX12_stop_18 c6 ?_
  replace HF := bd_n HF
  obtain ⟨h7, eh7, HF⟩ := HF
  refine ev_heap eh7 ?_
  have c8 : hK h7 t = 14 := by rw [eh7]; exact c6
  obtain rfl := Option.some.inj HF
  exact ev_vret dX12_stop_21

set_option maxRecDepth 20000 in
theorem lk_X12_clearTurn_131 {g : aG} {l : Launch} {d : Nat} {h0 : aH} (hdd : 0 ≤ d) {r : aH} : ∀ (n : Nat) (t : Nat) (x1 : Int32) (x2 : Int32) (h : aH), F_X12_clearTurn_131  n t x1 x2 h = some r → Ev g l cX12_clearTurn 3 yX12_clearTurn (none) d h0 (none, r) 131 [(0, .ref t), (1, .int x1), (2, .int x2)] [] h := by
  intro n
  induction n with
  | zero => intro t x1 x2 h HF; cases HF
  | succ n ih =>
  intro t x1 x2 h HF
  unfold F_X12_clearTurn_131 at HF
  refine ev_iload_n 2 dX12_clearTurn_131 rfl ?_
  refine ev_bipush (v := 11) dX12_clearTurn_132 (by decide) ?_
  refine ev_iload_n 1 dX12_clearTurn_134 rfl ?_
  refine ev_imul dX12_clearTurn_135 ?_
  refine ev_bipush (v := 11) dX12_clearTurn_136 (by decide) ?_
  refine ev_iadd dX12_clearTurn_138 ?_
  by_cases c1 : (11 * x1) + 11 ≤ x2
  · replace HF := ite_T c1 HF
    refine ev_icmp_geT (tgt := 190) dX12_clearTurn_139 (by decide) c1 ?_
    obtain rfl := Option.some.inj HF
    exact ev_vret dX12_clearTurn_190
  · replace HF := ite_F c1 HF
    refine ev_icmp_geF (tgt := 190) dX12_clearTurn_139 (by decide) c1 ?_
    refine ev_aload_n 0 dX12_clearTurn_142 rfl ?_
    replace HF := bind_ck HF
    obtain ⟨c2, HF⟩ := HF
    replace HF := bind_o HF
    obtain ⟨b3, e4, HF⟩ := HF
    refine ev_gS (f := 1353) cl_X12 (k := 53) (by decide) fi_X12_53 rfl fl_X12_127 dX12_clearTurn_143 c2 e4 ?_
    refine ev_iload_n 2 dX12_clearTurn_146 rfl ?_
    refine ev_iconst (v := 0) dX12_clearTurn_147 (by decide) ?_
    replace HF := bind_ck HF
    obtain ⟨c5, HF⟩ := HF
    refine ev_iast dX12_clearTurn_148 c5.1 c5.2 ?_
    replace HF := bd_n HF
    obtain ⟨h6, eh6, HF⟩ := HF
    refine ev_heap eh6 ?_
    have c7 : hK h6 t = 14 := by rw [eh6]; exact c2
    refine ev_aload_n 0 dX12_clearTurn_149 rfl ?_
    replace HF := bind_o HF
    obtain ⟨b8, e9, HF⟩ := HF
    refine ev_gS (f := 1354) cl_X12 (k := 54) (by decide) fi_X12_54 rfl fl_X12_130 dX12_clearTurn_150 c7 e9 ?_
    show EvG _ _ _ _ _ _ _ _ _ _ _ 153 _ _ _
    refine ev_iload_n 2 dX12_clearTurn_153 rfl ?_
    refine ev_iconst (v := 0) dX12_clearTurn_154 (by decide) ?_
    replace HF := bind_ck HF
    obtain ⟨c10, HF⟩ := HF
    refine ev_iast dX12_clearTurn_155 c10.1 c10.2 ?_
    replace HF := bd_n HF
    obtain ⟨h11, eh11, HF⟩ := HF
    refine ev_heap eh11 ?_
    have c12 : hK h11 t = 14 := by rw [eh11]; exact c7
    refine ev_aload_n 0 dX12_clearTurn_156 rfl ?_
    replace HF := bind_o HF
    obtain ⟨b13, e14, HF⟩ := HF
    refine ev_gS (f := 1355) cl_X12 (k := 55) (by decide) fi_X12_55 rfl fl_X12_133 dX12_clearTurn_157 c12 e14 ?_
    refine ev_iload_n 2 dX12_clearTurn_160 rfl ?_
    refine ev_iconst (v := 0) dX12_clearTurn_161 (by decide) ?_
    replace HF := bind_ck HF
    obtain ⟨c15, HF⟩ := HF
    refine ev_iast dX12_clearTurn_162 c15.1 c15.2 ?_
    replace HF := bd_n HF
    obtain ⟨h16, eh16, HF⟩ := HF
    refine ev_heap eh16 ?_
    have c17 : hK h16 t = 14 := by rw [eh16]; exact c12
    show EvG _ _ _ _ _ _ _ _ _ _ _ 163 _ _ _
    refine ev_aload_n 0 dX12_clearTurn_163 rfl ?_
    replace HF := bind_o HF
    obtain ⟨b18, e19, HF⟩ := HF
    refine ev_gS (f := 1356) cl_X12 (k := 56) (by decide) fi_X12_56 rfl fl_X12_136 dX12_clearTurn_164 c17 e19 ?_
    refine ev_iload_n 2 dX12_clearTurn_167 rfl ?_
    refine ev_iconst (v := 0) dX12_clearTurn_168 (by decide) ?_
    replace HF := bind_ck HF
    obtain ⟨c20, HF⟩ := HF
    refine ev_iast dX12_clearTurn_169 c20.1 c20.2 ?_
    replace HF := bd_n HF
    obtain ⟨h21, eh21, HF⟩ := HF
    refine ev_heap eh21 ?_
    have c22 : hK h21 t = 14 := by rw [eh21]; exact c17
    refine ev_aload_n 0 dX12_clearTurn_170 rfl ?_
    replace HF := bind_o HF
    obtain ⟨b23, e24, HF⟩ := HF
    refine ev_gS (f := 1357) cl_X12 (k := 57) (by decide) fi_X12_57 rfl fl_X12_139 dX12_clearTurn_171 c22 e24 ?_
    refine ev_iload_n 2 dX12_clearTurn_174 rfl ?_
    show EvG _ _ _ _ _ _ _ _ _ _ _ 175 _ _ _
    refine ev_iconst (v := 0) dX12_clearTurn_175 (by decide) ?_
    replace HF := bind_ck HF
    obtain ⟨c25, HF⟩ := HF
    refine ev_iast dX12_clearTurn_176 c25.1 c25.2 ?_
    replace HF := bd_n HF
    obtain ⟨h26, eh26, HF⟩ := HF
    refine ev_heap eh26 ?_
    have c27 : hK h26 t = 14 := by rw [eh26]; exact c22
    refine ev_aload_n 0 dX12_clearTurn_177 rfl ?_
    replace HF := bind_o HF
    obtain ⟨b28, e29, HF⟩ := HF
    refine ev_gS (f := 1358) cl_X12 (k := 58) (by decide) fi_X12_58 rfl fl_X12_142 dX12_clearTurn_178 c27 e29 ?_
    refine ev_iload_n 2 dX12_clearTurn_181 rfl ?_
    refine ev_iconst (v := 0) dX12_clearTurn_182 (by decide) ?_
    replace HF := bind_ck HF
    obtain ⟨c30, HF⟩ := HF
    refine ev_iast dX12_clearTurn_183 c30.1 c30.2 ?_
    replace HF := bd_n HF
    obtain ⟨h31, eh31, HF⟩ := HF
    refine ev_heap eh31 ?_
    have c32 : hK h31 t = 14 := by rw [eh31]; exact c27
    replace HF := bd_n HF
    obtain ⟨v33, ev33, HF⟩ := HF
    refine ev_iinc (v := v33) (lv' := [(2, .int v33), (0, .ref t), (1, .int x1)]) 2 dX12_clearTurn_184 rfl (by rw [ev33]; rfl) (by decide) (rfl) ?_
    show EvG _ _ _ _ _ _ _ _ _ _ _ 187 _ _ _
    refine ev_goto (tgt := 131) dX12_clearTurn_187 (by decide) ?_
    exact Ev.sub [1, 2, 0] rfl (ih t x1 v33 _ HF)

set_option maxRecDepth 20000 in
theorem lk_X12_clearTurn {g : aG} {l : Launch} {d : Nat} (hdd : 0 ≤ d) {t : Nat} {x1 : Int32} {h : aH} {r : aH} (hT : hK h t = 14) (HF : F_X12_clearTurn t x1 h = some r) : MA g l yX12_clearTurn cX12_clearTurn 3 (none) d [.ref t, .int x1] h (none, r) := by
  refine MA.of (lv0 := [(0, .ref t), (1, .int x1)]) (by decide +kernel) (rfl) (Nat.le_of_ble_eq_true rfl) ?_
  unfold F_X12_clearTurn at HF
  refine ev_aload_n 0 dX12_clearTurn_0 rfl ?_
  replace HF := bind_o HF
  obtain ⟨b1, e2, HF⟩ := HF
  refine ev_gS (f := 1335) cl_X12 (k := 35) (by decide) fi_X12_35 rfl fl_X12_72 dX12_clearTurn_1 hT e2 ?_
  refine ev_iload_n 1 dX12_clearTurn_4 rfl ?_
  refine ev_iconst (v := 0) dX12_clearTurn_5 (by decide) ?_
  replace HF := bind_ck HF
  obtain ⟨c3, HF⟩ := HF
  refine ev_iast dX12_clearTurn_6 c3.1 c3.2 ?_
  replace HF := bd_n HF
  obtain ⟨h4, eh4, HF⟩ := HF
  refine ev_heap eh4 ?_
  have c5 : hK h4 t = 14 := by rw [eh4]; exact hT
  refine ev_aload_n 0 dX12_clearTurn_7 rfl ?_
  replace HF := bind_o HF
  obtain ⟨b6, e7, HF⟩ := HF
  refine ev_gS (f := 1336) cl_X12 (k := 36) (by decide) fi_X12_36 rfl fl_X12_75 dX12_clearTurn_8 c5 e7 ?_
  show EvG _ _ _ _ _ _ _ _ _ _ _ 11 _ _ _
  refine ev_iload_n 1 dX12_clearTurn_11 rfl ?_
  refine ev_iconst (v := 0) dX12_clearTurn_12 (by decide) ?_
  replace HF := bind_ck HF
  obtain ⟨c8, HF⟩ := HF
  refine ev_iast dX12_clearTurn_13 c8.1 c8.2 ?_
  replace HF := bd_n HF
  obtain ⟨h9, eh9, HF⟩ := HF
  refine ev_heap eh9 ?_
  have c10 : hK h9 t = 14 := by rw [eh9]; exact c5
  refine ev_aload_n 0 dX12_clearTurn_14 rfl ?_
  replace HF := bind_o HF
  obtain ⟨b11, e12, HF⟩ := HF
  refine ev_gS (f := 1337) cl_X12 (k := 37) (by decide) fi_X12_37 rfl fl_X12_78 dX12_clearTurn_15 c10 e12 ?_
  refine ev_iload_n 1 dX12_clearTurn_18 rfl ?_
  refine ev_iconst (v := 0) dX12_clearTurn_19 (by decide) ?_
  replace HF := bind_ck HF
  obtain ⟨c13, HF⟩ := HF
  refine ev_iast dX12_clearTurn_20 c13.1 c13.2 ?_
  replace HF := bd_n HF
  obtain ⟨h14, eh14, HF⟩ := HF
  refine ev_heap eh14 ?_
  have c15 : hK h14 t = 14 := by rw [eh14]; exact c10
  show EvG _ _ _ _ _ _ _ _ _ _ _ 21 _ _ _
  refine ev_aload_n 0 dX12_clearTurn_21 rfl ?_
  replace HF := bind_o HF
  obtain ⟨b16, e17, HF⟩ := HF
  refine ev_gS (f := 1338) cl_X12 (k := 38) (by decide) fi_X12_38 rfl fl_X12_81 dX12_clearTurn_22 c15 e17 ?_
  refine ev_iload_n 1 dX12_clearTurn_25 rfl ?_
  refine ev_iconst (v := 0) dX12_clearTurn_26 (by decide) ?_
  replace HF := bind_ck HF
  obtain ⟨c18, HF⟩ := HF
  refine ev_iast dX12_clearTurn_27 c18.1 c18.2 ?_
  replace HF := bd_n HF
  obtain ⟨h19, eh19, HF⟩ := HF
  refine ev_heap eh19 ?_
  have c20 : hK h19 t = 14 := by rw [eh19]; exact c15
  refine ev_aload_n 0 dX12_clearTurn_28 rfl ?_
  replace HF := bind_o HF
  obtain ⟨b21, e22, HF⟩ := HF
  refine ev_gS (f := 1339) cl_X12 (k := 39) (by decide) fi_X12_39 rfl fl_X12_84 dX12_clearTurn_29 c20 e22 ?_
  refine ev_iload_n 1 dX12_clearTurn_32 rfl ?_
  show EvG _ _ _ _ _ _ _ _ _ _ _ 33 _ _ _
  refine ev_iconst (v := 0) dX12_clearTurn_33 (by decide) ?_
  replace HF := bind_ck HF
  obtain ⟨c23, HF⟩ := HF
  refine ev_iast dX12_clearTurn_34 c23.1 c23.2 ?_
  replace HF := bd_n HF
  obtain ⟨h24, eh24, HF⟩ := HF
  refine ev_heap eh24 ?_
  have c25 : hK h24 t = 14 := by rw [eh24]; exact c20
  refine ev_aload_n 0 dX12_clearTurn_35 rfl ?_
  replace HF := bind_o HF
  obtain ⟨b26, e27, HF⟩ := HF
  refine ev_gS (f := 1340) cl_X12 (k := 40) (by decide) fi_X12_40 rfl fl_X12_87 dX12_clearTurn_36 c25 e27 ?_
  refine ev_iload_n 1 dX12_clearTurn_39 rfl ?_
  refine ev_iconst (v := 0) dX12_clearTurn_40 (by decide) ?_
  replace HF := bind_ck HF
  obtain ⟨c28, HF⟩ := HF
  refine ev_iast dX12_clearTurn_41 c28.1 c28.2 ?_
  replace HF := bd_n HF
  obtain ⟨h29, eh29, HF⟩ := HF
  refine ev_heap eh29 ?_
  have c30 : hK h29 t = 14 := by rw [eh29]; exact c25
  refine ev_aload_n 0 dX12_clearTurn_42 rfl ?_
  show EvG _ _ _ _ _ _ _ _ _ _ _ 43 _ _ _
  replace HF := bind_o HF
  obtain ⟨b31, e32, HF⟩ := HF
  refine ev_gS (f := 1341) cl_X12 (k := 41) (by decide) fi_X12_41 rfl fl_X12_90 dX12_clearTurn_43 c30 e32 ?_
  refine ev_iload_n 1 dX12_clearTurn_46 rfl ?_
  refine ev_iconst (v := 0) dX12_clearTurn_47 (by decide) ?_
  replace HF := bind_ck HF
  obtain ⟨c33, HF⟩ := HF
  refine ev_iast dX12_clearTurn_48 c33.1 c33.2 ?_
  replace HF := bd_n HF
  obtain ⟨h34, eh34, HF⟩ := HF
  refine ev_heap eh34 ?_
  have c35 : hK h34 t = 14 := by rw [eh34]; exact c30
  refine ev_aload_n 0 dX12_clearTurn_49 rfl ?_
  replace HF := bind_o HF
  obtain ⟨b36, e37, HF⟩ := HF
  refine ev_gS (f := 1342) cl_X12 (k := 42) (by decide) fi_X12_42 rfl fl_X12_93 dX12_clearTurn_50 c35 e37 ?_
  refine ev_iload_n 1 dX12_clearTurn_53 rfl ?_
  refine ev_iconst (v := 0) dX12_clearTurn_54 (by decide) ?_
  show EvG _ _ _ _ _ _ _ _ _ _ _ 55 _ _ _
  replace HF := bind_ck HF
  obtain ⟨c38, HF⟩ := HF
  refine ev_iast dX12_clearTurn_55 c38.1 c38.2 ?_
  replace HF := bd_n HF
  obtain ⟨h39, eh39, HF⟩ := HF
  refine ev_heap eh39 ?_
  have c40 : hK h39 t = 14 := by rw [eh39]; exact c35
  refine ev_aload_n 0 dX12_clearTurn_56 rfl ?_
  replace HF := bind_o HF
  obtain ⟨b41, e42, HF⟩ := HF
  refine ev_gS (f := 1343) cl_X12 (k := 43) (by decide) fi_X12_43 rfl fl_X12_96 dX12_clearTurn_57 c40 e42 ?_
  refine ev_iload_n 1 dX12_clearTurn_60 rfl ?_
  refine ev_iconst (v := 0) dX12_clearTurn_61 (by decide) ?_
  replace HF := bind_ck HF
  obtain ⟨c43, HF⟩ := HF
  refine ev_iast dX12_clearTurn_62 c43.1 c43.2 ?_
  replace HF := bd_n HF
  obtain ⟨h44, eh44, HF⟩ := HF
  refine ev_heap eh44 ?_
  have c45 : hK h44 t = 14 := by rw [eh44]; exact c40
  refine ev_aload_n 0 dX12_clearTurn_63 rfl ?_
  replace HF := bind_o HF
  obtain ⟨b46, e47, HF⟩ := HF
  refine ev_gS (f := 1344) cl_X12 (k := 44) (by decide) fi_X12_44 rfl fl_X12_99 dX12_clearTurn_64 c45 e47 ?_
  show EvG _ _ _ _ _ _ _ _ _ _ _ 67 _ _ _
  refine ev_iload_n 1 dX12_clearTurn_67 rfl ?_
  refine ev_iconst (v := 0) dX12_clearTurn_68 (by decide) ?_
  replace HF := bind_ck HF
  obtain ⟨c48, HF⟩ := HF
  refine ev_iast dX12_clearTurn_69 c48.1 c48.2 ?_
  replace HF := bd_n HF
  obtain ⟨h49, eh49, HF⟩ := HF
  refine ev_heap eh49 ?_
  have c50 : hK h49 t = 14 := by rw [eh49]; exact c45
  refine ev_aload_n 0 dX12_clearTurn_70 rfl ?_
  replace HF := bind_o HF
  obtain ⟨b51, e52, HF⟩ := HF
  refine ev_gS (f := 1345) cl_X12 (k := 45) (by decide) fi_X12_45 rfl fl_X12_102 dX12_clearTurn_71 c50 e52 ?_
  refine ev_iload_n 1 dX12_clearTurn_74 rfl ?_
  refine ev_iconst (v := (-1)) dX12_clearTurn_75 (by decide) ?_
  replace HF := bind_ck HF
  obtain ⟨c53, HF⟩ := HF
  refine ev_iast dX12_clearTurn_76 c53.1 c53.2 ?_
  replace HF := bd_n HF
  obtain ⟨h54, eh54, HF⟩ := HF
  refine ev_heap eh54 ?_
  have c55 : hK h54 t = 14 := by rw [eh54]; exact c50
  show EvG _ _ _ _ _ _ _ _ _ _ _ 77 _ _ _
  refine ev_aload_n 0 dX12_clearTurn_77 rfl ?_
  replace HF := bind_o HF
  obtain ⟨b56, e57, HF⟩ := HF
  refine ev_gS (f := 1346) cl_X12 (k := 46) (by decide) fi_X12_46 rfl fl_X12_105 dX12_clearTurn_78 c55 e57 ?_
  refine ev_iload_n 1 dX12_clearTurn_81 rfl ?_
  refine ev_iconst (v := (-1)) dX12_clearTurn_82 (by decide) ?_
  replace HF := bind_ck HF
  obtain ⟨c58, HF⟩ := HF
  refine ev_iast dX12_clearTurn_83 c58.1 c58.2 ?_
  replace HF := bd_n HF
  obtain ⟨h59, eh59, HF⟩ := HF
  refine ev_heap eh59 ?_
  have c60 : hK h59 t = 14 := by rw [eh59]; exact c55
  refine ev_aload_n 0 dX12_clearTurn_84 rfl ?_
  replace HF := bind_o HF
  obtain ⟨b61, e62, HF⟩ := HF
  refine ev_gS (f := 1347) cl_X12 (k := 47) (by decide) fi_X12_47 rfl fl_X12_108 dX12_clearTurn_85 c60 e62 ?_
  refine ev_iload_n 1 dX12_clearTurn_88 rfl ?_
  show EvG _ _ _ _ _ _ _ _ _ _ _ 89 _ _ _
  refine ev_iconst (v := 2) dX12_clearTurn_89 (by decide) ?_
  replace HF := bind_ck HF
  obtain ⟨c63, HF⟩ := HF
  refine ev_iast dX12_clearTurn_90 c63.1 c63.2 ?_
  replace HF := bd_n HF
  obtain ⟨h64, eh64, HF⟩ := HF
  refine ev_heap eh64 ?_
  have c65 : hK h64 t = 14 := by rw [eh64]; exact c60
  refine ev_aload_n 0 dX12_clearTurn_91 rfl ?_
  replace HF := bind_o HF
  obtain ⟨b66, e67, HF⟩ := HF
  refine ev_gS (f := 1348) cl_X12 (k := 48) (by decide) fi_X12_48 rfl fl_X12_111 dX12_clearTurn_92 c65 e67 ?_
  refine ev_iload_n 1 dX12_clearTurn_95 rfl ?_
  refine ev_iconst (v := 0) dX12_clearTurn_96 (by decide) ?_
  replace HF := bind_ck HF
  obtain ⟨c68, HF⟩ := HF
  refine ev_iast dX12_clearTurn_97 c68.1 c68.2 ?_
  replace HF := bd_n HF
  obtain ⟨h69, eh69, HF⟩ := HF
  refine ev_heap eh69 ?_
  have c70 : hK h69 t = 14 := by rw [eh69]; exact c65
  refine ev_aload_n 0 dX12_clearTurn_98 rfl ?_
  show EvG _ _ _ _ _ _ _ _ _ _ _ 99 _ _ _
  replace HF := bind_o HF
  obtain ⟨b71, e72, HF⟩ := HF
  refine ev_gS (f := 1349) cl_X12 (k := 49) (by decide) fi_X12_49 rfl fl_X12_114 dX12_clearTurn_99 c70 e72 ?_
  refine ev_iload_n 1 dX12_clearTurn_102 rfl ?_
  refine ev_iconst (v := 0) dX12_clearTurn_103 (by decide) ?_
  replace HF := bind_ck HF
  obtain ⟨c73, HF⟩ := HF
  refine ev_iast dX12_clearTurn_104 c73.1 c73.2 ?_
  replace HF := bd_n HF
  obtain ⟨h74, eh74, HF⟩ := HF
  refine ev_heap eh74 ?_
  have c75 : hK h74 t = 14 := by rw [eh74]; exact c70
  refine ev_aload_n 0 dX12_clearTurn_105 rfl ?_
  replace HF := bind_o HF
  obtain ⟨b76, e77, HF⟩ := HF
  refine ev_gS (f := 1350) cl_X12 (k := 50) (by decide) fi_X12_50 rfl fl_X12_117 dX12_clearTurn_106 c75 e77 ?_
  refine ev_iload_n 1 dX12_clearTurn_109 rfl ?_
  refine ev_iconst (v := 0) dX12_clearTurn_110 (by decide) ?_
  show EvG _ _ _ _ _ _ _ _ _ _ _ 111 _ _ _
  replace HF := bind_ck HF
  obtain ⟨c78, HF⟩ := HF
  refine ev_iast dX12_clearTurn_111 c78.1 c78.2 ?_
  replace HF := bd_n HF
  obtain ⟨h79, eh79, HF⟩ := HF
  refine ev_heap eh79 ?_
  have c80 : hK h79 t = 14 := by rw [eh79]; exact c75
  refine ev_aload_n 0 dX12_clearTurn_112 rfl ?_
  replace HF := bind_o HF
  obtain ⟨b81, e82, HF⟩ := HF
  refine ev_gS (f := 1351) cl_X12 (k := 51) (by decide) fi_X12_51 rfl fl_X12_120 dX12_clearTurn_113 c80 e82 ?_
  refine ev_iload_n 1 dX12_clearTurn_116 rfl ?_
  refine ev_iconst (v := (-1)) dX12_clearTurn_117 (by decide) ?_
  replace HF := bind_ck HF
  obtain ⟨c83, HF⟩ := HF
  refine ev_iast dX12_clearTurn_118 c83.1 c83.2 ?_
  replace HF := bd_n HF
  obtain ⟨h84, eh84, HF⟩ := HF
  refine ev_heap eh84 ?_
  have c85 : hK h84 t = 14 := by rw [eh84]; exact c80
  refine ev_aload_n 0 dX12_clearTurn_119 rfl ?_
  replace HF := bind_o HF
  obtain ⟨b86, e87, HF⟩ := HF
  refine ev_gS (f := 1352) cl_X12 (k := 52) (by decide) fi_X12_52 rfl fl_X12_123 dX12_clearTurn_120 c85 e87 ?_
  show EvG _ _ _ _ _ _ _ _ _ _ _ 123 _ _ _
  refine ev_iload_n 1 dX12_clearTurn_123 rfl ?_
  refine ev_iconst (v := 0) dX12_clearTurn_124 (by decide) ?_
  replace HF := bind_ck HF
  obtain ⟨c88, HF⟩ := HF
  refine ev_bast dX12_clearTurn_125 c88.1 c88.2 rfl ?_
  replace HF := bd_n HF
  obtain ⟨h89, eh89, HF⟩ := HF
  refine ev_heap eh89 ?_
  have c90 : hK h89 t = 14 := by rw [eh89]; exact c85
  refine ev_bipush (v := 11) dX12_clearTurn_126 (by decide) ?_
  refine ev_iload_n 1 dX12_clearTurn_128 rfl ?_
  refine ev_imul dX12_clearTurn_129 ?_
  replace HF := bd_n HF
  obtain ⟨v91, ev91, HF⟩ := HF
  refine ev_topI ev91 ?_
  refine ev_istore_n (lv' := [(2, .int v91), (0, .ref t), (1, .int x1)]) dX12_clearTurn_130 (by decide) (rfl) ?_
  exact Ev.sub [1, 2, 0] rfl (lk_X12_clearTurn_131 hdd  fu t x1 v91 _ HF)

set_option maxRecDepth 20000 in
theorem lk_X12_rowOf {g : aG} {l : Launch} {d : Nat} (hdd : 0 ≤ d) {t : Nat} {x1 : Int32} {x2 : Int32} {x3 : Int32} {h : aH} {r : Int32 × aH} (hT : hK h t = 14) (HF : F_X12_rowOf t x1 x2 x3 h = some r) : MA g l yX12_rowOf cX12_rowOf 4 (some .int) d [.ref t, .int x1, .int x2, .int x3] h (some (.int r.1), r.2) := by
  refine MA.of (lv0 := [(0, .ref t), (1, .int x1), (2, .int x2), (3, .int x3)]) (by decide +kernel) (rfl) (Nat.le_of_ble_eq_true rfl) ?_
  unfold F_X12_rowOf at HF
  refine ev_aload_n 0 dX12_rowOf_0 rfl ?_
  replace HF := bind_o HF
  obtain ⟨b1, e2, HF⟩ := HF
  refine ev_gS (f := 1310) cl_X12 (k := 10) (by decide) fi_X12_10 rfl fl_X12_32 dX12_rowOf_1 hT e2 ?_
  refine ev_sipush (v := 130) dX12_rowOf_4 (by decide) ?_
  refine ev_iconst (v := 4) dX12_rowOf_7 (by decide) ?_
  refine ev_iload_n 1 dX12_rowOf_8 rfl ?_
  refine ev_imul dX12_rowOf_9 ?_
  refine ev_iload_n 2 dX12_rowOf_10 rfl ?_
  show EvG _ _ _ _ _ _ _ _ _ _ _ 11 _ _ _
  refine ev_iadd dX12_rowOf_11 ?_
  refine ev_imul dX12_rowOf_12 ?_
  refine ev_iload_n 3 dX12_rowOf_13 rfl ?_
  refine ev_iadd dX12_rowOf_14 ?_
  replace HF := bind_ck HF
  obtain ⟨c3, HF⟩ := HF
  refine ev_iald dX12_rowOf_15 c3.1 c3.2 ?_
  obtain rfl := Option.some.inj HF
  exact ev_iret dX12_rowOf_16

set_option maxRecDepth 20000 in
theorem lk_X12_aim {g : aG} {l : Launch} {d : Nat} (hdd : 0 ≤ d) {t : Nat} {x1 : Int32} {x2 : Int32} {h : aH} {r : aH} (hT : hK h t = 14) (HF : F_X12_aim t x1 x2 h = some r) : MA g l yX12_aim cX12_aim 6 (none) d [.ref t, .int x1, .int x2] h (none, r) := by
  refine MA.of (lv0 := [(0, .ref t), (1, .int x1), (2, .int x2)]) (by decide +kernel) (rfl) (Nat.le_of_ble_eq_true rfl) ?_
  unfold F_X12_aim at HF
  refine ev_iload_n 2 dX12_aim_0 rfl ?_
  refine ev_iconst (v := 3) dX12_aim_1 (by decide) ?_
  by_cases c1 : x2 = 3
  · replace HF := ite_T c1 HF
    refine ev_icmp_neF (tgt := 32) dX12_aim_2 (by decide) c1 ?_
    refine ev_aload_n 0 dX12_aim_5 rfl ?_
    refine ev_aload_n 0 dX12_aim_6 rfl ?_
    replace HF := bind_o HF
    obtain ⟨b2, e3, HF⟩ := HF
    refine ev_gS (f := 1335) cl_X12 (k := 35) (by decide) fi_X12_35 rfl fl_X12_72 dX12_aim_7 hT e3 ?_
    refine ev_iconst (v := 0) dX12_aim_10 (by decide) ?_
    replace HF := bind_ck HF
    obtain ⟨c4, HF⟩ := HF
    refine ev_iald dX12_aim_11 c4.1 c4.2 ?_
    refine ev_aload_n 0 dX12_aim_12 rfl ?_
    replace HF := bind_o HF
    obtain ⟨b5, e6, HF⟩ := HF
    refine ev_gS (f := 1335) cl_X12 (k := 35) (by decide) fi_X12_35 rfl fl_X12_72 dX12_aim_13 hT e6 ?_
    show EvG _ _ _ _ _ _ _ _ _ _ _ 16 _ _ _
    refine ev_iconst (v := 2) dX12_aim_16 (by decide) ?_
    replace HF := bind_ck HF
    obtain ⟨c7, HF⟩ := HF
    refine ev_iald dX12_aim_17 c7.1 c7.2 ?_
    refine ev_iadd dX12_aim_18 ?_
    refine ev_aload_n 0 dX12_aim_19 rfl ?_
    replace HF := bind_o HF
    obtain ⟨b8, e9, HF⟩ := HF
    refine ev_gS (f := 1335) cl_X12 (k := 35) (by decide) fi_X12_35 rfl fl_X12_72 dX12_aim_20 hT e9 ?_
    refine ev_iconst (v := 1) dX12_aim_23 (by decide) ?_
    replace HF := bind_ck HF
    obtain ⟨c10, HF⟩ := HF
    refine ev_iald dX12_aim_24 c10.1 c10.2 ?_
    refine ev_isub dX12_aim_25 ?_
    show EvG _ _ _ _ _ _ _ _ _ _ _ 26 _ _ _
    refine ev_iconst (v := 1) dX12_aim_26 (by decide) ?_
    refine ev_iadd dX12_aim_27 ?_
    refine ev_pI (f := 1334) cl_X12 (k := 34) (by decide) fi_X12_34 rfl fl_X12_221 rfl rfl rfl dX12_aim_28 hT ?_
    replace HF := bd_n HF
    obtain ⟨h11, eh11, HF⟩ := HF
    refine ev_heap eh11 ?_
    have c12 : hK h11 t = 14 := by rw [eh11]; exact hT
    obtain rfl := Option.some.inj HF
    exact ev_vret dX12_aim_31
  · replace HF := ite_F c1 HF
    refine ev_icmp_neT (tgt := 32) dX12_aim_2 (by decide) c1 ?_
    refine ev_aload_n 0 dX12_aim_32 rfl ?_
    replace HF := bind_o HF
    obtain ⟨b13, e14, HF⟩ := HF
    refine ev_gS (f := 1335) cl_X12 (k := 35) (by decide) fi_X12_35 rfl fl_X12_72 dX12_aim_33 hT e14 ?_
    refine ev_iconst (v := 0) dX12_aim_36 (by decide) ?_
    replace HF := bind_ck HF
    obtain ⟨c15, HF⟩ := HF
    refine ev_iald dX12_aim_37 c15.1 c15.2 ?_
    replace HF := bd_n HF
    obtain ⟨v16, ev16, HF⟩ := HF
    refine ev_topI ev16 ?_
    refine ev_istore_n (lv' := [(3, .int v16), (0, .ref t), (1, .int x1), (2, .int x2)]) dX12_aim_38 (by decide) (rfl) ?_
    refine ev_aload_n 1 dX12_aim_39 rfl ?_
    replace HF := bind_o HF
    obtain ⟨b17, e18, HF⟩ := HF
    refine ev_gS (f := 1343) cl_X12 (k := 43) (by decide) fi_X12_43 rfl fl_X12_96 dX12_aim_40 hT e18 ?_
    show EvG _ _ _ _ _ _ _ _ _ _ _ 43 _ _ _
    refine ev_iconst (v := 0) dX12_aim_43 (by decide) ?_
    replace HF := bind_ck HF
    obtain ⟨c19, HF⟩ := HF
    refine ev_iald dX12_aim_44 c19.1 c19.2 ?_
    replace HF := bd_n HF
    obtain ⟨v20, ev20, HF⟩ := HF
    refine ev_topI ev20 ?_
    refine ev_istore (lv' := [(4, .int v20), (3, .int v16), (0, .ref t), (1, .int x1), (2, .int x2)]) dX12_aim_45 (by decide) (rfl) ?_
    refine ev_aload_n 2 dX12_aim_47 rfl ?_
    replace HF := bind_o HF
    obtain ⟨b21, e22, HF⟩ := HF
    refine ev_gS (f := 1343) cl_X12 (k := 43) (by decide) fi_X12_43 rfl fl_X12_96 dX12_aim_48 hT e22 ?_
    refine ev_iconst (v := 1) dX12_aim_51 (by decide) ?_
    replace HF := bind_ck HF
    obtain ⟨c23, HF⟩ := HF
    refine ev_iald dX12_aim_52 c23.1 c23.2 ?_
    replace HF := bd_n HF
    obtain ⟨v24, ev24, HF⟩ := HF
    refine ev_topI ev24 ?_
    refine ev_istore (lv' := [(5, .int v24), (4, .int v20), (3, .int v16), (0, .ref t), (1, .int x1), (2, .int x2)]) dX12_aim_53 (by decide) (rfl) ?_
    show EvG _ _ _ _ _ _ _ _ _ _ _ 55 _ _ _
    refine ev_iload 0 dX12_aim_55 rfl ?_
    refine ev_iload 1 dX12_aim_57 rfl ?_
    by_cases c25 : v24 ≤ v20
    · replace HF := ite_T c25 HF
      refine ev_icmp_leT (tgt := 86) dX12_aim_59 (by decide) c25 ?_
      refine ev_aload_n 3 dX12_aim_86 rfl ?_
      refine ev_iload 1 dX12_aim_87 rfl ?_
      by_cases c26 : v20 = 0
      · replace HF := ite_T c26 HF
        refine ev_if_neF (tgt := 96) dX12_aim_89 (by decide) c26 ?_
        refine ev_iconst (v := 1) dX12_aim_92 (by decide) ?_
        refine ev_goto (tgt := 109) dX12_aim_93 (by decide) ?_
        refine ev_pI (f := 1334) cl_X12 (k := 34) (by decide) fi_X12_34 rfl fl_X12_221 rfl rfl rfl dX12_aim_109 hT ?_
        replace HF := bd_n HF
        obtain ⟨h27, eh27, HF⟩ := HF
        refine ev_heap eh27 ?_
        have c28 : hK h27 t = 14 := by rw [eh27]; exact hT
        obtain rfl := Option.some.inj HF
        exact ev_vret dX12_aim_112
      · replace HF := ite_F c26 HF
        refine ev_if_neT (tgt := 96) dX12_aim_89 (by decide) c26 ?_
        refine ev_iload_n 2 dX12_aim_96 rfl ?_
        refine ev_i2l dX12_aim_97 ?_
        refine ev_iload 0 dX12_aim_98 rfl ?_
        refine ev_i2l dX12_aim_100 ?_
        refine ev_lmul dX12_aim_101 ?_
        refine ev_iload 1 dX12_aim_102 rfl ?_
        refine ev_i2l dX12_aim_104 ?_
        show EvG _ _ _ _ _ _ _ _ _ _ _ 105 _ _ _
        replace HF := bind_ck HF
        obtain ⟨c29, HF⟩ := HF
        refine ev_ldiv dX12_aim_105 c29 ?_
        refine ev_l2i dX12_aim_106 ?_
        refine ev_iconst (v := 1) dX12_aim_107 (by decide) ?_
        refine ev_iadd dX12_aim_108 ?_
        refine ev_pI (f := 1334) cl_X12 (k := 34) (by decide) fi_X12_34 rfl fl_X12_221 rfl rfl rfl dX12_aim_109 hT ?_
        replace HF := bd_n HF
        obtain ⟨h30, eh30, HF⟩ := HF
        refine ev_heap eh30 ?_
        have c31 : hK h30 t = 14 := by rw [eh30]; exact hT
        obtain rfl := Option.some.inj HF
        exact ev_vret dX12_aim_112
    · replace HF := ite_F c25 HF
      refine ev_icmp_leF (tgt := 86) dX12_aim_59 (by decide) c25 ?_
      refine ev_aload_n 3 dX12_aim_62 rfl ?_
      refine ev_iload_n 2 dX12_aim_63 rfl ?_
      refine ev_sipush (v := 200) dX12_aim_64 (by decide) ?_
      refine ev_iload 0 dX12_aim_67 rfl ?_
      refine ev_iload 1 dX12_aim_69 rfl ?_
      refine ev_isub dX12_aim_71 ?_
      refine ev_imul dX12_aim_72 ?_
      show EvG _ _ _ _ _ _ _ _ _ _ _ 73 _ _ _
      refine ev_sipush (v := 1000) dX12_aim_73 (by decide) ?_
      refine ev_idiv dX12_aim_76 (by decide) ?_
      refine ev_iadd dX12_aim_77 ?_
      refine ev_iconst (v := 1) dX12_aim_78 (by decide) ?_
      refine ev_iadd dX12_aim_79 ?_
      refine ev_pI (f := 1334) cl_X12 (k := 34) (by decide) fi_X12_34 rfl fl_X12_221 rfl rfl rfl dX12_aim_80 hT ?_
      replace HF := bd_n HF
      obtain ⟨h32, eh32, HF⟩ := HF
      refine ev_heap eh32 ?_
      have c33 : hK h32 t = 14 := by rw [eh32]; exact hT
      refine ev_goto (tgt := 112) dX12_aim_83 (by decide) ?_
      obtain rfl := Option.some.inj HF
      exact ev_vret dX12_aim_112

set_option maxRecDepth 20000 in
theorem lk_X12_change {g : aG} {l : Launch} {d : Nat} (hdd : 0 ≤ d) {t : Nat} {x1 : Int32} {h : aH} {r : aH} (hT : hK h t = 14) (HF : F_X12_change t x1 h = some r) : MA g l yX12_change cX12_change 3 (none) d [.ref t, .int x1] h (none, r) := by
  refine MA.of (lv0 := [(0, .ref t), (1, .int x1)]) (by decide +kernel) (rfl) (Nat.le_of_ble_eq_true rfl) ?_
  unfold F_X12_change at HF
  refine ev_aload_n 0 dX12_change_0 rfl ?_
  replace HF := bind_o HF
  obtain ⟨b1, e2, HF⟩ := HF
  refine ev_gS (f := 1345) cl_X12 (k := 45) (by decide) fi_X12_45 rfl fl_X12_102 dX12_change_1 hT e2 ?_
  refine ev_iload_n 1 dX12_change_4 rfl ?_
  replace HF := bind_ck HF
  obtain ⟨c3, HF⟩ := HF
  refine ev_iald dX12_change_5 c3.1 c3.2 ?_
  replace HF := bd_n HF
  obtain ⟨v4, ev4, HF⟩ := HF
  refine ev_topI ev4 ?_
  refine ev_istore_n (lv' := [(2, .int v4), (0, .ref t), (1, .int x1)]) dX12_change_6 (by decide) (rfl) ?_
  refine ev_aload_n 1 dX12_change_7 rfl ?_
  replace HF := bind_o HF
  obtain ⟨b5, e6, HF⟩ := HF
  refine ev_gS (f := 1345) cl_X12 (k := 45) (by decide) fi_X12_45 rfl fl_X12_102 dX12_change_8 hT e6 ?_
  show EvG _ _ _ _ _ _ _ _ _ _ _ 11 _ _ _
  refine ev_iload_n 2 dX12_change_11 rfl ?_
  refine ev_aload_n 1 dX12_change_12 rfl ?_
  replace HF := bind_o HF
  obtain ⟨b7, e8, HF⟩ := HF
  refine ev_gS (f := 1346) cl_X12 (k := 46) (by decide) fi_X12_46 rfl fl_X12_105 dX12_change_13 hT e8 ?_
  refine ev_iload_n 2 dX12_change_16 rfl ?_
  replace HF := bind_ck HF
  obtain ⟨c9, HF⟩ := HF
  refine ev_iald dX12_change_17 c9.1 c9.2 ?_
  replace HF := bind_ck HF
  obtain ⟨c10, HF⟩ := HF
  refine ev_iast dX12_change_18 c10.1 c10.2 ?_
  replace HF := bd_n HF
  obtain ⟨h11, eh11, HF⟩ := HF
  refine ev_heap eh11 ?_
  have c12 : hK h11 t = 14 := by rw [eh11]; exact hT
  refine ev_aload_n 1 dX12_change_19 rfl ?_
  replace HF := bind_o HF
  obtain ⟨b13, e14, HF⟩ := HF
  refine ev_gS (f := 1346) cl_X12 (k := 46) (by decide) fi_X12_46 rfl fl_X12_105 dX12_change_20 c12 e14 ?_
  show EvG _ _ _ _ _ _ _ _ _ _ _ 23 _ _ _
  refine ev_iload_n 2 dX12_change_23 rfl ?_
  refine ev_iload_n 0 dX12_change_24 rfl ?_
  replace HF := bind_ck HF
  obtain ⟨c15, HF⟩ := HF
  refine ev_iast dX12_change_25 c15.1 c15.2 ?_
  replace HF := bd_n HF
  obtain ⟨h16, eh16, HF⟩ := HF
  refine ev_heap eh16 ?_
  have c17 : hK h16 t = 14 := by rw [eh16]; exact c12
  obtain rfl := Option.some.inj HF
  exact ev_vret dX12_change_26

set_option maxRecDepth 20000 in
theorem lk_X12_becomesWhole {g : aG} {l : Launch} {d : Nat} (hdd : 1 ≤ d) {t : Nat} {x1 : Int32} {x2 : Int32} {h : aH} {r : aH} (hT : hK h t = 14) (HF : F_X12_becomesWhole t x1 x2 h = some r) : MA g l yX12_becomesWhole cX12_becomesWhole 3 (none) d [.ref t, .int x1, .int x2] h (none, r) := by
  refine MA.of (lv0 := [(0, .ref t), (1, .int x1), (2, .int x2)]) (by decide +kernel) (rfl) (Nat.le_of_ble_eq_true rfl) ?_
  unfold F_X12_becomesWhole at HF
  refine ev_aload_n 0 dX12_becomesWhole_0 rfl ?_
  replace HF := bind_o HF
  obtain ⟨b1, e2, HF⟩ := HF
  refine ev_gS (f := 1362) cl_X12 (k := 62) (by decide) fi_X12_62 rfl fl_X12_154 dX12_becomesWhole_1 hT e2 ?_
  refine ev_iload_n 2 dX12_becomesWhole_4 rfl ?_
  refine ev_iconst (v := 1) dX12_becomesWhole_5 (by decide) ?_
  replace HF := bind_ck HF
  obtain ⟨c3, HF⟩ := HF
  refine ev_bast dX12_becomesWhole_6 c3.1 c3.2 rfl ?_
  replace HF := bd_n HF
  obtain ⟨h4, eh4, HF⟩ := HF
  refine ev_heap eh4 ?_
  have c5 : hK h4 t = 14 := by rw [eh4]; exact hT
  refine ev_aload_n 0 dX12_becomesWhole_7 rfl ?_
  replace HF := bind_o HF
  obtain ⟨b6, e7, HF⟩ := HF
  refine ev_gS (f := 1337) cl_X12 (k := 37) (by decide) fi_X12_37 rfl fl_X12_78 dX12_becomesWhole_8 c5 e7 ?_
  show EvG _ _ _ _ _ _ _ _ _ _ _ 11 _ _ _
  refine ev_iload_n 1 dX12_becomesWhole_11 rfl ?_
  refine ev_dup2 dX12_becomesWhole_12 rfl rfl ?_
  replace HF := bind_ck HF
  obtain ⟨c8, HF⟩ := HF
  refine ev_iald dX12_becomesWhole_13 c8.1 c8.2 ?_
  refine ev_iconst (v := 1) dX12_becomesWhole_14 (by decide) ?_
  refine ev_iadd dX12_becomesWhole_15 ?_
  refine ev_iast dX12_becomesWhole_16 c8.1 c8.2 ?_
  replace HF := bd_n HF
  obtain ⟨h9, eh9, HF⟩ := HF
  refine ev_heap eh9 ?_
  have c10 : hK h9 t = 14 := by rw [eh9]; exact c5
  refine ev_aload_n 0 dX12_becomesWhole_17 rfl ?_
  replace HF := bind_o HF
  obtain ⟨b11, e12, HF⟩ := HF
  refine ev_gS (f := 1338) cl_X12 (k := 38) (by decide) fi_X12_38 rfl fl_X12_81 dX12_becomesWhole_18 c10 e12 ?_
  show EvG _ _ _ _ _ _ _ _ _ _ _ 21 _ _ _
  refine ev_iload_n 1 dX12_becomesWhole_21 rfl ?_
  refine ev_iconst (v := 0) dX12_becomesWhole_22 (by decide) ?_
  replace HF := bind_ck HF
  obtain ⟨c13, HF⟩ := HF
  refine ev_iast dX12_becomesWhole_23 c13.1 c13.2 ?_
  replace HF := bd_n HF
  obtain ⟨h14, eh14, HF⟩ := HF
  refine ev_heap eh14 ?_
  have c15 : hK h14 t = 14 := by rw [eh14]; exact c10
  refine ev_aload_n 0 dX12_becomesWhole_24 rfl ?_
  refine ev_iload_n 1 dX12_becomesWhole_25 rfl ?_
  replace HF := bind_o HF
  obtain ⟨h17, e16, HF⟩ := HF
  refine ev_callV (As := [.int x1]) (R1 := (none, h17)) (lk_X12_change (d := 0) (Nat.le_refl _) c15 e16) ce_X12_change im_X12_change sl_X12_change ml_X12_251 cl_X12 c15 dX12_becomesWhole_26 (by omega) (Nat.le_of_ble_eq_true rfl) rfl rfl ?_
  show EvG _ _ _ _ _ _ _ _ _ _ _ 29 [(0, .ref t), (1, .int x1), (2, .int x2)] [] h17
  obtain rfl := Option.some.inj HF
  exact ev_vret dX12_becomesWhole_29

set_option maxRecDepth 20000 in
theorem lk_X12_isEntry {g : aG} {l : Launch} {d : Nat} (hdd : 0 ≤ d) {x0 : Int32} {x1 : Int32} {h : aH} {r : Int32 × aH} (HF : F_X12_isEntry x0 x1 h = some r) : MA g l yX12_isEntry cX12_isEntry 2 (some .boolean) d [.int x0, .int x1] h (some (.int r.1), r.2) := by
  refine MA.of (lv0 := [(0, .int x0), (1, .int x1)]) (by decide +kernel) (rfl) (Nat.le_of_ble_eq_true rfl) ?_
  unfold F_X12_isEntry at HF
  refine ev_iload_n 0 dX12_isEntry_0 rfl ?_
  by_cases c1 : x0 = 0
  · replace HF := ite_T c1 HF
    refine ev_swT (kk := 0) (tgt := 56) dX12_isEntry_1 c1 (by decide +kernel) (by decide +kernel) ?_
    refine ev_iload_n 1 dX12_isEntry_56 rfl ?_
    refine ev_bipush (v := 6) dX12_isEntry_57 (by decide) ?_
    by_cases c2 : 6 < x1
    · replace HF := ite_T c2 HF
      refine ev_icmp_gtT (tgt := 66) dX12_isEntry_59 (by decide) c2 ?_
      refine ev_iconst (v := 0) dX12_isEntry_66 (by decide) ?_
      obtain rfl := Option.some.inj HF
      exact ev_zret (v := 0) narrow_b0 dX12_isEntry_67
    · replace HF := ite_F c2 HF
      refine ev_icmp_gtF (tgt := 66) dX12_isEntry_59 (by decide) c2 ?_
      refine ev_iconst (v := 1) dX12_isEntry_62 (by decide) ?_
      refine ev_goto (tgt := 67) dX12_isEntry_63 (by decide) ?_
      obtain rfl := Option.some.inj HF
      exact ev_zret (v := 1) narrow_b1 dX12_isEntry_67
  replace HF := ite_F c1 HF
  by_cases c3 : x0 = 1
  · replace HF := ite_T c3 HF
    refine ev_swT (kk := 1) (tgt := 68) dX12_isEntry_1 c3 (by decide +kernel) (by decide +kernel) ?_
    refine ev_iload_n 1 dX12_isEntry_68 rfl ?_
    refine ev_iconst (v := 4) dX12_isEntry_69 (by decide) ?_
    by_cases c4 : 4 < x1
    · replace HF := ite_T c4 HF
      refine ev_icmp_gtT (tgt := 77) dX12_isEntry_70 (by decide) c4 ?_
      refine ev_iconst (v := 0) dX12_isEntry_77 (by decide) ?_
      obtain rfl := Option.some.inj HF
      exact ev_zret (v := 0) narrow_b0 dX12_isEntry_78
    · replace HF := ite_F c4 HF
      refine ev_icmp_gtF (tgt := 77) dX12_isEntry_70 (by decide) c4 ?_
      refine ev_iconst (v := 1) dX12_isEntry_73 (by decide) ?_
      refine ev_goto (tgt := 78) dX12_isEntry_74 (by decide) ?_
      obtain rfl := Option.some.inj HF
      exact ev_zret (v := 1) narrow_b1 dX12_isEntry_78
  replace HF := ite_F c3 HF
  by_cases c5 : x0 = 2
  · replace HF := ite_T c5 HF
    refine ev_swT (kk := 2) (tgt := 56) dX12_isEntry_1 c5 (by decide +kernel) (by decide +kernel) ?_
    refine ev_iload_n 1 dX12_isEntry_56 rfl ?_
    refine ev_bipush (v := 6) dX12_isEntry_57 (by decide) ?_
    by_cases c6 : 6 < x1
    · replace HF := ite_T c6 HF
      refine ev_icmp_gtT (tgt := 66) dX12_isEntry_59 (by decide) c6 ?_
      refine ev_iconst (v := 0) dX12_isEntry_66 (by decide) ?_
      obtain rfl := Option.some.inj HF
      exact ev_zret (v := 0) narrow_b0 dX12_isEntry_67
    · replace HF := ite_F c6 HF
      refine ev_icmp_gtF (tgt := 66) dX12_isEntry_59 (by decide) c6 ?_
      refine ev_iconst (v := 1) dX12_isEntry_62 (by decide) ?_
      refine ev_goto (tgt := 67) dX12_isEntry_63 (by decide) ?_
      obtain rfl := Option.some.inj HF
      exact ev_zret (v := 1) narrow_b1 dX12_isEntry_67
  replace HF := ite_F c5 HF
  by_cases c7 : x0 = 3
  · replace HF := ite_T c7 HF
    refine ev_swT (kk := 3) (tgt := 79) dX12_isEntry_1 c7 (by decide +kernel) (by decide +kernel) ?_
    refine ev_iload_n 1 dX12_isEntry_79 rfl ?_
    refine ev_iconst (v := 3) dX12_isEntry_80 (by decide) ?_
    by_cases c8 : 3 < x1
    · replace HF := ite_T c8 HF
      refine ev_icmp_gtT (tgt := 88) dX12_isEntry_81 (by decide) c8 ?_
      refine ev_iconst (v := 0) dX12_isEntry_88 (by decide) ?_
      obtain rfl := Option.some.inj HF
      exact ev_zret (v := 0) narrow_b0 dX12_isEntry_89
    · replace HF := ite_F c8 HF
      refine ev_icmp_gtF (tgt := 88) dX12_isEntry_81 (by decide) c8 ?_
      refine ev_iconst (v := 1) dX12_isEntry_84 (by decide) ?_
      refine ev_goto (tgt := 89) dX12_isEntry_85 (by decide) ?_
      obtain rfl := Option.some.inj HF
      exact ev_zret (v := 1) narrow_b1 dX12_isEntry_89
  replace HF := ite_F c7 HF
  by_cases c9 : x0 = 4
  · replace HF := ite_T c9 HF
    refine ev_swT (kk := 4) (tgt := 90) dX12_isEntry_1 c9 (by decide +kernel) (by decide +kernel) ?_
    refine ev_iload_n 1 dX12_isEntry_90 rfl ?_
    refine ev_bipush (v := 7) dX12_isEntry_91 (by decide) ?_
    by_cases c10 : 7 < x1
    · replace HF := ite_T c10 HF
      refine ev_icmp_gtT (tgt := 100) dX12_isEntry_93 (by decide) c10 ?_
      refine ev_iconst (v := 0) dX12_isEntry_100 (by decide) ?_
      obtain rfl := Option.some.inj HF
      exact ev_zret (v := 0) narrow_b0 dX12_isEntry_101
    · replace HF := ite_F c10 HF
      refine ev_icmp_gtF (tgt := 100) dX12_isEntry_93 (by decide) c10 ?_
      refine ev_iconst (v := 1) dX12_isEntry_96 (by decide) ?_
      refine ev_goto (tgt := 101) dX12_isEntry_97 (by decide) ?_
      obtain rfl := Option.some.inj HF
      exact ev_zret (v := 1) narrow_b1 dX12_isEntry_101
  replace HF := ite_F c9 HF
  by_cases c11 : x0 = 6
  · replace HF := ite_T c11 HF
    refine ev_swT (kk := 6) (tgt := 102) dX12_isEntry_1 c11 (by decide +kernel) (by decide +kernel) ?_
    refine ev_iload_n 1 dX12_isEntry_102 rfl ?_
    refine ev_iconst (v := 1) dX12_isEntry_103 (by decide) ?_
    by_cases c12 : x1 < 1
    · replace HF := ite_T c12 HF
      refine ev_icmp_ltT (tgt := 116) dX12_isEntry_104 (by decide) c12 ?_
      refine ev_iconst (v := 0) dX12_isEntry_116 (by decide) ?_
      obtain rfl := Option.some.inj HF
      exact ev_zret (v := 0) narrow_b0 dX12_isEntry_117
    · replace HF := ite_F c12 HF
      refine ev_icmp_ltF (tgt := 116) dX12_isEntry_104 (by decide) c12 ?_
      refine ev_iload_n 1 dX12_isEntry_107 rfl ?_
      refine ev_iconst (v := 4) dX12_isEntry_108 (by decide) ?_
      by_cases c13 : 4 < x1
      · replace HF := ite_T c13 HF
        refine ev_icmp_gtT (tgt := 116) dX12_isEntry_109 (by decide) c13 ?_
        refine ev_iconst (v := 0) dX12_isEntry_116 (by decide) ?_
        obtain rfl := Option.some.inj HF
        exact ev_zret (v := 0) narrow_b0 dX12_isEntry_117
      · replace HF := ite_F c13 HF
        refine ev_icmp_gtF (tgt := 116) dX12_isEntry_109 (by decide) c13 ?_
        refine ev_iconst (v := 1) dX12_isEntry_112 (by decide) ?_
        refine ev_goto (tgt := 117) dX12_isEntry_113 (by decide) ?_
        obtain rfl := Option.some.inj HF
        exact ev_zret (v := 1) narrow_b1 dX12_isEntry_117
  replace HF := ite_F c11 HF
  by_cases c14 : x0 = 8
  · replace HF := ite_T c14 HF
    refine ev_swT (kk := 8) (tgt := 118) dX12_isEntry_1 c14 (by decide +kernel) (by decide +kernel) ?_
    refine ev_iload_n 1 dX12_isEntry_118 rfl ?_
    refine ev_iconst (v := 1) dX12_isEntry_119 (by decide) ?_
    by_cases c15 : x1 < 1
    · replace HF := ite_T c15 HF
      refine ev_icmp_ltT (tgt := 127) dX12_isEntry_120 (by decide) c15 ?_
      refine ev_iconst (v := 0) dX12_isEntry_127 (by decide) ?_
      obtain rfl := Option.some.inj HF
      exact ev_zret (v := 0) narrow_b0 dX12_isEntry_128
    · replace HF := ite_F c15 HF
      refine ev_icmp_ltF (tgt := 127) dX12_isEntry_120 (by decide) c15 ?_
      refine ev_iconst (v := 1) dX12_isEntry_123 (by decide) ?_
      refine ev_goto (tgt := 128) dX12_isEntry_124 (by decide) ?_
      obtain rfl := Option.some.inj HF
      exact ev_zret (v := 1) narrow_b1 dX12_isEntry_128
  replace HF := ite_F c14 HF
  by_cases c16 : x0 = 9
  · replace HF := ite_T c16 HF
    refine ev_swT (kk := 9) (tgt := 129) dX12_isEntry_1 c16 (by decide +kernel) (by decide +kernel) ?_
    refine ev_iload_n 1 dX12_isEntry_129 rfl ?_
    by_cases c17 : x1 = 0
    · replace HF := ite_T c17 HF
      refine ev_if_neF (tgt := 137) dX12_isEntry_130 (by decide) c17 ?_
      refine ev_iconst (v := 1) dX12_isEntry_133 (by decide) ?_
      refine ev_goto (tgt := 138) dX12_isEntry_134 (by decide) ?_
      obtain rfl := Option.some.inj HF
      exact ev_zret (v := 1) narrow_b1 dX12_isEntry_138
    · replace HF := ite_F c17 HF
      refine ev_if_neT (tgt := 137) dX12_isEntry_130 (by decide) c17 ?_
      refine ev_iconst (v := 0) dX12_isEntry_137 (by decide) ?_
      obtain rfl := Option.some.inj HF
      exact ev_zret (v := 0) narrow_b0 dX12_isEntry_138
  replace HF := ite_F c16 HF
  refine ev_swTd (ks := [0, 1, 2, 3, 4, 6, 8, 9]) (tgt := 139) dX12_isEntry_1 (by simp only [List.mem_cons, List.not_mem_nil, or_false, forall_eq_or_imp, forall_eq]; exact ⟨c1, c3, c5, c7, c9, c11, c14, c16⟩) (by decide +kernel) (by decide) ?_
  refine ev_iload_n 0 dX12_isEntry_139 rfl ?_
  refine ev_iconst (v := 5) dX12_isEntry_140 (by decide) ?_
  by_cases c18 : x0 = 5
  · replace HF := ite_T c18 HF
    refine ev_icmp_eqT (tgt := 150) dX12_isEntry_141 (by decide) c18 ?_
    refine ev_iconst (v := 1) dX12_isEntry_150 (by decide) ?_
    refine ev_goto (tgt := 155) dX12_isEntry_151 (by decide) ?_
    obtain rfl := Option.some.inj HF
    exact ev_zret (v := 1) narrow_b1 dX12_isEntry_155
  · replace HF := ite_F c18 HF
    refine ev_icmp_eqF (tgt := 150) dX12_isEntry_141 (by decide) c18 ?_
    refine ev_iload_n 0 dX12_isEntry_144 rfl ?_
    refine ev_bipush (v := 7) dX12_isEntry_145 (by decide) ?_
    by_cases c19 : x0 = 7
    · replace HF := ite_T c19 HF
      refine ev_icmp_neF (tgt := 154) dX12_isEntry_147 (by decide) c19 ?_
      refine ev_iconst (v := 1) dX12_isEntry_150 (by decide) ?_
      refine ev_goto (tgt := 155) dX12_isEntry_151 (by decide) ?_
      obtain rfl := Option.some.inj HF
      exact ev_zret (v := 1) narrow_b1 dX12_isEntry_155
    · replace HF := ite_F c19 HF
      refine ev_icmp_neT (tgt := 154) dX12_isEntry_147 (by decide) c19 ?_
      refine ev_iconst (v := 0) dX12_isEntry_154 (by decide) ?_
      obtain rfl := Option.some.inj HF
      exact ev_zret (v := 0) narrow_b0 dX12_isEntry_155

set_option maxRecDepth 20000 in
theorem lk_X12_counts {g : aG} {l : Launch} {d : Nat} (hdd : 0 ≤ d) {x0 : Int32} {h : aH} {r : Int32 × aH} (HF : F_X12_counts x0 h = some r) : MA g l yX12_counts cX12_counts 1 (some .boolean) d [.int x0] h (some (.int r.1), r.2) := by
  refine MA.of (lv0 := [(0, .int x0)]) (by decide +kernel) (rfl) (Nat.le_of_ble_eq_true rfl) ?_
  unfold F_X12_counts at HF
  refine ev_iload_n 0 dX12_counts_0 rfl ?_
  by_cases c1 : x0 = 0
  · replace HF := ite_T c1 HF
    refine ev_if_eqT (tgt := 20) dX12_counts_1 (by decide) c1 ?_
    refine ev_iconst (v := 1) dX12_counts_20 (by decide) ?_
    refine ev_goto (tgt := 25) dX12_counts_21 (by decide) ?_
    obtain rfl := Option.some.inj HF
    exact ev_zret (v := 1) narrow_b1 dX12_counts_25
  · replace HF := ite_F c1 HF
    refine ev_if_eqF (tgt := 20) dX12_counts_1 (by decide) c1 ?_
    refine ev_iload_n 0 dX12_counts_4 rfl ?_
    refine ev_iconst (v := 3) dX12_counts_5 (by decide) ?_
    by_cases c2 : x0 = 3
    · replace HF := ite_T c2 HF
      refine ev_icmp_eqT (tgt := 20) dX12_counts_6 (by decide) c2 ?_
      refine ev_iconst (v := 1) dX12_counts_20 (by decide) ?_
      refine ev_goto (tgt := 25) dX12_counts_21 (by decide) ?_
      obtain rfl := Option.some.inj HF
      exact ev_zret (v := 1) narrow_b1 dX12_counts_25
    · replace HF := ite_F c2 HF
      refine ev_icmp_eqF (tgt := 20) dX12_counts_6 (by decide) c2 ?_
      refine ev_iload_n 0 dX12_counts_9 rfl ?_
      refine ev_iconst (v := 4) dX12_counts_10 (by decide) ?_
      by_cases c3 : x0 = 4
      · replace HF := ite_T c3 HF
        refine ev_icmp_eqT (tgt := 20) dX12_counts_11 (by decide) c3 ?_
        refine ev_iconst (v := 1) dX12_counts_20 (by decide) ?_
        refine ev_goto (tgt := 25) dX12_counts_21 (by decide) ?_
        obtain rfl := Option.some.inj HF
        exact ev_zret (v := 1) narrow_b1 dX12_counts_25
      · replace HF := ite_F c3 HF
        refine ev_icmp_eqF (tgt := 20) dX12_counts_11 (by decide) c3 ?_
        refine ev_iload_n 0 dX12_counts_14 rfl ?_
        refine ev_bipush (v := 6) dX12_counts_15 (by decide) ?_
        by_cases c4 : x0 = 6
        · replace HF := ite_T c4 HF
          refine ev_icmp_neF (tgt := 24) dX12_counts_17 (by decide) c4 ?_
          refine ev_iconst (v := 1) dX12_counts_20 (by decide) ?_
          refine ev_goto (tgt := 25) dX12_counts_21 (by decide) ?_
          obtain rfl := Option.some.inj HF
          exact ev_zret (v := 1) narrow_b1 dX12_counts_25
        · replace HF := ite_F c4 HF
          refine ev_icmp_neT (tgt := 24) dX12_counts_17 (by decide) c4 ?_
          refine ev_iconst (v := 0) dX12_counts_24 (by decide) ?_
          obtain rfl := Option.some.inj HF
          exact ev_zret (v := 0) narrow_b0 dX12_counts_25

set_option maxRecDepth 20000 in
theorem lk_X12_against_57 {g : aG} {l : Launch} {d : Nat} {h0 : aH} (hdd : 1 ≤ d) {r : Int32 × aH} (t : Nat) (x1 : Int32) (x2 : Int32) (x4 : Int32) (x5 : Int32) (h : aH) (HF : F_X12_against_57  t x1 x2 x4 x5 h = some r) : Ev g l cX12_against 6 yX12_against (some .int) d h0 (some (.int r.1), r.2) 57 [(0, .ref t), (1, .int x1), (2, .int x2), (4, .int x4), (5, .int x5)] [] h := by
  unfold F_X12_against_57 at HF
  refine ev_iload 3 dX12_against_57 rfl ?_
  refine ev_bipush (v := 8) dX12_against_59 (by decide) ?_
  by_cases c1 : x4 = 8
  · replace HF := ite_T c1 HF
    refine ev_icmp_neF (tgt := 97) dX12_against_61 (by decide) c1 ?_
    refine ev_aload_n 0 dX12_against_64 rfl ?_
    replace HF := bind_ck HF
    obtain ⟨c2, HF⟩ := HF
    replace HF := bind_o HF
    obtain ⟨b3, e4, HF⟩ := HF
    refine ev_gS (f := 1306) cl_X12 (k := 6) (by decide) fi_X12_6 rfl fl_X12_19 dX12_against_65 c2 e4 ?_
    refine ev_iload_n 1 dX12_against_68 rfl ?_
    replace HF := bind_ck HF
    obtain ⟨c5, HF⟩ := HF
    refine ev_iald dX12_against_69 c5.1 c5.2 ?_
    refine ev_iconst (v := 2) dX12_against_70 (by decide) ?_
    by_cases c6 : hI h b3 x1.toNatClampNeg = 2
    · replace HF := ite_T c6 HF
      refine ev_icmp_eqT (tgt := 92) dX12_against_71 (by decide) c6 ?_
      refine ev_bipush (v := 10) dX12_against_92 (by decide) ?_
      refine ev_goto (tgt := 98) dX12_against_94 (by decide) ?_
      obtain rfl := Option.some.inj HF
      exact ev_iret dX12_against_98
    · replace HF := ite_F c6 HF
      refine ev_icmp_eqF (tgt := 92) dX12_against_71 (by decide) c6 ?_
      refine ev_aload_n 0 dX12_against_74 rfl ?_
      replace HF := bind_o HF
      obtain ⟨b7, e8, HF⟩ := HF
      refine ev_gS (f := 1340) cl_X12 (k := 40) (by decide) fi_X12_40 rfl fl_X12_87 dX12_against_75 c2 e8 ?_
      refine ev_iload_n 2 dX12_against_78 rfl ?_
      replace HF := bind_ck HF
      obtain ⟨c9, HF⟩ := HF
      refine ev_iald dX12_against_79 c9.1 c9.2 ?_
      refine ev_iload 4 dX12_against_80 rfl ?_
      refine ev_isub dX12_against_82 ?_
      refine ev_aload_n 0 dX12_against_83 rfl ?_
      show EvG _ _ _ _ _ _ _ _ _ _ _ 84 _ _ _
      replace HF := bind_o HF
      obtain ⟨b10, e11, HF⟩ := HF
      refine ev_gS (f := 1344) cl_X12 (k := 44) (by decide) fi_X12_44 rfl fl_X12_99 dX12_against_84 c2 e11 ?_
      refine ev_iload_n 2 dX12_against_87 rfl ?_
      replace HF := bind_ck HF
      obtain ⟨c12, HF⟩ := HF
      refine ev_iald dX12_against_88 c12.1 c12.2 ?_
      by_cases c13 : hI h b10 x2.toNatClampNeg ≤ (hI h b7 x2.toNatClampNeg) - x5
      · replace HF := ite_T c13 HF
        refine ev_icmp_geT (tgt := 97) dX12_against_89 (by decide) c13 ?_
        refine ev_iconst (v := 0) dX12_against_97 (by decide) ?_
        obtain rfl := Option.some.inj HF
        exact ev_iret dX12_against_98
      · replace HF := ite_F c13 HF
        refine ev_icmp_geF (tgt := 97) dX12_against_89 (by decide) c13 ?_
        refine ev_bipush (v := 10) dX12_against_92 (by decide) ?_
        refine ev_goto (tgt := 98) dX12_against_94 (by decide) ?_
        obtain rfl := Option.some.inj HF
        exact ev_iret dX12_against_98
  · replace HF := ite_F c1 HF
    refine ev_icmp_neT (tgt := 97) dX12_against_61 (by decide) c1 ?_
    refine ev_iconst (v := 0) dX12_against_97 (by decide) ?_
    obtain rfl := Option.some.inj HF
    exact ev_iret dX12_against_98

set_option maxRecDepth 20000 in
theorem lk_X12_against {g : aG} {l : Launch} {d : Nat} (hdd : 1 ≤ d) {t : Nat} {x1 : Int32} {x2 : Int32} {x3 : Int32} {x4 : Int32} {x5 : Int32} {h : aH} {r : Int32 × aH} (hT : hK h t = 14) (HF : F_X12_against t x1 x2 x3 x4 x5 h = some r) : MA g l yX12_against cX12_against 6 (some .int) d [.ref t, .int x1, .int x2, .int x3, .int x4, .int x5] h (some (.int r.1), r.2) := by
  refine MA.of (lv0 := [(0, .ref t), (1, .int x1), (2, .int x2), (3, .int x3), (4, .int x4), (5, .int x5)]) (by decide +kernel) (rfl) (Nat.le_of_ble_eq_true rfl) ?_
  unfold F_X12_against at HF
  refine ev_iload 4 dX12_against_0 rfl ?_
  refine ev_iload 5 dX12_against_2 rfl ?_
  replace HF := bind_o HF
  obtain ⟨⟨z3, h2⟩, e1, HF⟩ := HF
  replace HF := bd_o (bd_o HF)
  dsimp only at HF
  refine ev_callS (As := [.int x4, .int x5]) (R1 := (some (.int z3), h2)) (lk_X12_isEntry (d := 0) (Nat.le_refl _) e1) ce_X12_isEntry st_X12_isEntry ml_X12_265 dX12_against_4 (by omega) (Nat.le_of_ble_eq_true rfl) rfl rfl ?_
  show EvG _ _ _ _ _ _ _ _ _ _ _ 7 [(0, .ref t), (1, .int x1), (2, .int x2), (3, .int x3), (4, .int x4), (5, .int x5)] [.int z3] h2
  by_cases c5 : z3 = 0
  · replace HF := ite_T c5 HF
    refine ev_if_neF (tgt := 13) dX12_against_7 (by decide) c5 ?_
    refine ev_bipush (v := 7) dX12_against_10 (by decide) ?_
    obtain rfl := Option.some.inj HF
    exact ev_iret dX12_against_12
  · replace HF := ite_F c5 HF
    refine ev_if_neT (tgt := 13) dX12_against_7 (by decide) c5 ?_
    refine ev_aload_n 0 dX12_against_13 rfl ?_
    replace HF := bind_ck HF
    obtain ⟨c6, HF⟩ := HF
    replace HF := bind_o HF
    obtain ⟨b7, e8, HF⟩ := HF
    refine ev_gS (f := 1341) cl_X12 (k := 41) (by decide) fi_X12_41 rfl fl_X12_90 dX12_against_14 c6 e8 ?_
    refine ev_iload_n 2 dX12_against_17 rfl ?_
    replace HF := bind_ck HF
    obtain ⟨c9, HF⟩ := HF
    refine ev_iald dX12_against_18 c9.1 c9.2 ?_
    by_cases c10 : hI h2 b7 x2.toNatClampNeg = 0
    · replace HF := ite_T c10 HF
      refine ev_if_eqT (tgt := 25) dX12_against_19 (by decide) c10 ?_
      refine ev_aload_n 0 dX12_against_25 rfl ?_
      replace HF := bind_o HF
      obtain ⟨b11, e12, HF⟩ := HF
      refine ev_gS (f := 1362) cl_X12 (k := 62) (by decide) fi_X12_62 rfl fl_X12_154 dX12_against_26 c6 e12 ?_
      refine ev_iload_n 3 dX12_against_29 rfl ?_
      replace HF := bind_ck HF
      obtain ⟨c13, HF⟩ := HF
      refine ev_bald dX12_against_30 c13.1 c13.2 ?_
      by_cases c14 : hI h2 b11 x3.toNatClampNeg = 0
      · replace HF := ite_T c14 HF
        refine ev_if_eqT (tgt := 57) dX12_against_31 (by decide) c14 ?_
        exact Ev.sub [0, 1, 2, 4, 5] rfl (lk_X12_against_57 hdd  t x1 x2 x4 x5 _ HF)
      · replace HF := ite_F c14 HF
        refine ev_if_eqF (tgt := 57) dX12_against_31 (by decide) c14 ?_
        refine ev_iload 4 dX12_against_34 rfl ?_
        replace HF := bind_o HF
        obtain ⟨⟨z17, h16⟩, e15, HF⟩ := HF
        replace HF := bd_o (bd_o HF)
        dsimp only at HF
        refine ev_callS (As := [.int x4]) (R1 := (some (.int z17), h16)) (lk_X12_counts (d := 0) (Nat.le_refl _) e15) ce_X12_counts st_X12_counts ml_X12_269 dX12_against_36 (by omega) (Nat.le_of_ble_eq_true rfl) rfl rfl ?_
        show EvG _ _ _ _ _ _ _ _ _ _ _ 39 [(0, .ref t), (1, .int x1), (2, .int x2), (3, .int x3), (4, .int x4), (5, .int x5)] [.int z17] h16
        by_cases c19 : z17 = 0
        · replace HF := ite_T c19 HF
          refine ev_if_neF (tgt := 54) dX12_against_39 (by decide) c19 ?_
          refine ev_iload 4 dX12_against_42 rfl ?_
          refine ev_iconst (v := 1) dX12_against_44 (by decide) ?_
          by_cases c20 : x4 = 1
          · replace HF := ite_T c20 HF
            refine ev_icmp_eqT (tgt := 54) dX12_against_45 (by decide) c20 ?_
            refine ev_bipush (v := 9) dX12_against_54 (by decide) ?_
            obtain rfl := Option.some.inj HF
            exact ev_iret dX12_against_56
          · replace HF := ite_F c20 HF
            refine ev_icmp_eqF (tgt := 54) dX12_against_45 (by decide) c20 ?_
            refine ev_iload 4 dX12_against_48 rfl ?_
            refine ev_iconst (v := 2) dX12_against_50 (by decide) ?_
            by_cases c21 : x4 = 2
            · replace HF := ite_T c21 HF
              refine ev_icmp_neF (tgt := 57) dX12_against_51 (by decide) c21 ?_
              refine ev_bipush (v := 9) dX12_against_54 (by decide) ?_
              obtain rfl := Option.some.inj HF
              exact ev_iret dX12_against_56
            · replace HF := ite_F c21 HF
              refine ev_icmp_neT (tgt := 57) dX12_against_51 (by decide) c21 ?_
              exact Ev.sub [0, 1, 2, 4, 5] rfl (lk_X12_against_57 hdd  t x1 x2 x4 x5 _ HF)
        · replace HF := ite_F c19 HF
          refine ev_if_neT (tgt := 54) dX12_against_39 (by decide) c19 ?_
          refine ev_bipush (v := 9) dX12_against_54 (by decide) ?_
          obtain rfl := Option.some.inj HF
          exact ev_iret dX12_against_56
    · replace HF := ite_F c10 HF
      refine ev_if_eqF (tgt := 25) dX12_against_19 (by decide) c10 ?_
      refine ev_bipush (v := 8) dX12_against_22 (by decide) ?_
      obtain rfl := Option.some.inj HF
      exact ev_iret dX12_against_24

set_option maxRecDepth 20000 in
theorem lk_X12_adds {g : aG} {l : Launch} {d : Nat} (hdd : 0 ≤ d) {t : Nat} {x1 : Int32} {x2 : Int32} {x3 : Int32} {h : aH} {r : aH} (hT : hK h t = 14) (HF : F_X12_adds t x1 x2 x3 h = some r) : MA g l yX12_adds cX12_adds 4 (none) d [.ref t, .int x1, .int x2, .int x3] h (none, r) := by
  refine MA.of (lv0 := [(0, .ref t), (1, .int x1), (2, .int x2), (3, .int x3)]) (by decide +kernel) (rfl) (Nat.le_of_ble_eq_true rfl) ?_
  unfold F_X12_adds at HF
  refine ev_aload_n 0 dX12_adds_0 rfl ?_
  replace HF := bind_o HF
  obtain ⟨b1, e2, HF⟩ := HF
  refine ev_gS (f := 1335) cl_X12 (k := 35) (by decide) fi_X12_35 rfl fl_X12_72 dX12_adds_1 hT e2 ?_
  refine ev_iload_n 1 dX12_adds_4 rfl ?_
  refine ev_dup2 dX12_adds_5 rfl rfl ?_
  replace HF := bind_ck HF
  obtain ⟨c3, HF⟩ := HF
  refine ev_iald dX12_adds_6 c3.1 c3.2 ?_
  refine ev_iload_n 3 dX12_adds_7 rfl ?_
  refine ev_iadd dX12_adds_8 ?_
  show EvG _ _ _ _ _ _ _ _ _ _ _ 9 _ _ _
  refine ev_iast dX12_adds_9 c3.1 c3.2 ?_
  replace HF := bd_n HF
  obtain ⟨h4, eh4, HF⟩ := HF
  refine ev_heap eh4 ?_
  have c5 : hK h4 t = 14 := by rw [eh4]; exact hT
  refine ev_aload_n 0 dX12_adds_10 rfl ?_
  replace HF := bind_o HF
  obtain ⟨b6, e7, HF⟩ := HF
  refine ev_gS (f := 1359) cl_X12 (k := 59) (by decide) fi_X12_59 rfl fl_X12_145 dX12_adds_11 c5 e7 ?_
  refine ev_iload_n 2 dX12_adds_14 rfl ?_
  refine ev_dup2 dX12_adds_15 rfl rfl ?_
  replace HF := bind_ck HF
  obtain ⟨c8, HF⟩ := HF
  refine ev_iald dX12_adds_16 c8.1 c8.2 ?_
  refine ev_iload_n 3 dX12_adds_17 rfl ?_
  refine ev_iadd dX12_adds_18 ?_
  show EvG _ _ _ _ _ _ _ _ _ _ _ 19 _ _ _
  refine ev_iast dX12_adds_19 c8.1 c8.2 ?_
  replace HF := bd_n HF
  obtain ⟨h9, eh9, HF⟩ := HF
  refine ev_heap eh9 ?_
  have c10 : hK h9 t = 14 := by rw [eh9]; exact c5
  obtain rfl := Option.some.inj HF
  exact ev_vret dX12_adds_20

set_option maxRecDepth 20000 in
theorem lk_X12_hit {g : aG} {l : Launch} {d : Nat} (hdd : 1 ≤ d) {t : Nat} {x1 : Int32} {x2 : Int32} {x3 : Int32} {h : aH} {r : aH} (hT : hK h t = 14) (HF : F_X12_hit t x1 x2 x3 h = some r) : MA g l yX12_hit cX12_hit 4 (none) d [.ref t, .int x1, .int x2, .int x3] h (none, r) := by
  refine MA.of (lv0 := [(0, .ref t), (1, .int x1), (2, .int x2), (3, .int x3)]) (by decide +kernel) (rfl) (Nat.le_of_ble_eq_true rfl) ?_
  unfold F_X12_hit at HF
  refine ev_aload_n 0 dX12_hit_0 rfl ?_
  replace HF := bind_o HF
  obtain ⟨b1, e2, HF⟩ := HF
  refine ev_gS (f := 1353) cl_X12 (k := 53) (by decide) fi_X12_53 rfl fl_X12_127 dX12_hit_1 hT e2 ?_
  refine ev_bipush (v := 11) dX12_hit_4 (by decide) ?_
  refine ev_iload_n 1 dX12_hit_6 rfl ?_
  refine ev_imul dX12_hit_7 ?_
  refine ev_aload_n 0 dX12_hit_8 rfl ?_
  replace HF := bind_o HF
  obtain ⟨b3, e4, HF⟩ := HF
  refine ev_gS (f := 1345) cl_X12 (k := 45) (by decide) fi_X12_45 rfl fl_X12_102 dX12_hit_9 hT e4 ?_
  show EvG _ _ _ _ _ _ _ _ _ _ _ 12 _ _ _
  refine ev_iload_n 1 dX12_hit_12 rfl ?_
  replace HF := bind_ck HF
  obtain ⟨c5, HF⟩ := HF
  refine ev_iald dX12_hit_13 c5.1 c5.2 ?_
  refine ev_iadd dX12_hit_14 ?_
  refine ev_dup2 dX12_hit_15 rfl rfl ?_
  replace HF := bind_ck HF
  obtain ⟨c6, HF⟩ := HF
  refine ev_iald dX12_hit_16 c6.1 c6.2 ?_
  refine ev_iload_n 3 dX12_hit_17 rfl ?_
  refine ev_iadd dX12_hit_18 ?_
  refine ev_iast dX12_hit_19 c6.1 c6.2 ?_
  replace HF := bd_n HF
  obtain ⟨h7, eh7, HF⟩ := HF
  refine ev_heap eh7 ?_
  have c8 : hK h7 t = 14 := by rw [eh7]; exact hT
  show EvG _ _ _ _ _ _ _ _ _ _ _ 20 _ _ _
  refine ev_aload_n 0 dX12_hit_20 rfl ?_
  replace HF := bind_o HF
  obtain ⟨b9, e10, HF⟩ := HF
  refine ev_gS (f := 1357) cl_X12 (k := 57) (by decide) fi_X12_57 rfl fl_X12_139 dX12_hit_21 c8 e10 ?_
  refine ev_bipush (v := 11) dX12_hit_24 (by decide) ?_
  refine ev_iload_n 1 dX12_hit_26 rfl ?_
  refine ev_imul dX12_hit_27 ?_
  refine ev_aload_n 0 dX12_hit_28 rfl ?_
  replace HF := bind_o HF
  obtain ⟨b11, e12, HF⟩ := HF
  refine ev_gS (f := 1351) cl_X12 (k := 51) (by decide) fi_X12_51 rfl fl_X12_120 dX12_hit_29 c8 e12 ?_
  refine ev_iload_n 1 dX12_hit_32 rfl ?_
  show EvG _ _ _ _ _ _ _ _ _ _ _ 33 _ _ _
  replace HF := bind_ck HF
  obtain ⟨c13, HF⟩ := HF
  refine ev_iald dX12_hit_33 c13.1 c13.2 ?_
  refine ev_iadd dX12_hit_34 ?_
  refine ev_dup2 dX12_hit_35 rfl rfl ?_
  replace HF := bind_ck HF
  obtain ⟨c14, HF⟩ := HF
  refine ev_iald dX12_hit_36 c14.1 c14.2 ?_
  refine ev_iload_n 3 dX12_hit_37 rfl ?_
  refine ev_iadd dX12_hit_38 ?_
  refine ev_iast dX12_hit_39 c14.1 c14.2 ?_
  replace HF := bd_n HF
  obtain ⟨h15, eh15, HF⟩ := HF
  refine ev_heap eh15 ?_
  have c16 : hK h15 t = 14 := by rw [eh15]; exact c8
  refine ev_aload_n 0 dX12_hit_40 rfl ?_
  show EvG _ _ _ _ _ _ _ _ _ _ _ 41 _ _ _
  refine ev_iload_n 1 dX12_hit_41 rfl ?_
  refine ev_iload_n 2 dX12_hit_42 rfl ?_
  refine ev_iload_n 3 dX12_hit_43 rfl ?_
  replace HF := bind_o HF
  obtain ⟨h18, e17, HF⟩ := HF
  refine ev_callV (As := [.int x1, .int x2, .int x3]) (R1 := (none, h18)) (lk_X12_adds (d := 0) (Nat.le_refl _) c16 e17) ce_X12_adds im_X12_adds sl_X12_adds ml_X12_272 cl_X12 c16 dX12_hit_44 (by omega) (Nat.le_of_ble_eq_true rfl) rfl rfl ?_
  show EvG _ _ _ _ _ _ _ _ _ _ _ 47 [(0, .ref t), (1, .int x1), (2, .int x2), (3, .int x3)] [] h18
  obtain rfl := Option.some.inj HF
  exact ev_vret dX12_hit_47

set_option maxRecDepth 20000 in
theorem lk_X12_crosses {g : aG} {l : Launch} {d : Nat} (hdd : 1 ≤ d) {t : Nat} {x1 : Int32} {x2 : Int32} {h : aH} {r : aH} (hT : hK h t = 14) (HF : F_X12_crosses t x1 x2 h = some r) : MA g l yX12_crosses cX12_crosses 3 (none) d [.ref t, .int x1, .int x2] h (none, r) := by
  refine MA.of (lv0 := [(0, .ref t), (1, .int x1), (2, .int x2)]) (by decide +kernel) (rfl) (Nat.le_of_ble_eq_true rfl) ?_
  unfold F_X12_crosses at HF
  refine ev_iload_n 2 dX12_crosses_0 rfl ?_
  refine ev_iconst (v := 2) dX12_crosses_1 (by decide) ?_
  refine ev_irem dX12_crosses_2 (by decide) ?_
  refine ev_iconst (v := 1) dX12_crosses_3 (by decide) ?_
  by_cases c1 : x2 - x2 / 2 * 2 = 1
  · replace HF := ite_T c1 HF
    refine ev_icmp_neF (tgt := 12) dX12_crosses_4 (by decide) c1 ?_
    refine ev_aload_n 0 dX12_crosses_7 rfl ?_
    refine ev_iload_n 1 dX12_crosses_8 rfl ?_
    replace HF := bind_o HF
    obtain ⟨h3, e2, HF⟩ := HF
    refine ev_callV (As := [.int x1]) (R1 := (none, h3)) (lk_X12_change (d := 0) (Nat.le_refl _) hT e2) ce_X12_change im_X12_change sl_X12_change ml_X12_251 cl_X12 hT dX12_crosses_9 (by omega) (Nat.le_of_ble_eq_true rfl) rfl rfl ?_
    show EvG _ _ _ _ _ _ _ _ _ _ _ 12 [(0, .ref t), (1, .int x1), (2, .int x2)] [] h3
    obtain rfl := Option.some.inj HF
    exact ev_vret dX12_crosses_12
  · replace HF := ite_F c1 HF
    refine ev_icmp_neT (tgt := 12) dX12_crosses_4 (by decide) c1 ?_
    obtain rfl := Option.some.inj HF
    exact ev_vret dX12_crosses_12

set_option maxRecDepth 20000 in
theorem lk_X12_leaves_100 {g : aG} {l : Launch} {d : Nat} {h0 : aH} (hdd : 0 ≤ d) {r : aH} (t : Nat) (x1 : Int32) (x3 : Int32) (x6 : Int32) (h : aH) (HF : F_X12_leaves_100  t x1 x3 x6 h = some r) : Ev g l cX12_leaves 7 yX12_leaves (none) d h0 (none, r) 100 [(0, .ref t), (1, .int x1), (3, .int x3), (6, .int x6)] [] h := by
  unfold F_X12_leaves_100 at HF
  refine ev_iload_n 2 dX12_leaves_100 rfl ?_
  by_cases c1 : x3 = 0
  · replace HF := ite_T c1 HF
    refine ev_if_eqT (tgt := 115) dX12_leaves_101 (by decide) c1 ?_
    refine ev_aload_n 0 dX12_leaves_115 rfl ?_
    replace HF := bind_ck HF
    obtain ⟨c2, HF⟩ := HF
    replace HF := bind_o HF
    obtain ⟨b3, e4, HF⟩ := HF
    refine ev_gS (f := 1346) cl_X12 (k := 46) (by decide) fi_X12_46 rfl fl_X12_105 dX12_leaves_116 c2 e4 ?_
    refine ev_iload_n 1 dX12_leaves_119 rfl ?_
    refine ev_iload 3 dX12_leaves_120 rfl ?_
    replace HF := bind_ck HF
    obtain ⟨c5, HF⟩ := HF
    refine ev_iast dX12_leaves_122 c5.1 c5.2 ?_
    replace HF := bd_n HF
    obtain ⟨h6, eh6, HF⟩ := HF
    refine ev_heap eh6 ?_
    have c7 : hK h6 t = 14 := by rw [eh6]; exact c2
    obtain rfl := Option.some.inj HF
    exact ev_vret dX12_leaves_123
  · replace HF := ite_F c1 HF
    refine ev_if_eqF (tgt := 115) dX12_leaves_101 (by decide) c1 ?_
    refine ev_aload_n 0 dX12_leaves_104 rfl ?_
    replace HF := bind_ck HF
    obtain ⟨c8, HF⟩ := HF
    replace HF := bind_o HF
    obtain ⟨b9, e10, HF⟩ := HF
    refine ev_gS (f := 1345) cl_X12 (k := 45) (by decide) fi_X12_45 rfl fl_X12_102 dX12_leaves_105 c8 e10 ?_
    refine ev_iload_n 1 dX12_leaves_108 rfl ?_
    refine ev_iload 3 dX12_leaves_109 rfl ?_
    replace HF := bind_ck HF
    obtain ⟨c11, HF⟩ := HF
    refine ev_iast dX12_leaves_111 c11.1 c11.2 ?_
    replace HF := bd_n HF
    obtain ⟨h12, eh12, HF⟩ := HF
    refine ev_heap eh12 ?_
    have c13 : hK h12 t = 14 := by rw [eh12]; exact c8
    refine ev_goto (tgt := 123) dX12_leaves_112 (by decide) ?_
    obtain rfl := Option.some.inj HF
    exact ev_vret dX12_leaves_123

set_option maxRecDepth 20000 in
theorem lk_X12_leaves_19 {g : aG} {l : Launch} {d : Nat} {h0 : aH} (hdd : 0 ≤ d) {r : aH} (t : Nat) (x1 : Int32) (x2 : Int32) (x3 : Int32) (x4 : Int32) (y0 : Int32) (h : aH) (HF : F_X12_leaves_19  t x1 x2 x3 x4 y0 h = some r) : Ev g l cX12_leaves 7 yX12_leaves (none) d h0 (none, r) 19 [(0, .ref t), (1, .int x1), (2, .int x2), (3, .int x3), (4, .int x4)] [.int y0] h := by
  unfold F_X12_leaves_19 at HF
  refine ev_istore (lv' := [(5, .int y0), (0, .ref t), (1, .int x1), (2, .int x2), (3, .int x3), (4, .int x4)]) dX12_leaves_19 (by decide) (rfl) ?_
  refine ev_aload_n 1 dX12_leaves_21 rfl ?_
  replace HF := bind_ck HF
  obtain ⟨c1, HF⟩ := HF
  replace HF := bind_o HF
  obtain ⟨b2, e3, HF⟩ := HF
  refine ev_gS (f := 1355) cl_X12 (k := 55) (by decide) fi_X12_55 rfl fl_X12_133 dX12_leaves_22 c1 e3 ?_
  refine ev_bipush (v := 11) dX12_leaves_25 (by decide) ?_
  refine ev_iload_n 2 dX12_leaves_27 rfl ?_
  refine ev_imul dX12_leaves_28 ?_
  refine ev_iload 0 dX12_leaves_29 rfl ?_
  show EvG _ _ _ _ _ _ _ _ _ _ _ 31 _ _ _
  refine ev_iadd dX12_leaves_31 ?_
  refine ev_iload 5 dX12_leaves_32 rfl ?_
  replace HF := bind_ck HF
  obtain ⟨c4, HF⟩ := HF
  refine ev_iast dX12_leaves_34 c4.1 c4.2 ?_
  replace HF := bd_n HF
  obtain ⟨h5, eh5, HF⟩ := HF
  refine ev_heap eh5 ?_
  have c6 : hK h5 t = 14 := by rw [eh5]; exact c1
  refine ev_aload_n 1 dX12_leaves_35 rfl ?_
  replace HF := bind_o HF
  obtain ⟨b7, e8, HF⟩ := HF
  refine ev_gS (f := 1336) cl_X12 (k := 36) (by decide) fi_X12_36 rfl fl_X12_75 dX12_leaves_36 c6 e8 ?_
  refine ev_iload_n 2 dX12_leaves_39 rfl ?_
  refine ev_dup2 dX12_leaves_40 rfl rfl ?_
  replace HF := bind_ck HF
  obtain ⟨c9, HF⟩ := HF
  refine ev_iald dX12_leaves_41 c9.1 c9.2 ?_
  show EvG _ _ _ _ _ _ _ _ _ _ _ 42 _ _ _
  refine ev_iconst (v := 1) dX12_leaves_42 (by decide) ?_
  refine ev_iadd dX12_leaves_43 ?_
  refine ev_iast dX12_leaves_44 c9.1 c9.2 ?_
  replace HF := bd_n HF
  obtain ⟨h10, eh10, HF⟩ := HF
  refine ev_heap eh10 ?_
  have c11 : hK h10 t = 14 := by rw [eh10]; exact c6
  refine ev_aload_n 1 dX12_leaves_45 rfl ?_
  replace HF := bind_o HF
  obtain ⟨b12, e13, HF⟩ := HF
  refine ev_gS (f := 1360) cl_X12 (k := 60) (by decide) fi_X12_60 rfl fl_X12_148 dX12_leaves_46 c11 e13 ?_
  refine ev_iload_n 3 dX12_leaves_49 rfl ?_
  refine ev_dup2 dX12_leaves_50 rfl rfl ?_
  replace HF := bind_ck HF
  obtain ⟨c14, HF⟩ := HF
  refine ev_iald dX12_leaves_51 c14.1 c14.2 ?_
  show EvG _ _ _ _ _ _ _ _ _ _ _ 52 _ _ _
  refine ev_iconst (v := 1) dX12_leaves_52 (by decide) ?_
  refine ev_iadd dX12_leaves_53 ?_
  refine ev_iast dX12_leaves_54 c14.1 c14.2 ?_
  replace HF := bd_n HF
  obtain ⟨h15, eh15, HF⟩ := HF
  refine ev_heap eh15 ?_
  have c16 : hK h15 t = 14 := by rw [eh15]; exact c11
  refine ev_iconst (v := (-1)) dX12_leaves_55 (by decide) ?_
  refine ev_istore (lv' := [(6, .int ((-1))), (5, .int y0), (0, .ref t), (1, .int x1), (2, .int x2), (3, .int x3), (4, .int x4)]) dX12_leaves_56 (by decide) (rfl) ?_
  refine ev_aload_n 2 dX12_leaves_58 rfl ?_
  replace HF := bind_o HF
  obtain ⟨b17, e18, HF⟩ := HF
  refine ev_gS (f := 1336) cl_X12 (k := 36) (by decide) fi_X12_36 rfl fl_X12_75 dX12_leaves_59 c16 e18 ?_
  refine ev_iload_n 3 dX12_leaves_62 rfl ?_
  show EvG _ _ _ _ _ _ _ _ _ _ _ 63 _ _ _
  replace HF := bind_ck HF
  obtain ⟨c19, HF⟩ := HF
  refine ev_iald dX12_leaves_63 c19.1 c19.2 ?_
  refine ev_bipush (v := 10) dX12_leaves_64 (by decide) ?_
  by_cases c20 : 10 ≤ hI h15 b17 x1.toNatClampNeg
  · replace HF := ite_T c20 HF
    refine ev_icmp_geT (tgt := 100) dX12_leaves_66 (by decide) c20 ?_
    exact Ev.sub [2, 3, 5, 0] rfl (lk_X12_leaves_100 hdd  t x1 x3 ((-1)) _ HF)
  · replace HF := ite_F c20 HF
    refine ev_icmp_geF (tgt := 100) dX12_leaves_66 (by decide) c20 ?_
    refine ev_aload_n 2 dX12_leaves_69 rfl ?_
    replace HF := bind_o HF
    obtain ⟨b21, e22, HF⟩ := HF
    refine ev_gS (f := 1347) cl_X12 (k := 47) (by decide) fi_X12_47 rfl fl_X12_108 dX12_leaves_70 c16 e22 ?_
    refine ev_iload_n 3 dX12_leaves_73 rfl ?_
    replace HF := bind_ck HF
    obtain ⟨c23, HF⟩ := HF
    refine ev_iald dX12_leaves_74 c23.1 c23.2 ?_
    replace HF := bd_n HF
    obtain ⟨v24, ev24, HF⟩ := HF
    refine ev_topI ev24 ?_
    refine ev_istore (lv' := [(6, .int v24), (5, .int y0), (0, .ref t), (1, .int x1), (2, .int x2), (3, .int x3), (4, .int x4)]) dX12_leaves_75 (by decide) (rfl) ?_
    refine ev_aload_n 2 dX12_leaves_77 rfl ?_
    replace HF := bind_o HF
    obtain ⟨b25, e26, HF⟩ := HF
    refine ev_gS (f := 1347) cl_X12 (k := 47) (by decide) fi_X12_47 rfl fl_X12_108 dX12_leaves_78 c16 e26 ?_
    show EvG _ _ _ _ _ _ _ _ _ _ _ 81 _ _ _
    refine ev_iload_n 3 dX12_leaves_81 rfl ?_
    refine ev_dup2 dX12_leaves_82 rfl rfl ?_
    replace HF := bind_ck HF
    obtain ⟨c27, HF⟩ := HF
    refine ev_iald dX12_leaves_83 c27.1 c27.2 ?_
    refine ev_iconst (v := 1) dX12_leaves_84 (by decide) ?_
    refine ev_iadd dX12_leaves_85 ?_
    refine ev_iast dX12_leaves_86 c27.1 c27.2 ?_
    replace HF := bd_n HF
    obtain ⟨h28, eh28, HF⟩ := HF
    refine ev_heap eh28 ?_
    have c29 : hK h28 t = 14 := by rw [eh28]; exact c16
    refine ev_aload_n 2 dX12_leaves_87 rfl ?_
    replace HF := bind_o HF
    obtain ⟨b30, e31, HF⟩ := HF
    refine ev_gS (f := 1355) cl_X12 (k := 55) (by decide) fi_X12_55 rfl fl_X12_133 dX12_leaves_88 c29 e31 ?_
    show EvG _ _ _ _ _ _ _ _ _ _ _ 91 _ _ _
    refine ev_bipush (v := 11) dX12_leaves_91 (by decide) ?_
    refine ev_iload_n 3 dX12_leaves_93 rfl ?_
    refine ev_imul dX12_leaves_94 ?_
    refine ev_iload 0 dX12_leaves_95 rfl ?_
    refine ev_iadd dX12_leaves_97 ?_
    refine ev_iconst (v := 1) dX12_leaves_98 (by decide) ?_
    replace HF := bind_ck HF
    obtain ⟨c32, HF⟩ := HF
    refine ev_iast dX12_leaves_99 c32.1 c32.2 ?_
    replace HF := bd_n HF
    obtain ⟨h33, eh33, HF⟩ := HF
    refine ev_heap eh33 ?_
    have c34 : hK h33 t = 14 := by rw [eh33]; exact c29
    exact Ev.sub [2, 3, 5, 0] rfl (lk_X12_leaves_100 hdd  t x1 x3 v24 _ HF)

set_option maxRecDepth 20000 in
theorem lk_X12_leaves {g : aG} {l : Launch} {d : Nat} (hdd : 0 ≤ d) {t : Nat} {x1 : Int32} {x2 : Int32} {x3 : Int32} {x4 : Int32} {h : aH} {r : aH} (hT : hK h t = 14) (HF : F_X12_leaves t x1 x2 x3 x4 h = some r) : MA g l yX12_leaves cX12_leaves 7 (none) d [.ref t, .int x1, .int x2, .int x3, .int x4] h (none, r) := by
  refine MA.of (lv0 := [(0, .ref t), (1, .int x1), (2, .int x2), (3, .int x3), (4, .int x4)]) (by decide +kernel) (rfl) (Nat.le_of_ble_eq_true rfl) ?_
  unfold F_X12_leaves at HF
  refine ev_iload_n 3 dX12_leaves_0 rfl ?_
  by_cases c1 : x3 = 0
  · replace HF := ite_T c1 HF
    refine ev_if_eqT (tgt := 13) dX12_leaves_1 (by decide) c1 ?_
    refine ev_aload_n 0 dX12_leaves_13 rfl ?_
    replace HF := bind_o HF
    obtain ⟨b2, e3, HF⟩ := HF
    refine ev_gS (f := 1346) cl_X12 (k := 46) (by decide) fi_X12_46 rfl fl_X12_105 dX12_leaves_14 hT e3 ?_
    refine ev_iload_n 1 dX12_leaves_17 rfl ?_
    replace HF := bind_ck HF
    obtain ⟨c4, HF⟩ := HF
    refine ev_iald dX12_leaves_18 c4.1 c4.2 ?_
    exact Ev.sub [0, 1, 2, 3, 4] rfl (lk_X12_leaves_19 hdd  t x1 x2 x3 x4 (hI h b2 x1.toNatClampNeg) _ HF)
  · replace HF := ite_F c1 HF
    refine ev_if_eqF (tgt := 13) dX12_leaves_1 (by decide) c1 ?_
    refine ev_aload_n 0 dX12_leaves_4 rfl ?_
    replace HF := bind_o HF
    obtain ⟨b5, e6, HF⟩ := HF
    refine ev_gS (f := 1345) cl_X12 (k := 45) (by decide) fi_X12_45 rfl fl_X12_102 dX12_leaves_5 hT e6 ?_
    refine ev_iload_n 1 dX12_leaves_8 rfl ?_
    replace HF := bind_ck HF
    obtain ⟨c7, HF⟩ := HF
    refine ev_iald dX12_leaves_9 c7.1 c7.2 ?_
    refine ev_goto (tgt := 19) dX12_leaves_10 (by decide) ?_
    exact Ev.sub [0, 1, 2, 3, 4] rfl (lk_X12_leaves_19 hdd  t x1 x2 x3 x4 (hI h b5 x1.toNatClampNeg) _ HF)

set_option maxRecDepth 20000 in
theorem lk_X12_ends_37 {g : aG} {l : Launch} {d : Nat} {h0 : aH} (hdd : 1 ≤ d) {r : aH} (t : Nat) (x2 : Int32) (x3 : Int32) (h : aH) (HF : F_X12_ends_37  t x2 x3 h = some r) : Ev g l cX12_ends 4 yX12_ends (none) d h0 (none, r) 37 [(0, .ref t), (2, .int x2), (3, .int x3)] [] h := by
  unfold F_X12_ends_37 at HF
  refine ev_aload_n 0 dX12_ends_37 rfl ?_
  replace HF := bind_ck HF
  obtain ⟨c1, HF⟩ := HF
  replace HF := bind_o HF
  obtain ⟨b2, e3, HF⟩ := HF
  refine ev_gS (f := 1336) cl_X12 (k := 36) (by decide) fi_X12_36 rfl fl_X12_75 dX12_ends_38 c1 e3 ?_
  refine ev_iload_n 1 dX12_ends_41 rfl ?_
  replace HF := bind_ck HF
  obtain ⟨c4, HF⟩ := HF
  refine ev_iald dX12_ends_42 c4.1 c4.2 ?_
  refine ev_bipush (v := 10) dX12_ends_43 (by decide) ?_
  by_cases c5 : hI h b2 x2.toNatClampNeg = 10
  · replace HF := ite_T c5 HF
    refine ev_icmp_neF (tgt := 58) dX12_ends_45 (by decide) c5 ?_
    refine ev_aload_n 0 dX12_ends_48 rfl ?_
    replace HF := bind_o HF
    obtain ⟨b6, e7, HF⟩ := HF
    refine ev_gS (f := 1341) cl_X12 (k := 41) (by decide) fi_X12_41 rfl fl_X12_90 dX12_ends_49 c1 e7 ?_
    refine ev_iload_n 1 dX12_ends_52 rfl ?_
    refine ev_iconst (v := 1) dX12_ends_53 (by decide) ?_
    replace HF := bind_ck HF
    obtain ⟨c8, HF⟩ := HF
    refine ev_iast dX12_ends_54 c8.1 c8.2 ?_
    replace HF := bd_n HF
    obtain ⟨h9, eh9, HF⟩ := HF
    refine ev_heap eh9 ?_
    have c10 : hK h9 t = 14 := by rw [eh9]; exact c1
    refine ev_goto (tgt := 96) dX12_ends_55 (by decide) ?_
    obtain rfl := Option.some.inj HF
    exact ev_vret dX12_ends_96
  · replace HF := ite_F c5 HF
    refine ev_icmp_neT (tgt := 58) dX12_ends_45 (by decide) c5 ?_
    refine ev_iload_n 2 dX12_ends_58 rfl ?_
    refine ev_bipush (v := 9) dX12_ends_59 (by decide) ?_
    by_cases c11 : x3 = 9
    · replace HF := ite_T c11 HF
      refine ev_icmp_neF (tgt := 74) dX12_ends_61 (by decide) c11 ?_
      refine ev_aload_n 0 dX12_ends_64 rfl ?_
      replace HF := bind_o HF
      obtain ⟨b12, e13, HF⟩ := HF
      refine ev_gS (f := 1341) cl_X12 (k := 41) (by decide) fi_X12_41 rfl fl_X12_90 dX12_ends_65 c1 e13 ?_
      refine ev_iload_n 1 dX12_ends_68 rfl ?_
      refine ev_iconst (v := 3) dX12_ends_69 (by decide) ?_
      replace HF := bind_ck HF
      obtain ⟨c14, HF⟩ := HF
      refine ev_iast dX12_ends_70 c14.1 c14.2 ?_
      replace HF := bd_n HF
      obtain ⟨h15, eh15, HF⟩ := HF
      refine ev_heap eh15 ?_
      have c16 : hK h15 t = 14 := by rw [eh15]; exact c1
      refine ev_goto (tgt := 96) dX12_ends_71 (by decide) ?_
      obtain rfl := Option.some.inj HF
      exact ev_vret dX12_ends_96
    · replace HF := ite_F c11 HF
      refine ev_icmp_neT (tgt := 74) dX12_ends_61 (by decide) c11 ?_
      refine ev_aload_n 0 dX12_ends_74 rfl ?_
      replace HF := bind_o HF
      obtain ⟨b17, e18, HF⟩ := HF
      refine ev_gS (f := 1337) cl_X12 (k := 37) (by decide) fi_X12_37 rfl fl_X12_78 dX12_ends_75 c1 e18 ?_
      refine ev_iload_n 1 dX12_ends_78 rfl ?_
      replace HF := bind_ck HF
      obtain ⟨c19, HF⟩ := HF
      refine ev_iald dX12_ends_79 c19.1 c19.2 ?_
      refine ev_aload_n 0 dX12_ends_80 rfl ?_
      replace HF := bind_o HF
      obtain ⟨b20, e21, HF⟩ := HF
      refine ev_gS (f := 1340) cl_X12 (k := 40) (by decide) fi_X12_40 rfl fl_X12_87 dX12_ends_81 c1 e21 ?_
      refine ev_iload_n 1 dX12_ends_84 rfl ?_
      show EvG _ _ _ _ _ _ _ _ _ _ _ 85 _ _ _
      replace HF := bind_ck HF
      obtain ⟨c22, HF⟩ := HF
      refine ev_iald dX12_ends_85 c22.1 c22.2 ?_
      by_cases c23 : hI h b17 x2.toNatClampNeg = hI h b20 x2.toNatClampNeg
      · replace HF := ite_T c23 HF
        refine ev_icmp_neF (tgt := 96) dX12_ends_86 (by decide) c23 ?_
        refine ev_aload_n 0 dX12_ends_89 rfl ?_
        replace HF := bind_o HF
        obtain ⟨b24, e25, HF⟩ := HF
        refine ev_gS (f := 1341) cl_X12 (k := 41) (by decide) fi_X12_41 rfl fl_X12_90 dX12_ends_90 c1 e25 ?_
        refine ev_iload_n 1 dX12_ends_93 rfl ?_
        refine ev_iconst (v := 2) dX12_ends_94 (by decide) ?_
        replace HF := bind_ck HF
        obtain ⟨c26, HF⟩ := HF
        refine ev_iast dX12_ends_95 c26.1 c26.2 ?_
        replace HF := bd_n HF
        obtain ⟨h27, eh27, HF⟩ := HF
        refine ev_heap eh27 ?_
        have c28 : hK h27 t = 14 := by rw [eh27]; exact c1
        obtain rfl := Option.some.inj HF
        exact ev_vret dX12_ends_96
      · replace HF := ite_F c23 HF
        refine ev_icmp_neT (tgt := 96) dX12_ends_86 (by decide) c23 ?_
        obtain rfl := Option.some.inj HF
        exact ev_vret dX12_ends_96

set_option maxRecDepth 20000 in
theorem lk_X12_ends {g : aG} {l : Launch} {d : Nat} (hdd : 1 ≤ d) {t : Nat} {x1 : Int32} {x2 : Int32} {x3 : Int32} {h : aH} {r : aH} (hT : hK h t = 14) (HF : F_X12_ends t x1 x2 x3 h = some r) : MA g l yX12_ends cX12_ends 4 (none) d [.ref t, .int x1, .int x2, .int x3] h (none, r) := by
  refine MA.of (lv0 := [(0, .ref t), (1, .int x1), (2, .int x2), (3, .int x3)]) (by decide +kernel) (rfl) (Nat.le_of_ble_eq_true rfl) ?_
  unfold F_X12_ends at HF
  refine ev_iload_n 2 dX12_ends_0 rfl ?_
  refine ev_aload_n 0 dX12_ends_1 rfl ?_
  refine ev_iload_n 1 dX12_ends_2 rfl ?_
  replace HF := bind_o HF
  obtain ⟨⟨z3, h2⟩, e1, HF⟩ := HF
  replace HF := bd_o (bd_o HF)
  dsimp only at HF
  refine ev_callV (As := [.int x1]) (R1 := (some (.int z3), h2)) (lk_X12_lastTurn (d := 0) (Nat.le_refl _) hT e1) ce_X12_lastTurn im_X12_lastTurn sl_X12_lastTurn ml_X12_240 cl_X12 hT dX12_ends_3 (by omega) (Nat.le_of_ble_eq_true rfl) rfl rfl ?_
  show EvG _ _ _ _ _ _ _ _ _ _ _ 6 [(0, .ref t), (1, .int x1), (2, .int x2), (3, .int x3)] [.int z3, .int x2] h2
  by_cases c5 : x2 = z3
  · replace HF := ite_T c5 HF
    refine ev_icmp_neF (tgt := 37) dX12_ends_6 (by decide) c5 ?_
    refine ev_aload_n 0 dX12_ends_9 rfl ?_
    replace HF := bind_ck HF
    obtain ⟨c6, HF⟩ := HF
    replace HF := bind_o HF
    obtain ⟨b7, e8, HF⟩ := HF
    refine ev_gS (f := 1335) cl_X12 (k := 35) (by decide) fi_X12_35 rfl fl_X12_72 dX12_ends_10 c6 e8 ?_
    refine ev_iload_n 2 dX12_ends_13 rfl ?_
    replace HF := bind_ck HF
    obtain ⟨c9, HF⟩ := HF
    refine ev_iald dX12_ends_14 c9.1 c9.2 ?_
    refine ev_aload_n 0 dX12_ends_15 rfl ?_
    refine ev_gI (f := 1334) cl_X12 (k := 34) (by decide) fi_X12_34 rfl fl_X12_221 dX12_ends_16 c6 ?_
    by_cases c10 : hI h2 b7 x2.toNatClampNeg < hF h2 1334 t
    · replace HF := ite_T c10 HF
      refine ev_icmp_ltT (tgt := 37) dX12_ends_19 (by decide) c10 ?_
      exact Ev.sub [0, 2, 3] rfl (lk_X12_ends_37 hdd  t x2 x3 _ HF)
    · replace HF := ite_F c10 HF
      refine ev_icmp_ltF (tgt := 37) dX12_ends_19 (by decide) c10 ?_
      refine ev_aload_n 0 dX12_ends_22 rfl ?_
      replace HF := bind_o HF
      obtain ⟨b11, e12, HF⟩ := HF
      refine ev_gS (f := 1341) cl_X12 (k := 41) (by decide) fi_X12_41 rfl fl_X12_90 dX12_ends_23 c6 e12 ?_
      refine ev_iload_n 2 dX12_ends_26 rfl ?_
      refine ev_iconst (v := 4) dX12_ends_27 (by decide) ?_
      replace HF := bind_ck HF
      obtain ⟨c13, HF⟩ := HF
      refine ev_iast dX12_ends_28 c13.1 c13.2 ?_
      replace HF := bd_n HF
      obtain ⟨h14, eh14, HF⟩ := HF
      refine ev_heap eh14 ?_
      have c15 : hK h14 t = 14 := by rw [eh14]; exact c6
      refine ev_aload_n 0 dX12_ends_29 rfl ?_
      refine ev_iconst (v := 2) dX12_ends_30 (by decide) ?_
      show EvG _ _ _ _ _ _ _ _ _ _ _ 31 _ _ _
      refine ev_pI (f := 1333) cl_X12 (k := 33) (by decide) fi_X12_33 rfl fl_X12_218 rfl rfl rfl dX12_ends_31 c15 ?_
      replace HF := bd_n HF
      obtain ⟨h16, eh16, HF⟩ := HF
      refine ev_heap eh16 ?_
      have c17 : hK h16 t = 14 := by rw [eh16]; exact c15
      refine ev_goto (tgt := 96) dX12_ends_34 (by decide) ?_
      obtain rfl := Option.some.inj HF
      exact ev_vret dX12_ends_96
  · replace HF := ite_F c5 HF
    refine ev_icmp_neT (tgt := 37) dX12_ends_6 (by decide) c5 ?_
    exact Ev.sub [0, 2, 3] rfl (lk_X12_ends_37 hdd  t x2 x3 _ HF)

set_option maxRecDepth 20000 in
theorem lk_X12_playEntry_481 {g : aG} {l : Launch} {d : Nat} {h0 : aH} (hdd : 2 ≤ d) {r : aH} (t : Nat) (x1 : Int32) (x2 : Int32) (x4 : Int32) (h : aH) (HF : F_X12_playEntry_481  t x1 x2 x4 h = some r) : Ev g l cX12_playEntry 8 yX12_playEntry (none) d h0 (none, r) 481 [(0, .ref t), (1, .int x1), (2, .int x2), (4, .int x4)] [] h := by
  unfold F_X12_playEntry_481 at HF
  refine ev_aload_n 0 dX12_playEntry_481 rfl ?_
  refine ev_iload_n 1 dX12_playEntry_482 rfl ?_
  refine ev_iload_n 2 dX12_playEntry_483 rfl ?_
  refine ev_iload 3 dX12_playEntry_484 rfl ?_
  replace HF := bind_ck HF
  obtain ⟨c1, HF⟩ := HF
  replace HF := bind_o HF
  obtain ⟨h3, e2, HF⟩ := HF
  refine ev_callV (As := [.int x1, .int x2, .int x4]) (R1 := (none, h3)) (lk_X12_ends (d := 1) (Nat.le_refl _) c1 e2) ce_X12_ends im_X12_ends sl_X12_ends ml_X12_288 cl_X12 c1 dX12_playEntry_486 (by omega) (Nat.le_of_ble_eq_true rfl) rfl rfl ?_
  show EvG _ _ _ _ _ _ _ _ _ _ _ 489 [(0, .ref t), (1, .int x1), (2, .int x2), (4, .int x4)] [] h3
  obtain rfl := Option.some.inj HF
  exact ev_vret dX12_playEntry_489

set_option maxRecDepth 20000 in
theorem lk_X12_playEntry_466 {g : aG} {l : Launch} {d : Nat} {h0 : aH} (hdd : 2 ≤ d) {r : aH} (t : Nat) (x1 : Int32) (x2 : Int32) (x4 : Int32) (h : aH) (HF : F_X12_playEntry_466  t x1 x2 x4 h = some r) : Ev g l cX12_playEntry 8 yX12_playEntry (none) d h0 (none, r) 466 [(0, .ref t), (1, .int x1), (2, .int x2), (4, .int x4)] [] h := by
  unfold F_X12_playEntry_466 at HF
  refine ev_iload_n 2 dX12_playEntry_466 rfl ?_
  refine ev_aload_n 0 dX12_playEntry_467 rfl ?_
  refine ev_iload_n 1 dX12_playEntry_468 rfl ?_
  replace HF := bind_ck HF
  obtain ⟨c1, HF⟩ := HF
  replace HF := bind_o HF
  obtain ⟨⟨z4, h3⟩, e2, HF⟩ := HF
  replace HF := bd_o (bd_o HF)
  dsimp only at HF
  refine ev_callV (As := [.int x1]) (R1 := (some (.int z4), h3)) (lk_X12_lastTurn (d := 0) (Nat.le_refl _) c1 e2) ce_X12_lastTurn im_X12_lastTurn sl_X12_lastTurn ml_X12_240 cl_X12 c1 dX12_playEntry_469 (by omega) (Nat.le_of_ble_eq_true rfl) rfl rfl ?_
  show EvG _ _ _ _ _ _ _ _ _ _ _ 472 [(0, .ref t), (1, .int x1), (2, .int x2), (4, .int x4)] [.int z4, .int x2] h3
  by_cases c6 : x2 = z4
  · replace HF := ite_T c6 HF
    refine ev_icmp_neF (tgt := 481) dX12_playEntry_472 (by decide) c6 ?_
    refine ev_aload_n 0 dX12_playEntry_475 rfl ?_
    refine ev_iload_n 1 dX12_playEntry_476 rfl ?_
    refine ev_iload_n 2 dX12_playEntry_477 rfl ?_
    replace HF := bind_ck HF
    obtain ⟨c7, HF⟩ := HF
    replace HF := bind_o HF
    obtain ⟨h9, e8, HF⟩ := HF
    refine ev_callV (As := [.int x1, .int x2]) (R1 := (none, h9)) (lk_X12_aim (d := 0) (Nat.le_refl _) c7 e8) ce_X12_aim im_X12_aim sl_X12_aim ml_X12_244 cl_X12 c7 dX12_playEntry_478 (by omega) (Nat.le_of_ble_eq_true rfl) rfl rfl ?_
    show EvG _ _ _ _ _ _ _ _ _ _ _ 481 [(0, .ref t), (1, .int x1), (2, .int x2), (4, .int x4)] [] h9
    exact Ev.sub [0, 1, 2, 3] rfl (lk_X12_playEntry_481 hdd  t x1 x2 x4 _ HF)
  · replace HF := ite_F c6 HF
    refine ev_icmp_neT (tgt := 481) dX12_playEntry_472 (by decide) c6 ?_
    exact Ev.sub [0, 1, 2, 3] rfl (lk_X12_playEntry_481 hdd  t x1 x2 x4 _ HF)

set_option maxRecDepth 20000 in
theorem lk_X12_playEntry_421 {g : aG} {l : Launch} {d : Nat} {h0 : aH} (hdd : 2 ≤ d) {r : aH} (t : Nat) (x1 : Int32) (x2 : Int32) (x3 : Int32) (x4 : Int32) (h : aH) (HF : F_X12_playEntry_421  t x1 x2 x3 x4 h = some r) : Ev g l cX12_playEntry 8 yX12_playEntry (none) d h0 (none, r) 421 [(0, .ref t), (1, .int x1), (2, .int x2), (3, .int x3), (4, .int x4)] [] h := by
  unfold F_X12_playEntry_421 at HF
  refine ev_iload 4 dX12_playEntry_421 rfl ?_
  replace HF := bind_o HF
  obtain ⟨⟨z3, h2⟩, e1, HF⟩ := HF
  replace HF := bd_o (bd_o HF)
  dsimp only at HF
  refine ev_callS (As := [.int x4]) (R1 := (some (.int z3), h2)) (lk_X12_counts (d := 0) (Nat.le_refl _) e1) ce_X12_counts st_X12_counts ml_X12_269 dX12_playEntry_423 (by omega) (Nat.le_of_ble_eq_true rfl) rfl rfl ?_
  show EvG _ _ _ _ _ _ _ _ _ _ _ 426 [(0, .ref t), (1, .int x1), (2, .int x2), (3, .int x3), (4, .int x4)] [.int z3] h2
  by_cases c5 : z3 = 0
  · replace HF := ite_T c5 HF
    refine ev_if_eqT (tgt := 466) dX12_playEntry_426 (by decide) c5 ?_
    exact Ev.sub [0, 1, 2, 4] rfl (lk_X12_playEntry_466 hdd  t x1 x2 x4 _ HF)
  · replace HF := ite_F c5 HF
    refine ev_if_eqF (tgt := 466) dX12_playEntry_426 (by decide) c5 ?_
    refine ev_aload_n 0 dX12_playEntry_429 rfl ?_
    replace HF := bind_ck HF
    obtain ⟨c6, HF⟩ := HF
    replace HF := bind_o HF
    obtain ⟨b7, e8, HF⟩ := HF
    refine ev_gS (f := 1361) cl_X12 (k := 61) (by decide) fi_X12_61 rfl fl_X12_151 dX12_playEntry_430 c6 e8 ?_
    refine ev_iload_n 3 dX12_playEntry_433 rfl ?_
    refine ev_dup2 dX12_playEntry_434 rfl rfl ?_
    replace HF := bind_ck HF
    obtain ⟨c9, HF⟩ := HF
    refine ev_iald dX12_playEntry_435 c9.1 c9.2 ?_
    refine ev_iconst (v := 1) dX12_playEntry_436 (by decide) ?_
    refine ev_iadd dX12_playEntry_437 ?_
    show EvG _ _ _ _ _ _ _ _ _ _ _ 438 _ _ _
    refine ev_iast dX12_playEntry_438 c9.1 c9.2 ?_
    replace HF := bd_n HF
    obtain ⟨h10, eh10, HF⟩ := HF
    refine ev_heap eh10 ?_
    have c11 : hK h10 t = 14 := by rw [eh10]; exact c6
    refine ev_aload_n 0 dX12_playEntry_439 rfl ?_
    replace HF := bind_o HF
    obtain ⟨b12, e13, HF⟩ := HF
    refine ev_gS (f := 1338) cl_X12 (k := 38) (by decide) fi_X12_38 rfl fl_X12_81 dX12_playEntry_440 c11 e13 ?_
    refine ev_iload_n 2 dX12_playEntry_443 rfl ?_
    refine ev_dup2 dX12_playEntry_444 rfl rfl ?_
    replace HF := bind_ck HF
    obtain ⟨c14, HF⟩ := HF
    refine ev_iald dX12_playEntry_445 c14.1 c14.2 ?_
    refine ev_iconst (v := 1) dX12_playEntry_446 (by decide) ?_
    refine ev_iadd dX12_playEntry_447 ?_
    show EvG _ _ _ _ _ _ _ _ _ _ _ 448 _ _ _
    refine ev_iast dX12_playEntry_448 c14.1 c14.2 ?_
    replace HF := bd_n HF
    obtain ⟨h15, eh15, HF⟩ := HF
    refine ev_heap eh15 ?_
    have c16 : hK h15 t = 14 := by rw [eh15]; exact c11
    refine ev_aload_n 0 dX12_playEntry_449 rfl ?_
    replace HF := bind_o HF
    obtain ⟨b17, e18, HF⟩ := HF
    refine ev_gS (f := 1361) cl_X12 (k := 61) (by decide) fi_X12_61 rfl fl_X12_151 dX12_playEntry_450 c16 e18 ?_
    refine ev_iload_n 3 dX12_playEntry_453 rfl ?_
    replace HF := bind_ck HF
    obtain ⟨c19, HF⟩ := HF
    refine ev_iald dX12_playEntry_454 c19.1 c19.2 ?_
    refine ev_bipush (v := 6) dX12_playEntry_455 (by decide) ?_
    by_cases c20 : hI h15 b17 x3.toNatClampNeg = 6
    · replace HF := ite_T c20 HF
      refine ev_icmp_neF (tgt := 466) dX12_playEntry_457 (by decide) c20 ?_
      refine ev_aload_n 0 dX12_playEntry_460 rfl ?_
      refine ev_iload_n 2 dX12_playEntry_461 rfl ?_
      refine ev_iload_n 3 dX12_playEntry_462 rfl ?_
      replace HF := bind_o HF
      obtain ⟨h22, e21, HF⟩ := HF
      refine ev_callV (As := [.int x2, .int x3]) (R1 := (none, h22)) (lk_X12_becomesWhole (d := 1) (Nat.le_refl _) c16 e21) ce_X12_becomesWhole im_X12_becomesWhole sl_X12_becomesWhole ml_X12_254 cl_X12 c16 dX12_playEntry_463 (by omega) (Nat.le_of_ble_eq_true rfl) rfl rfl ?_
      show EvG _ _ _ _ _ _ _ _ _ _ _ 466 [(0, .ref t), (1, .int x1), (2, .int x2), (3, .int x3), (4, .int x4)] [] h22
      exact Ev.sub [0, 1, 2, 4] rfl (lk_X12_playEntry_466 hdd  t x1 x2 x4 _ HF)
    · replace HF := ite_F c20 HF
      refine ev_icmp_neT (tgt := 466) dX12_playEntry_457 (by decide) c20 ?_
      exact Ev.sub [0, 1, 2, 4] rfl (lk_X12_playEntry_466 hdd  t x1 x2 x4 _ HF)

set_option maxRecDepth 20000 in
theorem lk_X12_playEntry_38 {g : aG} {l : Launch} {d : Nat} {h0 : aH} (hdd : 2 ≤ d) {r : aH} (t : Nat) (x1 : Int32) (x2 : Int32) (x3 : Int32) (x4 : Int32) (x5 : Int32) (h : aH) (HF : F_X12_playEntry_38  t x1 x2 x3 x4 x5 h = some r) : Ev g l cX12_playEntry 8 yX12_playEntry (none) d h0 (none, r) 38 [(0, .ref t), (1, .int x1), (2, .int x2), (3, .int x3), (4, .int x4), (5, .int x5)] [] h := by
  unfold F_X12_playEntry_38 at HF
  refine ev_iload 4 dX12_playEntry_38 rfl ?_
  by_cases c1 : x4 = 0
  · replace HF := ite_T c1 HF
    refine ev_swT (kk := 0) (tgt := 92) dX12_playEntry_40 c1 (by decide +kernel) (by decide +kernel) ?_
    refine ev_aload_n 0 dX12_playEntry_92 rfl ?_
    refine ev_iload_n 2 dX12_playEntry_93 rfl ?_
    refine ev_iload_n 3 dX12_playEntry_94 rfl ?_
    refine ev_iload 5 dX12_playEntry_95 rfl ?_
    replace HF := bind_ck HF
    obtain ⟨c2, HF⟩ := HF
    replace HF := bind_o HF
    obtain ⟨h4, e3, HF⟩ := HF
    refine ev_callV (As := [.int x2, .int x3, .int x5]) (R1 := (none, h4)) (lk_X12_hit (d := 1) (Nat.le_refl _) c2 e3) ce_X12_hit im_X12_hit sl_X12_hit ml_X12_275 cl_X12 c2 dX12_playEntry_97 (by omega) (Nat.le_of_ble_eq_true rfl) rfl rfl ?_
    show EvG _ _ _ _ _ _ _ _ _ _ _ 100 [(0, .ref t), (1, .int x1), (2, .int x2), (3, .int x3), (4, .int x4), (5, .int x5)] [] h4
    refine ev_aload_n 0 dX12_playEntry_100 rfl ?_
    refine ev_iload_n 2 dX12_playEntry_101 rfl ?_
    show EvG _ _ _ _ _ _ _ _ _ _ _ 102 _ _ _
    refine ev_iload 5 dX12_playEntry_102 rfl ?_
    replace HF := bind_ck HF
    obtain ⟨c6, HF⟩ := HF
    replace HF := bind_o HF
    obtain ⟨h8, e7, HF⟩ := HF
    refine ev_callV (As := [.int x2, .int x5]) (R1 := (none, h8)) (lk_X12_crosses (d := 1) (Nat.le_refl _) c6 e7) ce_X12_crosses im_X12_crosses sl_X12_crosses ml_X12_278 cl_X12 c6 dX12_playEntry_104 (by omega) (Nat.le_of_ble_eq_true rfl) rfl rfl ?_
    show EvG _ _ _ _ _ _ _ _ _ _ _ 107 [(0, .ref t), (1, .int x1), (2, .int x2), (3, .int x3), (4, .int x4), (5, .int x5)] [] h8
    refine ev_goto (tgt := 421) dX12_playEntry_107 (by decide) ?_
    exact Ev.sub [0, 1, 2, 3, 4] rfl (lk_X12_playEntry_421 hdd  t x1 x2 x3 x4 _ HF)
  replace HF := ite_F c1 HF
  by_cases c10 : x4 = 1
  · replace HF := ite_T c10 HF
    refine ev_swT (kk := 1) (tgt := 110) dX12_playEntry_40 c10 (by decide +kernel) (by decide +kernel) ?_
    refine ev_aload_n 0 dX12_playEntry_110 rfl ?_
    replace HF := bind_ck HF
    obtain ⟨c11, HF⟩ := HF
    replace HF := bind_o HF
    obtain ⟨b12, e13, HF⟩ := HF
    refine ev_gS (f := 1357) cl_X12 (k := 57) (by decide) fi_X12_57 rfl fl_X12_139 dX12_playEntry_111 c11 e13 ?_
    refine ev_bipush (v := 11) dX12_playEntry_114 (by decide) ?_
    refine ev_iload_n 2 dX12_playEntry_116 rfl ?_
    refine ev_imul dX12_playEntry_117 ?_
    refine ev_aload_n 0 dX12_playEntry_118 rfl ?_
    replace HF := bind_o HF
    obtain ⟨b14, e15, HF⟩ := HF
    refine ev_gS (f := 1351) cl_X12 (k := 51) (by decide) fi_X12_51 rfl fl_X12_120 dX12_playEntry_119 c11 e15 ?_
    show EvG _ _ _ _ _ _ _ _ _ _ _ 122 _ _ _
    refine ev_iload_n 2 dX12_playEntry_122 rfl ?_
    replace HF := bind_ck HF
    obtain ⟨c16, HF⟩ := HF
    refine ev_iald dX12_playEntry_123 c16.1 c16.2 ?_
    refine ev_iadd dX12_playEntry_124 ?_
    refine ev_dup2 dX12_playEntry_125 rfl rfl ?_
    replace HF := bind_ck HF
    obtain ⟨c17, HF⟩ := HF
    refine ev_iald dX12_playEntry_126 c17.1 c17.2 ?_
    refine ev_iconst (v := 1) dX12_playEntry_127 (by decide) ?_
    refine ev_iadd dX12_playEntry_128 ?_
    refine ev_iast dX12_playEntry_129 c17.1 c17.2 ?_
    replace HF := bd_n HF
    obtain ⟨h18, eh18, HF⟩ := HF
    refine ev_heap eh18 ?_
    have c19 : hK h18 t = 14 := by rw [eh18]; exact c11
    show EvG _ _ _ _ _ _ _ _ _ _ _ 130 _ _ _
    refine ev_aload_n 0 dX12_playEntry_130 rfl ?_
    replace HF := bind_o HF
    obtain ⟨b20, e21, HF⟩ := HF
    refine ev_gS (f := 1348) cl_X12 (k := 48) (by decide) fi_X12_48 rfl fl_X12_111 dX12_playEntry_131 c19 e21 ?_
    refine ev_iload_n 2 dX12_playEntry_134 rfl ?_
    refine ev_dup2 dX12_playEntry_135 rfl rfl ?_
    replace HF := bind_ck HF
    obtain ⟨c22, HF⟩ := HF
    refine ev_iald dX12_playEntry_136 c22.1 c22.2 ?_
    refine ev_iload 5 dX12_playEntry_137 rfl ?_
    refine ev_iadd dX12_playEntry_139 ?_
    refine ev_iast dX12_playEntry_140 c22.1 c22.2 ?_
    replace HF := bd_n HF
    obtain ⟨h23, eh23, HF⟩ := HF
    refine ev_heap eh23 ?_
    have c24 : hK h23 t = 14 := by rw [eh23]; exact c19
    show EvG _ _ _ _ _ _ _ _ _ _ _ 141 _ _ _
    refine ev_aload_n 0 dX12_playEntry_141 rfl ?_
    replace HF := bind_o HF
    obtain ⟨b25, e26, HF⟩ := HF
    refine ev_gS (f := 1339) cl_X12 (k := 39) (by decide) fi_X12_39 rfl fl_X12_84 dX12_playEntry_142 c24 e26 ?_
    refine ev_iload_n 2 dX12_playEntry_145 rfl ?_
    refine ev_dup2 dX12_playEntry_146 rfl rfl ?_
    replace HF := bind_ck HF
    obtain ⟨c27, HF⟩ := HF
    refine ev_iald dX12_playEntry_147 c27.1 c27.2 ?_
    refine ev_iload 5 dX12_playEntry_148 rfl ?_
    refine ev_iconst (v := 1) dX12_playEntry_150 (by decide) ?_
    refine ev_iadd dX12_playEntry_151 ?_
    show EvG _ _ _ _ _ _ _ _ _ _ _ 152 _ _ _
    refine ev_iadd dX12_playEntry_152 ?_
    refine ev_iast dX12_playEntry_153 c27.1 c27.2 ?_
    replace HF := bd_n HF
    obtain ⟨h28, eh28, HF⟩ := HF
    refine ev_heap eh28 ?_
    have c29 : hK h28 t = 14 := by rw [eh28]; exact c24
    refine ev_aload_n 0 dX12_playEntry_154 rfl ?_
    refine ev_iload_n 2 dX12_playEntry_155 rfl ?_
    refine ev_iload_n 3 dX12_playEntry_156 rfl ?_
    refine ev_iload 5 dX12_playEntry_157 rfl ?_
    refine ev_iconst (v := 1) dX12_playEntry_159 (by decide) ?_
    refine ev_iadd dX12_playEntry_160 ?_
    show EvG _ _ _ _ _ _ _ _ _ _ _ 161 _ _ _
    replace HF := bind_o HF
    obtain ⟨h31, e30, HF⟩ := HF
    refine ev_callV (As := [.int x2, .int x3, .int (x5 + 1)]) (R1 := (none, h31)) (lk_X12_adds (d := 0) (Nat.le_refl _) c29 e30) ce_X12_adds im_X12_adds sl_X12_adds ml_X12_272 cl_X12 c29 dX12_playEntry_161 (by omega) (Nat.le_of_ble_eq_true rfl) rfl rfl ?_
    show EvG _ _ _ _ _ _ _ _ _ _ _ 164 [(0, .ref t), (1, .int x1), (2, .int x2), (3, .int x3), (4, .int x4), (5, .int x5)] [] h31
    refine ev_aload_n 0 dX12_playEntry_164 rfl ?_
    refine ev_iload_n 2 dX12_playEntry_165 rfl ?_
    refine ev_iload 5 dX12_playEntry_166 rfl ?_
    replace HF := bind_ck HF
    obtain ⟨c33, HF⟩ := HF
    replace HF := bind_o HF
    obtain ⟨h35, e34, HF⟩ := HF
    refine ev_callV (As := [.int x2, .int x5]) (R1 := (none, h35)) (lk_X12_crosses (d := 1) (Nat.le_refl _) c33 e34) ce_X12_crosses im_X12_crosses sl_X12_crosses ml_X12_278 cl_X12 c33 dX12_playEntry_168 (by omega) (Nat.le_of_ble_eq_true rfl) rfl rfl ?_
    show EvG _ _ _ _ _ _ _ _ _ _ _ 171 [(0, .ref t), (1, .int x1), (2, .int x2), (3, .int x3), (4, .int x4), (5, .int x5)] [] h35
    refine ev_goto (tgt := 421) dX12_playEntry_171 (by decide) ?_
    exact Ev.sub [0, 1, 2, 3, 4] rfl (lk_X12_playEntry_421 hdd  t x1 x2 x3 x4 _ HF)
  replace HF := ite_F c10 HF
  by_cases c37 : x4 = 2
  · replace HF := ite_T c37 HF
    refine ev_swT (kk := 2) (tgt := 174) dX12_playEntry_40 c37 (by decide +kernel) (by decide +kernel) ?_
    refine ev_aload_n 0 dX12_playEntry_174 rfl ?_
    refine ev_iload_n 2 dX12_playEntry_175 rfl ?_
    refine ev_iload_n 3 dX12_playEntry_176 rfl ?_
    refine ev_iload 5 dX12_playEntry_177 rfl ?_
    replace HF := bind_ck HF
    obtain ⟨c38, HF⟩ := HF
    replace HF := bind_o HF
    obtain ⟨h40, e39, HF⟩ := HF
    refine ev_callV (As := [.int x2, .int x3, .int x5]) (R1 := (none, h40)) (lk_X12_hit (d := 1) (Nat.le_refl _) c38 e39) ce_X12_hit im_X12_hit sl_X12_hit ml_X12_275 cl_X12 c38 dX12_playEntry_179 (by omega) (Nat.le_of_ble_eq_true rfl) rfl rfl ?_
    show EvG _ _ _ _ _ _ _ _ _ _ _ 182 [(0, .ref t), (1, .int x1), (2, .int x2), (3, .int x3), (4, .int x4), (5, .int x5)] [] h40
    refine ev_aload_n 0 dX12_playEntry_182 rfl ?_
    replace HF := bind_ck HF
    obtain ⟨c42, HF⟩ := HF
    replace HF := bind_o HF
    obtain ⟨b43, e44, HF⟩ := HF
    refine ev_gS (f := 1357) cl_X12 (k := 57) (by decide) fi_X12_57 rfl fl_X12_139 dX12_playEntry_183 c42 e44 ?_
    show EvG _ _ _ _ _ _ _ _ _ _ _ 186 _ _ _
    refine ev_bipush (v := 11) dX12_playEntry_186 (by decide) ?_
    refine ev_iload_n 2 dX12_playEntry_188 rfl ?_
    refine ev_imul dX12_playEntry_189 ?_
    refine ev_aload_n 0 dX12_playEntry_190 rfl ?_
    replace HF := bind_o HF
    obtain ⟨b45, e46, HF⟩ := HF
    refine ev_gS (f := 1351) cl_X12 (k := 51) (by decide) fi_X12_51 rfl fl_X12_120 dX12_playEntry_191 c42 e46 ?_
    refine ev_iload_n 2 dX12_playEntry_194 rfl ?_
    replace HF := bind_ck HF
    obtain ⟨c47, HF⟩ := HF
    refine ev_iald dX12_playEntry_195 c47.1 c47.2 ?_
    refine ev_iadd dX12_playEntry_196 ?_
    show EvG _ _ _ _ _ _ _ _ _ _ _ 197 _ _ _
    refine ev_dup2 dX12_playEntry_197 rfl rfl ?_
    replace HF := bind_ck HF
    obtain ⟨c48, HF⟩ := HF
    refine ev_iald dX12_playEntry_198 c48.1 c48.2 ?_
    refine ev_iconst (v := 1) dX12_playEntry_199 (by decide) ?_
    refine ev_iadd dX12_playEntry_200 ?_
    refine ev_iast dX12_playEntry_201 c48.1 c48.2 ?_
    replace HF := bd_n HF
    obtain ⟨h49, eh49, HF⟩ := HF
    refine ev_heap eh49 ?_
    have c50 : hK h49 t = 14 := by rw [eh49]; exact c42
    refine ev_aload_n 0 dX12_playEntry_202 rfl ?_
    replace HF := bind_o HF
    obtain ⟨b51, e52, HF⟩ := HF
    refine ev_gS (f := 1339) cl_X12 (k := 39) (by decide) fi_X12_39 rfl fl_X12_84 dX12_playEntry_203 c50 e52 ?_
    refine ev_iload_n 2 dX12_playEntry_206 rfl ?_
    show EvG _ _ _ _ _ _ _ _ _ _ _ 207 _ _ _
    refine ev_dup2 dX12_playEntry_207 rfl rfl ?_
    replace HF := bind_ck HF
    obtain ⟨c53, HF⟩ := HF
    refine ev_iald dX12_playEntry_208 c53.1 c53.2 ?_
    refine ev_iconst (v := 1) dX12_playEntry_209 (by decide) ?_
    refine ev_iadd dX12_playEntry_210 ?_
    refine ev_iast dX12_playEntry_211 c53.1 c53.2 ?_
    replace HF := bd_n HF
    obtain ⟨h54, eh54, HF⟩ := HF
    refine ev_heap eh54 ?_
    have c55 : hK h54 t = 14 := by rw [eh54]; exact c50
    refine ev_aload_n 0 dX12_playEntry_212 rfl ?_
    refine ev_iload_n 2 dX12_playEntry_213 rfl ?_
    refine ev_iload_n 3 dX12_playEntry_214 rfl ?_
    show EvG _ _ _ _ _ _ _ _ _ _ _ 215 _ _ _
    refine ev_iconst (v := 1) dX12_playEntry_215 (by decide) ?_
    replace HF := bind_o HF
    obtain ⟨h57, e56, HF⟩ := HF
    refine ev_callV (As := [.int x2, .int x3, .int 1]) (R1 := (none, h57)) (lk_X12_adds (d := 0) (Nat.le_refl _) c55 e56) ce_X12_adds im_X12_adds sl_X12_adds ml_X12_272 cl_X12 c55 dX12_playEntry_216 (by omega) (Nat.le_of_ble_eq_true rfl) rfl rfl ?_
    show EvG _ _ _ _ _ _ _ _ _ _ _ 219 [(0, .ref t), (1, .int x1), (2, .int x2), (3, .int x3), (4, .int x4), (5, .int x5)] [] h57
    refine ev_aload_n 0 dX12_playEntry_219 rfl ?_
    refine ev_iload_n 2 dX12_playEntry_220 rfl ?_
    refine ev_iload 5 dX12_playEntry_221 rfl ?_
    replace HF := bind_ck HF
    obtain ⟨c59, HF⟩ := HF
    replace HF := bind_o HF
    obtain ⟨h61, e60, HF⟩ := HF
    refine ev_callV (As := [.int x2, .int x5]) (R1 := (none, h61)) (lk_X12_crosses (d := 1) (Nat.le_refl _) c59 e60) ce_X12_crosses im_X12_crosses sl_X12_crosses ml_X12_278 cl_X12 c59 dX12_playEntry_223 (by omega) (Nat.le_of_ble_eq_true rfl) rfl rfl ?_
    show EvG _ _ _ _ _ _ _ _ _ _ _ 226 [(0, .ref t), (1, .int x1), (2, .int x2), (3, .int x3), (4, .int x4), (5, .int x5)] [] h61
    refine ev_goto (tgt := 421) dX12_playEntry_226 (by decide) ?_
    exact Ev.sub [0, 1, 2, 3, 4] rfl (lk_X12_playEntry_421 hdd  t x1 x2 x3 x4 _ HF)
  replace HF := ite_F c37 HF
  by_cases c63 : x4 = 3
  · replace HF := ite_T c63 HF
    refine ev_swT (kk := 3) (tgt := 229) dX12_playEntry_40 c63 (by decide +kernel) (by decide +kernel) ?_
    refine ev_aload_n 0 dX12_playEntry_229 rfl ?_
    replace HF := bind_ck HF
    obtain ⟨c64, HF⟩ := HF
    replace HF := bind_o HF
    obtain ⟨b65, e66, HF⟩ := HF
    refine ev_gS (f := 1358) cl_X12 (k := 58) (by decide) fi_X12_58 rfl fl_X12_142 dX12_playEntry_230 c64 e66 ?_
    refine ev_bipush (v := 11) dX12_playEntry_233 (by decide) ?_
    refine ev_iload_n 2 dX12_playEntry_235 rfl ?_
    refine ev_imul dX12_playEntry_236 ?_
    refine ev_aload_n 0 dX12_playEntry_237 rfl ?_
    replace HF := bind_o HF
    obtain ⟨b67, e68, HF⟩ := HF
    refine ev_gS (f := 1351) cl_X12 (k := 51) (by decide) fi_X12_51 rfl fl_X12_120 dX12_playEntry_238 c64 e68 ?_
    show EvG _ _ _ _ _ _ _ _ _ _ _ 241 _ _ _
    refine ev_iload_n 2 dX12_playEntry_241 rfl ?_
    replace HF := bind_ck HF
    obtain ⟨c69, HF⟩ := HF
    refine ev_iald dX12_playEntry_242 c69.1 c69.2 ?_
    refine ev_iadd dX12_playEntry_243 ?_
    refine ev_dup2 dX12_playEntry_244 rfl rfl ?_
    replace HF := bind_ck HF
    obtain ⟨c70, HF⟩ := HF
    refine ev_iald dX12_playEntry_245 c70.1 c70.2 ?_
    refine ev_iconst (v := 1) dX12_playEntry_246 (by decide) ?_
    refine ev_iadd dX12_playEntry_247 ?_
    refine ev_iast dX12_playEntry_248 c70.1 c70.2 ?_
    replace HF := bd_n HF
    obtain ⟨h71, eh71, HF⟩ := HF
    refine ev_heap eh71 ?_
    have c72 : hK h71 t = 14 := by rw [eh71]; exact c64
    show EvG _ _ _ _ _ _ _ _ _ _ _ 249 _ _ _
    refine ev_aload_n 0 dX12_playEntry_249 rfl ?_
    replace HF := bind_o HF
    obtain ⟨b73, e74, HF⟩ := HF
    refine ev_gS (f := 1349) cl_X12 (k := 49) (by decide) fi_X12_49 rfl fl_X12_114 dX12_playEntry_250 c72 e74 ?_
    refine ev_iload_n 2 dX12_playEntry_253 rfl ?_
    refine ev_dup2 dX12_playEntry_254 rfl rfl ?_
    replace HF := bind_ck HF
    obtain ⟨c75, HF⟩ := HF
    refine ev_iald dX12_playEntry_255 c75.1 c75.2 ?_
    refine ev_iconst (v := 1) dX12_playEntry_256 (by decide) ?_
    refine ev_iadd dX12_playEntry_257 ?_
    refine ev_iast dX12_playEntry_258 c75.1 c75.2 ?_
    replace HF := bd_n HF
    obtain ⟨h76, eh76, HF⟩ := HF
    refine ev_heap eh76 ?_
    have c77 : hK h76 t = 14 := by rw [eh76]; exact c72
    show EvG _ _ _ _ _ _ _ _ _ _ _ 259 _ _ _
    refine ev_aload_n 0 dX12_playEntry_259 rfl ?_
    refine ev_iload_n 2 dX12_playEntry_260 rfl ?_
    refine ev_iload_n 3 dX12_playEntry_261 rfl ?_
    refine ev_iconst (v := 1) dX12_playEntry_262 (by decide) ?_
    refine ev_iconst (v := 2) dX12_playEntry_263 (by decide) ?_
    refine ev_iload 5 dX12_playEntry_264 rfl ?_
    refine ev_iadd dX12_playEntry_266 ?_
    replace HF := bind_o HF
    obtain ⟨h79, e78, HF⟩ := HF
    refine ev_callV (As := [.int x2, .int x3, .int 1, .int (2 + x5)]) (R1 := (none, h79)) (lk_X12_leaves (d := 0) (Nat.le_refl _) c77 e78) ce_X12_leaves im_X12_leaves sl_X12_leaves ml_X12_281 cl_X12 c77 dX12_playEntry_267 (by omega) (Nat.le_of_ble_eq_true rfl) rfl rfl ?_
    show EvG _ _ _ _ _ _ _ _ _ _ _ 270 [(0, .ref t), (1, .int x1), (2, .int x2), (3, .int x3), (4, .int x4), (5, .int x5)] [] h79
    show EvG _ _ _ _ _ _ _ _ _ _ _ 270 _ _ _
    refine ev_goto (tgt := 421) dX12_playEntry_270 (by decide) ?_
    exact Ev.sub [0, 1, 2, 3, 4] rfl (lk_X12_playEntry_421 hdd  t x1 x2 x3 x4 _ HF)
  replace HF := ite_F c63 HF
  by_cases c81 : x4 = 4
  · replace HF := ite_T c81 HF
    refine ev_swT (kk := 4) (tgt := 273) dX12_playEntry_40 c81 (by decide +kernel) (by decide +kernel) ?_
    refine ev_aload_n 0 dX12_playEntry_273 rfl ?_
    refine ev_iload_n 2 dX12_playEntry_274 rfl ?_
    refine ev_iload_n 3 dX12_playEntry_275 rfl ?_
    refine ev_iload 5 dX12_playEntry_276 rfl ?_
    refine ev_iconst (v := 2) dX12_playEntry_278 (by decide) ?_
    refine ev_idiv dX12_playEntry_279 (by decide) ?_
    replace HF := bind_ck HF
    obtain ⟨c82, HF⟩ := HF
    replace HF := bind_o HF
    obtain ⟨h84, e83, HF⟩ := HF
    refine ev_callV (As := [.int x2, .int x3, .int (x5 / 2)]) (R1 := (none, h84)) (lk_X12_hit (d := 1) (Nat.le_refl _) c82 e83) ce_X12_hit im_X12_hit sl_X12_hit ml_X12_275 cl_X12 c82 dX12_playEntry_280 (by omega) (Nat.le_of_ble_eq_true rfl) rfl rfl ?_
    show EvG _ _ _ _ _ _ _ _ _ _ _ 283 [(0, .ref t), (1, .int x1), (2, .int x2), (3, .int x3), (4, .int x4), (5, .int x5)] [] h84
    show EvG _ _ _ _ _ _ _ _ _ _ _ 283 _ _ _
    refine ev_aload_n 0 dX12_playEntry_283 rfl ?_
    refine ev_iload_n 2 dX12_playEntry_284 rfl ?_
    refine ev_iload 5 dX12_playEntry_285 rfl ?_
    refine ev_iconst (v := 2) dX12_playEntry_287 (by decide) ?_
    refine ev_idiv dX12_playEntry_288 (by decide) ?_
    replace HF := bind_ck HF
    obtain ⟨c86, HF⟩ := HF
    replace HF := bind_o HF
    obtain ⟨h88, e87, HF⟩ := HF
    refine ev_callV (As := [.int x2, .int (x5 / 2)]) (R1 := (none, h88)) (lk_X12_crosses (d := 1) (Nat.le_refl _) c86 e87) ce_X12_crosses im_X12_crosses sl_X12_crosses ml_X12_278 cl_X12 c86 dX12_playEntry_289 (by omega) (Nat.le_of_ble_eq_true rfl) rfl rfl ?_
    show EvG _ _ _ _ _ _ _ _ _ _ _ 292 [(0, .ref t), (1, .int x1), (2, .int x2), (3, .int x3), (4, .int x4), (5, .int x5)] [] h88
    refine ev_aload_n 0 dX12_playEntry_292 rfl ?_
    replace HF := bind_ck HF
    obtain ⟨c90, HF⟩ := HF
    replace HF := bind_o HF
    obtain ⟨b91, e92, HF⟩ := HF
    refine ev_gS (f := 1350) cl_X12 (k := 50) (by decide) fi_X12_50 rfl fl_X12_117 dX12_playEntry_293 c90 e92 ?_
    show EvG _ _ _ _ _ _ _ _ _ _ _ 296 _ _ _
    refine ev_iload_n 2 dX12_playEntry_296 rfl ?_
    refine ev_dup2 dX12_playEntry_297 rfl rfl ?_
    replace HF := bind_ck HF
    obtain ⟨c93, HF⟩ := HF
    refine ev_iald dX12_playEntry_298 c93.1 c93.2 ?_
    refine ev_iconst (v := 1) dX12_playEntry_299 (by decide) ?_
    refine ev_iadd dX12_playEntry_300 ?_
    refine ev_iast dX12_playEntry_301 c93.1 c93.2 ?_
    replace HF := bd_n HF
    obtain ⟨h94, eh94, HF⟩ := HF
    refine ev_heap eh94 ?_
    have c95 : hK h94 t = 14 := by rw [eh94]; exact c90
    refine ev_aload_n 0 dX12_playEntry_302 rfl ?_
    refine ev_iload_n 2 dX12_playEntry_303 rfl ?_
    show EvG _ _ _ _ _ _ _ _ _ _ _ 304 _ _ _
    refine ev_iload_n 3 dX12_playEntry_304 rfl ?_
    refine ev_iload 5 dX12_playEntry_305 rfl ?_
    refine ev_iconst (v := 2) dX12_playEntry_307 (by decide) ?_
    refine ev_irem dX12_playEntry_308 (by decide) ?_
    by_cases c96 : x5 - x5 / 2 * 2 = 0
    · replace HF := ite_T c96 HF
      refine ev_if_neF (tgt := 316) dX12_playEntry_309 (by decide) c96 ?_
      refine ev_iconst (v := 1) dX12_playEntry_312 (by decide) ?_
      refine ev_goto (tgt := 317) dX12_playEntry_313 (by decide) ?_
      refine ev_bipush (v := 6) dX12_playEntry_317 (by decide) ?_
      replace HF := bind_o HF
      obtain ⟨h98, e97, HF⟩ := HF
      refine ev_callV (As := [.int x2, .int x3, .int 1, .int 6]) (R1 := (none, h98)) (lk_X12_leaves (d := 0) (Nat.le_refl _) c95 e97) ce_X12_leaves im_X12_leaves sl_X12_leaves ml_X12_281 cl_X12 c95 dX12_playEntry_319 (by omega) (Nat.le_of_ble_eq_true rfl) rfl rfl ?_
      show EvG _ _ _ _ _ _ _ _ _ _ _ 322 [(0, .ref t), (1, .int x1), (2, .int x2), (3, .int x3), (4, .int x4), (5, .int x5)] [] h98
      refine ev_goto (tgt := 421) dX12_playEntry_322 (by decide) ?_
      exact Ev.sub [0, 1, 2, 3, 4] rfl (lk_X12_playEntry_421 hdd  t x1 x2 x3 x4 _ HF)
    · replace HF := ite_F c96 HF
      refine ev_if_neT (tgt := 316) dX12_playEntry_309 (by decide) c96 ?_
      refine ev_iconst (v := 0) dX12_playEntry_316 (by decide) ?_
      refine ev_bipush (v := 6) dX12_playEntry_317 (by decide) ?_
      replace HF := bind_o HF
      obtain ⟨h101, e100, HF⟩ := HF
      refine ev_callV (As := [.int x2, .int x3, .int 0, .int 6]) (R1 := (none, h101)) (lk_X12_leaves (d := 0) (Nat.le_refl _) c95 e100) ce_X12_leaves im_X12_leaves sl_X12_leaves ml_X12_281 cl_X12 c95 dX12_playEntry_319 (by omega) (Nat.le_of_ble_eq_true rfl) rfl rfl ?_
      show EvG _ _ _ _ _ _ _ _ _ _ _ 322 [(0, .ref t), (1, .int x1), (2, .int x2), (3, .int x3), (4, .int x4), (5, .int x5)] [] h101
      refine ev_goto (tgt := 421) dX12_playEntry_322 (by decide) ?_
      exact Ev.sub [0, 1, 2, 3, 4] rfl (lk_X12_playEntry_421 hdd  t x1 x2 x3 x4 _ HF)
  replace HF := ite_F c81 HF
  by_cases c103 : x4 = 6
  · replace HF := ite_T c103 HF
    refine ev_swT (kk := 6) (tgt := 325) dX12_playEntry_40 c103 (by decide +kernel) (by decide +kernel) ?_
    refine ev_aload_n 0 dX12_playEntry_325 rfl ?_
    replace HF := bind_ck HF
    obtain ⟨c104, HF⟩ := HF
    replace HF := bind_o HF
    obtain ⟨b105, e106, HF⟩ := HF
    refine ev_gS (f := 1348) cl_X12 (k := 48) (by decide) fi_X12_48 rfl fl_X12_111 dX12_playEntry_326 c104 e106 ?_
    refine ev_iload_n 2 dX12_playEntry_329 rfl ?_
    refine ev_dup2 dX12_playEntry_330 rfl rfl ?_
    replace HF := bind_ck HF
    obtain ⟨c107, HF⟩ := HF
    refine ev_iald dX12_playEntry_331 c107.1 c107.2 ?_
    refine ev_iload 5 dX12_playEntry_332 rfl ?_
    refine ev_iadd dX12_playEntry_334 ?_
    show EvG _ _ _ _ _ _ _ _ _ _ _ 335 _ _ _
    refine ev_iast dX12_playEntry_335 c107.1 c107.2 ?_
    replace HF := bd_n HF
    obtain ⟨h108, eh108, HF⟩ := HF
    refine ev_heap eh108 ?_
    have c109 : hK h108 t = 14 := by rw [eh108]; exact c104
    refine ev_aload_n 0 dX12_playEntry_336 rfl ?_
    replace HF := bind_o HF
    obtain ⟨b110, e111, HF⟩ := HF
    refine ev_gS (f := 1339) cl_X12 (k := 39) (by decide) fi_X12_39 rfl fl_X12_84 dX12_playEntry_337 c109 e111 ?_
    refine ev_iload_n 2 dX12_playEntry_340 rfl ?_
    refine ev_dup2 dX12_playEntry_341 rfl rfl ?_
    replace HF := bind_ck HF
    obtain ⟨c112, HF⟩ := HF
    refine ev_iald dX12_playEntry_342 c112.1 c112.2 ?_
    refine ev_iload 5 dX12_playEntry_343 rfl ?_
    refine ev_iadd dX12_playEntry_345 ?_
    show EvG _ _ _ _ _ _ _ _ _ _ _ 346 _ _ _
    refine ev_iast dX12_playEntry_346 c112.1 c112.2 ?_
    replace HF := bd_n HF
    obtain ⟨h113, eh113, HF⟩ := HF
    refine ev_heap eh113 ?_
    have c114 : hK h113 t = 14 := by rw [eh113]; exact c109
    refine ev_aload_n 0 dX12_playEntry_347 rfl ?_
    refine ev_iload_n 2 dX12_playEntry_348 rfl ?_
    refine ev_iload_n 3 dX12_playEntry_349 rfl ?_
    refine ev_iload 5 dX12_playEntry_350 rfl ?_
    replace HF := bind_o HF
    obtain ⟨h116, e115, HF⟩ := HF
    refine ev_callV (As := [.int x2, .int x3, .int x5]) (R1 := (none, h116)) (lk_X12_adds (d := 0) (Nat.le_refl _) c114 e115) ce_X12_adds im_X12_adds sl_X12_adds ml_X12_272 cl_X12 c114 dX12_playEntry_352 (by omega) (Nat.le_of_ble_eq_true rfl) rfl rfl ?_
    show EvG _ _ _ _ _ _ _ _ _ _ _ 355 [(0, .ref t), (1, .int x1), (2, .int x2), (3, .int x3), (4, .int x4), (5, .int x5)] [] h116
    refine ev_aload_n 0 dX12_playEntry_355 rfl ?_
    refine ev_iload_n 2 dX12_playEntry_356 rfl ?_
    show EvG _ _ _ _ _ _ _ _ _ _ _ 357 _ _ _
    refine ev_iload 5 dX12_playEntry_357 rfl ?_
    replace HF := bind_ck HF
    obtain ⟨c118, HF⟩ := HF
    replace HF := bind_o HF
    obtain ⟨h120, e119, HF⟩ := HF
    refine ev_callV (As := [.int x2, .int x5]) (R1 := (none, h120)) (lk_X12_crosses (d := 1) (Nat.le_refl _) c118 e119) ce_X12_crosses im_X12_crosses sl_X12_crosses ml_X12_278 cl_X12 c118 dX12_playEntry_359 (by omega) (Nat.le_of_ble_eq_true rfl) rfl rfl ?_
    show EvG _ _ _ _ _ _ _ _ _ _ _ 362 [(0, .ref t), (1, .int x1), (2, .int x2), (3, .int x3), (4, .int x4), (5, .int x5)] [] h120
    refine ev_goto (tgt := 421) dX12_playEntry_362 (by decide) ?_
    exact Ev.sub [0, 1, 2, 3, 4] rfl (lk_X12_playEntry_421 hdd  t x1 x2 x3 x4 _ HF)
  replace HF := ite_F c103 HF
  by_cases c122 : x4 = 8
  · replace HF := ite_T c122 HF
    refine ev_swT (kk := 8) (tgt := 365) dX12_playEntry_40 c122 (by decide +kernel) (by decide +kernel) ?_
    refine ev_aload_n 0 dX12_playEntry_365 rfl ?_
    refine ev_iload_n 2 dX12_playEntry_366 rfl ?_
    replace HF := bind_ck HF
    obtain ⟨c123, HF⟩ := HF
    replace HF := bind_o HF
    obtain ⟨⟨z126, h125⟩, e124, HF⟩ := HF
    replace HF := bd_o (bd_o HF)
    dsimp only at HF
    refine ev_callV (As := [.int x2]) (R1 := (some (.int z126), h125)) (lk_X12_left (d := 0) (Nat.le_refl _) c123 e124) ce_X12_left im_X12_left sl_X12_left ml_X12_285 cl_X12 c123 dX12_playEntry_367 (by omega) (Nat.le_of_ble_eq_true rfl) rfl rfl ?_
    show EvG _ _ _ _ _ _ _ _ _ _ _ 370 [(0, .ref t), (1, .int x1), (2, .int x2), (3, .int x3), (4, .int x4), (5, .int x5)] [.int z126] h125
    refine ev_aload_n 0 dX12_playEntry_370 rfl ?_
    replace HF := bind_ck HF
    obtain ⟨c128, HF⟩ := HF
    replace HF := bind_o HF
    obtain ⟨b129, e130, HF⟩ := HF
    refine ev_gS (f := 1336) cl_X12 (k := 36) (by decide) fi_X12_36 rfl fl_X12_75 dX12_playEntry_371 c128 e130 ?_
    refine ev_iload_n 2 dX12_playEntry_374 rfl ?_
    replace HF := bind_ck HF
    obtain ⟨c131, HF⟩ := HF
    refine ev_iald dX12_playEntry_375 c131.1 c131.2 ?_
    show EvG _ _ _ _ _ _ _ _ _ _ _ 376 _ _ _
    replace HF := bind_o HF
    obtain ⟨⟨z134, h133⟩, e132, HF⟩ := HF
    replace HF := bd_o (bd_o HF)
    dsimp only at HF
    refine ev_callS (As := [.int z126, .int (hI h125 b129 x2.toNatClampNeg)]) (R1 := (some (.int z134), h133)) (lk_X12_table (d := 0) (Nat.le_refl _) e132) ce_X12_table st_X12_table ml_X12_236 dX12_playEntry_376 (by omega) (Nat.le_of_ble_eq_true rfl) rfl rfl ?_
    show EvG _ _ _ _ _ _ _ _ _ _ _ 379 [(0, .ref t), (1, .int x1), (2, .int x2), (3, .int x3), (4, .int x4), (5, .int x5)] [.int z134] h133
    refine ev_istore (lv' := [(7, .int z134), (0, .ref t), (1, .int x1), (2, .int x2), (3, .int x3), (4, .int x4), (5, .int x5)]) dX12_playEntry_379 (by decide) (rfl) ?_
    refine ev_aload_n 1 dX12_playEntry_381 rfl ?_
    replace HF := bind_ck HF
    obtain ⟨c136, HF⟩ := HF
    replace HF := bind_o HF
    obtain ⟨b137, e138, HF⟩ := HF
    refine ev_gS (f := 1340) cl_X12 (k := 40) (by decide) fi_X12_40 rfl fl_X12_87 dX12_playEntry_382 c136 e138 ?_
    refine ev_iload_n 3 dX12_playEntry_385 rfl ?_
    refine ev_dup2 dX12_playEntry_386 rfl rfl ?_
    replace HF := bind_ck HF
    obtain ⟨c139, HF⟩ := HF
    refine ev_iald dX12_playEntry_387 c139.1 c139.2 ?_
    refine ev_iload 6 dX12_playEntry_388 rfl ?_
    show EvG _ _ _ _ _ _ _ _ _ _ _ 390 _ _ _
    refine ev_isub dX12_playEntry_390 ?_
    refine ev_iast dX12_playEntry_391 c139.1 c139.2 ?_
    replace HF := bd_n HF
    obtain ⟨h140, eh140, HF⟩ := HF
    refine ev_heap eh140 ?_
    have c141 : hK h140 t = 14 := by rw [eh140]; exact c136
    refine ev_aload_n 1 dX12_playEntry_392 rfl ?_
    replace HF := bind_o HF
    obtain ⟨b142, e143, HF⟩ := HF
    refine ev_gS (f := 1343) cl_X12 (k := 43) (by decide) fi_X12_43 rfl fl_X12_96 dX12_playEntry_393 c141 e143 ?_
    refine ev_iload_n 3 dX12_playEntry_396 rfl ?_
    refine ev_dup2 dX12_playEntry_397 rfl rfl ?_
    replace HF := bind_ck HF
    obtain ⟨c144, HF⟩ := HF
    refine ev_iald dX12_playEntry_398 c144.1 c144.2 ?_
    refine ev_iload 0 dX12_playEntry_399 rfl ?_
    show EvG _ _ _ _ _ _ _ _ _ _ _ 401 _ _ _
    refine ev_aload_n 1 dX12_playEntry_401 rfl ?_
    refine ev_iload_n 3 dX12_playEntry_402 rfl ?_
    replace HF := bind_o HF
    obtain ⟨⟨z147, h146⟩, e145, HF⟩ := HF
    replace HF := bd_o (bd_o HF)
    dsimp only at HF
    refine ev_callV (As := [.int x2]) (R1 := (some (.int z147), h146)) (lk_X12_left (d := 0) (Nat.le_refl _) c141 e145) ce_X12_left im_X12_left sl_X12_left ml_X12_285 cl_X12 c141 dX12_playEntry_403 (by omega) (Nat.le_of_ble_eq_true rfl) rfl rfl ?_
    show EvG _ _ _ _ _ _ _ _ _ _ _ 406 [(7, .int z134), (0, .ref t), (1, .int x1), (2, .int x2), (3, .int x3), (4, .int x4), (5, .int x5)] [.int z147, .int z134, .int (hI h140 b142 x2.toNatClampNeg), .int x2, .ref b142] h146
    refine ev_aload_n 1 dX12_playEntry_406 rfl ?_
    replace HF := bind_ck HF
    obtain ⟨c149, HF⟩ := HF
    replace HF := bind_o HF
    obtain ⟨b150, e151, HF⟩ := HF
    refine ev_gS (f := 1336) cl_X12 (k := 36) (by decide) fi_X12_36 rfl fl_X12_75 dX12_playEntry_407 c149 e151 ?_
    refine ev_iload_n 3 dX12_playEntry_410 rfl ?_
    replace HF := bind_ck HF
    obtain ⟨c152, HF⟩ := HF
    refine ev_iald dX12_playEntry_411 c152.1 c152.2 ?_
    replace HF := bind_o HF
    obtain ⟨⟨z155, h154⟩, e153, HF⟩ := HF
    replace HF := bd_o (bd_o HF)
    dsimp only at HF
    refine ev_callS (As := [.int z147, .int (hI h146 b150 x2.toNatClampNeg)]) (R1 := (some (.int z155), h154)) (lk_X12_table (d := 0) (Nat.le_refl _) e153) ce_X12_table st_X12_table ml_X12_236 dX12_playEntry_412 (by omega) (Nat.le_of_ble_eq_true rfl) rfl rfl ?_
    show EvG _ _ _ _ _ _ _ _ _ _ _ 415 [(7, .int z134), (0, .ref t), (1, .int x1), (2, .int x2), (3, .int x3), (4, .int x4), (5, .int x5)] [.int z155, .int z134, .int (hI h140 b142 x2.toNatClampNeg), .int x2, .ref b142] h154
    show EvG _ _ _ _ _ _ _ _ _ _ _ 415 _ _ _
    refine ev_isub dX12_playEntry_415 ?_
    refine ev_isub dX12_playEntry_416 ?_
    replace HF := bind_ck HF
    obtain ⟨c157, HF⟩ := HF
    refine ev_iast dX12_playEntry_417 c157.1 c157.2 ?_
    replace HF := bd_n HF
    obtain ⟨h158, eh158, HF⟩ := HF
    refine ev_heap eh158 ?_
    refine ev_goto (tgt := 421) dX12_playEntry_418 (by decide) ?_
    exact Ev.sub [1, 2, 3, 4, 5] rfl (lk_X12_playEntry_421 hdd  t x1 x2 x3 x4 _ HF)
  replace HF := ite_F c122 HF
  refine ev_swTd (ks := [0, 1, 2, 3, 4, 6, 8]) (tgt := 421) dX12_playEntry_40 (by simp only [List.mem_cons, List.not_mem_nil, or_false, forall_eq_or_imp, forall_eq]; exact ⟨c1, c10, c37, c63, c81, c103, c122⟩) (by decide +kernel) (by decide) ?_
  exact Ev.sub [0, 1, 2, 3, 4] rfl (lk_X12_playEntry_421 hdd  t x1 x2 x3 x4 _ HF)

set_option maxRecDepth 20000 in
theorem lk_X12_playEntry_27 {g : aG} {l : Launch} {d : Nat} {h0 : aH} (hdd : 2 ≤ d) {r : aH} (t : Nat) (x1 : Int32) (x2 : Int32) (x3 : Int32) (x4 : Int32) (x5 : Int32) (x6 : Int32) (h : aH) (HF : F_X12_playEntry_27  t x1 x2 x3 x4 x5 x6 h = some r) : Ev g l cX12_playEntry 8 yX12_playEntry (none) d h0 (none, r) 27 [(0, .ref t), (1, .int x1), (2, .int x2), (3, .int x3), (4, .int x4), (5, .int x5), (6, .int x6)] [] h := by
  unfold F_X12_playEntry_27 at HF
  refine ev_aload_n 0 dX12_playEntry_27 rfl ?_
  replace HF := bind_ck HF
  obtain ⟨c1, HF⟩ := HF
  replace HF := bind_o HF
  obtain ⟨b2, e3, HF⟩ := HF
  refine ev_gS (f := 1354) cl_X12 (k := 54) (by decide) fi_X12_54 rfl fl_X12_130 dX12_playEntry_28 c1 e3 ?_
  refine ev_iload 6 dX12_playEntry_31 rfl ?_
  refine ev_dup2 dX12_playEntry_33 rfl rfl ?_
  replace HF := bind_ck HF
  obtain ⟨c4, HF⟩ := HF
  refine ev_iald dX12_playEntry_34 c4.1 c4.2 ?_
  refine ev_iconst (v := 1) dX12_playEntry_35 (by decide) ?_
  refine ev_iadd dX12_playEntry_36 ?_
  show EvG _ _ _ _ _ _ _ _ _ _ _ 37 _ _ _
  refine ev_iast dX12_playEntry_37 c4.1 c4.2 ?_
  replace HF := bd_n HF
  obtain ⟨h5, eh5, HF⟩ := HF
  refine ev_heap eh5 ?_
  have c6 : hK h5 t = 14 := by rw [eh5]; exact c1
  exact Ev.sub [0, 1, 2, 3, 4, 5] rfl (lk_X12_playEntry_38 hdd  t x1 x2 x3 x4 x5 _ HF)

set_option maxRecDepth 20000 in
theorem lk_X12_playEntry {g : aG} {l : Launch} {d : Nat} (hdd : 2 ≤ d) {t : Nat} {x1 : Int32} {x2 : Int32} {x3 : Int32} {x4 : Int32} {x5 : Int32} {h : aH} {r : aH} (hT : hK h t = 14) (HF : F_X12_playEntry t x1 x2 x3 x4 x5 h = some r) : MA g l yX12_playEntry cX12_playEntry 8 (none) d [.ref t, .int x1, .int x2, .int x3, .int x4, .int x5] h (none, r) := by
  refine MA.of (lv0 := [(0, .ref t), (1, .int x1), (2, .int x2), (3, .int x3), (4, .int x4), (5, .int x5)]) (by decide +kernel) (rfl) (Nat.le_of_ble_eq_true rfl) ?_
  unfold F_X12_playEntry at HF
  refine ev_bipush (v := 11) dX12_playEntry_0 (by decide) ?_
  refine ev_iload_n 2 dX12_playEntry_2 rfl ?_
  refine ev_imul dX12_playEntry_3 ?_
  refine ev_aload_n 0 dX12_playEntry_4 rfl ?_
  replace HF := bind_o HF
  obtain ⟨b1, e2, HF⟩ := HF
  refine ev_gS (f := 1345) cl_X12 (k := 45) (by decide) fi_X12_45 rfl fl_X12_102 dX12_playEntry_5 hT e2 ?_
  refine ev_iload_n 2 dX12_playEntry_8 rfl ?_
  replace HF := bind_ck HF
  obtain ⟨c3, HF⟩ := HF
  refine ev_iald dX12_playEntry_9 c3.1 c3.2 ?_
  show EvG _ _ _ _ _ _ _ _ _ _ _ 10 _ _ _
  refine ev_iadd dX12_playEntry_10 ?_
  replace HF := bd_n HF
  obtain ⟨v4, ev4, HF⟩ := HF
  refine ev_topI ev4 ?_
  refine ev_istore (lv' := [(6, .int v4), (0, .ref t), (1, .int x1), (2, .int x2), (3, .int x3), (4, .int x4), (5, .int x5)]) dX12_playEntry_11 (by decide) (rfl) ?_
  refine ev_iload 5 dX12_playEntry_13 rfl ?_
  replace HF := bind_o HF
  obtain ⟨⟨z7, h6⟩, e5, HF⟩ := HF
  replace HF := bd_o (bd_o HF)
  dsimp only at HF
  refine ev_callS (As := [.int x4]) (R1 := (some (.int z7), h6)) (lk_X12_counts (d := 0) (Nat.le_refl _) e5) ce_X12_counts st_X12_counts ml_X12_269 dX12_playEntry_15 (by omega) (Nat.le_of_ble_eq_true rfl) rfl rfl ?_
  show EvG _ _ _ _ _ _ _ _ _ _ _ 18 [(6, .int v4), (0, .ref t), (1, .int x1), (2, .int x2), (3, .int x3), (4, .int x4), (5, .int x5)] [.int z7] h6
  by_cases c9 : z7 = 0
  · replace HF := ite_T c9 HF
    refine ev_if_neF (tgt := 27) dX12_playEntry_18 (by decide) c9 ?_
    refine ev_iload 5 dX12_playEntry_21 rfl ?_
    refine ev_iconst (v := 2) dX12_playEntry_23 (by decide) ?_
    by_cases c10 : x4 = 2
    · replace HF := ite_T c10 HF
      refine ev_icmp_neF (tgt := 38) dX12_playEntry_24 (by decide) c10 ?_
      exact Ev.sub [1, 2, 3, 4, 5, 6, 0] rfl (lk_X12_playEntry_27 hdd  t x1 x2 x3 x4 x5 v4 _ HF)
    · replace HF := ite_F c10 HF
      refine ev_icmp_neT (tgt := 38) dX12_playEntry_24 (by decide) c10 ?_
      exact Ev.sub [1, 2, 3, 4, 5, 6] rfl (lk_X12_playEntry_38 hdd  t x1 x2 x3 x4 x5 _ HF)
  · replace HF := ite_F c9 HF
    refine ev_if_neT (tgt := 27) dX12_playEntry_18 (by decide) c9 ?_
    exact Ev.sub [1, 2, 3, 4, 5, 6, 0] rfl (lk_X12_playEntry_27 hdd  t x1 x2 x3 x4 x5 v4 _ HF)

set_option maxRecDepth 20000 in
theorem lk_X12_playOver_374 {g : aG} {l : Launch} {d : Nat} {h0 : aH} (hdd : 3 ≤ d) {r : aH} (k284 : Nat → Int32 → Int32 → Int32 → Int32 → Int32 → aH → Option (aH)) (hk284 : ∀ (t : Nat) (x1 : Int32) (x2 : Int32) (x3 : Int32) (x4 : Int32) (x7 : Int32) (h : aH), k284 t x1 x2 x3 x4 x7 h = some r → Ev g l cX12_playOver 10 yX12_playOver (none) d h0 (none, r) 284 [(0, .ref t), (1, .int x1), (2, .int x2), (3, .int x3), (4, .int x4), (7, .int x7)] [] h) (t : Nat) (x1 : Int32) (x2 : Int32) (x3 : Int32) (x4 : Int32) (x7 : Int32) (h : aH) (HF : F_X12_playOver_374 k284 t x1 x2 x3 x4 x7 h = some r) : Ev g l cX12_playOver 10 yX12_playOver (none) d h0 (none, r) 374 [(0, .ref t), (1, .int x1), (2, .int x2), (3, .int x3), (4, .int x4), (7, .int x7)] [] h := by
  unfold F_X12_playOver_374 at HF
  replace HF := bd_n HF
  obtain ⟨v1, ev1, HF⟩ := HF
  refine ev_iinc (v := v1) (lv' := [(7, .int v1), (0, .ref t), (1, .int x1), (2, .int x2), (3, .int x3), (4, .int x4)]) 5 dX12_playOver_374 rfl (by rw [ev1]; rfl) (by decide) (rfl) ?_
  refine ev_goto (tgt := 284) dX12_playOver_377 (by decide) ?_
  exact Ev.sub [1, 2, 3, 4, 5, 0] rfl (hk284 t x1 x2 x3 x4 v1 _ HF)

set_option maxRecDepth 20000 in
theorem lk_X12_playOver_284 {g : aG} {l : Launch} {d : Nat} {h0 : aH} (hdd : 3 ≤ d) {r : aH} : ∀ (n : Nat) (t : Nat) (x1 : Int32) (x2 : Int32) (x3 : Int32) (x4 : Int32) (x7 : Int32) (h : aH), F_X12_playOver_284  n t x1 x2 x3 x4 x7 h = some r → Ev g l cX12_playOver 10 yX12_playOver (none) d h0 (none, r) 284 [(0, .ref t), (1, .int x1), (2, .int x2), (3, .int x3), (4, .int x4), (7, .int x7)] [] h := by
  intro n
  induction n with
  | zero => intro t x1 x2 x3 x4 x7 h HF; cases HF
  | succ n ih =>
  intro t x1 x2 x3 x4 x7 h HF
  unfold F_X12_playOver_284 at HF
  refine ev_iload 5 dX12_playOver_284 rfl ?_
  refine ev_aload_n 0 dX12_playOver_286 rfl ?_
  replace HF := bind_ck HF
  obtain ⟨c1, HF⟩ := HF
  replace HF := bind_o HF
  obtain ⟨b2, e3, HF⟩ := HF
  refine ev_gS (f := 1313) cl_X12 (k := 13) (by decide) fi_X12_13 rfl fl_X12_38 dX12_playOver_287 c1 e3 ?_
  refine ev_iload 4 dX12_playOver_290 rfl ?_
  replace HF := bind_ck HF
  obtain ⟨c4, HF⟩ := HF
  refine ev_iald dX12_playOver_292 c4.1 c4.2 ?_
  by_cases c5 : hI h b2 x4.toNatClampNeg ≤ x7
  · replace HF := ite_T c5 HF
    refine ev_icmp_geT (tgt := 380) dX12_playOver_293 (by decide) c5 ?_
    obtain rfl := Option.some.inj HF
    exact ev_vret dX12_playOver_380
  · replace HF := ite_F c5 HF
    refine ev_icmp_geF (tgt := 380) dX12_playOver_293 (by decide) c5 ?_
    refine ev_aload_n 0 dX12_playOver_296 rfl ?_
    refine ev_gI (f := 1328) cl_X12 (k := 28) (by decide) fi_X12_28 rfl fl_X12_200 dX12_playOver_297 c1 ?_
    by_cases c6 : hF h 1328 t = 0
    · replace HF := ite_T c6 HF
      refine ev_if_neF (tgt := 380) dX12_playOver_300 (by decide) c6 ?_
      refine ev_aload_n 0 dX12_playOver_303 rfl ?_
      replace HF := bind_o HF
      obtain ⟨b7, e8, HF⟩ := HF
      refine ev_gS (f := 1314) cl_X12 (k := 14) (by decide) fi_X12_14 rfl fl_X12_42 dX12_playOver_304 c1 e8 ?_
      refine ev_bipush (v := 40) dX12_playOver_307 (by decide) ?_
      refine ev_iload 4 dX12_playOver_309 rfl ?_
      refine ev_imul dX12_playOver_311 ?_
      refine ev_iload 5 dX12_playOver_312 rfl ?_
      refine ev_iadd dX12_playOver_314 ?_
      show EvG _ _ _ _ _ _ _ _ _ _ _ 315 _ _ _
      replace HF := bind_ck HF
      obtain ⟨c9, HF⟩ := HF
      refine ev_iald dX12_playOver_315 c9.1 c9.2 ?_
      replace HF := bd_n HF
      obtain ⟨v10, ev10, HF⟩ := HF
      refine ev_topI ev10 ?_
      refine ev_istore (lv' := [(8, .int v10), (0, .ref t), (1, .int x1), (2, .int x2), (3, .int x3), (4, .int x4), (7, .int x7)]) dX12_playOver_316 (by decide) (rfl) ?_
      refine ev_aload_n 1 dX12_playOver_318 rfl ?_
      refine ev_iload_n 2 dX12_playOver_319 rfl ?_
      refine ev_iload_n 3 dX12_playOver_320 rfl ?_
      refine ev_iload 5 dX12_playOver_321 rfl ?_
      refine ev_iload 0 dX12_playOver_323 rfl ?_
      refine ev_bipush (v := 16) dX12_playOver_325 (by decide) ?_
      show EvG _ _ _ _ _ _ _ _ _ _ _ 327 _ _ _
      refine ev_idiv dX12_playOver_327 (by decide) ?_
      refine ev_iload 0 dX12_playOver_328 rfl ?_
      refine ev_bipush (v := 16) dX12_playOver_330 (by decide) ?_
      refine ev_irem dX12_playOver_332 (by decide) ?_
      replace HF := bind_o HF
      obtain ⟨⟨z13, h12⟩, e11, HF⟩ := HF
      replace HF := bd_o (bd_o HF)
      dsimp only at HF
      refine ev_callV (As := [.int x1, .int x2, .int x4, .int (v10 / 16), .int (v10 - v10 / 16 * 16)]) (R1 := (some (.int z13), h12)) (lk_X12_against (d := 1) (Nat.le_refl _) c1 e11) ce_X12_against im_X12_against sl_X12_against ml_X12_257 cl_X12 c1 dX12_playOver_333 (by omega) (Nat.le_of_ble_eq_true rfl) rfl rfl ?_
      show EvG _ _ _ _ _ _ _ _ _ _ _ 336 [(8, .int v10), (0, .ref t), (1, .int x1), (2, .int x2), (3, .int x3), (4, .int x4), (7, .int x7)] [.int z13] h12
      refine ev_istore (lv' := [(9, .int z13), (8, .int v10), (0, .ref t), (1, .int x1), (2, .int x2), (3, .int x3), (4, .int x4), (7, .int x7)]) dX12_playOver_336 (by decide) (rfl) ?_
      refine ev_iload 0 dX12_playOver_338 rfl ?_
      by_cases c15 : z13 = 0
      · replace HF := ite_T c15 HF
        refine ev_if_eqT (tgt := 356) dX12_playOver_340 (by decide) c15 ?_
        refine ev_aload_n 2 dX12_playOver_356 rfl ?_
        refine ev_iload_n 3 dX12_playOver_357 rfl ?_
        refine ev_iload_n 4 dX12_playOver_358 rfl ?_
        refine ev_iload 6 dX12_playOver_359 rfl ?_
        refine ev_iload 1 dX12_playOver_361 rfl ?_
        refine ev_bipush (v := 16) dX12_playOver_363 (by decide) ?_
        refine ev_idiv dX12_playOver_365 (by decide) ?_
        show EvG _ _ _ _ _ _ _ _ _ _ _ 366 _ _ _
        refine ev_iload 1 dX12_playOver_366 rfl ?_
        refine ev_bipush (v := 16) dX12_playOver_368 (by decide) ?_
        refine ev_irem dX12_playOver_370 (by decide) ?_
        replace HF := bind_ck HF
        obtain ⟨c16, HF⟩ := HF
        replace HF := bind_o HF
        obtain ⟨h18, e17, HF⟩ := HF
        refine ev_callV (As := [.int x1, .int x2, .int x4, .int (v10 / 16), .int (v10 - v10 / 16 * 16)]) (R1 := (none, h18)) (lk_X12_playEntry (d := 2) (Nat.le_refl _) c16 e17) ce_X12_playEntry im_X12_playEntry sl_X12_playEntry ml_X12_261 cl_X12 c16 dX12_playOver_371 (by omega) (Nat.le_of_ble_eq_true rfl) rfl rfl ?_
        show EvG _ _ _ _ _ _ _ _ _ _ _ 374 [(9, .int z13), (8, .int v10), (0, .ref t), (1, .int x1), (2, .int x2), (3, .int x3), (4, .int x4), (7, .int x7)] [] h18
        exact Ev.sub [2, 3, 4, 5, 6, 7] rfl (lk_X12_playOver_374 hdd (F_X12_playOver_284 n) ih t x1 x2 x3 x4 x7 _ HF)
      · replace HF := ite_F c15 HF
        refine ev_if_eqF (tgt := 356) dX12_playOver_340 (by decide) c15 ?_
        refine ev_aload_n 2 dX12_playOver_343 rfl ?_
        refine ev_iload 0 dX12_playOver_344 rfl ?_
        refine ev_iload_n 4 dX12_playOver_346 rfl ?_
        refine ev_iload_n 5 dX12_playOver_347 rfl ?_
        refine ev_iload 7 dX12_playOver_348 rfl ?_
        replace HF := bind_ck HF
        obtain ⟨c20, HF⟩ := HF
        replace HF := bind_o HF
        obtain ⟨h22, e21, HF⟩ := HF
        refine ev_callV (As := [.int z13, .int x2, .int x3, .int x7]) (R1 := (none, h22)) (lk_X12_stop (d := 0) (Nat.le_refl _) c20 e21) ce_X12_stop im_X12_stop sl_X12_stop ml_X12_212 cl_X12 c20 dX12_playOver_350 (by omega) (Nat.le_of_ble_eq_true rfl) rfl rfl ?_
        show EvG _ _ _ _ _ _ _ _ _ _ _ 353 [(9, .int z13), (8, .int v10), (0, .ref t), (1, .int x1), (2, .int x2), (3, .int x3), (4, .int x4), (7, .int x7)] [] h22
        refine ev_goto (tgt := 374) dX12_playOver_353 (by decide) ?_
        exact Ev.sub [2, 3, 4, 5, 6, 7] rfl (lk_X12_playOver_374 hdd (F_X12_playOver_284 n) ih t x1 x2 x3 x4 x7 _ HF)
    · replace HF := ite_F c6 HF
      refine ev_if_neT (tgt := 380) dX12_playOver_300 (by decide) c6 ?_
      obtain rfl := Option.some.inj HF
      exact ev_vret dX12_playOver_380

set_option maxRecDepth 20000 in
theorem lk_X12_playOver_180 {g : aG} {l : Launch} {d : Nat} {h0 : aH} (hdd : 3 ≤ d) {r : aH} (t : Nat) (x1 : Int32) (x2 : Int32) (x3 : Int32) (x4 : Int32) (x5 : Int32) (h : aH) (HF : F_X12_playOver_180  t x1 x2 x3 x4 x5 h = some r) : Ev g l cX12_playOver 10 yX12_playOver (none) d h0 (none, r) 180 [(0, .ref t), (1, .int x1), (2, .int x2), (3, .int x3), (4, .int x4), (5, .int x5)] [] h := by
  unfold F_X12_playOver_180 at HF
  refine ev_aload_n 0 dX12_playOver_180 rfl ?_
  replace HF := bind_ck HF
  obtain ⟨c1, HF⟩ := HF
  replace HF := bind_o HF
  obtain ⟨b2, e3, HF⟩ := HF
  refine ev_gS (f := 1344) cl_X12 (k := 44) (by decide) fi_X12_44 rfl fl_X12_99 dX12_playOver_181 c1 e3 ?_
  refine ev_iload_n 2 dX12_playOver_184 rfl ?_
  refine ev_dup2 dX12_playOver_185 rfl rfl ?_
  replace HF := bind_ck HF
  obtain ⟨c4, HF⟩ := HF
  refine ev_iald dX12_playOver_186 c4.1 c4.2 ?_
  refine ev_iconst (v := 1) dX12_playOver_187 (by decide) ?_
  refine ev_iadd dX12_playOver_188 ?_
  show EvG _ _ _ _ _ _ _ _ _ _ _ 189 _ _ _
  refine ev_iast dX12_playOver_189 c4.1 c4.2 ?_
  replace HF := bd_n HF
  obtain ⟨h5, eh5, HF⟩ := HF
  refine ev_heap eh5 ?_
  have c6 : hK h5 t = 14 := by rw [eh5]; exact c1
  refine ev_aload_n 0 dX12_playOver_190 rfl ?_
  replace HF := bind_o HF
  obtain ⟨b7, e8, HF⟩ := HF
  refine ev_gS (f := 1351) cl_X12 (k := 51) (by decide) fi_X12_51 rfl fl_X12_120 dX12_playOver_191 c6 e8 ?_
  refine ev_iload_n 2 dX12_playOver_194 rfl ?_
  refine ev_iload 5 dX12_playOver_195 rfl ?_
  replace HF := bind_ck HF
  obtain ⟨c9, HF⟩ := HF
  refine ev_iast dX12_playOver_197 c9.1 c9.2 ?_
  replace HF := bd_n HF
  obtain ⟨h10, eh10, HF⟩ := HF
  refine ev_heap eh10 ?_
  have c11 : hK h10 t = 14 := by rw [eh10]; exact c6
  refine ev_aload_n 0 dX12_playOver_198 rfl ?_
  replace HF := bind_o HF
  obtain ⟨b12, e13, HF⟩ := HF
  refine ev_gS (f := 1356) cl_X12 (k := 56) (by decide) fi_X12_56 rfl fl_X12_136 dX12_playOver_199 c11 e13 ?_
  show EvG _ _ _ _ _ _ _ _ _ _ _ 202 _ _ _
  refine ev_bipush (v := 11) dX12_playOver_202 (by decide) ?_
  refine ev_iload_n 2 dX12_playOver_204 rfl ?_
  refine ev_imul dX12_playOver_205 ?_
  refine ev_iload 5 dX12_playOver_206 rfl ?_
  refine ev_iadd dX12_playOver_208 ?_
  refine ev_dup2 dX12_playOver_209 rfl rfl ?_
  replace HF := bind_ck HF
  obtain ⟨c14, HF⟩ := HF
  refine ev_iald dX12_playOver_210 c14.1 c14.2 ?_
  refine ev_iconst (v := 1) dX12_playOver_211 (by decide) ?_
  show EvG _ _ _ _ _ _ _ _ _ _ _ 212 _ _ _
  refine ev_iadd dX12_playOver_212 ?_
  refine ev_iast dX12_playOver_213 c14.1 c14.2 ?_
  replace HF := bd_n HF
  obtain ⟨h15, eh15, HF⟩ := HF
  refine ev_heap eh15 ?_
  have c16 : hK h15 t = 14 := by rw [eh15]; exact c11
  refine ev_aload_n 0 dX12_playOver_214 rfl ?_
  replace HF := bind_o HF
  obtain ⟨b17, e18, HF⟩ := HF
  refine ev_gS (f := 1364) cl_X12 (k := 64) (by decide) fi_X12_64 rfl fl_X12_160 dX12_playOver_215 c16 e18 ?_
  refine ev_iload 4 dX12_playOver_218 rfl ?_
  refine ev_iconst (v := 1) dX12_playOver_220 (by decide) ?_
  replace HF := bind_ck HF
  obtain ⟨c19, HF⟩ := HF
  refine ev_bast dX12_playOver_221 c19.1 c19.2 rfl ?_
  replace HF := bd_n HF
  obtain ⟨h20, eh20, HF⟩ := HF
  refine ev_heap eh20 ?_
  have c21 : hK h20 t = 14 := by rw [eh20]; exact c16
  refine ev_aload_n 0 dX12_playOver_222 rfl ?_
  show EvG _ _ _ _ _ _ _ _ _ _ _ 223 _ _ _
  replace HF := bind_o HF
  obtain ⟨b22, e23, HF⟩ := HF
  refine ev_gS (f := 1313) cl_X12 (k := 13) (by decide) fi_X12_13 rfl fl_X12_38 dX12_playOver_223 c21 e23 ?_
  refine ev_iload 4 dX12_playOver_226 rfl ?_
  replace HF := bind_ck HF
  obtain ⟨c24, HF⟩ := HF
  refine ev_iald dX12_playOver_228 c24.1 c24.2 ?_
  refine ev_iconst (v := (-1)) dX12_playOver_229 (by decide) ?_
  by_cases c25 : hI h20 b22 x4.toNatClampNeg = (-1)
  · replace HF := ite_T c25 HF
    refine ev_icmp_neF (tgt := 281) dX12_playOver_230 (by decide) c25 ?_
    refine ev_aload_n 0 dX12_playOver_233 rfl ?_
    replace HF := bind_o HF
    obtain ⟨b26, e27, HF⟩ := HF
    refine ev_gS (f := 1363) cl_X12 (k := 63) (by decide) fi_X12_63 rfl fl_X12_157 dX12_playOver_234 c21 e27 ?_
    refine ev_iload 4 dX12_playOver_237 rfl ?_
    refine ev_iconst (v := 1) dX12_playOver_239 (by decide) ?_
    replace HF := bind_ck HF
    obtain ⟨c28, HF⟩ := HF
    refine ev_bast dX12_playOver_240 c28.1 c28.2 rfl ?_
    replace HF := bd_n HF
    obtain ⟨h29, eh29, HF⟩ := HF
    refine ev_heap eh29 ?_
    have c30 : hK h29 t = 14 := by rw [eh29]; exact c21
    refine ev_aload_n 0 dX12_playOver_241 rfl ?_
    replace HF := bind_o HF
    obtain ⟨b31, e32, HF⟩ := HF
    refine ev_gS (f := 1342) cl_X12 (k := 42) (by decide) fi_X12_42 rfl fl_X12_93 dX12_playOver_242 c30 e32 ?_
    show EvG _ _ _ _ _ _ _ _ _ _ _ 245 _ _ _
    refine ev_iload_n 2 dX12_playOver_245 rfl ?_
    refine ev_dup2 dX12_playOver_246 rfl rfl ?_
    replace HF := bind_ck HF
    obtain ⟨c33, HF⟩ := HF
    refine ev_iald dX12_playOver_247 c33.1 c33.2 ?_
    refine ev_iconst (v := 1) dX12_playOver_248 (by decide) ?_
    refine ev_iadd dX12_playOver_249 ?_
    refine ev_iast dX12_playOver_250 c33.1 c33.2 ?_
    replace HF := bd_n HF
    obtain ⟨h34, eh34, HF⟩ := HF
    refine ev_heap eh34 ?_
    have c35 : hK h34 t = 14 := by rw [eh34]; exact c30
    refine ev_aload_n 0 dX12_playOver_251 rfl ?_
    refine ev_iload_n 2 dX12_playOver_252 rfl ?_
    show EvG _ _ _ _ _ _ _ _ _ _ _ 253 _ _ _
    refine ev_iload 4 dX12_playOver_253 rfl ?_
    replace HF := bind_o HF
    obtain ⟨h37, e36, HF⟩ := HF
    refine ev_callV (As := [.int x2, .int x4]) (R1 := (none, h37)) (lk_X12_becomesWhole (d := 1) (Nat.le_refl _) c35 e36) ce_X12_becomesWhole im_X12_becomesWhole sl_X12_becomesWhole ml_X12_254 cl_X12 c35 dX12_playOver_255 (by omega) (Nat.le_of_ble_eq_true rfl) rfl rfl ?_
    show EvG _ _ _ _ _ _ _ _ _ _ _ 258 [(0, .ref t), (1, .int x1), (2, .int x2), (3, .int x3), (4, .int x4), (5, .int x5)] [] h37
    refine ev_aload_n 0 dX12_playOver_258 rfl ?_
    replace HF := bind_ck HF
    obtain ⟨c39, HF⟩ := HF
    replace HF := bind_o HF
    obtain ⟨b40, e41, HF⟩ := HF
    refine ev_gS (f := 1337) cl_X12 (k := 37) (by decide) fi_X12_37 rfl fl_X12_78 dX12_playOver_259 c39 e41 ?_
    refine ev_iload_n 2 dX12_playOver_262 rfl ?_
    replace HF := bind_ck HF
    obtain ⟨c42, HF⟩ := HF
    refine ev_iald dX12_playOver_263 c42.1 c42.2 ?_
    refine ev_aload_n 0 dX12_playOver_264 rfl ?_
    replace HF := bind_o HF
    obtain ⟨b43, e44, HF⟩ := HF
    refine ev_gS (f := 1340) cl_X12 (k := 40) (by decide) fi_X12_40 rfl fl_X12_87 dX12_playOver_265 c39 e44 ?_
    show EvG _ _ _ _ _ _ _ _ _ _ _ 268 _ _ _
    refine ev_iload_n 2 dX12_playOver_268 rfl ?_
    replace HF := bind_ck HF
    obtain ⟨c45, HF⟩ := HF
    refine ev_iald dX12_playOver_269 c45.1 c45.2 ?_
    by_cases c46 : hI h37 b40 x2.toNatClampNeg = hI h37 b43 x2.toNatClampNeg
    · replace HF := ite_T c46 HF
      refine ev_icmp_neF (tgt := 280) dX12_playOver_270 (by decide) c46 ?_
      refine ev_aload_n 0 dX12_playOver_273 rfl ?_
      replace HF := bind_o HF
      obtain ⟨b47, e48, HF⟩ := HF
      refine ev_gS (f := 1341) cl_X12 (k := 41) (by decide) fi_X12_41 rfl fl_X12_90 dX12_playOver_274 c39 e48 ?_
      refine ev_iload_n 2 dX12_playOver_277 rfl ?_
      refine ev_iconst (v := 2) dX12_playOver_278 (by decide) ?_
      replace HF := bind_ck HF
      obtain ⟨c49, HF⟩ := HF
      refine ev_iast dX12_playOver_279 c49.1 c49.2 ?_
      replace HF := bd_n HF
      obtain ⟨h50, eh50, HF⟩ := HF
      refine ev_heap eh50 ?_
      have c51 : hK h50 t = 14 := by rw [eh50]; exact c39
      obtain rfl := Option.some.inj HF
      exact ev_vret dX12_playOver_280
    · replace HF := ite_F c46 HF
      refine ev_icmp_neT (tgt := 280) dX12_playOver_270 (by decide) c46 ?_
      obtain rfl := Option.some.inj HF
      exact ev_vret dX12_playOver_280
  · replace HF := ite_F c25 HF
    refine ev_icmp_neT (tgt := 281) dX12_playOver_230 (by decide) c25 ?_
    refine ev_iconst (v := 0) dX12_playOver_281 (by decide) ?_
    refine ev_istore (lv' := [(7, .int 0), (0, .ref t), (1, .int x1), (2, .int x2), (3, .int x3), (4, .int x4), (5, .int x5)]) dX12_playOver_282 (by decide) (rfl) ?_
    exact Ev.sub [1, 2, 3, 4, 5, 0] rfl (lk_X12_playOver_284 hdd  fu t x1 x2 x3 x4 0 _ HF)

set_option maxRecDepth 20000 in
theorem lk_X12_playOver_103 {g : aG} {l : Launch} {d : Nat} {h0 : aH} (hdd : 3 ≤ d) {r : aH} (t : Nat) (x1 : Int32) (x2 : Int32) (x3 : Int32) (x4 : Int32) (x5 : Int32) (y0 : Int32) (h : aH) (HF : F_X12_playOver_103  t x1 x2 x3 x4 x5 y0 h = some r) : Ev g l cX12_playOver 10 yX12_playOver (none) d h0 (none, r) 103 [(0, .ref t), (1, .int x1), (2, .int x2), (3, .int x3), (4, .int x4), (5, .int x5)] [.int y0] h := by
  unfold F_X12_playOver_103 at HF
  refine ev_istore (lv' := [(6, .int y0), (0, .ref t), (1, .int x1), (2, .int x2), (3, .int x3), (4, .int x4), (5, .int x5)]) dX12_playOver_103 (by decide) (rfl) ?_
  refine ev_iload 0 dX12_playOver_105 rfl ?_
  by_cases c1 : y0 = 0
  · replace HF := ite_T c1 HF
    refine ev_if_eqT (tgt := 120) dX12_playOver_107 (by decide) c1 ?_
    refine ev_iload_n 4 dX12_playOver_120 rfl ?_
    by_cases c2 : x3 ≤ 0
    · replace HF := ite_T c2 HF
      refine ev_if_leT (tgt := 180) dX12_playOver_121 (by decide) c2 ?_
      exact Ev.sub [1, 2, 3, 4, 5, 6] rfl (lk_X12_playOver_180 hdd  t x1 x2 x3 x4 x5 _ HF)
    · replace HF := ite_F c2 HF
      refine ev_if_leF (tgt := 180) dX12_playOver_121 (by decide) c2 ?_
      refine ev_aload_n 1 dX12_playOver_124 rfl ?_
      replace HF := bind_ck HF
      obtain ⟨c3, HF⟩ := HF
      replace HF := bind_o HF
      obtain ⟨b4, e5, HF⟩ := HF
      refine ev_gS (f := 1362) cl_X12 (k := 62) (by decide) fi_X12_62 rfl fl_X12_154 dX12_playOver_125 c3 e5 ?_
      refine ev_aload_n 1 dX12_playOver_128 rfl ?_
      refine ev_iload_n 2 dX12_playOver_129 rfl ?_
      refine ev_iload_n 3 dX12_playOver_130 rfl ?_
      refine ev_iload_n 4 dX12_playOver_131 rfl ?_
      refine ev_iconst (v := 1) dX12_playOver_132 (by decide) ?_
      show EvG _ _ _ _ _ _ _ _ _ _ _ 133 _ _ _
      refine ev_isub dX12_playOver_133 ?_
      replace HF := bind_o HF
      obtain ⟨⟨z8, h7⟩, e6, HF⟩ := HF
      replace HF := bd_o (bd_o HF)
      dsimp only at HF
      refine ev_callV (As := [.int x1, .int x2, .int (x3 - 1)]) (R1 := (some (.int z8), h7)) (lk_X12_rowOf (d := 0) (Nat.le_refl _) c3 e6) ce_X12_rowOf im_X12_rowOf sl_X12_rowOf ml_X12_228 cl_X12 c3 dX12_playOver_134 (by omega) (Nat.le_of_ble_eq_true rfl) rfl rfl ?_
      show EvG _ _ _ _ _ _ _ _ _ _ _ 137 [(6, .int y0), (0, .ref t), (1, .int x1), (2, .int x2), (3, .int x3), (4, .int x4), (5, .int x5)] [.int z8, .ref b4] h7
      replace HF := bind_ck HF
      obtain ⟨c10, HF⟩ := HF
      refine ev_bald dX12_playOver_137 c10.1 c10.2 ?_
      by_cases c11 : hI h7 b4 z8.toNatClampNeg = 0
      · replace HF := ite_T c11 HF
        refine ev_if_neF (tgt := 180) dX12_playOver_138 (by decide) c11 ?_
        refine ev_aload_n 1 dX12_playOver_141 rfl ?_
        replace HF := bind_ck HF
        obtain ⟨c12, HF⟩ := HF
        replace HF := bind_o HF
        obtain ⟨b13, e14, HF⟩ := HF
        refine ev_gS (f := 1363) cl_X12 (k := 63) (by decide) fi_X12_63 rfl fl_X12_157 dX12_playOver_142 c12 e14 ?_
        refine ev_aload_n 1 dX12_playOver_145 rfl ?_
        refine ev_iload_n 2 dX12_playOver_146 rfl ?_
        refine ev_iload_n 3 dX12_playOver_147 rfl ?_
        refine ev_iload_n 4 dX12_playOver_148 rfl ?_
        refine ev_iconst (v := 1) dX12_playOver_149 (by decide) ?_
        show EvG _ _ _ _ _ _ _ _ _ _ _ 150 _ _ _
        refine ev_isub dX12_playOver_150 ?_
        replace HF := bind_o HF
        obtain ⟨⟨z17, h16⟩, e15, HF⟩ := HF
        replace HF := bd_o (bd_o HF)
        dsimp only at HF
        refine ev_callV (As := [.int x1, .int x2, .int (x3 - 1)]) (R1 := (some (.int z17), h16)) (lk_X12_rowOf (d := 0) (Nat.le_refl _) c12 e15) ce_X12_rowOf im_X12_rowOf sl_X12_rowOf ml_X12_228 cl_X12 c12 dX12_playOver_151 (by omega) (Nat.le_of_ble_eq_true rfl) rfl rfl ?_
        show EvG _ _ _ _ _ _ _ _ _ _ _ 154 [(6, .int y0), (0, .ref t), (1, .int x1), (2, .int x2), (3, .int x3), (4, .int x4), (5, .int x5)] [.int z17, .ref b13] h16
        refine ev_iconst (v := 1) dX12_playOver_154 (by decide) ?_
        replace HF := bind_ck HF
        obtain ⟨c19, HF⟩ := HF
        refine ev_bast dX12_playOver_155 c19.1 c19.2 rfl ?_
        replace HF := bd_n HF
        obtain ⟨h20, eh20, HF⟩ := HF
        refine ev_heap eh20 ?_
        refine ev_aload_n 1 dX12_playOver_156 rfl ?_
        replace HF := bind_ck HF
        obtain ⟨c21, HF⟩ := HF
        replace HF := bind_o HF
        obtain ⟨b22, e23, HF⟩ := HF
        refine ev_gS (f := 1342) cl_X12 (k := 42) (by decide) fi_X12_42 rfl fl_X12_93 dX12_playOver_157 c21 e23 ?_
        refine ev_iload_n 3 dX12_playOver_160 rfl ?_
        refine ev_dup2 dX12_playOver_161 rfl rfl ?_
        show EvG _ _ _ _ _ _ _ _ _ _ _ 162 _ _ _
        replace HF := bind_ck HF
        obtain ⟨c24, HF⟩ := HF
        refine ev_iald dX12_playOver_162 c24.1 c24.2 ?_
        refine ev_iconst (v := 1) dX12_playOver_163 (by decide) ?_
        refine ev_iadd dX12_playOver_164 ?_
        refine ev_iast dX12_playOver_165 c24.1 c24.2 ?_
        replace HF := bd_n HF
        obtain ⟨h25, eh25, HF⟩ := HF
        refine ev_heap eh25 ?_
        have c26 : hK h25 t = 14 := by rw [eh25]; exact c21
        refine ev_aload_n 1 dX12_playOver_166 rfl ?_
        refine ev_iload_n 3 dX12_playOver_167 rfl ?_
        refine ev_aload_n 1 dX12_playOver_168 rfl ?_
        refine ev_iload_n 2 dX12_playOver_169 rfl ?_
        show EvG _ _ _ _ _ _ _ _ _ _ _ 170 _ _ _
        refine ev_iload_n 3 dX12_playOver_170 rfl ?_
        refine ev_iload_n 4 dX12_playOver_171 rfl ?_
        refine ev_iconst (v := 1) dX12_playOver_172 (by decide) ?_
        refine ev_isub dX12_playOver_173 ?_
        replace HF := bind_o HF
        obtain ⟨⟨z29, h28⟩, e27, HF⟩ := HF
        replace HF := bd_o (bd_o HF)
        dsimp only at HF
        refine ev_callV (As := [.int x1, .int x2, .int (x3 - 1)]) (R1 := (some (.int z29), h28)) (lk_X12_rowOf (d := 0) (Nat.le_refl _) c26 e27) ce_X12_rowOf im_X12_rowOf sl_X12_rowOf ml_X12_228 cl_X12 c26 dX12_playOver_174 (by omega) (Nat.le_of_ble_eq_true rfl) rfl rfl ?_
        show EvG _ _ _ _ _ _ _ _ _ _ _ 177 [(6, .int y0), (0, .ref t), (1, .int x1), (2, .int x2), (3, .int x3), (4, .int x4), (5, .int x5)] [.int z29, .int x2, .ref t] h28
        replace HF := bind_ck HF
        obtain ⟨c31, HF⟩ := HF
        replace HF := bind_o HF
        obtain ⟨h33, e32, HF⟩ := HF
        refine ev_callV (As := [.int x2, .int z29]) (R1 := (none, h33)) (lk_X12_becomesWhole (d := 1) (Nat.le_refl _) c31 e32) ce_X12_becomesWhole im_X12_becomesWhole sl_X12_becomesWhole ml_X12_254 cl_X12 c31 dX12_playOver_177 (by omega) (Nat.le_of_ble_eq_true rfl) rfl rfl ?_
        show EvG _ _ _ _ _ _ _ _ _ _ _ 180 [(6, .int y0), (0, .ref t), (1, .int x1), (2, .int x2), (3, .int x3), (4, .int x4), (5, .int x5)] [] h33
        exact Ev.sub [1, 2, 3, 4, 5, 6] rfl (lk_X12_playOver_180 hdd  t x1 x2 x3 x4 x5 _ HF)
      · replace HF := ite_F c11 HF
        refine ev_if_neT (tgt := 180) dX12_playOver_138 (by decide) c11 ?_
        exact Ev.sub [1, 2, 3, 4, 5, 6] rfl (lk_X12_playOver_180 hdd  t x1 x2 x3 x4 x5 _ HF)
  · replace HF := ite_F c1 HF
    refine ev_if_eqF (tgt := 120) dX12_playOver_107 (by decide) c1 ?_
    refine ev_aload_n 1 dX12_playOver_110 rfl ?_
    refine ev_iload 0 dX12_playOver_111 rfl ?_
    refine ev_iload_n 3 dX12_playOver_113 rfl ?_
    refine ev_iload_n 4 dX12_playOver_114 rfl ?_
    refine ev_iconst (v := (-1)) dX12_playOver_115 (by decide) ?_
    replace HF := bind_ck HF
    obtain ⟨c35, HF⟩ := HF
    replace HF := bind_o HF
    obtain ⟨h37, e36, HF⟩ := HF
    refine ev_callV (As := [.int y0, .int x2, .int x3, .int ((-1))]) (R1 := (none, h37)) (lk_X12_stop (d := 0) (Nat.le_refl _) c35 e36) ce_X12_stop im_X12_stop sl_X12_stop ml_X12_212 cl_X12 c35 dX12_playOver_116 (by omega) (Nat.le_of_ble_eq_true rfl) rfl rfl ?_
    show EvG _ _ _ _ _ _ _ _ _ _ _ 119 [(6, .int y0), (0, .ref t), (1, .int x1), (2, .int x2), (3, .int x3), (4, .int x4), (5, .int x5)] [] h37
    obtain rfl := Option.some.inj HF
    exact ev_vret dX12_playOver_119

set_option maxRecDepth 20000 in
theorem lk_X12_playOver_42 {g : aG} {l : Launch} {d : Nat} {h0 : aH} (hdd : 3 ≤ d) {r : aH} (t : Nat) (x1 : Int32) (x2 : Int32) (x3 : Int32) (x4 : Int32) (x5 : Int32) (h : aH) (HF : F_X12_playOver_42  t x1 x2 x3 x4 x5 h = some r) : Ev g l cX12_playOver 10 yX12_playOver (none) d h0 (none, r) 42 [(0, .ref t), (1, .int x1), (2, .int x2), (3, .int x3), (4, .int x4), (5, .int x5)] [] h := by
  unfold F_X12_playOver_42 at HF
  refine ev_iconst (v := 3) dX12_playOver_42 (by decide) ?_
  refine ev_goto (tgt := 103) dX12_playOver_43 (by decide) ?_
  exact Ev.sub [0, 1, 2, 3, 4, 5] rfl (lk_X12_playOver_103 hdd  t x1 x2 x3 x4 x5 3 _ HF)

set_option maxRecDepth 20000 in
theorem lk_X12_playOver {g : aG} {l : Launch} {d : Nat} (hdd : 3 ≤ d) {t : Nat} {x1 : Int32} {x2 : Int32} {x3 : Int32} {h : aH} {r : aH} (hT : hK h t = 14) (HF : F_X12_playOver t x1 x2 x3 h = some r) : MA g l yX12_playOver cX12_playOver 10 (none) d [.ref t, .int x1, .int x2, .int x3] h (none, r) := by
  refine MA.of (lv0 := [(0, .ref t), (1, .int x1), (2, .int x2), (3, .int x3)]) (by decide +kernel) (rfl) (Nat.le_of_ble_eq_true rfl) ?_
  unfold F_X12_playOver at HF
  refine ev_aload_n 0 dX12_playOver_0 rfl ?_
  refine ev_iload_n 1 dX12_playOver_1 rfl ?_
  refine ev_iload_n 2 dX12_playOver_2 rfl ?_
  refine ev_iload_n 3 dX12_playOver_3 rfl ?_
  replace HF := bind_o HF
  obtain ⟨⟨z3, h2⟩, e1, HF⟩ := HF
  replace HF := bd_o (bd_o HF)
  dsimp only at HF
  refine ev_callV (As := [.int x1, .int x2, .int x3]) (R1 := (some (.int z3), h2)) (lk_X12_rowOf (d := 0) (Nat.le_refl _) hT e1) ce_X12_rowOf im_X12_rowOf sl_X12_rowOf ml_X12_228 cl_X12 hT dX12_playOver_4 (by omega) (Nat.le_of_ble_eq_true rfl) rfl rfl ?_
  show EvG _ _ _ _ _ _ _ _ _ _ _ 7 [(0, .ref t), (1, .int x1), (2, .int x2), (3, .int x3)] [.int z3] h2
  refine ev_istore (lv' := [(4, .int z3), (0, .ref t), (1, .int x1), (2, .int x2), (3, .int x3)]) dX12_playOver_7 (by decide) (rfl) ?_
  refine ev_aload_n 1 dX12_playOver_9 rfl ?_
  show EvG _ _ _ _ _ _ _ _ _ _ _ 10 _ _ _
  replace HF := bind_ck HF
  obtain ⟨c5, HF⟩ := HF
  replace HF := bind_o HF
  obtain ⟨b6, e7, HF⟩ := HF
  refine ev_gS (f := 1312) cl_X12 (k := 12) (by decide) fi_X12_12 rfl fl_X12_35 dX12_playOver_10 c5 e7 ?_
  refine ev_iload 0 dX12_playOver_13 rfl ?_
  replace HF := bind_ck HF
  obtain ⟨c8, HF⟩ := HF
  refine ev_iald dX12_playOver_15 c8.1 c8.2 ?_
  replace HF := bd_n HF
  obtain ⟨v9, ev9, HF⟩ := HF
  refine ev_topI ev9 ?_
  refine ev_istore (lv' := [(5, .int v9), (4, .int z3), (0, .ref t), (1, .int x1), (2, .int x2), (3, .int x3)]) dX12_playOver_16 (by decide) (rfl) ?_
  refine ev_aload_n 2 dX12_playOver_18 rfl ?_
  replace HF := bind_o HF
  obtain ⟨b10, e11, HF⟩ := HF
  refine ev_gS (f := 1341) cl_X12 (k := 41) (by decide) fi_X12_41 rfl fl_X12_90 dX12_playOver_19 c5 e11 ?_
  refine ev_iload_n 4 dX12_playOver_22 rfl ?_
  replace HF := bind_ck HF
  obtain ⟨c12, HF⟩ := HF
  refine ev_iald dX12_playOver_23 c12.1 c12.2 ?_
  show EvG _ _ _ _ _ _ _ _ _ _ _ 24 _ _ _
  by_cases c13 : hI h2 b10 x2.toNatClampNeg = 0
  · replace HF := ite_T c13 HF
    refine ev_if_neF (tgt := 42) dX12_playOver_24 (by decide) c13 ?_
    refine ev_aload_n 2 dX12_playOver_27 rfl ?_
    replace HF := bind_o HF
    obtain ⟨b14, e15, HF⟩ := HF
    refine ev_gS (f := 1344) cl_X12 (k := 44) (by decide) fi_X12_44 rfl fl_X12_99 dX12_playOver_28 c5 e15 ?_
    refine ev_iload_n 4 dX12_playOver_31 rfl ?_
    replace HF := bind_ck HF
    obtain ⟨c16, HF⟩ := HF
    refine ev_iald dX12_playOver_32 c16.1 c16.2 ?_
    refine ev_aload_n 2 dX12_playOver_33 rfl ?_
    replace HF := bind_o HF
    obtain ⟨b17, e18, HF⟩ := HF
    refine ev_gS (f := 1340) cl_X12 (k := 40) (by decide) fi_X12_40 rfl fl_X12_87 dX12_playOver_34 c5 e18 ?_
    refine ev_iload_n 4 dX12_playOver_37 rfl ?_
    show EvG _ _ _ _ _ _ _ _ _ _ _ 38 _ _ _
    replace HF := bind_ck HF
    obtain ⟨c19, HF⟩ := HF
    refine ev_iald dX12_playOver_38 c19.1 c19.2 ?_
    by_cases c20 : hI h2 b14 x2.toNatClampNeg = hI h2 b17 x2.toNatClampNeg
    · replace HF := ite_T c20 HF
      refine ev_icmp_neF (tgt := 46) dX12_playOver_39 (by decide) c20 ?_
      exact Ev.sub [2, 3, 4, 5, 1, 0] rfl (lk_X12_playOver_42 hdd  t x1 x2 x3 z3 v9 _ HF)
    · replace HF := ite_F c20 HF
      refine ev_icmp_neT (tgt := 46) dX12_playOver_39 (by decide) c20 ?_
      refine ev_iload 0 dX12_playOver_46 rfl ?_
      refine ev_bipush (v := 10) dX12_playOver_48 (by decide) ?_
      by_cases c21 : v9 ≤ 10
      · replace HF := ite_T c21 HF
        refine ev_icmp_leT (tgt := 57) dX12_playOver_50 (by decide) c21 ?_
        refine ev_iload 0 dX12_playOver_57 rfl ?_
        refine ev_aload_n 2 dX12_playOver_59 rfl ?_
        replace HF := bind_o HF
        obtain ⟨b22, e23, HF⟩ := HF
        refine ev_gS (f := 1351) cl_X12 (k := 51) (by decide) fi_X12_51 rfl fl_X12_120 dX12_playOver_60 c5 e23 ?_
        refine ev_iload_n 4 dX12_playOver_63 rfl ?_
        replace HF := bind_ck HF
        obtain ⟨c24, HF⟩ := HF
        refine ev_iald dX12_playOver_64 c24.1 c24.2 ?_
        by_cases c25 : v9 = hI h2 b22 x2.toNatClampNeg
        · replace HF := ite_T c25 HF
          refine ev_icmp_neF (tgt := 72) dX12_playOver_65 (by decide) c25 ?_
          refine ev_iconst (v := 5) dX12_playOver_68 (by decide) ?_
          refine ev_goto (tgt := 103) dX12_playOver_69 (by decide) ?_
          exact Ev.sub [2, 3, 4, 5, 1, 0] rfl (lk_X12_playOver_103 hdd  t x1 x2 x3 z3 v9 5 _ HF)
        · replace HF := ite_F c25 HF
          refine ev_icmp_neT (tgt := 72) dX12_playOver_65 (by decide) c25 ?_
          refine ev_aload_n 2 dX12_playOver_72 rfl ?_
          replace HF := bind_o HF
          obtain ⟨b26, e27, HF⟩ := HF
          refine ev_gS (f := 1356) cl_X12 (k := 56) (by decide) fi_X12_56 rfl fl_X12_136 dX12_playOver_73 c5 e27 ?_
          refine ev_bipush (v := 11) dX12_playOver_76 (by decide) ?_
          refine ev_iload_n 4 dX12_playOver_78 rfl ?_
          refine ev_imul dX12_playOver_79 ?_
          refine ev_iload 0 dX12_playOver_80 rfl ?_
          refine ev_iadd dX12_playOver_82 ?_
          show EvG _ _ _ _ _ _ _ _ _ _ _ 83 _ _ _
          replace HF := bind_ck HF
          obtain ⟨c28, HF⟩ := HF
          refine ev_iald dX12_playOver_83 c28.1 c28.2 ?_
          refine ev_aload_n 2 dX12_playOver_84 rfl ?_
          replace HF := bind_o HF
          obtain ⟨b29, e30, HF⟩ := HF
          refine ev_gS (f := 1305) cl_X12 (k := 5) (by decide) fi_X12_5 rfl fl_X12_16 dX12_playOver_85 c5 e30 ?_
          refine ev_iload_n 3 dX12_playOver_88 rfl ?_
          replace HF := bind_ck HF
          obtain ⟨c31, HF⟩ := HF
          refine ev_iald dX12_playOver_89 c31.1 c31.2 ?_
          refine ev_iconst (v := 4) dX12_playOver_90 (by decide) ?_
          refine ev_iadd dX12_playOver_91 ?_
          refine ev_iconst (v := 5) dX12_playOver_92 (by decide) ?_
          show EvG _ _ _ _ _ _ _ _ _ _ _ 93 _ _ _
          refine ev_idiv dX12_playOver_93 (by decide) ?_
          by_cases c32 : hI h2 b26 ((11 * x2) + v9).toNatClampNeg = ((hI h2 b29 x1.toNatClampNeg) + 4) / 5
          · replace HF := ite_T c32 HF
            refine ev_icmp_neF (tgt := 102) dX12_playOver_94 (by decide) c32 ?_
            refine ev_bipush (v := 6) dX12_playOver_97 (by decide) ?_
            refine ev_goto (tgt := 103) dX12_playOver_99 (by decide) ?_
            exact Ev.sub [2, 3, 4, 5, 1, 0] rfl (lk_X12_playOver_103 hdd  t x1 x2 x3 z3 v9 6 _ HF)
          · replace HF := ite_F c32 HF
            refine ev_icmp_neT (tgt := 102) dX12_playOver_94 (by decide) c32 ?_
            refine ev_iconst (v := 0) dX12_playOver_102 (by decide) ?_
            exact Ev.sub [2, 3, 4, 5, 1, 0] rfl (lk_X12_playOver_103 hdd  t x1 x2 x3 z3 v9 0 _ HF)
      · replace HF := ite_F c21 HF
        refine ev_icmp_leF (tgt := 57) dX12_playOver_50 (by decide) c21 ?_
        refine ev_iconst (v := 4) dX12_playOver_53 (by decide) ?_
        refine ev_goto (tgt := 103) dX12_playOver_54 (by decide) ?_
        exact Ev.sub [2, 3, 4, 5, 1, 0] rfl (lk_X12_playOver_103 hdd  t x1 x2 x3 z3 v9 4 _ HF)
  · replace HF := ite_F c13 HF
    refine ev_if_neT (tgt := 42) dX12_playOver_24 (by decide) c13 ?_
    exact Ev.sub [2, 3, 4, 5, 1, 0] rfl (lk_X12_playOver_42 hdd  t x1 x2 x3 z3 v9 _ HF)

set_option maxRecDepth 20000 in
theorem lk_X12_playTurn_154 {g : aG} {l : Launch} {d : Nat} {h0 : aH} (hdd : 4 ≤ d) {r : aH} (t : Nat) (x1 : Int32) (x2 : Int32) (h : aH) (HF : F_X12_playTurn_154  t x1 x2 h = some r) : Ev g l cX12_playTurn 4 yX12_playTurn (none) d h0 (none, r) 154 [(0, .ref t), (1, .int x1), (2, .int x2)] [] h := by
  unfold F_X12_playTurn_154 at HF
  refine ev_aload_n 0 dX12_playTurn_154 rfl ?_
  replace HF := bind_ck HF
  obtain ⟨c1, HF⟩ := HF
  replace HF := bind_o HF
  obtain ⟨b2, e3, HF⟩ := HF
  refine ev_gS (f := 1341) cl_X12 (k := 41) (by decide) fi_X12_41 rfl fl_X12_90 dX12_playTurn_155 c1 e3 ?_
  refine ev_iload_n 2 dX12_playTurn_158 rfl ?_
  replace HF := bind_ck HF
  obtain ⟨c4, HF⟩ := HF
  refine ev_iald dX12_playTurn_159 c4.1 c4.2 ?_
  by_cases c5 : hI h b2 x2.toNatClampNeg = 0
  · replace HF := ite_T c5 HF
    refine ev_if_neF (tgt := 164) dX12_playTurn_160 (by decide) c5 ?_
    obtain rfl := Option.some.inj HF
    exact ev_vret dX12_playTurn_163
  · replace HF := ite_F c5 HF
    refine ev_if_neT (tgt := 164) dX12_playTurn_160 (by decide) c5 ?_
    refine ev_iload_n 2 dX12_playTurn_164 rfl ?_
    refine ev_aload_n 0 dX12_playTurn_165 rfl ?_
    refine ev_iload_n 1 dX12_playTurn_166 rfl ?_
    replace HF := bind_o HF
    obtain ⟨⟨z8, h7⟩, e6, HF⟩ := HF
    replace HF := bd_o (bd_o HF)
    dsimp only at HF
    refine ev_callV (As := [.int x1]) (R1 := (some (.int z8), h7)) (lk_X12_lastTurn (d := 0) (Nat.le_refl _) c1 e6) ce_X12_lastTurn im_X12_lastTurn sl_X12_lastTurn ml_X12_240 cl_X12 c1 dX12_playTurn_167 (by omega) (Nat.le_of_ble_eq_true rfl) rfl rfl ?_
    show EvG _ _ _ _ _ _ _ _ _ _ _ 170 [(0, .ref t), (1, .int x1), (2, .int x2)] [.int z8, .int x2] h7
    by_cases c10 : x2 = z8
    · replace HF := ite_T c10 HF
      refine ev_icmp_neF (tgt := 207) dX12_playTurn_170 (by decide) c10 ?_
      refine ev_aload_n 0 dX12_playTurn_173 rfl ?_
      replace HF := bind_ck HF
      obtain ⟨c11, HF⟩ := HF
      refine ev_gI (f := 1333) cl_X12 (k := 33) (by decide) fi_X12_33 rfl fl_X12_218 dX12_playTurn_174 c11 ?_
      by_cases c12 : hF h7 1333 t = 0
      · replace HF := ite_T c12 HF
        refine ev_if_neF (tgt := 253) dX12_playTurn_177 (by decide) c12 ?_
        refine ev_aload_n 0 dX12_playTurn_180 rfl ?_
        refine ev_aload_n 0 dX12_playTurn_181 rfl ?_
        replace HF := bind_o HF
        obtain ⟨b13, e14, HF⟩ := HF
        refine ev_gS (f := 1335) cl_X12 (k := 35) (by decide) fi_X12_35 rfl fl_X12_72 dX12_playTurn_182 c11 e14 ?_
        refine ev_iload_n 2 dX12_playTurn_185 rfl ?_
        replace HF := bind_ck HF
        obtain ⟨c15, HF⟩ := HF
        refine ev_iald dX12_playTurn_186 c15.1 c15.2 ?_
        refine ev_aload_n 0 dX12_playTurn_187 rfl ?_
        refine ev_gI (f := 1334) cl_X12 (k := 34) (by decide) fi_X12_34 rfl fl_X12_221 dX12_playTurn_188 c11 ?_
        show EvG _ _ _ _ _ _ _ _ _ _ _ 191 _ _ _
        refine ev_iconst (v := 1) dX12_playTurn_191 (by decide) ?_
        refine ev_isub dX12_playTurn_192 ?_
        by_cases c16 : hI h7 b13 x2.toNatClampNeg = (hF h7 1334 t) - 1
        · replace HF := ite_T c16 HF
          refine ev_icmp_neF (tgt := 200) dX12_playTurn_193 (by decide) c16 ?_
          refine ev_iconst (v := 3) dX12_playTurn_196 (by decide) ?_
          refine ev_goto (tgt := 201) dX12_playTurn_197 (by decide) ?_
          refine ev_pI (f := 1333) cl_X12 (k := 33) (by decide) fi_X12_33 rfl fl_X12_218 rfl rfl rfl dX12_playTurn_201 c11 ?_
          replace HF := bd_n HF
          obtain ⟨h17, eh17, HF⟩ := HF
          refine ev_heap eh17 ?_
          have c18 : hK h17 t = 14 := by rw [eh17]; exact c11
          refine ev_goto (tgt := 253) dX12_playTurn_204 (by decide) ?_
          obtain rfl := Option.some.inj HF
          exact ev_vret dX12_playTurn_253
        · replace HF := ite_F c16 HF
          refine ev_icmp_neT (tgt := 200) dX12_playTurn_193 (by decide) c16 ?_
          refine ev_iconst (v := 1) dX12_playTurn_200 (by decide) ?_
          refine ev_pI (f := 1333) cl_X12 (k := 33) (by decide) fi_X12_33 rfl fl_X12_218 rfl rfl rfl dX12_playTurn_201 c11 ?_
          replace HF := bd_n HF
          obtain ⟨h19, eh19, HF⟩ := HF
          refine ev_heap eh19 ?_
          have c20 : hK h19 t = 14 := by rw [eh19]; exact c11
          refine ev_goto (tgt := 253) dX12_playTurn_204 (by decide) ?_
          obtain rfl := Option.some.inj HF
          exact ev_vret dX12_playTurn_253
      · replace HF := ite_F c12 HF
        refine ev_if_neT (tgt := 253) dX12_playTurn_177 (by decide) c12 ?_
        obtain rfl := Option.some.inj HF
        exact ev_vret dX12_playTurn_253
    · replace HF := ite_F c10 HF
      refine ev_icmp_neT (tgt := 207) dX12_playTurn_170 (by decide) c10 ?_
      refine ev_aload_n 0 dX12_playTurn_207 rfl ?_
      replace HF := bind_ck HF
      obtain ⟨c21, HF⟩ := HF
      replace HF := bind_o HF
      obtain ⟨b22, e23, HF⟩ := HF
      refine ev_gS (f := 1306) cl_X12 (k := 6) (by decide) fi_X12_6 rfl fl_X12_19 dX12_playTurn_208 c21 e23 ?_
      refine ev_iload_n 1 dX12_playTurn_211 rfl ?_
      replace HF := bind_ck HF
      obtain ⟨c24, HF⟩ := HF
      refine ev_iald dX12_playTurn_212 c24.1 c24.2 ?_
      refine ev_iconst (v := 2) dX12_playTurn_213 (by decide) ?_
      by_cases c25 : hI h7 b22 x1.toNatClampNeg = 2
      · replace HF := ite_T c25 HF
        refine ev_icmp_neF (tgt := 253) dX12_playTurn_214 (by decide) c25 ?_
        refine ev_iload_n 2 dX12_playTurn_217 rfl ?_
        refine ev_iconst (v := 2) dX12_playTurn_218 (by decide) ?_
        by_cases c26 : x2 = 2
        · replace HF := ite_T c26 HF
          refine ev_icmp_neF (tgt := 253) dX12_playTurn_219 (by decide) c26 ?_
          refine ev_aload_n 0 dX12_playTurn_222 rfl ?_
          replace HF := bind_o HF
          obtain ⟨b27, e28, HF⟩ := HF
          refine ev_gS (f := 1335) cl_X12 (k := 35) (by decide) fi_X12_35 rfl fl_X12_72 dX12_playTurn_223 c21 e28 ?_
          refine ev_iconst (v := 0) dX12_playTurn_226 (by decide) ?_
          replace HF := bind_ck HF
          obtain ⟨c29, HF⟩ := HF
          refine ev_iald dX12_playTurn_227 c29.1 c29.2 ?_
          refine ev_aload_n 0 dX12_playTurn_228 rfl ?_
          replace HF := bind_o HF
          obtain ⟨b30, e31, HF⟩ := HF
          refine ev_gS (f := 1335) cl_X12 (k := 35) (by decide) fi_X12_35 rfl fl_X12_72 dX12_playTurn_229 c21 e31 ?_
          refine ev_iconst (v := 2) dX12_playTurn_232 (by decide) ?_
          show EvG _ _ _ _ _ _ _ _ _ _ _ 233 _ _ _
          replace HF := bind_ck HF
          obtain ⟨c32, HF⟩ := HF
          refine ev_iald dX12_playTurn_233 c32.1 c32.2 ?_
          refine ev_iadd dX12_playTurn_234 ?_
          refine ev_aload_n 0 dX12_playTurn_235 rfl ?_
          replace HF := bind_o HF
          obtain ⟨b33, e34, HF⟩ := HF
          refine ev_gS (f := 1335) cl_X12 (k := 35) (by decide) fi_X12_35 rfl fl_X12_72 dX12_playTurn_236 c21 e34 ?_
          refine ev_iconst (v := 1) dX12_playTurn_239 (by decide) ?_
          replace HF := bind_ck HF
          obtain ⟨c35, HF⟩ := HF
          refine ev_iald dX12_playTurn_240 c35.1 c35.2 ?_
          refine ev_isub dX12_playTurn_241 ?_
          refine ev_iconst (v := 1) dX12_playTurn_242 (by decide) ?_
          show EvG _ _ _ _ _ _ _ _ _ _ _ 243 _ _ _
          refine ev_iadd dX12_playTurn_243 ?_
          refine ev_iconst (v := 1) dX12_playTurn_244 (by decide) ?_
          by_cases c36 : 1 ≤ (((hI h7 b27 (0 : Int32).toNatClampNeg) + (hI h7 b30 (2 : Int32).toNatClampNeg)) - (hI h7 b33 (1 : Int32).toNatClampNeg)) + 1
          · replace HF := ite_T c36 HF
            refine ev_icmp_geT (tgt := 253) dX12_playTurn_245 (by decide) c36 ?_
            obtain rfl := Option.some.inj HF
            exact ev_vret dX12_playTurn_253
          · replace HF := ite_F c36 HF
            refine ev_icmp_geF (tgt := 253) dX12_playTurn_245 (by decide) c36 ?_
            refine ev_aload_n 0 dX12_playTurn_248 rfl ?_
            refine ev_iconst (v := 2) dX12_playTurn_249 (by decide) ?_
            refine ev_pI (f := 1333) cl_X12 (k := 33) (by decide) fi_X12_33 rfl fl_X12_218 rfl rfl rfl dX12_playTurn_250 c21 ?_
            replace HF := bd_n HF
            obtain ⟨h37, eh37, HF⟩ := HF
            refine ev_heap eh37 ?_
            have c38 : hK h37 t = 14 := by rw [eh37]; exact c21
            obtain rfl := Option.some.inj HF
            exact ev_vret dX12_playTurn_253
        · replace HF := ite_F c26 HF
          refine ev_icmp_neT (tgt := 253) dX12_playTurn_219 (by decide) c26 ?_
          obtain rfl := Option.some.inj HF
          exact ev_vret dX12_playTurn_253
      · replace HF := ite_F c25 HF
        refine ev_icmp_neT (tgt := 253) dX12_playTurn_214 (by decide) c25 ?_
        obtain rfl := Option.some.inj HF
        exact ev_vret dX12_playTurn_253

set_option maxRecDepth 20000 in
theorem lk_X12_playTurn_120 {g : aG} {l : Launch} {d : Nat} {h0 : aH} (hdd : 4 ≤ d) {r : aH} : ∀ (n : Nat) (t : Nat) (x1 : Int32) (x2 : Int32) (x3 : Int32) (h : aH), F_X12_playTurn_120  n t x1 x2 x3 h = some r → Ev g l cX12_playTurn 4 yX12_playTurn (none) d h0 (none, r) 120 [(0, .ref t), (1, .int x1), (2, .int x2), (3, .int x3)] [] h := by
  intro n
  induction n with
  | zero => intro t x1 x2 x3 h HF; cases HF
  | succ n ih =>
  intro t x1 x2 x3 h HF
  unfold F_X12_playTurn_120 at HF
  refine ev_iload_n 3 dX12_playTurn_120 rfl ?_
  refine ev_aload_n 0 dX12_playTurn_121 rfl ?_
  replace HF := bind_ck HF
  obtain ⟨c1, HF⟩ := HF
  replace HF := bind_o HF
  obtain ⟨b2, e3, HF⟩ := HF
  refine ev_gS (f := 1309) cl_X12 (k := 9) (by decide) fi_X12_9 rfl fl_X12_28 dX12_playTurn_122 c1 e3 ?_
  refine ev_iconst (v := 4) dX12_playTurn_125 (by decide) ?_
  refine ev_iload_n 1 dX12_playTurn_126 rfl ?_
  refine ev_imul dX12_playTurn_127 ?_
  refine ev_iload_n 2 dX12_playTurn_128 rfl ?_
  show EvG _ _ _ _ _ _ _ _ _ _ _ 129 _ _ _
  refine ev_iadd dX12_playTurn_129 ?_
  replace HF := bind_ck HF
  obtain ⟨c4, HF⟩ := HF
  refine ev_iald dX12_playTurn_130 c4.1 c4.2 ?_
  by_cases c5 : hI h b2 ((4 * x1) + x2).toNatClampNeg ≤ x3
  · replace HF := ite_T c5 HF
    refine ev_icmp_geT (tgt := 154) dX12_playTurn_131 (by decide) c5 ?_
    exact Ev.sub [0, 1, 2] rfl (lk_X12_playTurn_154 hdd  t x1 x2 _ HF)
  · replace HF := ite_F c5 HF
    refine ev_icmp_geF (tgt := 154) dX12_playTurn_131 (by decide) c5 ?_
    refine ev_aload_n 0 dX12_playTurn_134 rfl ?_
    refine ev_gI (f := 1328) cl_X12 (k := 28) (by decide) fi_X12_28 rfl fl_X12_200 dX12_playTurn_135 c1 ?_
    by_cases c6 : hF h 1328 t = 0
    · replace HF := ite_T c6 HF
      refine ev_if_neF (tgt := 154) dX12_playTurn_138 (by decide) c6 ?_
      refine ev_aload_n 0 dX12_playTurn_141 rfl ?_
      refine ev_iload_n 1 dX12_playTurn_142 rfl ?_
      refine ev_iload_n 2 dX12_playTurn_143 rfl ?_
      refine ev_iload_n 3 dX12_playTurn_144 rfl ?_
      replace HF := bind_o HF
      obtain ⟨h8, e7, HF⟩ := HF
      refine ev_callV (As := [.int x1, .int x2, .int x3]) (R1 := (none, h8)) (lk_X12_playOver (d := 3) (Nat.le_refl _) c1 e7) ce_X12_playOver im_X12_playOver sl_X12_playOver ml_X12_247 cl_X12 c1 dX12_playTurn_145 (by omega) (Nat.le_of_ble_eq_true rfl) rfl rfl ?_
      show EvG _ _ _ _ _ _ _ _ _ _ _ 148 [(0, .ref t), (1, .int x1), (2, .int x2), (3, .int x3)] [] h8
      replace HF := bd_n HF
      obtain ⟨v10, ev10, HF⟩ := HF
      refine ev_iinc (v := v10) (lv' := [(3, .int v10), (0, .ref t), (1, .int x1), (2, .int x2)]) 3 dX12_playTurn_148 rfl (by rw [ev10]; rfl) (by decide) (rfl) ?_
      refine ev_goto (tgt := 120) dX12_playTurn_151 (by decide) ?_
      exact Ev.sub [1, 2, 3, 0] rfl (ih t x1 x2 v10 _ HF)
    · replace HF := ite_F c6 HF
      refine ev_if_neT (tgt := 154) dX12_playTurn_138 (by decide) c6 ?_
      exact Ev.sub [0, 1, 2] rfl (lk_X12_playTurn_154 hdd  t x1 x2 _ HF)

set_option maxRecDepth 20000 in
theorem lk_X12_playTurn_118 {g : aG} {l : Launch} {d : Nat} {h0 : aH} (hdd : 4 ≤ d) {r : aH} (t : Nat) (x1 : Int32) (x2 : Int32) (h : aH) (HF : F_X12_playTurn_118  t x1 x2 h = some r) : Ev g l cX12_playTurn 4 yX12_playTurn (none) d h0 (none, r) 118 [(0, .ref t), (1, .int x1), (2, .int x2)] [] h := by
  unfold F_X12_playTurn_118 at HF
  refine ev_iconst (v := 0) dX12_playTurn_118 (by decide) ?_
  refine ev_istore_n (lv' := [(3, .int 0), (0, .ref t), (1, .int x1), (2, .int x2)]) dX12_playTurn_119 (by decide) (rfl) ?_
  exact Ev.sub [1, 2, 3, 0] rfl (lk_X12_playTurn_120 hdd  fu t x1 x2 0 _ HF)

set_option maxRecDepth 20000 in
theorem lk_X12_playTurn {g : aG} {l : Launch} {d : Nat} (hdd : 4 ≤ d) {t : Nat} {x1 : Int32} {x2 : Int32} {h : aH} {r : aH} (hT : hK h t = 14) (HF : F_X12_playTurn t x1 x2 h = some r) : MA g l yX12_playTurn cX12_playTurn 4 (none) d [.ref t, .int x1, .int x2] h (none, r) := by
  refine MA.of (lv0 := [(0, .ref t), (1, .int x1), (2, .int x2)]) (by decide +kernel) (rfl) (Nat.le_of_ble_eq_true rfl) ?_
  unfold F_X12_playTurn at HF
  refine ev_aload_n 0 dX12_playTurn_0 rfl ?_
  refine ev_iload_n 2 dX12_playTurn_1 rfl ?_
  refine ev_pI (f := 1332) cl_X12 (k := 32) (by decide) fi_X12_32 rfl fl_X12_215 rfl rfl rfl dX12_playTurn_2 hT ?_
  replace HF := bd_n HF
  obtain ⟨h1, eh1, HF⟩ := HF
  refine ev_heap eh1 ?_
  have c2 : hK h1 t = 14 := by rw [eh1]; exact hT
  refine ev_aload_n 0 dX12_playTurn_5 rfl ?_
  replace HF := bind_o HF
  obtain ⟨b3, e4, HF⟩ := HF
  refine ev_gS (f := 1352) cl_X12 (k := 52) (by decide) fi_X12_52 rfl fl_X12_123 dX12_playTurn_6 c2 e4 ?_
  refine ev_iload_n 2 dX12_playTurn_9 rfl ?_
  refine ev_iconst (v := 1) dX12_playTurn_10 (by decide) ?_
  show EvG _ _ _ _ _ _ _ _ _ _ _ 11 _ _ _
  replace HF := bind_ck HF
  obtain ⟨c5, HF⟩ := HF
  refine ev_bast dX12_playTurn_11 c5.1 c5.2 rfl ?_
  replace HF := bd_n HF
  obtain ⟨h6, eh6, HF⟩ := HF
  refine ev_heap eh6 ?_
  have c7 : hK h6 t = 14 := by rw [eh6]; exact c2
  refine ev_aload_n 0 dX12_playTurn_12 rfl ?_
  replace HF := bind_o HF
  obtain ⟨b8, e9, HF⟩ := HF
  refine ev_gS (f := 1340) cl_X12 (k := 40) (by decide) fi_X12_40 rfl fl_X12_87 dX12_playTurn_13 c7 e9 ?_
  refine ev_iload_n 2 dX12_playTurn_16 rfl ?_
  refine ev_iload_n 2 dX12_playTurn_17 rfl ?_
  refine ev_iconst (v := 1) dX12_playTurn_18 (by decide) ?_
  by_cases c10 : x2 = 1
  · replace HF := ite_T c10 HF
    refine ev_icmp_neF (tgt := 41) dX12_playTurn_19 (by decide) c10 ?_
    refine ev_aload_n 0 dX12_playTurn_22 rfl ?_
    replace HF := bind_o HF
    obtain ⟨b11, e12, HF⟩ := HF
    refine ev_gS (f := 1306) cl_X12 (k := 6) (by decide) fi_X12_6 rfl fl_X12_19 dX12_playTurn_23 c7 e12 ?_
    refine ev_iload_n 1 dX12_playTurn_26 rfl ?_
    replace HF := bind_ck HF
    obtain ⟨c13, HF⟩ := HF
    refine ev_iald dX12_playTurn_27 c13.1 c13.2 ?_
    refine ev_iconst (v := 1) dX12_playTurn_28 (by decide) ?_
    by_cases c14 : hI h6 b11 x1.toNatClampNeg = 1
    · replace HF := ite_T c14 HF
      refine ev_icmp_neF (tgt := 41) dX12_playTurn_29 (by decide) c14 ?_
      refine ev_aload_n 0 dX12_playTurn_32 rfl ?_
      replace HF := bind_o HF
      obtain ⟨b15, e16, HF⟩ := HF
      refine ev_gS (f := 1340) cl_X12 (k := 40) (by decide) fi_X12_40 rfl fl_X12_87 dX12_playTurn_33 c7 e16 ?_
      refine ev_iconst (v := 0) dX12_playTurn_36 (by decide) ?_
      replace HF := bind_ck HF
      obtain ⟨c17, HF⟩ := HF
      refine ev_iald dX12_playTurn_37 c17.1 c17.2 ?_
      refine ev_goto (tgt := 47) dX12_playTurn_38 (by decide) ?_
      replace HF := bind_ck HF
      obtain ⟨c18, HF⟩ := HF
      refine ev_iast dX12_playTurn_47 c18.1 c18.2 ?_
      replace HF := bd_n HF
      obtain ⟨h19, eh19, HF⟩ := HF
      refine ev_heap eh19 ?_
      have c20 : hK h19 t = 14 := by rw [eh19]; exact c7
      refine ev_aload_n 0 dX12_playTurn_48 rfl ?_
      show EvG _ _ _ _ _ _ _ _ _ _ _ 49 _ _ _
      replace HF := bind_o HF
      obtain ⟨b21, e22, HF⟩ := HF
      refine ev_gS (f := 1343) cl_X12 (k := 43) (by decide) fi_X12_43 rfl fl_X12_96 dX12_playTurn_49 c20 e22 ?_
      refine ev_iload_n 2 dX12_playTurn_52 rfl ?_
      refine ev_bipush (v := 6) dX12_playTurn_53 (by decide) ?_
      refine ev_aload_n 0 dX12_playTurn_55 rfl ?_
      replace HF := bind_o HF
      obtain ⟨b23, e24, HF⟩ := HF
      refine ev_gS (f := 1340) cl_X12 (k := 40) (by decide) fi_X12_40 rfl fl_X12_87 dX12_playTurn_56 c20 e24 ?_
      refine ev_iload_n 2 dX12_playTurn_59 rfl ?_
      replace HF := bind_ck HF
      obtain ⟨c25, HF⟩ := HF
      refine ev_iald dX12_playTurn_60 c25.1 c25.2 ?_
      refine ev_imul dX12_playTurn_61 ?_
      show EvG _ _ _ _ _ _ _ _ _ _ _ 62 _ _ _
      refine ev_iconst (v := 0) dX12_playTurn_62 (by decide) ?_
      replace HF := bind_o HF
      obtain ⟨⟨z28, h27⟩, e26, HF⟩ := HF
      replace HF := bd_o (bd_o HF)
      dsimp only at HF
      refine ev_callS (As := [.int (6 * (hI h19 b23 x2.toNatClampNeg)), .int 0]) (R1 := (some (.int z28), h27)) (lk_X12_table (d := 0) (Nat.le_refl _) e26) ce_X12_table st_X12_table ml_X12_236 dX12_playTurn_63 (by omega) (Nat.le_of_ble_eq_true rfl) rfl rfl ?_
      show EvG _ _ _ _ _ _ _ _ _ _ _ 66 [(0, .ref t), (1, .int x1), (2, .int x2)] [.int z28, .int x2, .ref b21] h27
      replace HF := bind_ck HF
      obtain ⟨c30, HF⟩ := HF
      refine ev_iast dX12_playTurn_66 c30.1 c30.2 ?_
      replace HF := bd_n HF
      obtain ⟨h31, eh31, HF⟩ := HF
      refine ev_heap eh31 ?_
      refine ev_aload_n 0 dX12_playTurn_67 rfl ?_
      replace HF := bind_ck HF
      obtain ⟨c32, HF⟩ := HF
      replace HF := bind_o HF
      obtain ⟨b33, e34, HF⟩ := HF
      refine ev_gS (f := 1345) cl_X12 (k := 45) (by decide) fi_X12_45 rfl fl_X12_102 dX12_playTurn_68 c32 e34 ?_
      refine ev_iload_n 2 dX12_playTurn_71 rfl ?_
      refine ev_iconst (v := 0) dX12_playTurn_72 (by decide) ?_
      replace HF := bind_ck HF
      obtain ⟨c35, HF⟩ := HF
      refine ev_iast dX12_playTurn_73 c35.1 c35.2 ?_
      replace HF := bd_n HF
      obtain ⟨h36, eh36, HF⟩ := HF
      refine ev_heap eh36 ?_
      have c37 : hK h36 t = 14 := by rw [eh36]; exact c32
      show EvG _ _ _ _ _ _ _ _ _ _ _ 74 _ _ _
      refine ev_aload_n 0 dX12_playTurn_74 rfl ?_
      replace HF := bind_o HF
      obtain ⟨b38, e39, HF⟩ := HF
      refine ev_gS (f := 1346) cl_X12 (k := 46) (by decide) fi_X12_46 rfl fl_X12_105 dX12_playTurn_75 c37 e39 ?_
      refine ev_iload_n 2 dX12_playTurn_78 rfl ?_
      refine ev_iconst (v := 1) dX12_playTurn_79 (by decide) ?_
      replace HF := bind_ck HF
      obtain ⟨c40, HF⟩ := HF
      refine ev_iast dX12_playTurn_80 c40.1 c40.2 ?_
      replace HF := bd_n HF
      obtain ⟨h41, eh41, HF⟩ := HF
      refine ev_heap eh41 ?_
      have c42 : hK h41 t = 14 := by rw [eh41]; exact c37
      refine ev_aload_n 0 dX12_playTurn_81 rfl ?_
      replace HF := bind_o HF
      obtain ⟨b43, e44, HF⟩ := HF
      refine ev_gS (f := 1355) cl_X12 (k := 55) (by decide) fi_X12_55 rfl fl_X12_133 dX12_playTurn_82 c42 e44 ?_
      refine ev_bipush (v := 11) dX12_playTurn_85 (by decide) ?_
      show EvG _ _ _ _ _ _ _ _ _ _ _ 87 _ _ _
      refine ev_iload_n 2 dX12_playTurn_87 rfl ?_
      refine ev_imul dX12_playTurn_88 ?_
      refine ev_iconst (v := 1) dX12_playTurn_89 (by decide) ?_
      replace HF := bind_ck HF
      obtain ⟨c45, HF⟩ := HF
      refine ev_iast dX12_playTurn_90 c45.1 c45.2 ?_
      replace HF := bd_n HF
      obtain ⟨h46, eh46, HF⟩ := HF
      refine ev_heap eh46 ?_
      have c47 : hK h46 t = 14 := by rw [eh46]; exact c42
      refine ev_aload_n 0 dX12_playTurn_91 rfl ?_
      replace HF := bind_o HF
      obtain ⟨b48, e49, HF⟩ := HF
      refine ev_gS (f := 1355) cl_X12 (k := 55) (by decide) fi_X12_55 rfl fl_X12_133 dX12_playTurn_92 c47 e49 ?_
      refine ev_bipush (v := 11) dX12_playTurn_95 (by decide) ?_
      refine ev_iload_n 2 dX12_playTurn_97 rfl ?_
      show EvG _ _ _ _ _ _ _ _ _ _ _ 98 _ _ _
      refine ev_imul dX12_playTurn_98 ?_
      refine ev_iconst (v := 1) dX12_playTurn_99 (by decide) ?_
      refine ev_iadd dX12_playTurn_100 ?_
      refine ev_iconst (v := 1) dX12_playTurn_101 (by decide) ?_
      replace HF := bind_ck HF
      obtain ⟨c50, HF⟩ := HF
      refine ev_iast dX12_playTurn_102 c50.1 c50.2 ?_
      replace HF := bd_n HF
      obtain ⟨h51, eh51, HF⟩ := HF
      refine ev_heap eh51 ?_
      have c52 : hK h51 t = 14 := by rw [eh51]; exact c47
      refine ev_iload_n 2 dX12_playTurn_103 rfl ?_
      refine ev_aload_n 0 dX12_playTurn_104 rfl ?_
      refine ev_iload_n 1 dX12_playTurn_105 rfl ?_
      show EvG _ _ _ _ _ _ _ _ _ _ _ 106 _ _ _
      replace HF := bind_o HF
      obtain ⟨⟨z55, h54⟩, e53, HF⟩ := HF
      replace HF := bd_o (bd_o HF)
      dsimp only at HF
      refine ev_callV (As := [.int x1]) (R1 := (some (.int z55), h54)) (lk_X12_lastTurn (d := 0) (Nat.le_refl _) c52 e53) ce_X12_lastTurn im_X12_lastTurn sl_X12_lastTurn ml_X12_240 cl_X12 c52 dX12_playTurn_106 (by omega) (Nat.le_of_ble_eq_true rfl) rfl rfl ?_
      show EvG _ _ _ _ _ _ _ _ _ _ _ 109 [(0, .ref t), (1, .int x1), (2, .int x2)] [.int z55, .int x2] h54
      by_cases c57 : x2 = z55
      · replace HF := ite_T c57 HF
        refine ev_icmp_neF (tgt := 118) dX12_playTurn_109 (by decide) c57 ?_
        refine ev_aload_n 0 dX12_playTurn_112 rfl ?_
        refine ev_iload_n 1 dX12_playTurn_113 rfl ?_
        refine ev_iload_n 2 dX12_playTurn_114 rfl ?_
        replace HF := bind_ck HF
        obtain ⟨c58, HF⟩ := HF
        replace HF := bind_o HF
        obtain ⟨h60, e59, HF⟩ := HF
        refine ev_callV (As := [.int x1, .int x2]) (R1 := (none, h60)) (lk_X12_aim (d := 0) (Nat.le_refl _) c58 e59) ce_X12_aim im_X12_aim sl_X12_aim ml_X12_244 cl_X12 c58 dX12_playTurn_115 (by omega) (Nat.le_of_ble_eq_true rfl) rfl rfl ?_
        show EvG _ _ _ _ _ _ _ _ _ _ _ 118 [(0, .ref t), (1, .int x1), (2, .int x2)] [] h60
        exact Ev.sub [0, 1, 2] rfl (lk_X12_playTurn_118 hdd  t x1 x2 _ HF)
      · replace HF := ite_F c57 HF
        refine ev_icmp_neT (tgt := 118) dX12_playTurn_109 (by decide) c57 ?_
        exact Ev.sub [0, 1, 2] rfl (lk_X12_playTurn_118 hdd  t x1 x2 _ HF)
    · replace HF := ite_F c14 HF
      refine ev_icmp_neT (tgt := 41) dX12_playTurn_29 (by decide) c14 ?_
      refine ev_aload_n 0 dX12_playTurn_41 rfl ?_
      replace HF := bind_o HF
      obtain ⟨b62, e63, HF⟩ := HF
      refine ev_gS (f := 1305) cl_X12 (k := 5) (by decide) fi_X12_5 rfl fl_X12_16 dX12_playTurn_42 c7 e63 ?_
      refine ev_iload_n 1 dX12_playTurn_45 rfl ?_
      replace HF := bind_ck HF
      obtain ⟨c64, HF⟩ := HF
      refine ev_iald dX12_playTurn_46 c64.1 c64.2 ?_
      replace HF := bind_ck HF
      obtain ⟨c65, HF⟩ := HF
      refine ev_iast dX12_playTurn_47 c65.1 c65.2 ?_
      replace HF := bd_n HF
      obtain ⟨h66, eh66, HF⟩ := HF
      refine ev_heap eh66 ?_
      have c67 : hK h66 t = 14 := by rw [eh66]; exact c7
      refine ev_aload_n 0 dX12_playTurn_48 rfl ?_
      replace HF := bind_o HF
      obtain ⟨b68, e69, HF⟩ := HF
      refine ev_gS (f := 1343) cl_X12 (k := 43) (by decide) fi_X12_43 rfl fl_X12_96 dX12_playTurn_49 c67 e69 ?_
      show EvG _ _ _ _ _ _ _ _ _ _ _ 52 _ _ _
      refine ev_iload_n 2 dX12_playTurn_52 rfl ?_
      refine ev_bipush (v := 6) dX12_playTurn_53 (by decide) ?_
      refine ev_aload_n 0 dX12_playTurn_55 rfl ?_
      replace HF := bind_o HF
      obtain ⟨b70, e71, HF⟩ := HF
      refine ev_gS (f := 1340) cl_X12 (k := 40) (by decide) fi_X12_40 rfl fl_X12_87 dX12_playTurn_56 c67 e71 ?_
      refine ev_iload_n 2 dX12_playTurn_59 rfl ?_
      replace HF := bind_ck HF
      obtain ⟨c72, HF⟩ := HF
      refine ev_iald dX12_playTurn_60 c72.1 c72.2 ?_
      refine ev_imul dX12_playTurn_61 ?_
      refine ev_iconst (v := 0) dX12_playTurn_62 (by decide) ?_
      show EvG _ _ _ _ _ _ _ _ _ _ _ 63 _ _ _
      replace HF := bind_o HF
      obtain ⟨⟨z75, h74⟩, e73, HF⟩ := HF
      replace HF := bd_o (bd_o HF)
      dsimp only at HF
      refine ev_callS (As := [.int (6 * (hI h66 b70 x2.toNatClampNeg)), .int 0]) (R1 := (some (.int z75), h74)) (lk_X12_table (d := 0) (Nat.le_refl _) e73) ce_X12_table st_X12_table ml_X12_236 dX12_playTurn_63 (by omega) (Nat.le_of_ble_eq_true rfl) rfl rfl ?_
      show EvG _ _ _ _ _ _ _ _ _ _ _ 66 [(0, .ref t), (1, .int x1), (2, .int x2)] [.int z75, .int x2, .ref b68] h74
      replace HF := bind_ck HF
      obtain ⟨c77, HF⟩ := HF
      refine ev_iast dX12_playTurn_66 c77.1 c77.2 ?_
      replace HF := bd_n HF
      obtain ⟨h78, eh78, HF⟩ := HF
      refine ev_heap eh78 ?_
      refine ev_aload_n 0 dX12_playTurn_67 rfl ?_
      replace HF := bind_ck HF
      obtain ⟨c79, HF⟩ := HF
      replace HF := bind_o HF
      obtain ⟨b80, e81, HF⟩ := HF
      refine ev_gS (f := 1345) cl_X12 (k := 45) (by decide) fi_X12_45 rfl fl_X12_102 dX12_playTurn_68 c79 e81 ?_
      refine ev_iload_n 2 dX12_playTurn_71 rfl ?_
      refine ev_iconst (v := 0) dX12_playTurn_72 (by decide) ?_
      replace HF := bind_ck HF
      obtain ⟨c82, HF⟩ := HF
      refine ev_iast dX12_playTurn_73 c82.1 c82.2 ?_
      replace HF := bd_n HF
      obtain ⟨h83, eh83, HF⟩ := HF
      refine ev_heap eh83 ?_
      have c84 : hK h83 t = 14 := by rw [eh83]; exact c79
      refine ev_aload_n 0 dX12_playTurn_74 rfl ?_
      show EvG _ _ _ _ _ _ _ _ _ _ _ 75 _ _ _
      replace HF := bind_o HF
      obtain ⟨b85, e86, HF⟩ := HF
      refine ev_gS (f := 1346) cl_X12 (k := 46) (by decide) fi_X12_46 rfl fl_X12_105 dX12_playTurn_75 c84 e86 ?_
      refine ev_iload_n 2 dX12_playTurn_78 rfl ?_
      refine ev_iconst (v := 1) dX12_playTurn_79 (by decide) ?_
      replace HF := bind_ck HF
      obtain ⟨c87, HF⟩ := HF
      refine ev_iast dX12_playTurn_80 c87.1 c87.2 ?_
      replace HF := bd_n HF
      obtain ⟨h88, eh88, HF⟩ := HF
      refine ev_heap eh88 ?_
      have c89 : hK h88 t = 14 := by rw [eh88]; exact c84
      refine ev_aload_n 0 dX12_playTurn_81 rfl ?_
      replace HF := bind_o HF
      obtain ⟨b90, e91, HF⟩ := HF
      refine ev_gS (f := 1355) cl_X12 (k := 55) (by decide) fi_X12_55 rfl fl_X12_133 dX12_playTurn_82 c89 e91 ?_
      refine ev_bipush (v := 11) dX12_playTurn_85 (by decide) ?_
      refine ev_iload_n 2 dX12_playTurn_87 rfl ?_
      show EvG _ _ _ _ _ _ _ _ _ _ _ 88 _ _ _
      refine ev_imul dX12_playTurn_88 ?_
      refine ev_iconst (v := 1) dX12_playTurn_89 (by decide) ?_
      replace HF := bind_ck HF
      obtain ⟨c92, HF⟩ := HF
      refine ev_iast dX12_playTurn_90 c92.1 c92.2 ?_
      replace HF := bd_n HF
      obtain ⟨h93, eh93, HF⟩ := HF
      refine ev_heap eh93 ?_
      have c94 : hK h93 t = 14 := by rw [eh93]; exact c89
      refine ev_aload_n 0 dX12_playTurn_91 rfl ?_
      replace HF := bind_o HF
      obtain ⟨b95, e96, HF⟩ := HF
      refine ev_gS (f := 1355) cl_X12 (k := 55) (by decide) fi_X12_55 rfl fl_X12_133 dX12_playTurn_92 c94 e96 ?_
      refine ev_bipush (v := 11) dX12_playTurn_95 (by decide) ?_
      refine ev_iload_n 2 dX12_playTurn_97 rfl ?_
      refine ev_imul dX12_playTurn_98 ?_
      show EvG _ _ _ _ _ _ _ _ _ _ _ 99 _ _ _
      refine ev_iconst (v := 1) dX12_playTurn_99 (by decide) ?_
      refine ev_iadd dX12_playTurn_100 ?_
      refine ev_iconst (v := 1) dX12_playTurn_101 (by decide) ?_
      replace HF := bind_ck HF
      obtain ⟨c97, HF⟩ := HF
      refine ev_iast dX12_playTurn_102 c97.1 c97.2 ?_
      replace HF := bd_n HF
      obtain ⟨h98, eh98, HF⟩ := HF
      refine ev_heap eh98 ?_
      have c99 : hK h98 t = 14 := by rw [eh98]; exact c94
      refine ev_iload_n 2 dX12_playTurn_103 rfl ?_
      refine ev_aload_n 0 dX12_playTurn_104 rfl ?_
      refine ev_iload_n 1 dX12_playTurn_105 rfl ?_
      replace HF := bind_o HF
      obtain ⟨⟨z102, h101⟩, e100, HF⟩ := HF
      replace HF := bd_o (bd_o HF)
      dsimp only at HF
      refine ev_callV (As := [.int x1]) (R1 := (some (.int z102), h101)) (lk_X12_lastTurn (d := 0) (Nat.le_refl _) c99 e100) ce_X12_lastTurn im_X12_lastTurn sl_X12_lastTurn ml_X12_240 cl_X12 c99 dX12_playTurn_106 (by omega) (Nat.le_of_ble_eq_true rfl) rfl rfl ?_
      show EvG _ _ _ _ _ _ _ _ _ _ _ 109 [(0, .ref t), (1, .int x1), (2, .int x2)] [.int z102, .int x2] h101
      show EvG _ _ _ _ _ _ _ _ _ _ _ 109 _ _ _
      by_cases c104 : x2 = z102
      · replace HF := ite_T c104 HF
        refine ev_icmp_neF (tgt := 118) dX12_playTurn_109 (by decide) c104 ?_
        refine ev_aload_n 0 dX12_playTurn_112 rfl ?_
        refine ev_iload_n 1 dX12_playTurn_113 rfl ?_
        refine ev_iload_n 2 dX12_playTurn_114 rfl ?_
        replace HF := bind_ck HF
        obtain ⟨c105, HF⟩ := HF
        replace HF := bind_o HF
        obtain ⟨h107, e106, HF⟩ := HF
        refine ev_callV (As := [.int x1, .int x2]) (R1 := (none, h107)) (lk_X12_aim (d := 0) (Nat.le_refl _) c105 e106) ce_X12_aim im_X12_aim sl_X12_aim ml_X12_244 cl_X12 c105 dX12_playTurn_115 (by omega) (Nat.le_of_ble_eq_true rfl) rfl rfl ?_
        show EvG _ _ _ _ _ _ _ _ _ _ _ 118 [(0, .ref t), (1, .int x1), (2, .int x2)] [] h107
        exact Ev.sub [0, 1, 2] rfl (lk_X12_playTurn_118 hdd  t x1 x2 _ HF)
      · replace HF := ite_F c104 HF
        refine ev_icmp_neT (tgt := 118) dX12_playTurn_109 (by decide) c104 ?_
        exact Ev.sub [0, 1, 2] rfl (lk_X12_playTurn_118 hdd  t x1 x2 _ HF)
  · replace HF := ite_F c10 HF
    refine ev_icmp_neT (tgt := 41) dX12_playTurn_19 (by decide) c10 ?_
    refine ev_aload_n 0 dX12_playTurn_41 rfl ?_
    replace HF := bind_o HF
    obtain ⟨b109, e110, HF⟩ := HF
    refine ev_gS (f := 1305) cl_X12 (k := 5) (by decide) fi_X12_5 rfl fl_X12_16 dX12_playTurn_42 c7 e110 ?_
    refine ev_iload_n 1 dX12_playTurn_45 rfl ?_
    replace HF := bind_ck HF
    obtain ⟨c111, HF⟩ := HF
    refine ev_iald dX12_playTurn_46 c111.1 c111.2 ?_
    replace HF := bind_ck HF
    obtain ⟨c112, HF⟩ := HF
    refine ev_iast dX12_playTurn_47 c112.1 c112.2 ?_
    replace HF := bd_n HF
    obtain ⟨h113, eh113, HF⟩ := HF
    refine ev_heap eh113 ?_
    have c114 : hK h113 t = 14 := by rw [eh113]; exact c7
    refine ev_aload_n 0 dX12_playTurn_48 rfl ?_
    replace HF := bind_o HF
    obtain ⟨b115, e116, HF⟩ := HF
    refine ev_gS (f := 1343) cl_X12 (k := 43) (by decide) fi_X12_43 rfl fl_X12_96 dX12_playTurn_49 c114 e116 ?_
    show EvG _ _ _ _ _ _ _ _ _ _ _ 52 _ _ _
    refine ev_iload_n 2 dX12_playTurn_52 rfl ?_
    refine ev_bipush (v := 6) dX12_playTurn_53 (by decide) ?_
    refine ev_aload_n 0 dX12_playTurn_55 rfl ?_
    replace HF := bind_o HF
    obtain ⟨b117, e118, HF⟩ := HF
    refine ev_gS (f := 1340) cl_X12 (k := 40) (by decide) fi_X12_40 rfl fl_X12_87 dX12_playTurn_56 c114 e118 ?_
    refine ev_iload_n 2 dX12_playTurn_59 rfl ?_
    replace HF := bind_ck HF
    obtain ⟨c119, HF⟩ := HF
    refine ev_iald dX12_playTurn_60 c119.1 c119.2 ?_
    refine ev_imul dX12_playTurn_61 ?_
    refine ev_iconst (v := 0) dX12_playTurn_62 (by decide) ?_
    show EvG _ _ _ _ _ _ _ _ _ _ _ 63 _ _ _
    replace HF := bind_o HF
    obtain ⟨⟨z122, h121⟩, e120, HF⟩ := HF
    replace HF := bd_o (bd_o HF)
    dsimp only at HF
    refine ev_callS (As := [.int (6 * (hI h113 b117 x2.toNatClampNeg)), .int 0]) (R1 := (some (.int z122), h121)) (lk_X12_table (d := 0) (Nat.le_refl _) e120) ce_X12_table st_X12_table ml_X12_236 dX12_playTurn_63 (by omega) (Nat.le_of_ble_eq_true rfl) rfl rfl ?_
    show EvG _ _ _ _ _ _ _ _ _ _ _ 66 [(0, .ref t), (1, .int x1), (2, .int x2)] [.int z122, .int x2, .ref b115] h121
    replace HF := bind_ck HF
    obtain ⟨c124, HF⟩ := HF
    refine ev_iast dX12_playTurn_66 c124.1 c124.2 ?_
    replace HF := bd_n HF
    obtain ⟨h125, eh125, HF⟩ := HF
    refine ev_heap eh125 ?_
    refine ev_aload_n 0 dX12_playTurn_67 rfl ?_
    replace HF := bind_ck HF
    obtain ⟨c126, HF⟩ := HF
    replace HF := bind_o HF
    obtain ⟨b127, e128, HF⟩ := HF
    refine ev_gS (f := 1345) cl_X12 (k := 45) (by decide) fi_X12_45 rfl fl_X12_102 dX12_playTurn_68 c126 e128 ?_
    refine ev_iload_n 2 dX12_playTurn_71 rfl ?_
    refine ev_iconst (v := 0) dX12_playTurn_72 (by decide) ?_
    replace HF := bind_ck HF
    obtain ⟨c129, HF⟩ := HF
    refine ev_iast dX12_playTurn_73 c129.1 c129.2 ?_
    replace HF := bd_n HF
    obtain ⟨h130, eh130, HF⟩ := HF
    refine ev_heap eh130 ?_
    have c131 : hK h130 t = 14 := by rw [eh130]; exact c126
    refine ev_aload_n 0 dX12_playTurn_74 rfl ?_
    show EvG _ _ _ _ _ _ _ _ _ _ _ 75 _ _ _
    replace HF := bind_o HF
    obtain ⟨b132, e133, HF⟩ := HF
    refine ev_gS (f := 1346) cl_X12 (k := 46) (by decide) fi_X12_46 rfl fl_X12_105 dX12_playTurn_75 c131 e133 ?_
    refine ev_iload_n 2 dX12_playTurn_78 rfl ?_
    refine ev_iconst (v := 1) dX12_playTurn_79 (by decide) ?_
    replace HF := bind_ck HF
    obtain ⟨c134, HF⟩ := HF
    refine ev_iast dX12_playTurn_80 c134.1 c134.2 ?_
    replace HF := bd_n HF
    obtain ⟨h135, eh135, HF⟩ := HF
    refine ev_heap eh135 ?_
    have c136 : hK h135 t = 14 := by rw [eh135]; exact c131
    refine ev_aload_n 0 dX12_playTurn_81 rfl ?_
    replace HF := bind_o HF
    obtain ⟨b137, e138, HF⟩ := HF
    refine ev_gS (f := 1355) cl_X12 (k := 55) (by decide) fi_X12_55 rfl fl_X12_133 dX12_playTurn_82 c136 e138 ?_
    refine ev_bipush (v := 11) dX12_playTurn_85 (by decide) ?_
    refine ev_iload_n 2 dX12_playTurn_87 rfl ?_
    show EvG _ _ _ _ _ _ _ _ _ _ _ 88 _ _ _
    refine ev_imul dX12_playTurn_88 ?_
    refine ev_iconst (v := 1) dX12_playTurn_89 (by decide) ?_
    replace HF := bind_ck HF
    obtain ⟨c139, HF⟩ := HF
    refine ev_iast dX12_playTurn_90 c139.1 c139.2 ?_
    replace HF := bd_n HF
    obtain ⟨h140, eh140, HF⟩ := HF
    refine ev_heap eh140 ?_
    have c141 : hK h140 t = 14 := by rw [eh140]; exact c136
    refine ev_aload_n 0 dX12_playTurn_91 rfl ?_
    replace HF := bind_o HF
    obtain ⟨b142, e143, HF⟩ := HF
    refine ev_gS (f := 1355) cl_X12 (k := 55) (by decide) fi_X12_55 rfl fl_X12_133 dX12_playTurn_92 c141 e143 ?_
    refine ev_bipush (v := 11) dX12_playTurn_95 (by decide) ?_
    refine ev_iload_n 2 dX12_playTurn_97 rfl ?_
    refine ev_imul dX12_playTurn_98 ?_
    show EvG _ _ _ _ _ _ _ _ _ _ _ 99 _ _ _
    refine ev_iconst (v := 1) dX12_playTurn_99 (by decide) ?_
    refine ev_iadd dX12_playTurn_100 ?_
    refine ev_iconst (v := 1) dX12_playTurn_101 (by decide) ?_
    replace HF := bind_ck HF
    obtain ⟨c144, HF⟩ := HF
    refine ev_iast dX12_playTurn_102 c144.1 c144.2 ?_
    replace HF := bd_n HF
    obtain ⟨h145, eh145, HF⟩ := HF
    refine ev_heap eh145 ?_
    have c146 : hK h145 t = 14 := by rw [eh145]; exact c141
    refine ev_iload_n 2 dX12_playTurn_103 rfl ?_
    refine ev_aload_n 0 dX12_playTurn_104 rfl ?_
    refine ev_iload_n 1 dX12_playTurn_105 rfl ?_
    replace HF := bind_o HF
    obtain ⟨⟨z149, h148⟩, e147, HF⟩ := HF
    replace HF := bd_o (bd_o HF)
    dsimp only at HF
    refine ev_callV (As := [.int x1]) (R1 := (some (.int z149), h148)) (lk_X12_lastTurn (d := 0) (Nat.le_refl _) c146 e147) ce_X12_lastTurn im_X12_lastTurn sl_X12_lastTurn ml_X12_240 cl_X12 c146 dX12_playTurn_106 (by omega) (Nat.le_of_ble_eq_true rfl) rfl rfl ?_
    show EvG _ _ _ _ _ _ _ _ _ _ _ 109 [(0, .ref t), (1, .int x1), (2, .int x2)] [.int z149, .int x2] h148
    show EvG _ _ _ _ _ _ _ _ _ _ _ 109 _ _ _
    by_cases c151 : x2 = z149
    · replace HF := ite_T c151 HF
      refine ev_icmp_neF (tgt := 118) dX12_playTurn_109 (by decide) c151 ?_
      refine ev_aload_n 0 dX12_playTurn_112 rfl ?_
      refine ev_iload_n 1 dX12_playTurn_113 rfl ?_
      refine ev_iload_n 2 dX12_playTurn_114 rfl ?_
      replace HF := bind_ck HF
      obtain ⟨c152, HF⟩ := HF
      replace HF := bind_o HF
      obtain ⟨h154, e153, HF⟩ := HF
      refine ev_callV (As := [.int x1, .int x2]) (R1 := (none, h154)) (lk_X12_aim (d := 0) (Nat.le_refl _) c152 e153) ce_X12_aim im_X12_aim sl_X12_aim ml_X12_244 cl_X12 c152 dX12_playTurn_115 (by omega) (Nat.le_of_ble_eq_true rfl) rfl rfl ?_
      show EvG _ _ _ _ _ _ _ _ _ _ _ 118 [(0, .ref t), (1, .int x1), (2, .int x2)] [] h154
      exact Ev.sub [0, 1, 2] rfl (lk_X12_playTurn_118 hdd  t x1 x2 _ HF)
    · replace HF := ite_F c151 HF
      refine ev_icmp_neT (tgt := 118) dX12_playTurn_109 (by decide) c151 ?_
      exact Ev.sub [0, 1, 2] rfl (lk_X12_playTurn_118 hdd  t x1 x2 _ HF)

set_option maxRecDepth 20000 in
theorem lk_X12_play_207 {g : aG} {l : Launch} {d : Nat} {h0 : aH} (hdd : 5 ≤ d) {r : aH} (k140 : Nat → Int32 → Int32 → aH → Option (aH)) (hk140 : ∀ (t : Nat) (x1 : Int32) (x2 : Int32) (h : aH), k140 t x1 x2 h = some r → Ev g l cX12_play 5 yX12_play (none) d h0 (none, r) 140 [(0, .ref t), (1, .int x1), (2, .int x2)] [] h) (t : Nat) (x1 : Int32) (x2 : Int32) (h : aH) (HF : F_X12_play_207 k140 t x1 x2 h = some r) : Ev g l cX12_play 5 yX12_play (none) d h0 (none, r) 207 [(0, .ref t), (1, .int x1), (2, .int x2)] [] h := by
  unfold F_X12_play_207 at HF
  replace HF := bd_n HF
  obtain ⟨v1, ev1, HF⟩ := HF
  refine ev_iinc (v := v1) (lv' := [(2, .int v1), (0, .ref t), (1, .int x1)]) 2 dX12_play_207 rfl (by rw [ev1]; rfl) (by decide) (rfl) ?_
  refine ev_goto (tgt := 140) dX12_play_210 (by decide) ?_
  exact Ev.sub [1, 2, 0] rfl (hk140 t x1 v1 _ HF)

set_option maxRecDepth 20000 in
theorem lk_X12_play_183 {g : aG} {l : Launch} {d : Nat} {h0 : aH} (hdd : 5 ≤ d) {r : aH} (k140 : Nat → Int32 → Int32 → aH → Option (aH)) (hk140 : ∀ (t : Nat) (x1 : Int32) (x2 : Int32) (h : aH), k140 t x1 x2 h = some r → Ev g l cX12_play 5 yX12_play (none) d h0 (none, r) 140 [(0, .ref t), (1, .int x1), (2, .int x2)] [] h) (t : Nat) (x1 : Int32) (x2 : Int32) (h : aH) (HF : F_X12_play_183 k140 t x1 x2 h = some r) : Ev g l cX12_play 5 yX12_play (none) d h0 (none, r) 183 [(0, .ref t), (1, .int x1), (2, .int x2)] [] h := by
  unfold F_X12_play_183 at HF
  refine ev_aload_n 0 dX12_play_183 rfl ?_
  replace HF := bind_ck HF
  obtain ⟨c1, HF⟩ := HF
  refine ev_gI (f := 1333) cl_X12 (k := 33) (by decide) fi_X12_33 rfl fl_X12_218 dX12_play_184 c1 ?_
  by_cases c2 : hF h 1333 t = 0
  · replace HF := ite_T c2 HF
    refine ev_if_eqT (tgt := 201) dX12_play_187 (by decide) c2 ?_
    refine ev_aload_n 0 dX12_play_201 rfl ?_
    refine ev_iload_n 1 dX12_play_202 rfl ?_
    refine ev_iload_n 2 dX12_play_203 rfl ?_
    replace HF := bind_o HF
    obtain ⟨h4, e3, HF⟩ := HF
    refine ev_callV (As := [.int x1, .int x2]) (R1 := (none, h4)) (lk_X12_playTurn (d := 4) (Nat.le_refl _) c1 e3) ce_X12_playTurn im_X12_playTurn sl_X12_playTurn ml_X12_232 cl_X12 c1 dX12_play_204 (by omega) (Nat.le_of_ble_eq_true rfl) rfl rfl ?_
    show EvG _ _ _ _ _ _ _ _ _ _ _ 207 [(0, .ref t), (1, .int x1), (2, .int x2)] [] h4
    exact Ev.sub [0, 1, 2] rfl (lk_X12_play_207 hdd k140 hk140 t x1 x2 _ HF)
  · replace HF := ite_F c2 HF
    refine ev_if_eqF (tgt := 201) dX12_play_187 (by decide) c2 ?_
    refine ev_aload_n 0 dX12_play_190 rfl ?_
    refine ev_iconst (v := 2) dX12_play_191 (by decide) ?_
    refine ev_iload_n 2 dX12_play_192 rfl ?_
    refine ev_iconst (v := (-1)) dX12_play_193 (by decide) ?_
    refine ev_iconst (v := (-1)) dX12_play_194 (by decide) ?_
    replace HF := bind_o HF
    obtain ⟨h7, e6, HF⟩ := HF
    refine ev_callV (As := [.int 2, .int x2, .int ((-1)), .int ((-1))]) (R1 := (none, h7)) (lk_X12_stop (d := 0) (Nat.le_refl _) c1 e6) ce_X12_stop im_X12_stop sl_X12_stop ml_X12_212 cl_X12 c1 dX12_play_195 (by omega) (Nat.le_of_ble_eq_true rfl) rfl rfl ?_
    show EvG _ _ _ _ _ _ _ _ _ _ _ 198 [(0, .ref t), (1, .int x1), (2, .int x2)] [] h7
    refine ev_goto (tgt := 207) dX12_play_198 (by decide) ?_
    exact Ev.sub [0, 1, 2] rfl (lk_X12_play_207 hdd k140 hk140 t x1 x2 _ HF)

set_option maxRecDepth 20000 in
theorem lk_X12_play_140 {g : aG} {l : Launch} {d : Nat} {h0 : aH} (hdd : 5 ≤ d) {r : aH} : ∀ (n : Nat) (t : Nat) (x1 : Int32) (x2 : Int32) (h : aH), F_X12_play_140  n t x1 x2 h = some r → Ev g l cX12_play 5 yX12_play (none) d h0 (none, r) 140 [(0, .ref t), (1, .int x1), (2, .int x2)] [] h := by
  intro n
  induction n with
  | zero => intro t x1 x2 h HF; cases HF
  | succ n ih =>
  intro t x1 x2 h HF
  unfold F_X12_play_140 at HF
  refine ev_iload_n 2 dX12_play_140 rfl ?_
  refine ev_aload_n 0 dX12_play_141 rfl ?_
  replace HF := bind_ck HF
  obtain ⟨c1, HF⟩ := HF
  replace HF := bind_o HF
  obtain ⟨b2, e3, HF⟩ := HF
  refine ev_gS (f := 1308) cl_X12 (k := 8) (by decide) fi_X12_8 rfl fl_X12_25 dX12_play_142 c1 e3 ?_
  refine ev_iload_n 1 dX12_play_145 rfl ?_
  replace HF := bind_ck HF
  obtain ⟨c4, HF⟩ := HF
  refine ev_iald dX12_play_146 c4.1 c4.2 ?_
  by_cases c5 : hI h b2 x1.toNatClampNeg ≤ x2
  · replace HF := ite_T c5 HF
    refine ev_icmp_geT (tgt := 213) dX12_play_147 (by decide) c5 ?_
    obtain rfl := Option.some.inj HF
    exact ev_vret dX12_play_213
  · replace HF := ite_F c5 HF
    refine ev_icmp_geF (tgt := 213) dX12_play_147 (by decide) c5 ?_
    refine ev_aload_n 0 dX12_play_150 rfl ?_
    refine ev_gI (f := 1328) cl_X12 (k := 28) (by decide) fi_X12_28 rfl fl_X12_200 dX12_play_151 c1 ?_
    by_cases c6 : hF h 1328 t = 0
    · replace HF := ite_T c6 HF
      refine ev_if_neF (tgt := 213) dX12_play_154 (by decide) c6 ?_
      refine ev_iload_n 2 dX12_play_157 rfl ?_
      by_cases c7 : x2 ≤ 0
      · replace HF := ite_T c7 HF
        refine ev_if_leT (tgt := 183) dX12_play_158 (by decide) c7 ?_
        exact Ev.sub [0, 1, 2] rfl (lk_X12_play_183 hdd (F_X12_play_140 n) ih t x1 x2 _ HF)
      · replace HF := ite_F c7 HF
        refine ev_if_leF (tgt := 183) dX12_play_158 (by decide) c7 ?_
        refine ev_aload_n 0 dX12_play_161 rfl ?_
        replace HF := bind_o HF
        obtain ⟨b8, e9, HF⟩ := HF
        refine ev_gS (f := 1341) cl_X12 (k := 41) (by decide) fi_X12_41 rfl fl_X12_90 dX12_play_162 c1 e9 ?_
        refine ev_iload_n 2 dX12_play_165 rfl ?_
        refine ev_iconst (v := 1) dX12_play_166 (by decide) ?_
        refine ev_isub dX12_play_167 ?_
        replace HF := bind_ck HF
        obtain ⟨c10, HF⟩ := HF
        refine ev_iald dX12_play_168 c10.1 c10.2 ?_
        by_cases c11 : hI h b8 (x2 - 1).toNatClampNeg = 0
        · replace HF := ite_T c11 HF
          refine ev_if_neF (tgt := 183) dX12_play_169 (by decide) c11 ?_
          refine ev_aload_n 0 dX12_play_172 rfl ?_
          refine ev_iconst (v := 1) dX12_play_173 (by decide) ?_
          refine ev_iload_n 2 dX12_play_174 rfl ?_
          refine ev_iconst (v := (-1)) dX12_play_175 (by decide) ?_
          refine ev_iconst (v := (-1)) dX12_play_176 (by decide) ?_
          replace HF := bind_o HF
          obtain ⟨h13, e12, HF⟩ := HF
          refine ev_callV (As := [.int 1, .int x2, .int ((-1)), .int ((-1))]) (R1 := (none, h13)) (lk_X12_stop (d := 0) (Nat.le_refl _) c1 e12) ce_X12_stop im_X12_stop sl_X12_stop ml_X12_212 cl_X12 c1 dX12_play_177 (by omega) (Nat.le_of_ble_eq_true rfl) rfl rfl ?_
          show EvG _ _ _ _ _ _ _ _ _ _ _ 180 [(0, .ref t), (1, .int x1), (2, .int x2)] [] h13
          refine ev_goto (tgt := 207) dX12_play_180 (by decide) ?_
          exact Ev.sub [0, 1, 2] rfl (lk_X12_play_207 hdd (F_X12_play_140 n) ih t x1 x2 _ HF)
        · replace HF := ite_F c11 HF
          refine ev_if_neT (tgt := 183) dX12_play_169 (by decide) c11 ?_
          exact Ev.sub [0, 1, 2] rfl (lk_X12_play_183 hdd (F_X12_play_140 n) ih t x1 x2 _ HF)
    · replace HF := ite_F c6 HF
      refine ev_if_neT (tgt := 213) dX12_play_154 (by decide) c6 ?_
      obtain rfl := Option.some.inj HF
      exact ev_vret dX12_play_213

set_option maxRecDepth 20000 in
theorem lk_X12_play_55 {g : aG} {l : Launch} {d : Nat} {h0 : aH} (hdd : 5 ≤ d) {r : aH} (k43 : Nat → Int32 → Int32 → aH → Option (aH)) (hk43 : ∀ (t : Nat) (x1 : Int32) (x2 : Int32) (h : aH), k43 t x1 x2 h = some r → Ev g l cX12_play 5 yX12_play (none) d h0 (none, r) 43 [(0, .ref t), (1, .int x1), (2, .int x2)] [] h) : ∀ (n : Nat) (t : Nat) (x1 : Int32) (x2 : Int32) (x3 : Int32) (h : aH), F_X12_play_55 k43 n t x1 x2 x3 h = some r → Ev g l cX12_play 5 yX12_play (none) d h0 (none, r) 55 [(0, .ref t), (1, .int x1), (2, .int x2), (3, .int x3)] [] h := by
  intro n
  induction n with
  | zero => intro t x1 x2 x3 h HF; cases HF
  | succ n ih =>
  intro t x1 x2 x3 h HF
  unfold F_X12_play_55 at HF
  refine ev_iload_n 3 dX12_play_55 rfl ?_
  refine ev_aload_n 0 dX12_play_56 rfl ?_
  replace HF := bind_ck HF
  obtain ⟨c1, HF⟩ := HF
  replace HF := bind_o HF
  obtain ⟨b2, e3, HF⟩ := HF
  refine ev_gS (f := 1309) cl_X12 (k := 9) (by decide) fi_X12_9 rfl fl_X12_28 dX12_play_57 c1 e3 ?_
  refine ev_iconst (v := 4) dX12_play_60 (by decide) ?_
  refine ev_iload_n 1 dX12_play_61 rfl ?_
  refine ev_imul dX12_play_62 ?_
  refine ev_iload_n 2 dX12_play_63 rfl ?_
  show EvG _ _ _ _ _ _ _ _ _ _ _ 64 _ _ _
  refine ev_iadd dX12_play_64 ?_
  replace HF := bind_ck HF
  obtain ⟨c4, HF⟩ := HF
  refine ev_iald dX12_play_65 c4.1 c4.2 ?_
  by_cases c5 : hI h b2 ((4 * x1) + x2).toNatClampNeg ≤ x3
  · replace HF := ite_T c5 HF
    refine ev_icmp_geT (tgt := 132) dX12_play_66 (by decide) c5 ?_
    replace HF := bd_n HF
    obtain ⟨v6, ev6, HF⟩ := HF
    refine ev_iinc (v := v6) (lv' := [(2, .int v6), (0, .ref t), (1, .int x1), (3, .int x3)]) 2 dX12_play_132 rfl (by rw [ev6]; rfl) (by decide) (rfl) ?_
    refine ev_goto (tgt := 43) dX12_play_135 (by decide) ?_
    exact Ev.sub [1, 2, 0] rfl (hk43 t x1 v6 _ HF)
  · replace HF := ite_F c5 HF
    refine ev_icmp_geF (tgt := 132) dX12_play_66 (by decide) c5 ?_
    refine ev_aload_n 0 dX12_play_69 rfl ?_
    refine ev_iload_n 1 dX12_play_70 rfl ?_
    refine ev_iload_n 2 dX12_play_71 rfl ?_
    refine ev_iload_n 3 dX12_play_72 rfl ?_
    replace HF := bind_o HF
    obtain ⟨⟨z9, h8⟩, e7, HF⟩ := HF
    replace HF := bd_o (bd_o HF)
    dsimp only at HF
    refine ev_callV (As := [.int x1, .int x2, .int x3]) (R1 := (some (.int z9), h8)) (lk_X12_rowOf (d := 0) (Nat.le_refl _) c1 e7) ce_X12_rowOf im_X12_rowOf sl_X12_rowOf ml_X12_228 cl_X12 c1 dX12_play_73 (by omega) (Nat.le_of_ble_eq_true rfl) rfl rfl ?_
    show EvG _ _ _ _ _ _ _ _ _ _ _ 76 [(0, .ref t), (1, .int x1), (2, .int x2), (3, .int x3)] [.int z9] h8
    refine ev_istore (lv' := [(4, .int z9), (0, .ref t), (1, .int x1), (2, .int x2), (3, .int x3)]) dX12_play_76 (by decide) (rfl) ?_
    refine ev_aload_n 1 dX12_play_78 rfl ?_
    show EvG _ _ _ _ _ _ _ _ _ _ _ 79 _ _ _
    replace HF := bind_ck HF
    obtain ⟨c11, HF⟩ := HF
    replace HF := bind_o HF
    obtain ⟨b12, e13, HF⟩ := HF
    refine ev_gS (f := 1359) cl_X12 (k := 59) (by decide) fi_X12_59 rfl fl_X12_145 dX12_play_79 c11 e13 ?_
    refine ev_iload 0 dX12_play_82 rfl ?_
    refine ev_iconst (v := 0) dX12_play_84 (by decide) ?_
    replace HF := bind_ck HF
    obtain ⟨c14, HF⟩ := HF
    refine ev_iast dX12_play_85 c14.1 c14.2 ?_
    replace HF := bd_n HF
    obtain ⟨h15, eh15, HF⟩ := HF
    refine ev_heap eh15 ?_
    have c16 : hK h15 t = 14 := by rw [eh15]; exact c11
    refine ev_aload_n 1 dX12_play_86 rfl ?_
    replace HF := bind_o HF
    obtain ⟨b17, e18, HF⟩ := HF
    refine ev_gS (f := 1360) cl_X12 (k := 60) (by decide) fi_X12_60 rfl fl_X12_148 dX12_play_87 c16 e18 ?_
    refine ev_iload 0 dX12_play_90 rfl ?_
    refine ev_iconst (v := 0) dX12_play_92 (by decide) ?_
    show EvG _ _ _ _ _ _ _ _ _ _ _ 93 _ _ _
    replace HF := bind_ck HF
    obtain ⟨c19, HF⟩ := HF
    refine ev_iast dX12_play_93 c19.1 c19.2 ?_
    replace HF := bd_n HF
    obtain ⟨h20, eh20, HF⟩ := HF
    refine ev_heap eh20 ?_
    have c21 : hK h20 t = 14 := by rw [eh20]; exact c16
    refine ev_aload_n 1 dX12_play_94 rfl ?_
    replace HF := bind_o HF
    obtain ⟨b22, e23, HF⟩ := HF
    refine ev_gS (f := 1361) cl_X12 (k := 61) (by decide) fi_X12_61 rfl fl_X12_151 dX12_play_95 c21 e23 ?_
    refine ev_iload 0 dX12_play_98 rfl ?_
    refine ev_iconst (v := 0) dX12_play_100 (by decide) ?_
    replace HF := bind_ck HF
    obtain ⟨c24, HF⟩ := HF
    refine ev_iast dX12_play_101 c24.1 c24.2 ?_
    replace HF := bd_n HF
    obtain ⟨h25, eh25, HF⟩ := HF
    refine ev_heap eh25 ?_
    have c26 : hK h25 t = 14 := by rw [eh25]; exact c21
    refine ev_aload_n 1 dX12_play_102 rfl ?_
    replace HF := bind_o HF
    obtain ⟨b27, e28, HF⟩ := HF
    refine ev_gS (f := 1362) cl_X12 (k := 62) (by decide) fi_X12_62 rfl fl_X12_154 dX12_play_103 c26 e28 ?_
    show EvG _ _ _ _ _ _ _ _ _ _ _ 106 _ _ _
    refine ev_iload 0 dX12_play_106 rfl ?_
    refine ev_iconst (v := 0) dX12_play_108 (by decide) ?_
    replace HF := bind_ck HF
    obtain ⟨c29, HF⟩ := HF
    refine ev_bast dX12_play_109 c29.1 c29.2 rfl ?_
    replace HF := bd_n HF
    obtain ⟨h30, eh30, HF⟩ := HF
    refine ev_heap eh30 ?_
    have c31 : hK h30 t = 14 := by rw [eh30]; exact c26
    refine ev_aload_n 1 dX12_play_110 rfl ?_
    replace HF := bind_o HF
    obtain ⟨b32, e33, HF⟩ := HF
    refine ev_gS (f := 1363) cl_X12 (k := 63) (by decide) fi_X12_63 rfl fl_X12_157 dX12_play_111 c31 e33 ?_
    refine ev_iload 0 dX12_play_114 rfl ?_
    refine ev_iconst (v := 0) dX12_play_116 (by decide) ?_
    replace HF := bind_ck HF
    obtain ⟨c34, HF⟩ := HF
    refine ev_bast dX12_play_117 c34.1 c34.2 rfl ?_
    replace HF := bd_n HF
    obtain ⟨h35, eh35, HF⟩ := HF
    refine ev_heap eh35 ?_
    have c36 : hK h35 t = 14 := by rw [eh35]; exact c31
    show EvG _ _ _ _ _ _ _ _ _ _ _ 118 _ _ _
    refine ev_aload_n 1 dX12_play_118 rfl ?_
    replace HF := bind_o HF
    obtain ⟨b37, e38, HF⟩ := HF
    refine ev_gS (f := 1364) cl_X12 (k := 64) (by decide) fi_X12_64 rfl fl_X12_160 dX12_play_119 c36 e38 ?_
    refine ev_iload 0 dX12_play_122 rfl ?_
    refine ev_iconst (v := 0) dX12_play_124 (by decide) ?_
    replace HF := bind_ck HF
    obtain ⟨c39, HF⟩ := HF
    refine ev_bast dX12_play_125 c39.1 c39.2 rfl ?_
    replace HF := bd_n HF
    obtain ⟨h40, eh40, HF⟩ := HF
    refine ev_heap eh40 ?_
    have c41 : hK h40 t = 14 := by rw [eh40]; exact c36
    replace HF := bd_n HF
    obtain ⟨v42, ev42, HF⟩ := HF
    refine ev_iinc (v := v42) (lv' := [(3, .int v42), (4, .int z9), (0, .ref t), (1, .int x1), (2, .int x2)]) 4 dX12_play_126 rfl (by rw [ev42]; rfl) (by decide) (rfl) ?_
    refine ev_goto (tgt := 55) dX12_play_129 (by decide) ?_
    exact Ev.sub [2, 3, 4, 0] rfl (ih t x1 x2 v42 _ HF)

set_option maxRecDepth 20000 in
theorem lk_X12_play_43 {g : aG} {l : Launch} {d : Nat} {h0 : aH} (hdd : 5 ≤ d) {r : aH} : ∀ (n : Nat) (t : Nat) (x1 : Int32) (x2 : Int32) (h : aH), F_X12_play_43  n t x1 x2 h = some r → Ev g l cX12_play 5 yX12_play (none) d h0 (none, r) 43 [(0, .ref t), (1, .int x1), (2, .int x2)] [] h := by
  intro n
  induction n with
  | zero => intro t x1 x2 h HF; cases HF
  | succ n ih =>
  intro t x1 x2 h HF
  unfold F_X12_play_43 at HF
  refine ev_iload_n 2 dX12_play_43 rfl ?_
  refine ev_aload_n 0 dX12_play_44 rfl ?_
  replace HF := bind_ck HF
  obtain ⟨c1, HF⟩ := HF
  replace HF := bind_o HF
  obtain ⟨b2, e3, HF⟩ := HF
  refine ev_gS (f := 1308) cl_X12 (k := 8) (by decide) fi_X12_8 rfl fl_X12_25 dX12_play_45 c1 e3 ?_
  refine ev_iload_n 1 dX12_play_48 rfl ?_
  replace HF := bind_ck HF
  obtain ⟨c4, HF⟩ := HF
  refine ev_iald dX12_play_49 c4.1 c4.2 ?_
  by_cases c5 : hI h b2 x1.toNatClampNeg ≤ x2
  · replace HF := ite_T c5 HF
    refine ev_icmp_geT (tgt := 138) dX12_play_50 (by decide) c5 ?_
    refine ev_iconst (v := 0) dX12_play_138 (by decide) ?_
    refine ev_istore_n (lv' := [(2, .int 0), (0, .ref t), (1, .int x1)]) dX12_play_139 (by decide) (rfl) ?_
    exact Ev.sub [1, 2, 0] rfl (lk_X12_play_140 hdd  fu t x1 0 _ HF)
  · replace HF := ite_F c5 HF
    refine ev_icmp_geF (tgt := 138) dX12_play_50 (by decide) c5 ?_
    refine ev_iconst (v := 0) dX12_play_53 (by decide) ?_
    refine ev_istore_n (lv' := [(3, .int 0), (0, .ref t), (1, .int x1), (2, .int x2)]) dX12_play_54 (by decide) (rfl) ?_
    exact Ev.sub [1, 2, 3, 0] rfl (lk_X12_play_55 hdd (F_X12_play_43 n) ih fu t x1 x2 0 _ HF)

set_option maxRecDepth 20000 in
theorem lk_X12_play_25 {g : aG} {l : Launch} {d : Nat} {h0 : aH} (hdd : 5 ≤ d) {r : aH} : ∀ (n : Nat) (t : Nat) (x1 : Int32) (x2 : Int32) (h : aH), F_X12_play_25  n t x1 x2 h = some r → Ev g l cX12_play 5 yX12_play (none) d h0 (none, r) 25 [(0, .ref t), (1, .int x1), (2, .int x2)] [] h := by
  intro n
  induction n with
  | zero => intro t x1 x2 h HF; cases HF
  | succ n ih =>
  intro t x1 x2 h HF
  unfold F_X12_play_25 at HF
  refine ev_iload_n 2 dX12_play_25 rfl ?_
  refine ev_iconst (v := 4) dX12_play_26 (by decide) ?_
  by_cases c1 : 4 ≤ x2
  · replace HF := ite_T c1 HF
    refine ev_icmp_geT (tgt := 41) dX12_play_27 (by decide) c1 ?_
    refine ev_iconst (v := 0) dX12_play_41 (by decide) ?_
    refine ev_istore_n (lv' := [(2, .int 0), (0, .ref t), (1, .int x1)]) dX12_play_42 (by decide) (rfl) ?_
    exact Ev.sub [1, 2, 0] rfl (lk_X12_play_43 hdd  fu t x1 0 _ HF)
  · replace HF := ite_F c1 HF
    refine ev_icmp_geF (tgt := 41) dX12_play_27 (by decide) c1 ?_
    refine ev_aload_n 0 dX12_play_30 rfl ?_
    refine ev_iload_n 2 dX12_play_31 rfl ?_
    replace HF := bind_ck HF
    obtain ⟨c2, HF⟩ := HF
    replace HF := bind_o HF
    obtain ⟨h4, e3, HF⟩ := HF
    refine ev_callV (As := [.int x2]) (R1 := (none, h4)) (lk_X12_clearTurn (d := 0) (Nat.le_refl _) c2 e3) ce_X12_clearTurn im_X12_clearTurn sl_X12_clearTurn ml_X12_224 cl_X12 c2 dX12_play_32 (by omega) (Nat.le_of_ble_eq_true rfl) rfl rfl ?_
    show EvG _ _ _ _ _ _ _ _ _ _ _ 35 [(0, .ref t), (1, .int x1), (2, .int x2)] [] h4
    replace HF := bd_n HF
    obtain ⟨v6, ev6, HF⟩ := HF
    refine ev_iinc (v := v6) (lv' := [(2, .int v6), (0, .ref t), (1, .int x1)]) 2 dX12_play_35 rfl (by rw [ev6]; rfl) (by decide) (rfl) ?_
    refine ev_goto (tgt := 25) dX12_play_38 (by decide) ?_
    exact Ev.sub [1, 2, 0] rfl (ih t x1 v6 _ HF)

set_option maxRecDepth 20000 in
theorem lk_X12_play {g : aG} {l : Launch} {d : Nat} (hdd : 5 ≤ d) {t : Nat} {x1 : Int32} {h : aH} {r : aH} (hT : hK h t = 14) (HF : F_X12_play t x1 h = some r) : MA g l yX12_play cX12_play 5 (none) d [.ref t, .int x1] h (none, r) := by
  refine MA.of (lv0 := [(0, .ref t), (1, .int x1)]) (by decide +kernel) (rfl) (Nat.le_of_ble_eq_true rfl) ?_
  unfold F_X12_play at HF
  refine ev_aload_n 0 dX12_play_0 rfl ?_
  refine ev_iconst (v := 0) dX12_play_1 (by decide) ?_
  refine ev_iconst (v := (-1)) dX12_play_2 (by decide) ?_
  refine ev_iconst (v := (-1)) dX12_play_3 (by decide) ?_
  refine ev_iconst (v := (-1)) dX12_play_4 (by decide) ?_
  replace HF := bind_o HF
  obtain ⟨h2, e1, HF⟩ := HF
  refine ev_callV (As := [.int 0, .int ((-1)), .int ((-1)), .int ((-1))]) (R1 := (none, h2)) (lk_X12_stop (d := 0) (Nat.le_refl _) hT e1) ce_X12_stop im_X12_stop sl_X12_stop ml_X12_212 cl_X12 hT dX12_play_5 (by omega) (Nat.le_of_ble_eq_true rfl) rfl rfl ?_
  show EvG _ _ _ _ _ _ _ _ _ _ _ 8 [(0, .ref t), (1, .int x1)] [] h2
  refine ev_aload_n 0 dX12_play_8 rfl ?_
  show EvG _ _ _ _ _ _ _ _ _ _ _ 9 _ _ _
  refine ev_iconst (v := (-1)) dX12_play_9 (by decide) ?_
  replace HF := bind_ck HF
  obtain ⟨c4, HF⟩ := HF
  refine ev_pI (f := 1332) cl_X12 (k := 32) (by decide) fi_X12_32 rfl fl_X12_215 rfl rfl rfl dX12_play_10 c4 ?_
  replace HF := bd_n HF
  obtain ⟨h5, eh5, HF⟩ := HF
  refine ev_heap eh5 ?_
  have c6 : hK h5 t = 14 := by rw [eh5]; exact c4
  refine ev_aload_n 0 dX12_play_13 rfl ?_
  refine ev_iconst (v := 0) dX12_play_14 (by decide) ?_
  refine ev_pI (f := 1333) cl_X12 (k := 33) (by decide) fi_X12_33 rfl fl_X12_218 rfl rfl rfl dX12_play_15 c6 ?_
  replace HF := bd_n HF
  obtain ⟨h7, eh7, HF⟩ := HF
  refine ev_heap eh7 ?_
  have c8 : hK h7 t = 14 := by rw [eh7]; exact c6
  refine ev_aload_n 0 dX12_play_18 rfl ?_
  refine ev_iconst (v := (-1)) dX12_play_19 (by decide) ?_
  refine ev_pI (f := 1334) cl_X12 (k := 34) (by decide) fi_X12_34 rfl fl_X12_221 rfl rfl rfl dX12_play_20 c8 ?_
  replace HF := bd_n HF
  obtain ⟨h9, eh9, HF⟩ := HF
  refine ev_heap eh9 ?_
  have c10 : hK h9 t = 14 := by rw [eh9]; exact c8
  show EvG _ _ _ _ _ _ _ _ _ _ _ 23 _ _ _
  refine ev_iconst (v := 0) dX12_play_23 (by decide) ?_
  refine ev_istore_n (lv' := [(2, .int 0), (0, .ref t), (1, .int x1)]) dX12_play_24 (by decide) (rfl) ?_
  exact Ev.sub [1, 2, 0] rfl (lk_X12_play_25 hdd  fu t x1 0 _ HF)

set_option maxRecDepth 20000 in
theorem lk_X12_done_175 {g : aG} {l : Launch} {d : Nat} {h0 : aH} (hdd : 0 ≤ d) {r : aH} (t : Nat) (x1 : Int32) (x2 : Int32) (x3 : Int32) (x4 : Int32) (x5 : Int32) (h : aH) (HF : F_X12_done_175  t x1 x2 x3 x4 x5 h = some r) : Ev g l cX12_done 8 yX12_done (none) d h0 (none, r) 175 [(0, .ref t), (1, .int x1), (2, .int x2), (3, .int x3), (4, .int x4), (5, .int x5)] [] h := by
  unfold F_X12_done_175 at HF
  refine ev_aload_n 0 dX12_done_175 rfl ?_
  replace HF := bind_ck HF
  obtain ⟨c1, HF⟩ := HF
  replace HF := bind_o HF
  obtain ⟨b2, e3, HF⟩ := HF
  refine ev_gS (f := 1321) cl_X12 (k := 21) (by decide) fi_X12_21 rfl fl_X12_51 dX12_done_176 c1 e3 ?_
  refine ev_aload_n 0 dX12_done_179 rfl ?_
  refine ev_gI (f := 1320) cl_X12 (k := 20) (by decide) fi_X12_20 rfl fl_X12_291 dX12_done_180 c1 ?_
  refine ev_iload_n 1 dX12_done_183 rfl ?_
  replace HF := bind_ck HF
  obtain ⟨c4, HF⟩ := HF
  refine ev_iast dX12_done_184 c4.1 c4.2 ?_
  replace HF := bd_n HF
  obtain ⟨h5, eh5, HF⟩ := HF
  refine ev_heap eh5 ?_
  have c6 : hK h5 t = 14 := by rw [eh5]; exact c1
  refine ev_aload_n 0 dX12_done_185 rfl ?_
  show EvG _ _ _ _ _ _ _ _ _ _ _ 186 _ _ _
  replace HF := bind_o HF
  obtain ⟨b7, e8, HF⟩ := HF
  refine ev_gS (f := 1322) cl_X12 (k := 22) (by decide) fi_X12_22 rfl fl_X12_54 dX12_done_186 c6 e8 ?_
  refine ev_aload_n 0 dX12_done_189 rfl ?_
  refine ev_gI (f := 1320) cl_X12 (k := 20) (by decide) fi_X12_20 rfl fl_X12_291 dX12_done_190 c6 ?_
  refine ev_iload_n 2 dX12_done_193 rfl ?_
  replace HF := bind_ck HF
  obtain ⟨c9, HF⟩ := HF
  refine ev_iast dX12_done_194 c9.1 c9.2 ?_
  replace HF := bd_n HF
  obtain ⟨h10, eh10, HF⟩ := HF
  refine ev_heap eh10 ?_
  have c11 : hK h10 t = 14 := by rw [eh10]; exact c6
  refine ev_aload_n 0 dX12_done_195 rfl ?_
  replace HF := bind_o HF
  obtain ⟨b12, e13, HF⟩ := HF
  refine ev_gS (f := 1323) cl_X12 (k := 23) (by decide) fi_X12_23 rfl fl_X12_57 dX12_done_196 c11 e13 ?_
  refine ev_aload_n 0 dX12_done_199 rfl ?_
  show EvG _ _ _ _ _ _ _ _ _ _ _ 200 _ _ _
  refine ev_gI (f := 1320) cl_X12 (k := 20) (by decide) fi_X12_20 rfl fl_X12_291 dX12_done_200 c11 ?_
  refine ev_iload_n 3 dX12_done_203 rfl ?_
  replace HF := bind_ck HF
  obtain ⟨c14, HF⟩ := HF
  refine ev_iast dX12_done_204 c14.1 c14.2 ?_
  replace HF := bd_n HF
  obtain ⟨h15, eh15, HF⟩ := HF
  refine ev_heap eh15 ?_
  have c16 : hK h15 t = 14 := by rw [eh15]; exact c11
  refine ev_aload_n 0 dX12_done_205 rfl ?_
  replace HF := bind_o HF
  obtain ⟨b17, e18, HF⟩ := HF
  refine ev_gS (f := 1324) cl_X12 (k := 24) (by decide) fi_X12_24 rfl fl_X12_60 dX12_done_206 c16 e18 ?_
  refine ev_aload_n 0 dX12_done_209 rfl ?_
  refine ev_gI (f := 1320) cl_X12 (k := 20) (by decide) fi_X12_20 rfl fl_X12_291 dX12_done_210 c16 ?_
  refine ev_iload 4 dX12_done_213 rfl ?_
  show EvG _ _ _ _ _ _ _ _ _ _ _ 215 _ _ _
  replace HF := bind_ck HF
  obtain ⟨c19, HF⟩ := HF
  refine ev_iast dX12_done_215 c19.1 c19.2 ?_
  replace HF := bd_n HF
  obtain ⟨h20, eh20, HF⟩ := HF
  refine ev_heap eh20 ?_
  have c21 : hK h20 t = 14 := by rw [eh20]; exact c16
  refine ev_aload_n 0 dX12_done_216 rfl ?_
  replace HF := bind_o HF
  obtain ⟨b22, e23, HF⟩ := HF
  refine ev_gS (f := 1325) cl_X12 (k := 25) (by decide) fi_X12_25 rfl fl_X12_63 dX12_done_217 c21 e23 ?_
  refine ev_aload_n 0 dX12_done_220 rfl ?_
  refine ev_gI (f := 1320) cl_X12 (k := 20) (by decide) fi_X12_20 rfl fl_X12_291 dX12_done_221 c21 ?_
  refine ev_iload 5 dX12_done_224 rfl ?_
  replace HF := bind_ck HF
  obtain ⟨c24, HF⟩ := HF
  refine ev_iast dX12_done_226 c24.1 c24.2 ?_
  replace HF := bd_n HF
  obtain ⟨h25, eh25, HF⟩ := HF
  refine ev_heap eh25 ?_
  have c26 : hK h25 t = 14 := by rw [eh25]; exact c21
  refine ev_aload_n 0 dX12_done_227 rfl ?_
  show EvG _ _ _ _ _ _ _ _ _ _ _ 228 _ _ _
  refine ev_dup dX12_done_228 rfl ?_
  refine ev_gI (f := 1320) cl_X12 (k := 20) (by decide) fi_X12_20 rfl fl_X12_291 dX12_done_229 c26 ?_
  refine ev_iconst (v := 1) dX12_done_232 (by decide) ?_
  refine ev_iadd dX12_done_233 ?_
  refine ev_pI (f := 1320) cl_X12 (k := 20) (by decide) fi_X12_20 rfl fl_X12_291 rfl rfl rfl dX12_done_234 c26 ?_
  replace HF := bd_n HF
  obtain ⟨h27, eh27, HF⟩ := HF
  refine ev_heap eh27 ?_
  have c28 : hK h27 t = 14 := by rw [eh27]; exact c26
  obtain rfl := Option.some.inj HF
  exact ev_vret dX12_done_237

set_option maxRecDepth 20000 in
theorem lk_X12_done_118 {g : aG} {l : Launch} {d : Nat} {h0 : aH} (hdd : 0 ≤ d) {r : aH} (k12 : Nat → Int32 → Int32 → Int32 → Int32 → Int32 → Int32 → aH → Option (aH)) (hk12 : ∀ (t : Nat) (x1 : Int32) (x2 : Int32) (x3 : Int32) (x4 : Int32) (x5 : Int32) (x6 : Int32) (h : aH), k12 t x1 x2 x3 x4 x5 x6 h = some r → Ev g l cX12_done 8 yX12_done (none) d h0 (none, r) 12 [(0, .ref t), (1, .int x1), (2, .int x2), (3, .int x3), (4, .int x4), (5, .int x5), (6, .int x6)] [] h) : ∀ (n : Nat) (t : Nat) (x1 : Int32) (x2 : Int32) (x3 : Int32) (x4 : Int32) (x5 : Int32) (x6 : Int32) (x7 : Int32) (h : aH), F_X12_done_118 k12 n t x1 x2 x3 x4 x5 x6 x7 h = some r → Ev g l cX12_done 8 yX12_done (none) d h0 (none, r) 118 [(0, .ref t), (1, .int x1), (2, .int x2), (3, .int x3), (4, .int x4), (5, .int x5), (6, .int x6), (7, .int x7)] [] h := by
  intro n
  induction n with
  | zero => intro t x1 x2 x3 x4 x5 x6 x7 h HF; cases HF
  | succ n ih =>
  intro t x1 x2 x3 x4 x5 x6 x7 h HF
  unfold F_X12_done_118 at HF
  refine ev_iload 7 dX12_done_118 rfl ?_
  refine ev_bipush (v := 40) dX12_done_120 (by decide) ?_
  by_cases c1 : 40 ≤ x7
  · replace HF := ite_T c1 HF
    refine ev_icmp_geT (tgt := 159) dX12_done_122 (by decide) c1 ?_
    replace HF := bd_n HF
    obtain ⟨v2, ev2, HF⟩ := HF
    refine ev_iinc (v := v2) (lv' := [(6, .int v2), (0, .ref t), (1, .int x1), (2, .int x2), (3, .int x3), (4, .int x4), (5, .int x5), (7, .int x7)]) 6 dX12_done_159 rfl (by rw [ev2]; rfl) (by decide) (rfl) ?_
    refine ev_goto (tgt := 12) dX12_done_162 (by decide) ?_
    exact Ev.sub [1, 2, 3, 4, 5, 6, 0] rfl (hk12 t x1 x2 x3 x4 x5 v2 _ HF)
  · replace HF := ite_F c1 HF
    refine ev_icmp_geF (tgt := 159) dX12_done_122 (by decide) c1 ?_
    refine ev_aload_n 0 dX12_done_125 rfl ?_
    replace HF := bind_ck HF
    obtain ⟨c3, HF⟩ := HF
    replace HF := bind_o HF
    obtain ⟨b4, e5, HF⟩ := HF
    refine ev_gS (f := 1327) cl_X12 (k := 27) (by decide) fi_X12_27 rfl fl_X12_69 dX12_done_126 c3 e5 ?_
    refine ev_bipush (v := 40) dX12_done_129 (by decide) ?_
    refine ev_iload 6 dX12_done_131 rfl ?_
    refine ev_iconst (v := 1) dX12_done_133 (by decide) ?_
    refine ev_isub dX12_done_134 ?_
    refine ev_imul dX12_done_135 ?_
    show EvG _ _ _ _ _ _ _ _ _ _ _ 136 _ _ _
    refine ev_iload 7 dX12_done_136 rfl ?_
    refine ev_iadd dX12_done_138 ?_
    refine ev_aload_n 0 dX12_done_139 rfl ?_
    replace HF := bind_o HF
    obtain ⟨b6, e7, HF⟩ := HF
    refine ev_gS (f := 1327) cl_X12 (k := 27) (by decide) fi_X12_27 rfl fl_X12_69 dX12_done_140 c3 e7 ?_
    refine ev_bipush (v := 40) dX12_done_143 (by decide) ?_
    refine ev_iload 6 dX12_done_145 rfl ?_
    refine ev_imul dX12_done_147 ?_
    refine ev_iload 7 dX12_done_148 rfl ?_
    show EvG _ _ _ _ _ _ _ _ _ _ _ 150 _ _ _
    refine ev_iadd dX12_done_150 ?_
    replace HF := bind_ck HF
    obtain ⟨c8, HF⟩ := HF
    refine ev_iald dX12_done_151 c8.1 c8.2 ?_
    replace HF := bind_ck HF
    obtain ⟨c9, HF⟩ := HF
    refine ev_iast dX12_done_152 c9.1 c9.2 ?_
    replace HF := bd_n HF
    obtain ⟨h10, eh10, HF⟩ := HF
    refine ev_heap eh10 ?_
    have c11 : hK h10 t = 14 := by rw [eh10]; exact c3
    replace HF := bd_n HF
    obtain ⟨v12, ev12, HF⟩ := HF
    refine ev_iinc (v := v12) (lv' := [(7, .int v12), (0, .ref t), (1, .int x1), (2, .int x2), (3, .int x3), (4, .int x4), (5, .int x5), (6, .int x6)]) 7 dX12_done_153 rfl (by rw [ev12]; rfl) (by decide) (rfl) ?_
    refine ev_goto (tgt := 118) dX12_done_156 (by decide) ?_
    exact Ev.sub [1, 2, 3, 4, 5, 6, 7, 0] rfl (ih t x1 x2 x3 x4 x5 x6 v12 _ HF)

set_option maxRecDepth 20000 in
theorem lk_X12_done_12 {g : aG} {l : Launch} {d : Nat} {h0 : aH} (hdd : 0 ≤ d) {r : aH} : ∀ (n : Nat) (t : Nat) (x1 : Int32) (x2 : Int32) (x3 : Int32) (x4 : Int32) (x5 : Int32) (x6 : Int32) (h : aH), F_X12_done_12  n t x1 x2 x3 x4 x5 x6 h = some r → Ev g l cX12_done 8 yX12_done (none) d h0 (none, r) 12 [(0, .ref t), (1, .int x1), (2, .int x2), (3, .int x3), (4, .int x4), (5, .int x5), (6, .int x6)] [] h := by
  intro n
  induction n with
  | zero => intro t x1 x2 x3 x4 x5 x6 h HF; cases HF
  | succ n ih =>
  intro t x1 x2 x3 x4 x5 x6 h HF
  unfold F_X12_done_12 at HF
  refine ev_iload 6 dX12_done_12 rfl ?_
  refine ev_bipush (v := 40) dX12_done_14 (by decide) ?_
  by_cases c1 : 40 ≤ x6
  · replace HF := ite_T c1 HF
    refine ev_icmp_geT (tgt := 165) dX12_done_16 (by decide) c1 ?_
    refine ev_aload_n 0 dX12_done_165 rfl ?_
    refine ev_dup dX12_done_166 rfl ?_
    replace HF := bind_ck HF
    obtain ⟨c2, HF⟩ := HF
    refine ev_gI (f := 1320) cl_X12 (k := 20) (by decide) fi_X12_20 rfl fl_X12_291 dX12_done_167 c2 ?_
    refine ev_iconst (v := 1) dX12_done_170 (by decide) ?_
    refine ev_isub dX12_done_171 ?_
    refine ev_pI (f := 1320) cl_X12 (k := 20) (by decide) fi_X12_20 rfl fl_X12_291 rfl rfl rfl dX12_done_172 c2 ?_
    replace HF := bd_n HF
    obtain ⟨h3, eh3, HF⟩ := HF
    refine ev_heap eh3 ?_
    have c4 : hK h3 t = 14 := by rw [eh3]; exact c2
    exact Ev.sub [0, 1, 2, 3, 4, 5] rfl (lk_X12_done_175 hdd  t x1 x2 x3 x4 x5 _ HF)
  · replace HF := ite_F c1 HF
    refine ev_icmp_geF (tgt := 165) dX12_done_16 (by decide) c1 ?_
    refine ev_aload_n 0 dX12_done_19 rfl ?_
    replace HF := bind_ck HF
    obtain ⟨c5, HF⟩ := HF
    replace HF := bind_o HF
    obtain ⟨b6, e7, HF⟩ := HF
    refine ev_gS (f := 1321) cl_X12 (k := 21) (by decide) fi_X12_21 rfl fl_X12_51 dX12_done_20 c5 e7 ?_
    refine ev_iload 6 dX12_done_23 rfl ?_
    refine ev_iconst (v := 1) dX12_done_25 (by decide) ?_
    refine ev_isub dX12_done_26 ?_
    refine ev_aload_n 0 dX12_done_27 rfl ?_
    replace HF := bind_o HF
    obtain ⟨b8, e9, HF⟩ := HF
    refine ev_gS (f := 1321) cl_X12 (k := 21) (by decide) fi_X12_21 rfl fl_X12_51 dX12_done_28 c5 e9 ?_
    show EvG _ _ _ _ _ _ _ _ _ _ _ 31 _ _ _
    refine ev_iload 6 dX12_done_31 rfl ?_
    replace HF := bind_ck HF
    obtain ⟨c10, HF⟩ := HF
    refine ev_iald dX12_done_33 c10.1 c10.2 ?_
    replace HF := bind_ck HF
    obtain ⟨c11, HF⟩ := HF
    refine ev_iast dX12_done_34 c11.1 c11.2 ?_
    replace HF := bd_n HF
    obtain ⟨h12, eh12, HF⟩ := HF
    refine ev_heap eh12 ?_
    have c13 : hK h12 t = 14 := by rw [eh12]; exact c5
    refine ev_aload_n 0 dX12_done_35 rfl ?_
    replace HF := bind_o HF
    obtain ⟨b14, e15, HF⟩ := HF
    refine ev_gS (f := 1322) cl_X12 (k := 22) (by decide) fi_X12_22 rfl fl_X12_54 dX12_done_36 c13 e15 ?_
    refine ev_iload 6 dX12_done_39 rfl ?_
    refine ev_iconst (v := 1) dX12_done_41 (by decide) ?_
    refine ev_isub dX12_done_42 ?_
    show EvG _ _ _ _ _ _ _ _ _ _ _ 43 _ _ _
    refine ev_aload_n 0 dX12_done_43 rfl ?_
    replace HF := bind_o HF
    obtain ⟨b16, e17, HF⟩ := HF
    refine ev_gS (f := 1322) cl_X12 (k := 22) (by decide) fi_X12_22 rfl fl_X12_54 dX12_done_44 c13 e17 ?_
    refine ev_iload 6 dX12_done_47 rfl ?_
    replace HF := bind_ck HF
    obtain ⟨c18, HF⟩ := HF
    refine ev_iald dX12_done_49 c18.1 c18.2 ?_
    replace HF := bind_ck HF
    obtain ⟨c19, HF⟩ := HF
    refine ev_iast dX12_done_50 c19.1 c19.2 ?_
    replace HF := bd_n HF
    obtain ⟨h20, eh20, HF⟩ := HF
    refine ev_heap eh20 ?_
    have c21 : hK h20 t = 14 := by rw [eh20]; exact c13
    refine ev_aload_n 0 dX12_done_51 rfl ?_
    replace HF := bind_o HF
    obtain ⟨b22, e23, HF⟩ := HF
    refine ev_gS (f := 1323) cl_X12 (k := 23) (by decide) fi_X12_23 rfl fl_X12_57 dX12_done_52 c21 e23 ?_
    refine ev_iload 6 dX12_done_55 rfl ?_
    show EvG _ _ _ _ _ _ _ _ _ _ _ 57 _ _ _
    refine ev_iconst (v := 1) dX12_done_57 (by decide) ?_
    refine ev_isub dX12_done_58 ?_
    refine ev_aload_n 0 dX12_done_59 rfl ?_
    replace HF := bind_o HF
    obtain ⟨b24, e25, HF⟩ := HF
    refine ev_gS (f := 1323) cl_X12 (k := 23) (by decide) fi_X12_23 rfl fl_X12_57 dX12_done_60 c21 e25 ?_
    refine ev_iload 6 dX12_done_63 rfl ?_
    replace HF := bind_ck HF
    obtain ⟨c26, HF⟩ := HF
    refine ev_iald dX12_done_65 c26.1 c26.2 ?_
    replace HF := bind_ck HF
    obtain ⟨c27, HF⟩ := HF
    refine ev_iast dX12_done_66 c27.1 c27.2 ?_
    replace HF := bd_n HF
    obtain ⟨h28, eh28, HF⟩ := HF
    refine ev_heap eh28 ?_
    have c29 : hK h28 t = 14 := by rw [eh28]; exact c21
    refine ev_aload_n 0 dX12_done_67 rfl ?_
    show EvG _ _ _ _ _ _ _ _ _ _ _ 68 _ _ _
    replace HF := bind_o HF
    obtain ⟨b30, e31, HF⟩ := HF
    refine ev_gS (f := 1324) cl_X12 (k := 24) (by decide) fi_X12_24 rfl fl_X12_60 dX12_done_68 c29 e31 ?_
    refine ev_iload 6 dX12_done_71 rfl ?_
    refine ev_iconst (v := 1) dX12_done_73 (by decide) ?_
    refine ev_isub dX12_done_74 ?_
    refine ev_aload_n 0 dX12_done_75 rfl ?_
    replace HF := bind_o HF
    obtain ⟨b32, e33, HF⟩ := HF
    refine ev_gS (f := 1324) cl_X12 (k := 24) (by decide) fi_X12_24 rfl fl_X12_60 dX12_done_76 c29 e33 ?_
    refine ev_iload 6 dX12_done_79 rfl ?_
    replace HF := bind_ck HF
    obtain ⟨c34, HF⟩ := HF
    refine ev_iald dX12_done_81 c34.1 c34.2 ?_
    show EvG _ _ _ _ _ _ _ _ _ _ _ 82 _ _ _
    replace HF := bind_ck HF
    obtain ⟨c35, HF⟩ := HF
    refine ev_iast dX12_done_82 c35.1 c35.2 ?_
    replace HF := bd_n HF
    obtain ⟨h36, eh36, HF⟩ := HF
    refine ev_heap eh36 ?_
    have c37 : hK h36 t = 14 := by rw [eh36]; exact c29
    refine ev_aload_n 0 dX12_done_83 rfl ?_
    replace HF := bind_o HF
    obtain ⟨b38, e39, HF⟩ := HF
    refine ev_gS (f := 1325) cl_X12 (k := 25) (by decide) fi_X12_25 rfl fl_X12_63 dX12_done_84 c37 e39 ?_
    refine ev_iload 6 dX12_done_87 rfl ?_
    refine ev_iconst (v := 1) dX12_done_89 (by decide) ?_
    refine ev_isub dX12_done_90 ?_
    refine ev_aload_n 0 dX12_done_91 rfl ?_
    replace HF := bind_o HF
    obtain ⟨b40, e41, HF⟩ := HF
    refine ev_gS (f := 1325) cl_X12 (k := 25) (by decide) fi_X12_25 rfl fl_X12_63 dX12_done_92 c37 e41 ?_
    show EvG _ _ _ _ _ _ _ _ _ _ _ 95 _ _ _
    refine ev_iload 6 dX12_done_95 rfl ?_
    replace HF := bind_ck HF
    obtain ⟨c42, HF⟩ := HF
    refine ev_iald dX12_done_97 c42.1 c42.2 ?_
    replace HF := bind_ck HF
    obtain ⟨c43, HF⟩ := HF
    refine ev_iast dX12_done_98 c43.1 c43.2 ?_
    replace HF := bd_n HF
    obtain ⟨h44, eh44, HF⟩ := HF
    refine ev_heap eh44 ?_
    have c45 : hK h44 t = 14 := by rw [eh44]; exact c37
    refine ev_aload_n 0 dX12_done_99 rfl ?_
    replace HF := bind_o HF
    obtain ⟨b46, e47, HF⟩ := HF
    refine ev_gS (f := 1326) cl_X12 (k := 26) (by decide) fi_X12_26 rfl fl_X12_66 dX12_done_100 c45 e47 ?_
    refine ev_iload 6 dX12_done_103 rfl ?_
    refine ev_iconst (v := 1) dX12_done_105 (by decide) ?_
    refine ev_isub dX12_done_106 ?_
    show EvG _ _ _ _ _ _ _ _ _ _ _ 107 _ _ _
    refine ev_aload_n 0 dX12_done_107 rfl ?_
    replace HF := bind_o HF
    obtain ⟨b48, e49, HF⟩ := HF
    refine ev_gS (f := 1326) cl_X12 (k := 26) (by decide) fi_X12_26 rfl fl_X12_66 dX12_done_108 c45 e49 ?_
    refine ev_iload 6 dX12_done_111 rfl ?_
    replace HF := bind_ck HF
    obtain ⟨c50, HF⟩ := HF
    refine ev_iald dX12_done_113 c50.1 c50.2 ?_
    replace HF := bind_ck HF
    obtain ⟨c51, HF⟩ := HF
    refine ev_iast dX12_done_114 c51.1 c51.2 ?_
    replace HF := bd_n HF
    obtain ⟨h52, eh52, HF⟩ := HF
    refine ev_heap eh52 ?_
    have c53 : hK h52 t = 14 := by rw [eh52]; exact c45
    refine ev_iconst (v := 0) dX12_done_115 (by decide) ?_
    refine ev_istore (lv' := [(7, .int 0), (0, .ref t), (1, .int x1), (2, .int x2), (3, .int x3), (4, .int x4), (5, .int x5), (6, .int x6)]) dX12_done_116 (by decide) (rfl) ?_
    exact Ev.sub [1, 2, 3, 4, 5, 6, 7, 0] rfl (lk_X12_done_118 hdd (F_X12_done_12 n) ih fu t x1 x2 x3 x4 x5 x6 0 _ HF)

set_option maxRecDepth 20000 in
theorem lk_X12_done {g : aG} {l : Launch} {d : Nat} (hdd : 0 ≤ d) {t : Nat} {x1 : Int32} {x2 : Int32} {x3 : Int32} {x4 : Int32} {x5 : Int32} {h : aH} {r : aH} (hT : hK h t = 14) (HF : F_X12_done t x1 x2 x3 x4 x5 h = some r) : MA g l yX12_done cX12_done 8 (none) d [.ref t, .int x1, .int x2, .int x3, .int x4, .int x5] h (none, r) := by
  refine MA.of (lv0 := [(0, .ref t), (1, .int x1), (2, .int x2), (3, .int x3), (4, .int x4), (5, .int x5)]) (by decide +kernel) (rfl) (Nat.le_of_ble_eq_true rfl) ?_
  unfold F_X12_done at HF
  refine ev_aload_n 0 dX12_done_0 rfl ?_
  refine ev_gI (f := 1320) cl_X12 (k := 20) (by decide) fi_X12_20 rfl fl_X12_291 dX12_done_1 hT ?_
  refine ev_bipush (v := 40) dX12_done_4 (by decide) ?_
  by_cases c1 : hF h 1320 t = 40
  · replace HF := ite_T c1 HF
    refine ev_icmp_neF (tgt := 175) dX12_done_6 (by decide) c1 ?_
    refine ev_iconst (v := 1) dX12_done_9 (by decide) ?_
    refine ev_istore (lv' := [(6, .int 1), (0, .ref t), (1, .int x1), (2, .int x2), (3, .int x3), (4, .int x4), (5, .int x5)]) dX12_done_10 (by decide) (rfl) ?_
    exact Ev.sub [1, 2, 3, 4, 5, 6, 0] rfl (lk_X12_done_12 hdd  fu t x1 x2 x3 x4 x5 1 _ HF)
  · replace HF := ite_F c1 HF
    refine ev_icmp_neT (tgt := 175) dX12_done_6 (by decide) c1 ?_
    exact Ev.sub [0, 1, 2, 3, 4, 5] rfl (lk_X12_done_175 hdd  t x1 x2 x3 x4 x5 _ HF)

set_option maxRecDepth 20000 in
theorem lk_X12_keepRow_19 {g : aG} {l : Launch} {d : Nat} {h0 : aH} (hdd : 0 ≤ d) {r : aH} : ∀ (n : Nat) (t : Nat) (x1 : Int32) (x2 : Int32) (h : aH), F_X12_keepRow_19  n t x1 x2 h = some r → Ev g l cX12_keepRow 3 yX12_keepRow (none) d h0 (none, r) 19 [(0, .ref t), (1, .int x1), (2, .int x2)] [] h := by
  intro n
  induction n with
  | zero => intro t x1 x2 h HF; cases HF
  | succ n ih =>
  intro t x1 x2 h HF
  unfold F_X12_keepRow_19 at HF
  refine ev_iload_n 2 dX12_keepRow_19 rfl ?_
  refine ev_aload_n 0 dX12_keepRow_20 rfl ?_
  replace HF := bind_ck HF
  obtain ⟨c1, HF⟩ := HF
  replace HF := bind_o HF
  obtain ⟨b2, e3, HF⟩ := HF
  refine ev_gS (f := 1313) cl_X12 (k := 13) (by decide) fi_X12_13 rfl fl_X12_38 dX12_keepRow_21 c1 e3 ?_
  refine ev_iload_n 1 dX12_keepRow_24 rfl ?_
  replace HF := bind_ck HF
  obtain ⟨c4, HF⟩ := HF
  refine ev_iald dX12_keepRow_25 c4.1 c4.2 ?_
  by_cases c5 : hI h b2 x1.toNatClampNeg ≤ x2
  · replace HF := ite_T c5 HF
    refine ev_icmp_geT (tgt := 62) dX12_keepRow_26 (by decide) c5 ?_
    obtain rfl := Option.some.inj HF
    exact ev_vret dX12_keepRow_62
  · replace HF := ite_F c5 HF
    refine ev_icmp_geF (tgt := 62) dX12_keepRow_26 (by decide) c5 ?_
    refine ev_aload_n 0 dX12_keepRow_29 rfl ?_
    replace HF := bind_o HF
    obtain ⟨b6, e7, HF⟩ := HF
    refine ev_gS (f := 1327) cl_X12 (k := 27) (by decide) fi_X12_27 rfl fl_X12_69 dX12_keepRow_30 c1 e7 ?_
    refine ev_bipush (v := 40) dX12_keepRow_33 (by decide) ?_
    refine ev_aload_n 0 dX12_keepRow_35 rfl ?_
    refine ev_gI (f := 1320) cl_X12 (k := 20) (by decide) fi_X12_20 rfl fl_X12_291 dX12_keepRow_36 c1 ?_
    refine ev_iconst (v := 1) dX12_keepRow_39 (by decide) ?_
    refine ev_isub dX12_keepRow_40 ?_
    show EvG _ _ _ _ _ _ _ _ _ _ _ 41 _ _ _
    refine ev_imul dX12_keepRow_41 ?_
    refine ev_iload_n 2 dX12_keepRow_42 rfl ?_
    refine ev_iadd dX12_keepRow_43 ?_
    refine ev_aload_n 0 dX12_keepRow_44 rfl ?_
    replace HF := bind_o HF
    obtain ⟨b8, e9, HF⟩ := HF
    refine ev_gS (f := 1314) cl_X12 (k := 14) (by decide) fi_X12_14 rfl fl_X12_42 dX12_keepRow_45 c1 e9 ?_
    refine ev_bipush (v := 40) dX12_keepRow_48 (by decide) ?_
    refine ev_iload_n 1 dX12_keepRow_50 rfl ?_
    refine ev_imul dX12_keepRow_51 ?_
    show EvG _ _ _ _ _ _ _ _ _ _ _ 52 _ _ _
    refine ev_iload_n 2 dX12_keepRow_52 rfl ?_
    refine ev_iadd dX12_keepRow_53 ?_
    replace HF := bind_ck HF
    obtain ⟨c10, HF⟩ := HF
    refine ev_iald dX12_keepRow_54 c10.1 c10.2 ?_
    replace HF := bind_ck HF
    obtain ⟨c11, HF⟩ := HF
    refine ev_iast dX12_keepRow_55 c11.1 c11.2 ?_
    replace HF := bd_n HF
    obtain ⟨h12, eh12, HF⟩ := HF
    refine ev_heap eh12 ?_
    have c13 : hK h12 t = 14 := by rw [eh12]; exact c1
    replace HF := bd_n HF
    obtain ⟨v14, ev14, HF⟩ := HF
    refine ev_iinc (v := v14) (lv' := [(2, .int v14), (0, .ref t), (1, .int x1)]) 2 dX12_keepRow_56 rfl (by rw [ev14]; rfl) (by decide) (rfl) ?_
    refine ev_goto (tgt := 19) dX12_keepRow_59 (by decide) ?_
    exact Ev.sub [1, 2, 0] rfl (ih t x1 v14 _ HF)

set_option maxRecDepth 20000 in
theorem lk_X12_keepRow {g : aG} {l : Launch} {d : Nat} (hdd : 0 ≤ d) {t : Nat} {x1 : Int32} {h : aH} {r : aH} (hT : hK h t = 14) (HF : F_X12_keepRow t x1 h = some r) : MA g l yX12_keepRow cX12_keepRow 3 (none) d [.ref t, .int x1] h (none, r) := by
  refine MA.of (lv0 := [(0, .ref t), (1, .int x1)]) (by decide +kernel) (rfl) (Nat.le_of_ble_eq_true rfl) ?_
  unfold F_X12_keepRow at HF
  refine ev_aload_n 0 dX12_keepRow_0 rfl ?_
  replace HF := bind_o HF
  obtain ⟨b1, e2, HF⟩ := HF
  refine ev_gS (f := 1326) cl_X12 (k := 26) (by decide) fi_X12_26 rfl fl_X12_66 dX12_keepRow_1 hT e2 ?_
  refine ev_aload_n 0 dX12_keepRow_4 rfl ?_
  refine ev_gI (f := 1320) cl_X12 (k := 20) (by decide) fi_X12_20 rfl fl_X12_291 dX12_keepRow_5 hT ?_
  refine ev_iconst (v := 1) dX12_keepRow_8 (by decide) ?_
  refine ev_isub dX12_keepRow_9 ?_
  refine ev_aload_n 0 dX12_keepRow_10 rfl ?_
  show EvG _ _ _ _ _ _ _ _ _ _ _ 11 _ _ _
  replace HF := bind_o HF
  obtain ⟨b3, e4, HF⟩ := HF
  refine ev_gS (f := 1313) cl_X12 (k := 13) (by decide) fi_X12_13 rfl fl_X12_38 dX12_keepRow_11 hT e4 ?_
  refine ev_iload_n 1 dX12_keepRow_14 rfl ?_
  replace HF := bind_ck HF
  obtain ⟨c5, HF⟩ := HF
  refine ev_iald dX12_keepRow_15 c5.1 c5.2 ?_
  replace HF := bind_ck HF
  obtain ⟨c6, HF⟩ := HF
  refine ev_iast dX12_keepRow_16 c6.1 c6.2 ?_
  replace HF := bd_n HF
  obtain ⟨h7, eh7, HF⟩ := HF
  refine ev_heap eh7 ?_
  have c8 : hK h7 t = 14 := by rw [eh7]; exact hT
  refine ev_iconst (v := 0) dX12_keepRow_17 (by decide) ?_
  refine ev_istore_n (lv' := [(2, .int 0), (0, .ref t), (1, .int x1)]) dX12_keepRow_18 (by decide) (rfl) ?_
  exact Ev.sub [1, 2, 0] rfl (lk_X12_keepRow_19 hdd  fu t x1 0 _ HF)

set_option maxRecDepth 20000 in
theorem lk_X12_newRow {g : aG} {l : Launch} {d : Nat} (hdd : 0 ≤ d) {t : Nat} {x1 : Int32} {x2 : Int32} {h : aH} {r : Int32 × aH} (hT : hK h t = 14) (HF : F_X12_newRow t x1 x2 h = some r) : MA g l yX12_newRow cX12_newRow 3 (some .int) d [.ref t, .int x1, .int x2] h (some (.int r.1), r.2) := by
  refine MA.of (lv0 := [(0, .ref t), (1, .int x1), (2, .int x2)]) (by decide +kernel) (rfl) (Nat.le_of_ble_eq_true rfl) ?_
  unfold F_X12_newRow at HF
  refine ev_aload_n 0 dX12_newRow_0 rfl ?_
  replace HF := bind_o HF
  obtain ⟨b1, e2, HF⟩ := HF
  refine ev_gS (f := 1312) cl_X12 (k := 12) (by decide) fi_X12_12 rfl fl_X12_35 dX12_newRow_1 hT e2 ?_
  refine ev_aload_n 0 dX12_newRow_4 rfl ?_
  refine ev_gI (f := 1311) cl_X12 (k := 11) (by decide) fi_X12_11 rfl fl_X12_294 dX12_newRow_5 hT ?_
  refine ev_iload_n 1 dX12_newRow_8 rfl ?_
  replace HF := bind_ck HF
  obtain ⟨c3, HF⟩ := HF
  refine ev_iast dX12_newRow_9 c3.1 c3.2 ?_
  replace HF := bd_n HF
  obtain ⟨h4, eh4, HF⟩ := HF
  refine ev_heap eh4 ?_
  have c5 : hK h4 t = 14 := by rw [eh4]; exact hT
  refine ev_aload_n 0 dX12_newRow_10 rfl ?_
  show EvG _ _ _ _ _ _ _ _ _ _ _ 11 _ _ _
  replace HF := bind_o HF
  obtain ⟨b6, e7, HF⟩ := HF
  refine ev_gS (f := 1313) cl_X12 (k := 13) (by decide) fi_X12_13 rfl fl_X12_38 dX12_newRow_11 c5 e7 ?_
  refine ev_aload_n 0 dX12_newRow_14 rfl ?_
  refine ev_gI (f := 1311) cl_X12 (k := 11) (by decide) fi_X12_11 rfl fl_X12_294 dX12_newRow_15 c5 ?_
  refine ev_iload_n 2 dX12_newRow_18 rfl ?_
  replace HF := bind_ck HF
  obtain ⟨c8, HF⟩ := HF
  refine ev_iast dX12_newRow_19 c8.1 c8.2 ?_
  replace HF := bd_n HF
  obtain ⟨h9, eh9, HF⟩ := HF
  refine ev_heap eh9 ?_
  have c10 : hK h9 t = 14 := by rw [eh9]; exact c5
  refine ev_aload_n 0 dX12_newRow_20 rfl ?_
  refine ev_dup dX12_newRow_21 rfl ?_
  refine ev_gI (f := 1311) cl_X12 (k := 11) (by decide) fi_X12_11 rfl fl_X12_294 dX12_newRow_22 c10 ?_
  show EvG _ _ _ _ _ _ _ _ _ _ _ 25 _ _ _
  refine ev_iconst (v := 1) dX12_newRow_25 (by decide) ?_
  refine ev_iadd dX12_newRow_26 ?_
  refine ev_pI (f := 1311) cl_X12 (k := 11) (by decide) fi_X12_11 rfl fl_X12_294 rfl rfl rfl dX12_newRow_27 c10 ?_
  replace HF := bd_n HF
  obtain ⟨h11, eh11, HF⟩ := HF
  refine ev_heap eh11 ?_
  have c12 : hK h11 t = 14 := by rw [eh11]; exact c10
  refine ev_aload_n 0 dX12_newRow_30 rfl ?_
  refine ev_gI (f := 1311) cl_X12 (k := 11) (by decide) fi_X12_11 rfl fl_X12_294 dX12_newRow_31 c12 ?_
  refine ev_iconst (v := 1) dX12_newRow_34 (by decide) ?_
  refine ev_isub dX12_newRow_35 ?_
  obtain rfl := Option.some.inj HF
  exact ev_iret dX12_newRow_36

set_option maxRecDepth 20000 in
theorem lk_X12_turn_85 {g : aG} {l : Launch} {d : Nat} {h0 : aH} (hdd : 6 ≤ d) {r : Int32 × aH} (t : Nat) (x1 : Int32) (h : aH) (HF : F_X12_turn_85  t x1 h = some r) : Ev g l cX12_turn 3 yX12_turn (some .boolean) d h0 (some (.int r.1), r.2) 85 [(0, .ref t), (1, .int x1)] [] h := by
  unfold F_X12_turn_85 at HF
  refine ev_aload_n 0 dX12_turn_85 rfl ?_
  replace HF := bind_ck HF
  obtain ⟨c1, HF⟩ := HF
  refine ev_gI (f := 1319) cl_X12 (k := 19) (by decide) fi_X12_19 rfl fl_X12_297 dX12_turn_86 c1 ?_
  by_cases c2 : hF h 1319 t = 0
  · replace HF := ite_T c2 HF
    refine ev_if_eqT (tgt := 94) dX12_turn_89 (by decide) c2 ?_
    refine ev_aload_n 0 dX12_turn_94 rfl ?_
    replace HF := bind_o HF
    obtain ⟨b3, e4, HF⟩ := HF
    refine ev_gS (f := 1309) cl_X12 (k := 9) (by decide) fi_X12_9 rfl fl_X12_28 dX12_turn_95 c1 e4 ?_
    refine ev_iconst (v := 4) dX12_turn_98 (by decide) ?_
    refine ev_iload_n 1 dX12_turn_99 rfl ?_
    refine ev_imul dX12_turn_100 ?_
    refine ev_aload_n 0 dX12_turn_101 rfl ?_
    replace HF := bind_o HF
    obtain ⟨b5, e6, HF⟩ := HF
    refine ev_gS (f := 1308) cl_X12 (k := 8) (by decide) fi_X12_8 rfl fl_X12_25 dX12_turn_102 c1 e6 ?_
    show EvG _ _ _ _ _ _ _ _ _ _ _ 105 _ _ _
    refine ev_iload_n 1 dX12_turn_105 rfl ?_
    replace HF := bind_ck HF
    obtain ⟨c7, HF⟩ := HF
    refine ev_iald dX12_turn_106 c7.1 c7.2 ?_
    refine ev_iadd dX12_turn_107 ?_
    refine ev_iconst (v := 0) dX12_turn_108 (by decide) ?_
    replace HF := bind_ck HF
    obtain ⟨c8, HF⟩ := HF
    refine ev_iast dX12_turn_109 c8.1 c8.2 ?_
    replace HF := bd_n HF
    obtain ⟨h9, eh9, HF⟩ := HF
    refine ev_heap eh9 ?_
    have c10 : hK h9 t = 14 := by rw [eh9]; exact c1
    refine ev_aload_n 0 dX12_turn_110 rfl ?_
    replace HF := bind_o HF
    obtain ⟨b11, e12, HF⟩ := HF
    refine ev_gS (f := 1308) cl_X12 (k := 8) (by decide) fi_X12_8 rfl fl_X12_25 dX12_turn_111 c10 e12 ?_
    refine ev_iload_n 1 dX12_turn_114 rfl ?_
    show EvG _ _ _ _ _ _ _ _ _ _ _ 115 _ _ _
    refine ev_dup2 dX12_turn_115 rfl rfl ?_
    replace HF := bind_ck HF
    obtain ⟨c13, HF⟩ := HF
    refine ev_iald dX12_turn_116 c13.1 c13.2 ?_
    refine ev_iconst (v := 1) dX12_turn_117 (by decide) ?_
    refine ev_iadd dX12_turn_118 ?_
    refine ev_iast dX12_turn_119 c13.1 c13.2 ?_
    replace HF := bd_n HF
    obtain ⟨h14, eh14, HF⟩ := HF
    refine ev_heap eh14 ?_
    have c15 : hK h14 t = 14 := by rw [eh14]; exact c10
    refine ev_aload_n 0 dX12_turn_120 rfl ?_
    refine ev_iconst (v := 0) dX12_turn_121 (by decide) ?_
    refine ev_iload_n 1 dX12_turn_122 rfl ?_
    show EvG _ _ _ _ _ _ _ _ _ _ _ 123 _ _ _
    refine ev_iconst (v := (-1)) dX12_turn_123 (by decide) ?_
    refine ev_iconst (v := 0) dX12_turn_124 (by decide) ?_
    refine ev_iconst (v := 0) dX12_turn_125 (by decide) ?_
    replace HF := bind_o HF
    obtain ⟨h17, e16, HF⟩ := HF
    refine ev_callV (As := [.int 0, .int x1, .int ((-1)), .int 0, .int 0]) (R1 := (none, h17)) (lk_X12_done (d := 0) (Nat.le_refl _) c15 e16) ce_X12_done im_X12_done sl_X12_done ml_X12_303 cl_X12 c15 dX12_turn_126 (by omega) (Nat.le_of_ble_eq_true rfl) rfl rfl ?_
    show EvG _ _ _ _ _ _ _ _ _ _ _ 129 [(0, .ref t), (1, .int x1)] [] h17
    refine ev_iconst (v := 1) dX12_turn_129 (by decide) ?_
    obtain rfl := Option.some.inj HF
    exact ev_zret (v := 1) narrow_b1 dX12_turn_130
  · replace HF := ite_F c2 HF
    refine ev_if_eqF (tgt := 94) dX12_turn_89 (by decide) c2 ?_
    refine ev_iconst (v := 0) dX12_turn_92 (by decide) ?_
    obtain rfl := Option.some.inj HF
    exact ev_zret (v := 0) narrow_b0 dX12_turn_93

set_option maxRecDepth 20000 in
theorem lk_X12_turn_74 {g : aG} {l : Launch} {d : Nat} {h0 : aH} (hdd : 6 ≤ d) {r : Int32 × aH} (t : Nat) (x1 : Int32) (h : aH) (HF : F_X12_turn_74  t x1 h = some r) : Ev g l cX12_turn 3 yX12_turn (some .boolean) d h0 (some (.int r.1), r.2) 74 [(0, .ref t), (1, .int x1)] [] h := by
  unfold F_X12_turn_74 at HF
  refine ev_goto (tgt := 85) dX12_turn_74 (by decide) ?_
  exact Ev.sub [0, 1] rfl (lk_X12_turn_85 hdd  t x1 _ HF)

set_option maxRecDepth 20000 in
theorem lk_X12_turn_62 {g : aG} {l : Launch} {d : Nat} {h0 : aH} (hdd : 6 ≤ d) {r : Int32 × aH} (t : Nat) (x1 : Int32) (h : aH) (HF : F_X12_turn_62  t x1 h = some r) : Ev g l cX12_turn 3 yX12_turn (some .boolean) d h0 (some (.int r.1), r.2) 62 [(0, .ref t), (1, .int x1)] [] h := by
  unfold F_X12_turn_62 at HF
  refine ev_aload_n 0 dX12_turn_62 rfl ?_
  replace HF := bind_ck HF
  obtain ⟨c1, HF⟩ := HF
  refine ev_gI (f := 1333) cl_X12 (k := 33) (by decide) fi_X12_33 rfl fl_X12_218 dX12_turn_63 c1 ?_
  by_cases c2 : hF h 1333 t = 0
  · replace HF := ite_T c2 HF
    refine ev_if_eqT (tgt := 74) dX12_turn_66 (by decide) c2 ?_
    exact Ev.sub [0, 1] rfl (lk_X12_turn_74 hdd  t x1 _ HF)
  · replace HF := ite_F c2 HF
    refine ev_if_eqF (tgt := 74) dX12_turn_66 (by decide) c2 ?_
    refine ev_aload_n 0 dX12_turn_69 rfl ?_
    refine ev_iconst (v := 2) dX12_turn_70 (by decide) ?_
    refine ev_pI (f := 1319) cl_X12 (k := 19) (by decide) fi_X12_19 rfl fl_X12_297 rfl rfl rfl dX12_turn_71 c1 ?_
    replace HF := bd_n HF
    obtain ⟨h3, eh3, HF⟩ := HF
    refine ev_heap eh3 ?_
    have c4 : hK h3 t = 14 := by rw [eh3]; exact c1
    exact Ev.sub [0, 1] rfl (lk_X12_turn_74 hdd  t x1 _ HF)

set_option maxRecDepth 20000 in
theorem lk_X12_turn {g : aG} {l : Launch} {d : Nat} (hdd : 6 ≤ d) {t : Nat} {x1 : Int32} {h : aH} {r : Int32 × aH} (hT : hK h t = 14) (HF : F_X12_turn t x1 h = some r) : MA g l yX12_turn cX12_turn 3 (some .boolean) d [.ref t, .int x1] h (some (.int r.1), r.2) := by
  refine MA.of (lv0 := [(0, .ref t), (1, .int x1)]) (by decide +kernel) (rfl) (Nat.le_of_ble_eq_true rfl) ?_
  unfold F_X12_turn at HF
  refine ev_aload_n 0 dX12_turn_0 rfl ?_
  refine ev_iconst (v := 0) dX12_turn_1 (by decide) ?_
  refine ev_pI (f := 1300) cl_X12 (k := 0) (by decide) fi_X12_0 rfl fl_X12_175 rfl rfl rfl dX12_turn_2 hT ?_
  replace HF := bd_n HF
  obtain ⟨h1, eh1, HF⟩ := HF
  refine ev_heap eh1 ?_
  have c2 : hK h1 t = 14 := by rw [eh1]; exact hT
  refine ev_aload_n 0 dX12_turn_5 rfl ?_
  refine ev_iconst (v := 0) dX12_turn_6 (by decide) ?_
  refine ev_pI (f := 1319) cl_X12 (k := 19) (by decide) fi_X12_19 rfl fl_X12_297 rfl rfl rfl dX12_turn_7 c2 ?_
  replace HF := bd_n HF
  obtain ⟨h3, eh3, HF⟩ := HF
  refine ev_heap eh3 ?_
  have c4 : hK h3 t = 14 := by rw [eh3]; exact c2
  refine ev_aload_n 0 dX12_turn_10 rfl ?_
  show EvG _ _ _ _ _ _ _ _ _ _ _ 11 _ _ _
  refine ev_iload_n 1 dX12_turn_11 rfl ?_
  replace HF := bind_o HF
  obtain ⟨⟨z7, h6⟩, e5, HF⟩ := HF
  replace HF := bd_o (bd_o HF)
  dsimp only at HF
  refine ev_callV (As := [.int x1]) (R1 := (some (.int z7), h6)) (lk_X12_isGame (d := 0) (Nat.le_refl _) c4 e5) ce_X12_isGame im_X12_isGame sl_X12_isGame ml_X12_193 cl_X12 c4 dX12_turn_12 (by omega) (Nat.le_of_ble_eq_true rfl) rfl rfl ?_
  show EvG _ _ _ _ _ _ _ _ _ _ _ 15 [(0, .ref t), (1, .int x1)] [.int z7] h6
  by_cases c9 : z7 = 0
  · replace HF := ite_T c9 HF
    refine ev_if_neF (tgt := 20) dX12_turn_15 (by decide) c9 ?_
    refine ev_iconst (v := 0) dX12_turn_18 (by decide) ?_
    obtain rfl := Option.some.inj HF
    exact ev_zret (v := 0) narrow_b0 dX12_turn_19
  · replace HF := ite_F c9 HF
    refine ev_if_neT (tgt := 20) dX12_turn_15 (by decide) c9 ?_
    refine ev_aload_n 0 dX12_turn_20 rfl ?_
    refine ev_iload_n 1 dX12_turn_21 rfl ?_
    replace HF := bind_ck HF
    obtain ⟨c10, HF⟩ := HF
    replace HF := bind_o HF
    obtain ⟨h12, e11, HF⟩ := HF
    refine ev_callV (As := [.int x1]) (R1 := (none, h12)) (lk_X12_play (d := 5) (Nat.le_refl _) c10 e11) ce_X12_play im_X12_play sl_X12_play ml_X12_300 cl_X12 c10 dX12_turn_22 (by omega) (Nat.le_of_ble_eq_true rfl) rfl rfl ?_
    show EvG _ _ _ _ _ _ _ _ _ _ _ 25 [(0, .ref t), (1, .int x1)] [] h12
    refine ev_aload_n 0 dX12_turn_25 rfl ?_
    replace HF := bind_ck HF
    obtain ⟨c14, HF⟩ := HF
    refine ev_gI (f := 1328) cl_X12 (k := 28) (by decide) fi_X12_28 rfl fl_X12_200 dX12_turn_26 c14 ?_
    by_cases c15 : hF h12 1328 t = 0
    · replace HF := ite_T c15 HF
      refine ev_if_neF (tgt := 77) dX12_turn_29 (by decide) c15 ?_
      refine ev_aload_n 0 dX12_turn_32 rfl ?_
      replace HF := bind_o HF
      obtain ⟨b16, e17, HF⟩ := HF
      refine ev_gS (f := 1308) cl_X12 (k := 8) (by decide) fi_X12_8 rfl fl_X12_25 dX12_turn_33 c14 e17 ?_
      refine ev_iload_n 1 dX12_turn_36 rfl ?_
      replace HF := bind_ck HF
      obtain ⟨c18, HF⟩ := HF
      refine ev_iald dX12_turn_37 c18.1 c18.2 ?_
      replace HF := bd_n HF
      obtain ⟨v19, ev19, HF⟩ := HF
      refine ev_topI ev19 ?_
      refine ev_istore_n (lv' := [(2, .int v19), (0, .ref t), (1, .int x1)]) dX12_turn_38 (by decide) (rfl) ?_
      refine ev_iload_n 0 dX12_turn_39 rfl ?_
      by_cases c20 : v19 ≤ 0
      · replace HF := ite_T c20 HF
        refine ev_if_leT (tgt := 62) dX12_turn_40 (by decide) c20 ?_
        exact Ev.sub [1, 2] rfl (lk_X12_turn_62 hdd  t x1 _ HF)
      · replace HF := ite_F c20 HF
        refine ev_if_leF (tgt := 62) dX12_turn_40 (by decide) c20 ?_
        refine ev_aload_n 1 dX12_turn_43 rfl ?_
        replace HF := bind_o HF
        obtain ⟨b21, e22, HF⟩ := HF
        refine ev_gS (f := 1341) cl_X12 (k := 41) (by decide) fi_X12_41 rfl fl_X12_90 dX12_turn_44 c14 e22 ?_
        refine ev_iload_n 0 dX12_turn_47 rfl ?_
        refine ev_iconst (v := 1) dX12_turn_48 (by decide) ?_
        refine ev_isub dX12_turn_49 ?_
        replace HF := bind_ck HF
        obtain ⟨c23, HF⟩ := HF
        refine ev_iald dX12_turn_50 c23.1 c23.2 ?_
        by_cases c24 : hI h12 b21 (v19 - 1).toNatClampNeg = 0
        · replace HF := ite_T c24 HF
          refine ev_if_neF (tgt := 62) dX12_turn_51 (by decide) c24 ?_
          refine ev_aload_n 1 dX12_turn_54 rfl ?_
          refine ev_iconst (v := 1) dX12_turn_55 (by decide) ?_
          refine ev_pI (f := 1319) cl_X12 (k := 19) (by decide) fi_X12_19 rfl fl_X12_297 rfl rfl rfl dX12_turn_56 c14 ?_
          replace HF := bd_n HF
          obtain ⟨h25, eh25, HF⟩ := HF
          refine ev_heap eh25 ?_
          have c26 : hK h25 t = 14 := by rw [eh25]; exact c14
          refine ev_goto (tgt := 74) dX12_turn_59 (by decide) ?_
          exact Ev.sub [1, 2] rfl (lk_X12_turn_74 hdd  t x1 _ HF)
        · replace HF := ite_F c24 HF
          refine ev_if_neT (tgt := 62) dX12_turn_51 (by decide) c24 ?_
          exact Ev.sub [1, 2] rfl (lk_X12_turn_62 hdd  t x1 _ HF)
    · replace HF := ite_F c15 HF
      refine ev_if_neT (tgt := 77) dX12_turn_29 (by decide) c15 ?_
      refine ev_aload_n 0 dX12_turn_77 rfl ?_
      refine ev_aload_n 0 dX12_turn_78 rfl ?_
      refine ev_gI (f := 1328) cl_X12 (k := 28) (by decide) fi_X12_28 rfl fl_X12_200 dX12_turn_79 c14 ?_
      refine ev_pI (f := 1319) cl_X12 (k := 19) (by decide) fi_X12_19 rfl fl_X12_297 rfl rfl rfl dX12_turn_82 c14 ?_
      replace HF := bd_n HF
      obtain ⟨h27, eh27, HF⟩ := HF
      refine ev_heap eh27 ?_
      have c28 : hK h27 t = 14 := by rw [eh27]; exact c14
      exact Ev.sub [0, 1] rfl (lk_X12_turn_85 hdd  t x1 _ HF)

set_option maxRecDepth 20000 in
theorem lk_X12_over_163 {g : aG} {l : Launch} {d : Nat} {h0 : aH} (hdd : 6 ≤ d) {r : Int32 × aH} (t : Nat) (x1 : Int32) (x2 : Int32) (x3 : Int32) (h : aH) (HF : F_X12_over_163  t x1 x2 x3 h = some r) : Ev g l cX12_over 4 yX12_over (some .boolean) d h0 (some (.int r.1), r.2) 163 [(0, .ref t), (1, .int x1), (2, .int x2), (3, .int x3)] [] h := by
  unfold F_X12_over_163 at HF
  refine ev_aload_n 0 dX12_over_163 rfl ?_
  replace HF := bind_ck HF
  obtain ⟨c1, HF⟩ := HF
  refine ev_gI (f := 1319) cl_X12 (k := 19) (by decide) fi_X12_19 rfl fl_X12_297 dX12_over_164 c1 ?_
  by_cases c2 : hF h 1319 t = 0
  · replace HF := ite_T c2 HF
    refine ev_if_eqT (tgt := 172) dX12_over_167 (by decide) c2 ?_
    refine ev_aload_n 0 dX12_over_172 rfl ?_
    replace HF := bind_o HF
    obtain ⟨b3, e4, HF⟩ := HF
    refine ev_gS (f := 1310) cl_X12 (k := 10) (by decide) fi_X12_10 rfl fl_X12_32 dX12_over_173 c1 e4 ?_
    refine ev_sipush (v := 130) dX12_over_176 (by decide) ?_
    refine ev_iconst (v := 4) dX12_over_179 (by decide) ?_
    refine ev_iload_n 1 dX12_over_180 rfl ?_
    refine ev_imul dX12_over_181 ?_
    refine ev_iload_n 3 dX12_over_182 rfl ?_
    show EvG _ _ _ _ _ _ _ _ _ _ _ 183 _ _ _
    refine ev_iadd dX12_over_183 ?_
    refine ev_imul dX12_over_184 ?_
    refine ev_aload_n 0 dX12_over_185 rfl ?_
    replace HF := bind_o HF
    obtain ⟨b5, e6, HF⟩ := HF
    refine ev_gS (f := 1309) cl_X12 (k := 9) (by decide) fi_X12_9 rfl fl_X12_28 dX12_over_186 c1 e6 ?_
    refine ev_iconst (v := 4) dX12_over_189 (by decide) ?_
    refine ev_iload_n 1 dX12_over_190 rfl ?_
    refine ev_imul dX12_over_191 ?_
    refine ev_iload_n 3 dX12_over_192 rfl ?_
    show EvG _ _ _ _ _ _ _ _ _ _ _ 193 _ _ _
    refine ev_iadd dX12_over_193 ?_
    replace HF := bind_ck HF
    obtain ⟨c7, HF⟩ := HF
    refine ev_iald dX12_over_194 c7.1 c7.2 ?_
    refine ev_iadd dX12_over_195 ?_
    refine ev_aload_n 0 dX12_over_196 rfl ?_
    refine ev_iload_n 2 dX12_over_197 rfl ?_
    refine ev_iconst (v := 0) dX12_over_198 (by decide) ?_
    replace HF := bind_o HF
    obtain ⟨⟨z10, h9⟩, e8, HF⟩ := HF
    replace HF := bd_o (bd_o HF)
    dsimp only at HF
    refine ev_callV (As := [.int x2, .int 0]) (R1 := (some (.int z10), h9)) (lk_X12_newRow (d := 0) (Nat.le_refl _) c1 e8) ce_X12_newRow im_X12_newRow sl_X12_newRow ml_X12_306 cl_X12 c1 dX12_over_199 (by omega) (Nat.le_of_ble_eq_true rfl) rfl rfl ?_
    show EvG _ _ _ _ _ _ _ _ _ _ _ 202 [(0, .ref t), (1, .int x1), (2, .int x2), (3, .int x3)] [.int z10, .int ((130 * ((4 * x1) + x3)) + (hI h b5 ((4 * x1) + x3).toNatClampNeg)), .ref b3] h9
    replace HF := bind_ck HF
    obtain ⟨c12, HF⟩ := HF
    refine ev_iast dX12_over_202 c12.1 c12.2 ?_
    replace HF := bd_n HF
    obtain ⟨h13, eh13, HF⟩ := HF
    refine ev_heap eh13 ?_
    show EvG _ _ _ _ _ _ _ _ _ _ _ 203 _ _ _
    refine ev_aload_n 0 dX12_over_203 rfl ?_
    replace HF := bind_ck HF
    obtain ⟨c14, HF⟩ := HF
    replace HF := bind_o HF
    obtain ⟨b15, e16, HF⟩ := HF
    refine ev_gS (f := 1309) cl_X12 (k := 9) (by decide) fi_X12_9 rfl fl_X12_28 dX12_over_204 c14 e16 ?_
    refine ev_iconst (v := 4) dX12_over_207 (by decide) ?_
    refine ev_iload_n 1 dX12_over_208 rfl ?_
    refine ev_imul dX12_over_209 ?_
    refine ev_iload_n 3 dX12_over_210 rfl ?_
    refine ev_iadd dX12_over_211 ?_
    refine ev_dup2 dX12_over_212 rfl rfl ?_
    show EvG _ _ _ _ _ _ _ _ _ _ _ 213 _ _ _
    replace HF := bind_ck HF
    obtain ⟨c17, HF⟩ := HF
    refine ev_iald dX12_over_213 c17.1 c17.2 ?_
    refine ev_iconst (v := 1) dX12_over_214 (by decide) ?_
    refine ev_iadd dX12_over_215 ?_
    refine ev_iast dX12_over_216 c17.1 c17.2 ?_
    replace HF := bd_n HF
    obtain ⟨h18, eh18, HF⟩ := HF
    refine ev_heap eh18 ?_
    have c19 : hK h18 t = 14 := by rw [eh18]; exact c14
    refine ev_aload_n 0 dX12_over_217 rfl ?_
    refine ev_iconst (v := 1) dX12_over_218 (by decide) ?_
    refine ev_iload_n 1 dX12_over_219 rfl ?_
    refine ev_iconst (v := (-1)) dX12_over_220 (by decide) ?_
    show EvG _ _ _ _ _ _ _ _ _ _ _ 221 _ _ _
    refine ev_iload_n 3 dX12_over_221 rfl ?_
    refine ev_iconst (v := 0) dX12_over_222 (by decide) ?_
    replace HF := bind_o HF
    obtain ⟨h21, e20, HF⟩ := HF
    refine ev_callV (As := [.int 1, .int x1, .int ((-1)), .int x3, .int 0]) (R1 := (none, h21)) (lk_X12_done (d := 0) (Nat.le_refl _) c19 e20) ce_X12_done im_X12_done sl_X12_done ml_X12_303 cl_X12 c19 dX12_over_223 (by omega) (Nat.le_of_ble_eq_true rfl) rfl rfl ?_
    show EvG _ _ _ _ _ _ _ _ _ _ _ 226 [(0, .ref t), (1, .int x1), (2, .int x2), (3, .int x3)] [] h21
    refine ev_iconst (v := 1) dX12_over_226 (by decide) ?_
    obtain rfl := Option.some.inj HF
    exact ev_zret (v := 1) narrow_b1 dX12_over_227
  · replace HF := ite_F c2 HF
    refine ev_if_eqF (tgt := 172) dX12_over_167 (by decide) c2 ?_
    refine ev_iconst (v := 0) dX12_over_170 (by decide) ?_
    obtain rfl := Option.some.inj HF
    exact ev_zret (v := 0) narrow_b0 dX12_over_171

set_option maxRecDepth 20000 in
theorem lk_X12_over_107 {g : aG} {l : Launch} {d : Nat} {h0 : aH} (hdd : 6 ≤ d) {r : Int32 × aH} (t : Nat) (x1 : Int32) (x2 : Int32) (x3 : Int32) (h : aH) (HF : F_X12_over_107  t x1 x2 x3 h = some r) : Ev g l cX12_over 4 yX12_over (some .boolean) d h0 (some (.int r.1), r.2) 107 [(0, .ref t), (1, .int x1), (2, .int x2), (3, .int x3)] [] h := by
  unfold F_X12_over_107 at HF
  refine ev_aload_n 0 dX12_over_107 rfl ?_
  refine ev_iconst (v := 4) dX12_over_108 (by decide) ?_
  replace HF := bind_ck HF
  obtain ⟨c1, HF⟩ := HF
  refine ev_pI (f := 1319) cl_X12 (k := 19) (by decide) fi_X12_19 rfl fl_X12_297 rfl rfl rfl dX12_over_109 c1 ?_
  replace HF := bd_n HF
  obtain ⟨h2, eh2, HF⟩ := HF
  refine ev_heap eh2 ?_
  have c3 : hK h2 t = 14 := by rw [eh2]; exact c1
  refine ev_goto (tgt := 163) dX12_over_112 (by decide) ?_
  exact Ev.sub [0, 1, 2, 3] rfl (lk_X12_over_163 hdd  t x1 x2 x3 _ HF)

set_option maxRecDepth 20000 in
theorem lk_X12_over_89 {g : aG} {l : Launch} {d : Nat} {h0 : aH} (hdd : 6 ≤ d) {r : Int32 × aH} (t : Nat) (x1 : Int32) (x2 : Int32) (x3 : Int32) (h : aH) (HF : F_X12_over_89  t x1 x2 x3 h = some r) : Ev g l cX12_over 4 yX12_over (some .boolean) d h0 (some (.int r.1), r.2) 89 [(0, .ref t), (1, .int x1), (2, .int x2), (3, .int x3)] [] h := by
  unfold F_X12_over_89 at HF
  refine ev_aload_n 0 dX12_over_89 rfl ?_
  refine ev_iconst (v := 3) dX12_over_90 (by decide) ?_
  replace HF := bind_ck HF
  obtain ⟨c1, HF⟩ := HF
  refine ev_pI (f := 1319) cl_X12 (k := 19) (by decide) fi_X12_19 rfl fl_X12_297 rfl rfl rfl dX12_over_91 c1 ?_
  replace HF := bd_n HF
  obtain ⟨h2, eh2, HF⟩ := HF
  refine ev_heap eh2 ?_
  have c3 : hK h2 t = 14 := by rw [eh2]; exact c1
  refine ev_goto (tgt := 163) dX12_over_94 (by decide) ?_
  exact Ev.sub [0, 1, 2, 3] rfl (lk_X12_over_163 hdd  t x1 x2 x3 _ HF)

set_option maxRecDepth 20000 in
theorem lk_X12_over {g : aG} {l : Launch} {d : Nat} (hdd : 6 ≤ d) {t : Nat} {x1 : Int32} {x2 : Int32} {h : aH} {r : Int32 × aH} (hT : hK h t = 14) (HF : F_X12_over t x1 x2 h = some r) : MA g l yX12_over cX12_over 4 (some .boolean) d [.ref t, .int x1, .int x2] h (some (.int r.1), r.2) := by
  refine MA.of (lv0 := [(0, .ref t), (1, .int x1), (2, .int x2)]) (by decide +kernel) (rfl) (Nat.le_of_ble_eq_true rfl) ?_
  unfold F_X12_over at HF
  refine ev_aload_n 0 dX12_over_0 rfl ?_
  refine ev_iconst (v := 0) dX12_over_1 (by decide) ?_
  refine ev_pI (f := 1300) cl_X12 (k := 0) (by decide) fi_X12_0 rfl fl_X12_175 rfl rfl rfl dX12_over_2 hT ?_
  replace HF := bd_n HF
  obtain ⟨h1, eh1, HF⟩ := HF
  refine ev_heap eh1 ?_
  have c2 : hK h1 t = 14 := by rw [eh1]; exact hT
  refine ev_aload_n 0 dX12_over_5 rfl ?_
  refine ev_iconst (v := 0) dX12_over_6 (by decide) ?_
  refine ev_pI (f := 1319) cl_X12 (k := 19) (by decide) fi_X12_19 rfl fl_X12_297 rfl rfl rfl dX12_over_7 c2 ?_
  replace HF := bd_n HF
  obtain ⟨h3, eh3, HF⟩ := HF
  refine ev_heap eh3 ?_
  have c4 : hK h3 t = 14 := by rw [eh3]; exact c2
  refine ev_aload_n 0 dX12_over_10 rfl ?_
  show EvG _ _ _ _ _ _ _ _ _ _ _ 11 _ _ _
  refine ev_iload_n 1 dX12_over_11 rfl ?_
  replace HF := bind_o HF
  obtain ⟨⟨z7, h6⟩, e5, HF⟩ := HF
  replace HF := bd_o (bd_o HF)
  dsimp only at HF
  refine ev_callV (As := [.int x1]) (R1 := (some (.int z7), h6)) (lk_X12_isGame (d := 0) (Nat.le_refl _) c4 e5) ce_X12_isGame im_X12_isGame sl_X12_isGame ml_X12_193 cl_X12 c4 dX12_over_12 (by omega) (Nat.le_of_ble_eq_true rfl) rfl rfl ?_
  show EvG _ _ _ _ _ _ _ _ _ _ _ 15 [(0, .ref t), (1, .int x1), (2, .int x2)] [.int z7] h6
  by_cases c9 : z7 = 0
  · replace HF := ite_T c9 HF
    refine ev_if_neF (tgt := 20) dX12_over_15 (by decide) c9 ?_
    refine ev_iconst (v := 0) dX12_over_18 (by decide) ?_
    obtain rfl := Option.some.inj HF
    exact ev_zret (v := 0) narrow_b0 dX12_over_19
  · replace HF := ite_F c9 HF
    refine ev_if_neT (tgt := 20) dX12_over_15 (by decide) c9 ?_
    refine ev_aload_n 0 dX12_over_20 rfl ?_
    refine ev_iload_n 1 dX12_over_21 rfl ?_
    replace HF := bind_ck HF
    obtain ⟨c10, HF⟩ := HF
    replace HF := bind_o HF
    obtain ⟨h12, e11, HF⟩ := HF
    refine ev_callV (As := [.int x1]) (R1 := (none, h12)) (lk_X12_play (d := 5) (Nat.le_refl _) c10 e11) ce_X12_play im_X12_play sl_X12_play ml_X12_300 cl_X12 c10 dX12_over_22 (by omega) (Nat.le_of_ble_eq_true rfl) rfl rfl ?_
    show EvG _ _ _ _ _ _ _ _ _ _ _ 25 [(0, .ref t), (1, .int x1), (2, .int x2)] [] h12
    refine ev_aload_n 0 dX12_over_25 rfl ?_
    replace HF := bind_ck HF
    obtain ⟨c14, HF⟩ := HF
    replace HF := bind_o HF
    obtain ⟨b15, e16, HF⟩ := HF
    refine ev_gS (f := 1308) cl_X12 (k := 8) (by decide) fi_X12_8 rfl fl_X12_25 dX12_over_26 c14 e16 ?_
    refine ev_iload_n 1 dX12_over_29 rfl ?_
    replace HF := bind_ck HF
    obtain ⟨c17, HF⟩ := HF
    refine ev_iald dX12_over_30 c17.1 c17.2 ?_
    show EvG _ _ _ _ _ _ _ _ _ _ _ 31 _ _ _
    refine ev_iconst (v := 1) dX12_over_31 (by decide) ?_
    refine ev_isub dX12_over_32 ?_
    replace HF := bd_n HF
    obtain ⟨v18, ev18, HF⟩ := HF
    refine ev_topI ev18 ?_
    refine ev_istore_n (lv' := [(3, .int v18), (0, .ref t), (1, .int x1), (2, .int x2)]) dX12_over_33 (by decide) (rfl) ?_
    refine ev_aload_n 1 dX12_over_34 rfl ?_
    refine ev_gI (f := 1328) cl_X12 (k := 28) (by decide) fi_X12_28 rfl fl_X12_200 dX12_over_35 c14 ?_
    by_cases c19 : hF h12 1328 t = 0
    · replace HF := ite_T c19 HF
      refine ev_if_eqT (tgt := 52) dX12_over_38 (by decide) c19 ?_
      refine ev_iload_n 0 dX12_over_52 rfl ?_
      by_cases c20 : 0 ≤ v18
      · replace HF := ite_T c20 HF
        refine ev_if_geT (tgt := 65) dX12_over_53 (by decide) c20 ?_
        refine ev_aload_n 1 dX12_over_65 rfl ?_
        replace HF := bind_o HF
        obtain ⟨b21, e22, HF⟩ := HF
        refine ev_gS (f := 1341) cl_X12 (k := 41) (by decide) fi_X12_41 rfl fl_X12_90 dX12_over_66 c14 e22 ?_
        refine ev_iload_n 0 dX12_over_69 rfl ?_
        replace HF := bind_ck HF
        obtain ⟨c23, HF⟩ := HF
        refine ev_iald dX12_over_70 c23.1 c23.2 ?_
        by_cases c24 : hI h12 b21 v18.toNatClampNeg = 0
        · replace HF := ite_T c24 HF
          refine ev_if_neF (tgt := 89) dX12_over_71 (by decide) c24 ?_
          refine ev_aload_n 1 dX12_over_74 rfl ?_
          replace HF := bind_o HF
          obtain ⟨b25, e26, HF⟩ := HF
          refine ev_gS (f := 1344) cl_X12 (k := 44) (by decide) fi_X12_44 rfl fl_X12_99 dX12_over_75 c14 e26 ?_
          refine ev_iload_n 0 dX12_over_78 rfl ?_
          replace HF := bind_ck HF
          obtain ⟨c27, HF⟩ := HF
          refine ev_iald dX12_over_79 c27.1 c27.2 ?_
          refine ev_aload_n 1 dX12_over_80 rfl ?_
          replace HF := bind_o HF
          obtain ⟨b28, e29, HF⟩ := HF
          refine ev_gS (f := 1340) cl_X12 (k := 40) (by decide) fi_X12_40 rfl fl_X12_87 dX12_over_81 c14 e29 ?_
          refine ev_iload_n 0 dX12_over_84 rfl ?_
          show EvG _ _ _ _ _ _ _ _ _ _ _ 85 _ _ _
          replace HF := bind_ck HF
          obtain ⟨c30, HF⟩ := HF
          refine ev_iald dX12_over_85 c30.1 c30.2 ?_
          by_cases c31 : hI h12 b25 v18.toNatClampNeg = hI h12 b28 v18.toNatClampNeg
          · replace HF := ite_T c31 HF
            refine ev_icmp_neF (tgt := 97) dX12_over_86 (by decide) c31 ?_
            exact Ev.sub [1, 2, 3, 0] rfl (lk_X12_over_89 hdd  t x1 x2 v18 _ HF)
          · replace HF := ite_F c31 HF
            refine ev_icmp_neT (tgt := 97) dX12_over_86 (by decide) c31 ?_
            refine ev_iload_n 3 dX12_over_97 rfl ?_
            by_cases c32 : x2 < 0
            · replace HF := ite_T c32 HF
              refine ev_if_ltT (tgt := 107) dX12_over_98 (by decide) c32 ?_
              exact Ev.sub [1, 2, 3, 0] rfl (lk_X12_over_107 hdd  t x1 x2 v18 _ HF)
            · replace HF := ite_F c32 HF
              refine ev_if_ltF (tgt := 107) dX12_over_98 (by decide) c32 ?_
              refine ev_iload_n 3 dX12_over_101 rfl ?_
              refine ev_bipush (v := 10) dX12_over_102 (by decide) ?_
              by_cases c33 : x2 ≤ 10
              · replace HF := ite_T c33 HF
                refine ev_icmp_leT (tgt := 115) dX12_over_104 (by decide) c33 ?_
                refine ev_iload_n 3 dX12_over_115 rfl ?_
                refine ev_aload_n 1 dX12_over_116 rfl ?_
                replace HF := bind_o HF
                obtain ⟨b34, e35, HF⟩ := HF
                refine ev_gS (f := 1351) cl_X12 (k := 51) (by decide) fi_X12_51 rfl fl_X12_120 dX12_over_117 c14 e35 ?_
                refine ev_iload_n 0 dX12_over_120 rfl ?_
                replace HF := bind_ck HF
                obtain ⟨c36, HF⟩ := HF
                refine ev_iald dX12_over_121 c36.1 c36.2 ?_
                by_cases c37 : x2 = hI h12 b34 v18.toNatClampNeg
                · replace HF := ite_T c37 HF
                  refine ev_icmp_neF (tgt := 133) dX12_over_122 (by decide) c37 ?_
                  refine ev_aload_n 1 dX12_over_125 rfl ?_
                  refine ev_iconst (v := 5) dX12_over_126 (by decide) ?_
                  refine ev_pI (f := 1319) cl_X12 (k := 19) (by decide) fi_X12_19 rfl fl_X12_297 rfl rfl rfl dX12_over_127 c14 ?_
                  replace HF := bd_n HF
                  obtain ⟨h38, eh38, HF⟩ := HF
                  refine ev_heap eh38 ?_
                  have c39 : hK h38 t = 14 := by rw [eh38]; exact c14
                  refine ev_goto (tgt := 163) dX12_over_130 (by decide) ?_
                  exact Ev.sub [1, 2, 3, 0] rfl (lk_X12_over_163 hdd  t x1 x2 v18 _ HF)
                · replace HF := ite_F c37 HF
                  refine ev_icmp_neT (tgt := 133) dX12_over_122 (by decide) c37 ?_
                  refine ev_aload_n 1 dX12_over_133 rfl ?_
                  replace HF := bind_o HF
                  obtain ⟨b40, e41, HF⟩ := HF
                  refine ev_gS (f := 1356) cl_X12 (k := 56) (by decide) fi_X12_56 rfl fl_X12_136 dX12_over_134 c14 e41 ?_
                  refine ev_bipush (v := 11) dX12_over_137 (by decide) ?_
                  refine ev_iload_n 0 dX12_over_139 rfl ?_
                  refine ev_imul dX12_over_140 ?_
                  refine ev_iload_n 3 dX12_over_141 rfl ?_
                  refine ev_iadd dX12_over_142 ?_
                  show EvG _ _ _ _ _ _ _ _ _ _ _ 143 _ _ _
                  replace HF := bind_ck HF
                  obtain ⟨c42, HF⟩ := HF
                  refine ev_iald dX12_over_143 c42.1 c42.2 ?_
                  refine ev_aload_n 1 dX12_over_144 rfl ?_
                  replace HF := bind_o HF
                  obtain ⟨b43, e44, HF⟩ := HF
                  refine ev_gS (f := 1305) cl_X12 (k := 5) (by decide) fi_X12_5 rfl fl_X12_16 dX12_over_145 c14 e44 ?_
                  refine ev_iload_n 2 dX12_over_148 rfl ?_
                  replace HF := bind_ck HF
                  obtain ⟨c45, HF⟩ := HF
                  refine ev_iald dX12_over_149 c45.1 c45.2 ?_
                  refine ev_iconst (v := 4) dX12_over_150 (by decide) ?_
                  refine ev_iadd dX12_over_151 ?_
                  refine ev_iconst (v := 5) dX12_over_152 (by decide) ?_
                  show EvG _ _ _ _ _ _ _ _ _ _ _ 153 _ _ _
                  refine ev_idiv dX12_over_153 (by decide) ?_
                  by_cases c46 : hI h12 b40 ((11 * v18) + x2).toNatClampNeg = ((hI h12 b43 x1.toNatClampNeg) + 4) / 5
                  · replace HF := ite_T c46 HF
                    refine ev_icmp_neF (tgt := 163) dX12_over_154 (by decide) c46 ?_
                    refine ev_aload_n 1 dX12_over_157 rfl ?_
                    refine ev_bipush (v := 6) dX12_over_158 (by decide) ?_
                    refine ev_pI (f := 1319) cl_X12 (k := 19) (by decide) fi_X12_19 rfl fl_X12_297 rfl rfl rfl dX12_over_160 c14 ?_
                    replace HF := bd_n HF
                    obtain ⟨h47, eh47, HF⟩ := HF
                    refine ev_heap eh47 ?_
                    have c48 : hK h47 t = 14 := by rw [eh47]; exact c14
                    exact Ev.sub [1, 2, 3, 0] rfl (lk_X12_over_163 hdd  t x1 x2 v18 _ HF)
                  · replace HF := ite_F c46 HF
                    refine ev_icmp_neT (tgt := 163) dX12_over_154 (by decide) c46 ?_
                    exact Ev.sub [1, 2, 3, 0] rfl (lk_X12_over_163 hdd  t x1 x2 v18 _ HF)
              · replace HF := ite_F c33 HF
                refine ev_icmp_leF (tgt := 115) dX12_over_104 (by decide) c33 ?_
                exact Ev.sub [1, 2, 3, 0] rfl (lk_X12_over_107 hdd  t x1 x2 v18 _ HF)
        · replace HF := ite_F c24 HF
          refine ev_if_neT (tgt := 89) dX12_over_71 (by decide) c24 ?_
          exact Ev.sub [1, 2, 3, 0] rfl (lk_X12_over_89 hdd  t x1 x2 v18 _ HF)
      · replace HF := ite_F c20 HF
        refine ev_if_geF (tgt := 65) dX12_over_53 (by decide) c20 ?_
        refine ev_aload_n 1 dX12_over_56 rfl ?_
        refine ev_bipush (v := 11) dX12_over_57 (by decide) ?_
        refine ev_pI (f := 1319) cl_X12 (k := 19) (by decide) fi_X12_19 rfl fl_X12_297 rfl rfl rfl dX12_over_59 c14 ?_
        replace HF := bd_n HF
        obtain ⟨h49, eh49, HF⟩ := HF
        refine ev_heap eh49 ?_
        have c50 : hK h49 t = 14 := by rw [eh49]; exact c14
        refine ev_goto (tgt := 163) dX12_over_62 (by decide) ?_
        exact Ev.sub [1, 2, 3, 0] rfl (lk_X12_over_163 hdd  t x1 x2 v18 _ HF)
    · replace HF := ite_F c19 HF
      refine ev_if_eqF (tgt := 52) dX12_over_38 (by decide) c19 ?_
      refine ev_aload_n 1 dX12_over_41 rfl ?_
      refine ev_aload_n 1 dX12_over_42 rfl ?_
      refine ev_gI (f := 1328) cl_X12 (k := 28) (by decide) fi_X12_28 rfl fl_X12_200 dX12_over_43 c14 ?_
      refine ev_pI (f := 1319) cl_X12 (k := 19) (by decide) fi_X12_19 rfl fl_X12_297 rfl rfl rfl dX12_over_46 c14 ?_
      replace HF := bd_n HF
      obtain ⟨h51, eh51, HF⟩ := HF
      refine ev_heap eh51 ?_
      have c52 : hK h51 t = 14 := by rw [eh51]; exact c14
      refine ev_goto (tgt := 163) dX12_over_49 (by decide) ?_
      exact Ev.sub [1, 2, 3, 0] rfl (lk_X12_over_163 hdd  t x1 x2 v18 _ HF)

set_option maxRecDepth 20000 in
theorem lk_X12_ball_169 {g : aG} {l : Launch} {d : Nat} {h0 : aH} (hdd : 6 ≤ d) {r : Int32 × aH} (t : Nat) (x1 : Int32) (x4 : Int32) (x5 : Int32) (h : aH) (HF : F_X12_ball_169  t x1 x4 x5 h = some r) : Ev g l cX12_ball 6 yX12_ball (some .boolean) d h0 (some (.int r.1), r.2) 169 [(0, .ref t), (1, .int x1), (4, .int x4), (5, .int x5)] [] h := by
  unfold F_X12_ball_169 at HF
  refine ev_aload_n 0 dX12_ball_169 rfl ?_
  replace HF := bind_ck HF
  obtain ⟨c1, HF⟩ := HF
  refine ev_gI (f := 1319) cl_X12 (k := 19) (by decide) fi_X12_19 rfl fl_X12_297 dX12_ball_170 c1 ?_
  by_cases c2 : hF h 1319 t = 0
  · replace HF := ite_T c2 HF
    refine ev_if_eqT (tgt := 178) dX12_ball_173 (by decide) c2 ?_
    refine ev_aload_n 0 dX12_ball_178 rfl ?_
    replace HF := bind_o HF
    obtain ⟨b3, e4, HF⟩ := HF
    refine ev_gS (f := 1314) cl_X12 (k := 14) (by decide) fi_X12_14 rfl fl_X12_42 dX12_ball_179 c1 e4 ?_
    refine ev_bipush (v := 40) dX12_ball_182 (by decide) ?_
    refine ev_iload 2 dX12_ball_184 rfl ?_
    refine ev_imul dX12_ball_186 ?_
    refine ev_aload_n 0 dX12_ball_187 rfl ?_
    replace HF := bind_o HF
    obtain ⟨b5, e6, HF⟩ := HF
    refine ev_gS (f := 1313) cl_X12 (k := 13) (by decide) fi_X12_13 rfl fl_X12_38 dX12_ball_188 c1 e6 ?_
    show EvG _ _ _ _ _ _ _ _ _ _ _ 191 _ _ _
    refine ev_iload 2 dX12_ball_191 rfl ?_
    replace HF := bind_ck HF
    obtain ⟨c7, HF⟩ := HF
    refine ev_iald dX12_ball_193 c7.1 c7.2 ?_
    refine ev_iadd dX12_ball_194 ?_
    refine ev_iload 3 dX12_ball_195 rfl ?_
    replace HF := bind_ck HF
    obtain ⟨c8, HF⟩ := HF
    refine ev_iast dX12_ball_197 c8.1 c8.2 ?_
    replace HF := bd_n HF
    obtain ⟨h9, eh9, HF⟩ := HF
    refine ev_heap eh9 ?_
    have c10 : hK h9 t = 14 := by rw [eh9]; exact c1
    refine ev_aload_n 0 dX12_ball_198 rfl ?_
    replace HF := bind_o HF
    obtain ⟨b11, e12, HF⟩ := HF
    refine ev_gS (f := 1313) cl_X12 (k := 13) (by decide) fi_X12_13 rfl fl_X12_38 dX12_ball_199 c10 e12 ?_
    refine ev_iload 2 dX12_ball_202 rfl ?_
    show EvG _ _ _ _ _ _ _ _ _ _ _ 204 _ _ _
    refine ev_dup2 dX12_ball_204 rfl rfl ?_
    replace HF := bind_ck HF
    obtain ⟨c13, HF⟩ := HF
    refine ev_iald dX12_ball_205 c13.1 c13.2 ?_
    refine ev_iconst (v := 1) dX12_ball_206 (by decide) ?_
    refine ev_iadd dX12_ball_207 ?_
    refine ev_iast dX12_ball_208 c13.1 c13.2 ?_
    replace HF := bd_n HF
    obtain ⟨h14, eh14, HF⟩ := HF
    refine ev_heap eh14 ?_
    have c15 : hK h14 t = 14 := by rw [eh14]; exact c10
    refine ev_aload_n 0 dX12_ball_209 rfl ?_
    refine ev_iconst (v := 2) dX12_ball_210 (by decide) ?_
    refine ev_iload_n 1 dX12_ball_211 rfl ?_
    show EvG _ _ _ _ _ _ _ _ _ _ _ 212 _ _ _
    refine ev_iload 2 dX12_ball_212 rfl ?_
    refine ev_aload_n 0 dX12_ball_214 rfl ?_
    replace HF := bind_o HF
    obtain ⟨b16, e17, HF⟩ := HF
    refine ev_gS (f := 1313) cl_X12 (k := 13) (by decide) fi_X12_13 rfl fl_X12_38 dX12_ball_215 c15 e17 ?_
    refine ev_iload 2 dX12_ball_218 rfl ?_
    replace HF := bind_ck HF
    obtain ⟨c18, HF⟩ := HF
    refine ev_iald dX12_ball_220 c18.1 c18.2 ?_
    refine ev_iconst (v := 1) dX12_ball_221 (by decide) ?_
    refine ev_isub dX12_ball_222 ?_
    refine ev_iconst (v := 0) dX12_ball_223 (by decide) ?_
    show EvG _ _ _ _ _ _ _ _ _ _ _ 224 _ _ _
    replace HF := bind_o HF
    obtain ⟨h20, e19, HF⟩ := HF
    refine ev_callV (As := [.int 2, .int x1, .int x4, .int ((hI h14 b16 x4.toNatClampNeg) - 1), .int 0]) (R1 := (none, h20)) (lk_X12_done (d := 0) (Nat.le_refl _) c15 e19) ce_X12_done im_X12_done sl_X12_done ml_X12_303 cl_X12 c15 dX12_ball_224 (by omega) (Nat.le_of_ble_eq_true rfl) rfl rfl ?_
    show EvG _ _ _ _ _ _ _ _ _ _ _ 227 [(0, .ref t), (1, .int x1), (4, .int x4), (5, .int x5)] [] h20
    refine ev_iconst (v := 1) dX12_ball_227 (by decide) ?_
    obtain rfl := Option.some.inj HF
    exact ev_zret (v := 1) narrow_b1 dX12_ball_228
  · replace HF := ite_F c2 HF
    refine ev_if_eqF (tgt := 178) dX12_ball_173 (by decide) c2 ?_
    refine ev_iconst (v := 0) dX12_ball_176 (by decide) ?_
    obtain rfl := Option.some.inj HF
    exact ev_zret (v := 0) narrow_b0 dX12_ball_177

set_option maxRecDepth 20000 in
theorem lk_X12_ball_117 {g : aG} {l : Launch} {d : Nat} {h0 : aH} (hdd : 6 ≤ d) {r : Int32 × aH} (t : Nat) (x1 : Int32) (x4 : Int32) (x5 : Int32) (h : aH) (HF : F_X12_ball_117  t x1 x4 x5 h = some r) : Ev g l cX12_ball 6 yX12_ball (some .boolean) d h0 (some (.int r.1), r.2) 117 [(0, .ref t), (1, .int x1), (4, .int x4), (5, .int x5)] [] h := by
  unfold F_X12_ball_117 at HF
  refine ev_aload_n 0 dX12_ball_117 rfl ?_
  refine ev_bipush (v := 11) dX12_ball_118 (by decide) ?_
  replace HF := bind_ck HF
  obtain ⟨c1, HF⟩ := HF
  refine ev_pI (f := 1319) cl_X12 (k := 19) (by decide) fi_X12_19 rfl fl_X12_297 rfl rfl rfl dX12_ball_120 c1 ?_
  replace HF := bd_n HF
  obtain ⟨h2, eh2, HF⟩ := HF
  refine ev_heap eh2 ?_
  have c3 : hK h2 t = 14 := by rw [eh2]; exact c1
  refine ev_goto (tgt := 169) dX12_ball_123 (by decide) ?_
  exact Ev.sub [0, 1, 2, 3] rfl (lk_X12_ball_169 hdd  t x1 x4 x5 _ HF)

set_option maxRecDepth 20000 in
theorem lk_X12_ball_73 {g : aG} {l : Launch} {d : Nat} {h0 : aH} (hdd : 6 ≤ d) {r : Int32 × aH} (t : Nat) (x1 : Int32) (x2 : Int32) (x3 : Int32) (y0 : Int32) (h : aH) (HF : F_X12_ball_73  t x1 x2 x3 y0 h = some r) : Ev g l cX12_ball 6 yX12_ball (some .boolean) d h0 (some (.int r.1), r.2) 73 [(0, .ref t), (1, .int x1), (2, .int x2), (3, .int x3)] [.int y0] h := by
  unfold F_X12_ball_73 at HF
  refine ev_istore (lv' := [(4, .int y0), (0, .ref t), (1, .int x1), (2, .int x2), (3, .int x3)]) dX12_ball_73 (by decide) (rfl) ?_
  refine ev_iload_n 3 dX12_ball_75 rfl ?_
  refine ev_sipush (v := 255) dX12_ball_76 (by decide) ?_
  refine ev_iand dX12_ball_79 ?_
  replace HF := bd_n HF
  obtain ⟨v1, ev1, HF⟩ := HF
  refine ev_topI ev1 ?_
  refine ev_istore (lv' := [(5, .int v1), (4, .int y0), (0, .ref t), (1, .int x1), (2, .int x2), (3, .int x3)]) dX12_ball_80 (by decide) (rfl) ?_
  refine ev_aload_n 2 dX12_ball_82 rfl ?_
  replace HF := bind_ck HF
  obtain ⟨c2, HF⟩ := HF
  refine ev_gI (f := 1328) cl_X12 (k := 28) (by decide) fi_X12_28 rfl fl_X12_200 dX12_ball_83 c2 ?_
  show EvG _ _ _ _ _ _ _ _ _ _ _ 86 _ _ _
  by_cases c3 : hF h 1328 t = 0
  · replace HF := ite_T c3 HF
    refine ev_if_eqT (tgt := 100) dX12_ball_86 (by decide) c3 ?_
    refine ev_iload 1 dX12_ball_100 rfl ?_
    refine ev_iconst (v := (-1)) dX12_ball_102 (by decide) ?_
    by_cases c4 : y0 = (-1)
    · replace HF := ite_T c4 HF
      refine ev_icmp_eqT (tgt := 117) dX12_ball_103 (by decide) c4 ?_
      exact Ev.sub [2, 3, 1, 0] rfl (lk_X12_ball_117 hdd  t x1 y0 v1 _ HF)
    · replace HF := ite_F c4 HF
      refine ev_icmp_eqF (tgt := 117) dX12_ball_103 (by decide) c4 ?_
      refine ev_aload_n 2 dX12_ball_106 rfl ?_
      replace HF := bind_o HF
      obtain ⟨b5, e6, HF⟩ := HF
      refine ev_gS (f := 1313) cl_X12 (k := 13) (by decide) fi_X12_13 rfl fl_X12_38 dX12_ball_107 c2 e6 ?_
      refine ev_iload 1 dX12_ball_110 rfl ?_
      replace HF := bind_ck HF
      obtain ⟨c7, HF⟩ := HF
      refine ev_iald dX12_ball_112 c7.1 c7.2 ?_
      refine ev_iconst (v := (-1)) dX12_ball_113 (by decide) ?_
      by_cases c8 : hI h b5 y0.toNatClampNeg = (-1)
      · replace HF := ite_T c8 HF
        refine ev_icmp_neF (tgt := 126) dX12_ball_114 (by decide) c8 ?_
        exact Ev.sub [2, 3, 1, 0] rfl (lk_X12_ball_117 hdd  t x1 y0 v1 _ HF)
      · replace HF := ite_F c8 HF
        refine ev_icmp_neT (tgt := 126) dX12_ball_114 (by decide) c8 ?_
        refine ev_aload_n 2 dX12_ball_126 rfl ?_
        replace HF := bind_o HF
        obtain ⟨b9, e10, HF⟩ := HF
        refine ev_gS (f := 1313) cl_X12 (k := 13) (by decide) fi_X12_13 rfl fl_X12_38 dX12_ball_127 c2 e10 ?_
        refine ev_iload 1 dX12_ball_130 rfl ?_
        replace HF := bind_ck HF
        obtain ⟨c11, HF⟩ := HF
        refine ev_iald dX12_ball_132 c11.1 c11.2 ?_
        refine ev_bipush (v := 40) dX12_ball_133 (by decide) ?_
        by_cases c12 : hI h b9 y0.toNatClampNeg = 40
        · replace HF := ite_T c12 HF
          refine ev_icmp_neF (tgt := 147) dX12_ball_135 (by decide) c12 ?_
          refine ev_aload_n 2 dX12_ball_138 rfl ?_
          refine ev_bipush (v := 12) dX12_ball_139 (by decide) ?_
          refine ev_pI (f := 1319) cl_X12 (k := 19) (by decide) fi_X12_19 rfl fl_X12_297 rfl rfl rfl dX12_ball_141 c2 ?_
          replace HF := bd_n HF
          obtain ⟨h13, eh13, HF⟩ := HF
          refine ev_heap eh13 ?_
          have c14 : hK h13 t = 14 := by rw [eh13]; exact c2
          refine ev_goto (tgt := 169) dX12_ball_144 (by decide) ?_
          exact Ev.sub [2, 3, 1, 0] rfl (lk_X12_ball_169 hdd  t x1 y0 v1 _ HF)
        · replace HF := ite_F c12 HF
          refine ev_icmp_neT (tgt := 147) dX12_ball_135 (by decide) c12 ?_
          refine ev_aload_n 2 dX12_ball_147 rfl ?_
          refine ev_aload_n 2 dX12_ball_148 rfl ?_
          refine ev_iload_n 3 dX12_ball_149 rfl ?_
          refine ev_iload_n 5 dX12_ball_150 rfl ?_
          refine ev_iload 1 dX12_ball_151 rfl ?_
          refine ev_iload 0 dX12_ball_153 rfl ?_
          refine ev_bipush (v := 16) dX12_ball_155 (by decide) ?_
          show EvG _ _ _ _ _ _ _ _ _ _ _ 157 _ _ _
          refine ev_idiv dX12_ball_157 (by decide) ?_
          refine ev_iload 0 dX12_ball_158 rfl ?_
          refine ev_bipush (v := 16) dX12_ball_160 (by decide) ?_
          refine ev_irem dX12_ball_162 (by decide) ?_
          replace HF := bind_o HF
          obtain ⟨⟨z17, h16⟩, e15, HF⟩ := HF
          replace HF := bd_o (bd_o HF)
          dsimp only at HF
          refine ev_callV (As := [.int x1, .int x3, .int y0, .int (v1 / 16), .int (v1 - v1 / 16 * 16)]) (R1 := (some (.int z17), h16)) (lk_X12_against (d := 1) (Nat.le_refl _) c2 e15) ce_X12_against im_X12_against sl_X12_against ml_X12_257 cl_X12 c2 dX12_ball_163 (by omega) (Nat.le_of_ble_eq_true rfl) rfl rfl ?_
          show EvG _ _ _ _ _ _ _ _ _ _ _ 166 [(5, .int v1), (4, .int y0), (0, .ref t), (1, .int x1), (2, .int x2), (3, .int x3)] [.int z17, .ref t] h16
          replace HF := bind_ck HF
          obtain ⟨c19, HF⟩ := HF
          refine ev_pI (f := 1319) cl_X12 (k := 19) (by decide) fi_X12_19 rfl fl_X12_297 rfl rfl rfl dX12_ball_166 c19 ?_
          replace HF := bd_n HF
          obtain ⟨h20, eh20, HF⟩ := HF
          refine ev_heap eh20 ?_
          have c21 : hK h20 t = 14 := by rw [eh20]; exact c19
          exact Ev.sub [2, 3, 1, 0] rfl (lk_X12_ball_169 hdd  t x1 y0 v1 _ HF)
  · replace HF := ite_F c3 HF
    refine ev_if_eqF (tgt := 100) dX12_ball_86 (by decide) c3 ?_
    refine ev_aload_n 2 dX12_ball_89 rfl ?_
    refine ev_aload_n 2 dX12_ball_90 rfl ?_
    refine ev_gI (f := 1328) cl_X12 (k := 28) (by decide) fi_X12_28 rfl fl_X12_200 dX12_ball_91 c2 ?_
    refine ev_pI (f := 1319) cl_X12 (k := 19) (by decide) fi_X12_19 rfl fl_X12_297 rfl rfl rfl dX12_ball_94 c2 ?_
    replace HF := bd_n HF
    obtain ⟨h22, eh22, HF⟩ := HF
    refine ev_heap eh22 ?_
    have c23 : hK h22 t = 14 := by rw [eh22]; exact c2
    refine ev_goto (tgt := 169) dX12_ball_97 (by decide) ?_
    exact Ev.sub [2, 3, 1, 0] rfl (lk_X12_ball_169 hdd  t x1 y0 v1 _ HF)

set_option maxRecDepth 20000 in
theorem lk_X12_ball_51 {g : aG} {l : Launch} {d : Nat} {h0 : aH} (hdd : 6 ≤ d) {r : Int32 × aH} (t : Nat) (x1 : Int32) (x2 : Int32) (x3 : Int32) (h : aH) (HF : F_X12_ball_51  t x1 x2 x3 h = some r) : Ev g l cX12_ball 6 yX12_ball (some .boolean) d h0 (some (.int r.1), r.2) 51 [(0, .ref t), (1, .int x1), (2, .int x2), (3, .int x3)] [] h := by
  unfold F_X12_ball_51 at HF
  refine ev_iconst (v := (-1)) dX12_ball_51 (by decide) ?_
  refine ev_goto (tgt := 73) dX12_ball_52 (by decide) ?_
  exact Ev.sub [0, 1, 2, 3] rfl (lk_X12_ball_73 hdd  t x1 x2 x3 ((-1)) _ HF)

set_option maxRecDepth 20000 in
theorem lk_X12_ball {g : aG} {l : Launch} {d : Nat} (hdd : 6 ≤ d) {t : Nat} {x1 : Int32} {x2 : Int32} {h : aH} {r : Int32 × aH} (hT : hK h t = 14) (HF : F_X12_ball t x1 x2 h = some r) : MA g l yX12_ball cX12_ball 6 (some .boolean) d [.ref t, .int x1, .int x2] h (some (.int r.1), r.2) := by
  refine MA.of (lv0 := [(0, .ref t), (1, .int x1), (2, .int x2)]) (by decide +kernel) (rfl) (Nat.le_of_ble_eq_true rfl) ?_
  unfold F_X12_ball at HF
  refine ev_aload_n 0 dX12_ball_0 rfl ?_
  refine ev_iconst (v := 0) dX12_ball_1 (by decide) ?_
  refine ev_pI (f := 1300) cl_X12 (k := 0) (by decide) fi_X12_0 rfl fl_X12_175 rfl rfl rfl dX12_ball_2 hT ?_
  replace HF := bd_n HF
  obtain ⟨h1, eh1, HF⟩ := HF
  refine ev_heap eh1 ?_
  have c2 : hK h1 t = 14 := by rw [eh1]; exact hT
  refine ev_aload_n 0 dX12_ball_5 rfl ?_
  refine ev_iconst (v := 0) dX12_ball_6 (by decide) ?_
  refine ev_pI (f := 1319) cl_X12 (k := 19) (by decide) fi_X12_19 rfl fl_X12_297 rfl rfl rfl dX12_ball_7 c2 ?_
  replace HF := bd_n HF
  obtain ⟨h3, eh3, HF⟩ := HF
  refine ev_heap eh3 ?_
  have c4 : hK h3 t = 14 := by rw [eh3]; exact c2
  refine ev_aload_n 0 dX12_ball_10 rfl ?_
  show EvG _ _ _ _ _ _ _ _ _ _ _ 11 _ _ _
  refine ev_iload_n 1 dX12_ball_11 rfl ?_
  replace HF := bind_o HF
  obtain ⟨⟨z7, h6⟩, e5, HF⟩ := HF
  replace HF := bd_o (bd_o HF)
  dsimp only at HF
  refine ev_callV (As := [.int x1]) (R1 := (some (.int z7), h6)) (lk_X12_isGame (d := 0) (Nat.le_refl _) c4 e5) ce_X12_isGame im_X12_isGame sl_X12_isGame ml_X12_193 cl_X12 c4 dX12_ball_12 (by omega) (Nat.le_of_ble_eq_true rfl) rfl rfl ?_
  show EvG _ _ _ _ _ _ _ _ _ _ _ 15 [(0, .ref t), (1, .int x1), (2, .int x2)] [.int z7] h6
  by_cases c9 : z7 = 0
  · replace HF := ite_T c9 HF
    refine ev_if_neF (tgt := 20) dX12_ball_15 (by decide) c9 ?_
    refine ev_iconst (v := 0) dX12_ball_18 (by decide) ?_
    obtain rfl := Option.some.inj HF
    exact ev_zret (v := 0) narrow_b0 dX12_ball_19
  · replace HF := ite_F c9 HF
    refine ev_if_neT (tgt := 20) dX12_ball_15 (by decide) c9 ?_
    refine ev_aload_n 0 dX12_ball_20 rfl ?_
    refine ev_iload_n 1 dX12_ball_21 rfl ?_
    replace HF := bind_ck HF
    obtain ⟨c10, HF⟩ := HF
    replace HF := bind_o HF
    obtain ⟨h12, e11, HF⟩ := HF
    refine ev_callV (As := [.int x1]) (R1 := (none, h12)) (lk_X12_play (d := 5) (Nat.le_refl _) c10 e11) ce_X12_play im_X12_play sl_X12_play ml_X12_300 cl_X12 c10 dX12_ball_22 (by omega) (Nat.le_of_ble_eq_true rfl) rfl rfl ?_
    show EvG _ _ _ _ _ _ _ _ _ _ _ 25 [(0, .ref t), (1, .int x1), (2, .int x2)] [] h12
    refine ev_aload_n 0 dX12_ball_25 rfl ?_
    replace HF := bind_ck HF
    obtain ⟨c14, HF⟩ := HF
    replace HF := bind_o HF
    obtain ⟨b15, e16, HF⟩ := HF
    refine ev_gS (f := 1308) cl_X12 (k := 8) (by decide) fi_X12_8 rfl fl_X12_25 dX12_ball_26 c14 e16 ?_
    refine ev_iload_n 1 dX12_ball_29 rfl ?_
    replace HF := bind_ck HF
    obtain ⟨c17, HF⟩ := HF
    refine ev_iald dX12_ball_30 c17.1 c17.2 ?_
    show EvG _ _ _ _ _ _ _ _ _ _ _ 31 _ _ _
    refine ev_iconst (v := 1) dX12_ball_31 (by decide) ?_
    refine ev_isub dX12_ball_32 ?_
    replace HF := bd_n HF
    obtain ⟨v18, ev18, HF⟩ := HF
    refine ev_topI ev18 ?_
    refine ev_istore_n (lv' := [(3, .int v18), (0, .ref t), (1, .int x1), (2, .int x2)]) dX12_ball_33 (by decide) (rfl) ?_
    refine ev_iload_n 0 dX12_ball_34 rfl ?_
    by_cases c19 : v18 < 0
    · replace HF := ite_T c19 HF
      refine ev_if_ltT (tgt := 51) dX12_ball_35 (by decide) c19 ?_
      exact Ev.sub [1, 2, 3, 0] rfl (lk_X12_ball_51 hdd  t x1 x2 v18 _ HF)
    · replace HF := ite_F c19 HF
      refine ev_if_ltF (tgt := 51) dX12_ball_35 (by decide) c19 ?_
      refine ev_aload_n 1 dX12_ball_38 rfl ?_
      replace HF := bind_o HF
      obtain ⟨b20, e21, HF⟩ := HF
      refine ev_gS (f := 1309) cl_X12 (k := 9) (by decide) fi_X12_9 rfl fl_X12_28 dX12_ball_39 c14 e21 ?_
      refine ev_iconst (v := 4) dX12_ball_42 (by decide) ?_
      refine ev_iload_n 2 dX12_ball_43 rfl ?_
      refine ev_imul dX12_ball_44 ?_
      refine ev_iload_n 0 dX12_ball_45 rfl ?_
      refine ev_iadd dX12_ball_46 ?_
      show EvG _ _ _ _ _ _ _ _ _ _ _ 47 _ _ _
      replace HF := bind_ck HF
      obtain ⟨c22, HF⟩ := HF
      refine ev_iald dX12_ball_47 c22.1 c22.2 ?_
      by_cases c23 : hI h12 b20 ((4 * x1) + v18).toNatClampNeg = 0
      · replace HF := ite_T c23 HF
        refine ev_if_neF (tgt := 55) dX12_ball_48 (by decide) c23 ?_
        exact Ev.sub [1, 2, 3, 0] rfl (lk_X12_ball_51 hdd  t x1 x2 v18 _ HF)
      · replace HF := ite_F c23 HF
        refine ev_if_neT (tgt := 55) dX12_ball_48 (by decide) c23 ?_
        refine ev_aload_n 1 dX12_ball_55 rfl ?_
        refine ev_iload_n 2 dX12_ball_56 rfl ?_
        refine ev_iload_n 0 dX12_ball_57 rfl ?_
        refine ev_aload_n 1 dX12_ball_58 rfl ?_
        replace HF := bind_o HF
        obtain ⟨b24, e25, HF⟩ := HF
        refine ev_gS (f := 1309) cl_X12 (k := 9) (by decide) fi_X12_9 rfl fl_X12_28 dX12_ball_59 c14 e25 ?_
        refine ev_iconst (v := 4) dX12_ball_62 (by decide) ?_
        refine ev_iload_n 2 dX12_ball_63 rfl ?_
        show EvG _ _ _ _ _ _ _ _ _ _ _ 64 _ _ _
        refine ev_imul dX12_ball_64 ?_
        refine ev_iload_n 0 dX12_ball_65 rfl ?_
        refine ev_iadd dX12_ball_66 ?_
        replace HF := bind_ck HF
        obtain ⟨c26, HF⟩ := HF
        refine ev_iald dX12_ball_67 c26.1 c26.2 ?_
        refine ev_iconst (v := 1) dX12_ball_68 (by decide) ?_
        refine ev_isub dX12_ball_69 ?_
        replace HF := bind_o HF
        obtain ⟨⟨z29, h28⟩, e27, HF⟩ := HF
        replace HF := bd_o (bd_o HF)
        dsimp only at HF
        refine ev_callV (As := [.int x1, .int v18, .int ((hI h12 b24 ((4 * x1) + v18).toNatClampNeg) - 1)]) (R1 := (some (.int z29), h28)) (lk_X12_rowOf (d := 0) (Nat.le_refl _) c14 e27) ce_X12_rowOf im_X12_rowOf sl_X12_rowOf ml_X12_228 cl_X12 c14 dX12_ball_70 (by omega) (Nat.le_of_ble_eq_true rfl) rfl rfl ?_
        show EvG _ _ _ _ _ _ _ _ _ _ _ 73 [(3, .int v18), (0, .ref t), (1, .int x1), (2, .int x2)] [.int z29] h28
        exact Ev.sub [1, 2, 3, 0] rfl (lk_X12_ball_73 hdd  t x1 x2 v18 z29 _ HF)

set_option maxRecDepth 20000 in
theorem lk_X12_feed_76 {g : aG} {l : Launch} {d : Nat} {h0 : aH} (hdd : 0 ≤ d) {r : Int32 × aH} (k23 : Nat → Int32 → Int32 → Int32 → Int32 → Int32 → Int32 → aH → Option (Int32 × aH)) (hk23 : ∀ (t : Nat) (x1 : Int32) (x2 : Int32) (x3 : Int32) (x4 : Int32) (x5 : Int32) (x6 : Int32) (h : aH), k23 t x1 x2 x3 x4 x5 x6 h = some r → Ev g l cX12_feed 8 yX12_feed (some .int) d h0 (some (.int r.1), r.2) 23 [(0, .ref t), (1, .int x1), (2, .int x2), (3, .int x3), (4, .int x4), (5, .int x5), (6, .int x6)] [] h) (t : Nat) (x1 : Int32) (x2 : Int32) (x3 : Int32) (x4 : Int32) (x5 : Int32) (x6 : Int32) (y0 : Int32) (h : aH) (HF : F_X12_feed_76 k23 t x1 x2 x3 x4 x5 x6 y0 h = some r) : Ev g l cX12_feed 8 yX12_feed (some .int) d h0 (some (.int r.1), r.2) 76 [(0, .ref t), (1, .int x1), (2, .int x2), (3, .int x3), (4, .int x4), (5, .int x5), (6, .int x6)] [.int y0] h := by
  unfold F_X12_feed_76 at HF
  refine ev_istore (lv' := [(7, .int y0), (0, .ref t), (1, .int x1), (2, .int x2), (3, .int x3), (4, .int x4), (5, .int x5), (6, .int x6)]) dX12_feed_76 (by decide) (rfl) ?_
  refine ev_aload_n 1 dX12_feed_78 rfl ?_
  replace HF := bind_ck HF
  obtain ⟨c1, HF⟩ := HF
  replace HF := bind_o HF
  obtain ⟨b2, e3, HF⟩ := HF
  refine ev_gS (f := 1315) cl_X12 (k := 15) (by decide) fi_X12_15 rfl fl_X12_45 dX12_feed_79 c1 e3 ?_
  refine ev_aload_n 1 dX12_feed_82 rfl ?_
  refine ev_gI (f := 1316) cl_X12 (k := 16) (by decide) fi_X12_16 rfl fl_X12_309 dX12_feed_83 c1 ?_
  refine ev_iload 0 dX12_feed_86 rfl ?_
  refine ev_bipush (v := 24) dX12_feed_88 (by decide) ?_
  show EvG _ _ _ _ _ _ _ _ _ _ _ 90 _ _ _
  refine ev_bipush (v := 8) dX12_feed_90 (by decide) ?_
  refine ev_iload 7 dX12_feed_92 rfl ?_
  refine ev_iconst (v := 4) dX12_feed_94 (by decide) ?_
  refine ev_irem dX12_feed_95 (by decide) ?_
  refine ev_imul dX12_feed_96 ?_
  refine ev_isub dX12_feed_97 ?_
  refine ev_ishr dX12_feed_98 ?_
  refine ev_sipush (v := 255) dX12_feed_99 (by decide) ?_
  show EvG _ _ _ _ _ _ _ _ _ _ _ 102 _ _ _
  refine ev_iand dX12_feed_102 ?_
  replace HF := bind_ck HF
  obtain ⟨c4, HF⟩ := HF
  refine ev_iast dX12_feed_103 c4.1 c4.2 ?_
  replace HF := bd_n HF
  obtain ⟨h5, eh5, HF⟩ := HF
  refine ev_heap eh5 ?_
  have c6 : hK h5 t = 14 := by rw [eh5]; exact c1
  refine ev_aload_n 1 dX12_feed_104 rfl ?_
  refine ev_dup dX12_feed_105 rfl ?_
  refine ev_gI (f := 1316) cl_X12 (k := 16) (by decide) fi_X12_16 rfl fl_X12_309 dX12_feed_106 c6 ?_
  refine ev_iconst (v := 1) dX12_feed_109 (by decide) ?_
  refine ev_iadd dX12_feed_110 ?_
  refine ev_pI (f := 1316) cl_X12 (k := 16) (by decide) fi_X12_16 rfl fl_X12_309 rfl rfl rfl dX12_feed_111 c6 ?_
  replace HF := bd_n HF
  obtain ⟨h7, eh7, HF⟩ := HF
  refine ev_heap eh7 ?_
  have c8 : hK h7 t = 14 := by rw [eh7]; exact c6
  show EvG _ _ _ _ _ _ _ _ _ _ _ 114 _ _ _
  replace HF := bd_n HF
  obtain ⟨v9, ev9, HF⟩ := HF
  refine ev_iinc (v := v9) (lv' := [(6, .int v9), (7, .int y0), (0, .ref t), (1, .int x1), (2, .int x2), (3, .int x3), (4, .int x4), (5, .int x5)]) 7 dX12_feed_114 rfl (by rw [ev9]; rfl) (by decide) (rfl) ?_
  refine ev_goto (tgt := 23) dX12_feed_117 (by decide) ?_
  exact Ev.sub [2, 3, 4, 5, 6, 7, 0] rfl (hk23 t x1 x2 x3 x4 x5 v9 _ HF)

set_option maxRecDepth 20000 in
theorem lk_X12_feed_23 {g : aG} {l : Launch} {d : Nat} {h0 : aH} (hdd : 0 ≤ d) {r : Int32 × aH} : ∀ (n : Nat) (t : Nat) (x1 : Int32) (x2 : Int32) (x3 : Int32) (x4 : Int32) (x5 : Int32) (x6 : Int32) (h : aH), F_X12_feed_23  n t x1 x2 x3 x4 x5 x6 h = some r → Ev g l cX12_feed 8 yX12_feed (some .int) d h0 (some (.int r.1), r.2) 23 [(0, .ref t), (1, .int x1), (2, .int x2), (3, .int x3), (4, .int x4), (5, .int x5), (6, .int x6)] [] h := by
  intro n
  induction n with
  | zero => intro t x1 x2 x3 x4 x5 x6 h HF; cases HF
  | succ n ih =>
  intro t x1 x2 x3 x4 x5 x6 h HF
  unfold F_X12_feed_23 at HF
  refine ev_iload 6 dX12_feed_23 rfl ?_
  refine ev_bipush (v := 20) dX12_feed_25 (by decide) ?_
  by_cases c1 : 20 ≤ x6
  · replace HF := ite_T c1 HF
    refine ev_icmp_geT (tgt := 120) dX12_feed_27 (by decide) c1 ?_
    refine ev_aload_n 0 dX12_feed_120 rfl ?_
    replace HF := bind_ck HF
    obtain ⟨c2, HF⟩ := HF
    refine ev_gI (f := 1316) cl_X12 (k := 16) (by decide) fi_X12_16 rfl fl_X12_309 dX12_feed_121 c2 ?_
    obtain rfl := Option.some.inj HF
    exact ev_iret dX12_feed_124
  · replace HF := ite_F c1 HF
    refine ev_icmp_geF (tgt := 120) dX12_feed_27 (by decide) c1 ?_
    refine ev_iload 6 dX12_feed_30 rfl ?_
    refine ev_iconst (v := 4) dX12_feed_32 (by decide) ?_
    by_cases c3 : 4 ≤ x6
    · replace HF := ite_T c3 HF
      refine ev_icmp_geT (tgt := 40) dX12_feed_33 (by decide) c3 ?_
      refine ev_iload 6 dX12_feed_40 rfl ?_
      refine ev_bipush (v := 8) dX12_feed_42 (by decide) ?_
      by_cases c4 : 8 ≤ x6
      · replace HF := ite_T c4 HF
        refine ev_icmp_geT (tgt := 51) dX12_feed_44 (by decide) c4 ?_
        refine ev_iload 6 dX12_feed_51 rfl ?_
        refine ev_bipush (v := 12) dX12_feed_53 (by decide) ?_
        by_cases c5 : 12 ≤ x6
        · replace HF := ite_T c5 HF
          refine ev_icmp_geT (tgt := 62) dX12_feed_55 (by decide) c5 ?_
          refine ev_iload 6 dX12_feed_62 rfl ?_
          refine ev_bipush (v := 16) dX12_feed_64 (by decide) ?_
          by_cases c6 : 16 ≤ x6
          · replace HF := ite_T c6 HF
            refine ev_icmp_geT (tgt := 74) dX12_feed_66 (by decide) c6 ?_
            refine ev_iload 5 dX12_feed_74 rfl ?_
            exact Ev.sub [0, 1, 2, 3, 4, 5, 6] rfl (lk_X12_feed_76 hdd (F_X12_feed_23 n) ih t x1 x2 x3 x4 x5 x6 x5 _ HF)
          · replace HF := ite_F c6 HF
            refine ev_icmp_geF (tgt := 74) dX12_feed_66 (by decide) c6 ?_
            refine ev_iload 4 dX12_feed_69 rfl ?_
            refine ev_goto (tgt := 76) dX12_feed_71 (by decide) ?_
            exact Ev.sub [0, 1, 2, 3, 4, 5, 6] rfl (lk_X12_feed_76 hdd (F_X12_feed_23 n) ih t x1 x2 x3 x4 x5 x6 x4 _ HF)
        · replace HF := ite_F c5 HF
          refine ev_icmp_geF (tgt := 62) dX12_feed_55 (by decide) c5 ?_
          refine ev_iload_n 3 dX12_feed_58 rfl ?_
          refine ev_goto (tgt := 76) dX12_feed_59 (by decide) ?_
          exact Ev.sub [0, 1, 2, 3, 4, 5, 6] rfl (lk_X12_feed_76 hdd (F_X12_feed_23 n) ih t x1 x2 x3 x4 x5 x6 x3 _ HF)
      · replace HF := ite_F c4 HF
        refine ev_icmp_geF (tgt := 51) dX12_feed_44 (by decide) c4 ?_
        refine ev_iload_n 2 dX12_feed_47 rfl ?_
        refine ev_goto (tgt := 76) dX12_feed_48 (by decide) ?_
        exact Ev.sub [0, 1, 2, 3, 4, 5, 6] rfl (lk_X12_feed_76 hdd (F_X12_feed_23 n) ih t x1 x2 x3 x4 x5 x6 x2 _ HF)
    · replace HF := ite_F c3 HF
      refine ev_icmp_geF (tgt := 40) dX12_feed_33 (by decide) c3 ?_
      refine ev_iload_n 1 dX12_feed_36 rfl ?_
      refine ev_goto (tgt := 76) dX12_feed_37 (by decide) ?_
      exact Ev.sub [0, 1, 2, 3, 4, 5, 6] rfl (lk_X12_feed_76 hdd (F_X12_feed_23 n) ih t x1 x2 x3 x4 x5 x6 x1 _ HF)

set_option maxRecDepth 20000 in
theorem lk_X12_feed {g : aG} {l : Launch} {d : Nat} (hdd : 0 ≤ d) {t : Nat} {x1 : Int32} {x2 : Int32} {x3 : Int32} {x4 : Int32} {x5 : Int32} {h : aH} {r : Int32 × aH} (hT : hK h t = 14) (HF : F_X12_feed t x1 x2 x3 x4 x5 h = some r) : MA g l yX12_feed cX12_feed 8 (some .int) d [.ref t, .int x1, .int x2, .int x3, .int x4, .int x5] h (some (.int r.1), r.2) := by
  refine MA.of (lv0 := [(0, .ref t), (1, .int x1), (2, .int x2), (3, .int x3), (4, .int x4), (5, .int x5)]) (by decide +kernel) (rfl) (Nat.le_of_ble_eq_true rfl) ?_
  unfold F_X12_feed at HF
  refine ev_aload_n 0 dX12_feed_0 rfl ?_
  refine ev_iconst (v := 0) dX12_feed_1 (by decide) ?_
  refine ev_pI (f := 1300) cl_X12 (k := 0) (by decide) fi_X12_0 rfl fl_X12_175 rfl rfl rfl dX12_feed_2 hT ?_
  replace HF := bd_n HF
  obtain ⟨h1, eh1, HF⟩ := HF
  refine ev_heap eh1 ?_
  have c2 : hK h1 t = 14 := by rw [eh1]; exact hT
  refine ev_aload_n 0 dX12_feed_5 rfl ?_
  refine ev_gI (f := 1316) cl_X12 (k := 16) (by decide) fi_X12_16 rfl fl_X12_309 dX12_feed_6 c2 ?_
  refine ev_bipush (v := 20) dX12_feed_9 (by decide) ?_
  refine ev_iadd dX12_feed_11 ?_
  show EvG _ _ _ _ _ _ _ _ _ _ _ 12 _ _ _
  refine ev_sipush (v := 6000) dX12_feed_12 (by decide) ?_
  by_cases c3 : (hF h1 1316 t) + 20 ≤ 6000
  · replace HF := ite_T c3 HF
    refine ev_icmp_leT (tgt := 20) dX12_feed_15 (by decide) c3 ?_
    refine ev_iconst (v := 0) dX12_feed_20 (by decide) ?_
    refine ev_istore (lv' := [(6, .int 0), (0, .ref t), (1, .int x1), (2, .int x2), (3, .int x3), (4, .int x4), (5, .int x5)]) dX12_feed_21 (by decide) (rfl) ?_
    exact Ev.sub [1, 2, 3, 4, 5, 6, 0] rfl (lk_X12_feed_23 hdd  fu t x1 x2 x3 x4 x5 0 _ HF)
  · replace HF := ite_F c3 HF
    refine ev_icmp_leF (tgt := 20) dX12_feed_15 (by decide) c3 ?_
    refine ev_iconst (v := (-1)) dX12_feed_18 (by decide) ?_
    obtain rfl := Option.some.inj HF
    exact ev_iret dX12_feed_19

set_option maxRecDepth 20000 in
theorem lk_X12_find {g : aG} {l : Launch} {d : Nat} (hdd : 1 ≤ d) {t : Nat} {x1 : Int32} {x2 : Int32} {x3 : Int32} {h : aH} {r : Int32 × aH} (hT : hK h t = 14) (HF : F_X12_find t x1 x2 x3 h = some r) : MA g l yX12_find cX12_find 4 (some .int) d [.ref t, .int x1, .int x2, .int x3] h (some (.int r.1), r.2) := by
  refine MA.of (lv0 := [(0, .ref t), (1, .int x1), (2, .int x2), (3, .int x3)]) (by decide +kernel) (rfl) (Nat.le_of_ble_eq_true rfl) ?_
  unfold F_X12_find at HF
  refine ev_aload_n 0 dX12_find_0 rfl ?_
  refine ev_iload_n 1 dX12_find_1 rfl ?_
  replace HF := bind_o HF
  obtain ⟨⟨z3, h2⟩, e1, HF⟩ := HF
  replace HF := bd_o (bd_o HF)
  dsimp only at HF
  refine ev_callV (As := [.int x1]) (R1 := (some (.int z3), h2)) (lk_X12_isGame (d := 0) (Nat.le_refl _) hT e1) ce_X12_isGame im_X12_isGame sl_X12_isGame ml_X12_193 cl_X12 hT dX12_find_2 (by omega) (Nat.le_of_ble_eq_true rfl) rfl rfl ?_
  show EvG _ _ _ _ _ _ _ _ _ _ _ 5 [(0, .ref t), (1, .int x1), (2, .int x2), (3, .int x3)] [.int z3] h2
  by_cases c5 : z3 = 0
  · replace HF := ite_T c5 HF
    refine ev_if_eqT (tgt := 50) dX12_find_5 (by decide) c5 ?_
    refine ev_iconst (v := (-1)) dX12_find_50 (by decide) ?_
    obtain rfl := Option.some.inj HF
    exact ev_iret dX12_find_51
  · replace HF := ite_F c5 HF
    refine ev_if_eqF (tgt := 50) dX12_find_5 (by decide) c5 ?_
    refine ev_iload_n 2 dX12_find_8 rfl ?_
    by_cases c6 : x2 < 0
    · replace HF := ite_T c6 HF
      refine ev_if_ltT (tgt := 50) dX12_find_9 (by decide) c6 ?_
      refine ev_iconst (v := (-1)) dX12_find_50 (by decide) ?_
      obtain rfl := Option.some.inj HF
      exact ev_iret dX12_find_51
    · replace HF := ite_F c6 HF
      refine ev_if_ltF (tgt := 50) dX12_find_9 (by decide) c6 ?_
      refine ev_iload_n 2 dX12_find_12 rfl ?_
      refine ev_aload_n 0 dX12_find_13 rfl ?_
      replace HF := bind_ck HF
      obtain ⟨c7, HF⟩ := HF
      replace HF := bind_o HF
      obtain ⟨b8, e9, HF⟩ := HF
      refine ev_gS (f := 1308) cl_X12 (k := 8) (by decide) fi_X12_8 rfl fl_X12_25 dX12_find_14 c7 e9 ?_
      refine ev_iload_n 1 dX12_find_17 rfl ?_
      replace HF := bind_ck HF
      obtain ⟨c10, HF⟩ := HF
      refine ev_iald dX12_find_18 c10.1 c10.2 ?_
      by_cases c11 : hI h2 b8 x1.toNatClampNeg ≤ x2
      · replace HF := ite_T c11 HF
        refine ev_icmp_geT (tgt := 50) dX12_find_19 (by decide) c11 ?_
        refine ev_iconst (v := (-1)) dX12_find_50 (by decide) ?_
        obtain rfl := Option.some.inj HF
        exact ev_iret dX12_find_51
      · replace HF := ite_F c11 HF
        refine ev_icmp_geF (tgt := 50) dX12_find_19 (by decide) c11 ?_
        refine ev_iload_n 3 dX12_find_22 rfl ?_
        by_cases c12 : x3 < 0
        · replace HF := ite_T c12 HF
          refine ev_if_ltT (tgt := 50) dX12_find_23 (by decide) c12 ?_
          refine ev_iconst (v := (-1)) dX12_find_50 (by decide) ?_
          obtain rfl := Option.some.inj HF
          exact ev_iret dX12_find_51
        · replace HF := ite_F c12 HF
          refine ev_if_ltF (tgt := 50) dX12_find_23 (by decide) c12 ?_
          refine ev_iload_n 3 dX12_find_26 rfl ?_
          refine ev_aload_n 0 dX12_find_27 rfl ?_
          replace HF := bind_o HF
          obtain ⟨b13, e14, HF⟩ := HF
          refine ev_gS (f := 1309) cl_X12 (k := 9) (by decide) fi_X12_9 rfl fl_X12_28 dX12_find_28 c7 e14 ?_
          refine ev_iconst (v := 4) dX12_find_31 (by decide) ?_
          refine ev_iload_n 1 dX12_find_32 rfl ?_
          refine ev_imul dX12_find_33 ?_
          refine ev_iload_n 2 dX12_find_34 rfl ?_
          show EvG _ _ _ _ _ _ _ _ _ _ _ 35 _ _ _
          refine ev_iadd dX12_find_35 ?_
          replace HF := bind_ck HF
          obtain ⟨c15, HF⟩ := HF
          refine ev_iald dX12_find_36 c15.1 c15.2 ?_
          by_cases c16 : hI h2 b13 ((4 * x1) + x2).toNatClampNeg ≤ x3
          · replace HF := ite_T c16 HF
            refine ev_icmp_geT (tgt := 50) dX12_find_37 (by decide) c16 ?_
            refine ev_iconst (v := (-1)) dX12_find_50 (by decide) ?_
            obtain rfl := Option.some.inj HF
            exact ev_iret dX12_find_51
          · replace HF := ite_F c16 HF
            refine ev_icmp_geF (tgt := 50) dX12_find_37 (by decide) c16 ?_
            refine ev_aload_n 0 dX12_find_40 rfl ?_
            refine ev_iload_n 1 dX12_find_41 rfl ?_
            refine ev_iload_n 2 dX12_find_42 rfl ?_
            refine ev_iload_n 3 dX12_find_43 rfl ?_
            replace HF := bind_o HF
            obtain ⟨⟨z19, h18⟩, e17, HF⟩ := HF
            replace HF := bd_o (bd_o HF)
            dsimp only at HF
            refine ev_callV (As := [.int x1, .int x2, .int x3]) (R1 := (some (.int z19), h18)) (lk_X12_rowOf (d := 0) (Nat.le_refl _) c7 e17) ce_X12_rowOf im_X12_rowOf sl_X12_rowOf ml_X12_228 cl_X12 c7 dX12_find_44 (by omega) (Nat.le_of_ble_eq_true rfl) rfl rfl ?_
            show EvG _ _ _ _ _ _ _ _ _ _ _ 47 [(0, .ref t), (1, .int x1), (2, .int x2), (3, .int x3)] [.int z19] h18
            refine ev_goto (tgt := 51) dX12_find_47 (by decide) ?_
            obtain rfl := Option.some.inj HF
            exact ev_iret dX12_find_51

set_option maxRecDepth 20000 in
theorem lk_X12_open_71 {g : aG} {l : Launch} {d : Nat} {h0 : aH} (hdd : 2 ≤ d) {r : Int32 × aH} : ∀ (n : Nat) (t : Nat) (x4 : Int32) (x5 : Int32) (x6 : Int32) (h : aH), F_X12_open_71  n t x4 x5 x6 h = some r → Ev g l cX12_open 7 yX12_open (some .boolean) d h0 (some (.int r.1), r.2) 71 [(0, .ref t), (4, .int x4), (5, .int x5), (6, .int x6)] [] h := by
  intro n
  induction n with
  | zero => intro t x4 x5 x6 h HF; cases HF
  | succ n ih =>
  intro t x4 x5 x6 h HF
  unfold F_X12_open_71 at HF
  refine ev_iload 3 dX12_open_71 rfl ?_
  refine ev_iload 1 dX12_open_73 rfl ?_
  by_cases c1 : x4 ≤ x6
  · replace HF := ite_T c1 HF
    refine ev_icmp_geT (tgt := 104) dX12_open_75 (by decide) c1 ?_
    refine ev_aload_n 0 dX12_open_104 rfl ?_
    refine ev_iconst (v := 0) dX12_open_105 (by decide) ?_
    replace HF := bind_ck HF
    obtain ⟨c2, HF⟩ := HF
    refine ev_pI (f := 1316) cl_X12 (k := 16) (by decide) fi_X12_16 rfl fl_X12_309 rfl rfl rfl dX12_open_106 c2 ?_
    replace HF := bd_n HF
    obtain ⟨h3, eh3, HF⟩ := HF
    refine ev_heap eh3 ?_
    have c4 : hK h3 t = 14 := by rw [eh3]; exact c2
    refine ev_iconst (v := 1) dX12_open_109 (by decide) ?_
    obtain rfl := Option.some.inj HF
    exact ev_zret (v := 1) narrow_b1 dX12_open_110
  · replace HF := ite_F c1 HF
    refine ev_icmp_geF (tgt := 104) dX12_open_75 (by decide) c1 ?_
    refine ev_aload_n 0 dX12_open_78 rfl ?_
    replace HF := bind_ck HF
    obtain ⟨c5, HF⟩ := HF
    replace HF := bind_o HF
    obtain ⟨b6, e7, HF⟩ := HF
    refine ev_gS (f := 1314) cl_X12 (k := 14) (by decide) fi_X12_14 rfl fl_X12_42 dX12_open_79 c5 e7 ?_
    refine ev_bipush (v := 40) dX12_open_82 (by decide) ?_
    refine ev_iload 2 dX12_open_84 rfl ?_
    refine ev_imul dX12_open_86 ?_
    refine ev_iload 3 dX12_open_87 rfl ?_
    refine ev_iadd dX12_open_89 ?_
    show EvG _ _ _ _ _ _ _ _ _ _ _ 90 _ _ _
    refine ev_aload_n 0 dX12_open_90 rfl ?_
    replace HF := bind_o HF
    obtain ⟨b8, e9, HF⟩ := HF
    refine ev_gS (f := 1315) cl_X12 (k := 15) (by decide) fi_X12_15 rfl fl_X12_45 dX12_open_91 c5 e9 ?_
    refine ev_iload 3 dX12_open_94 rfl ?_
    replace HF := bind_ck HF
    obtain ⟨c10, HF⟩ := HF
    refine ev_iald dX12_open_96 c10.1 c10.2 ?_
    replace HF := bind_ck HF
    obtain ⟨c11, HF⟩ := HF
    refine ev_iast dX12_open_97 c11.1 c11.2 ?_
    replace HF := bd_n HF
    obtain ⟨h12, eh12, HF⟩ := HF
    refine ev_heap eh12 ?_
    have c13 : hK h12 t = 14 := by rw [eh12]; exact c5
    replace HF := bd_n HF
    obtain ⟨v14, ev14, HF⟩ := HF
    refine ev_iinc (v := v14) (lv' := [(6, .int v14), (0, .ref t), (4, .int x4), (5, .int x5)]) 3 dX12_open_98 rfl (by rw [ev14]; rfl) (by decide) (rfl) ?_
    refine ev_goto (tgt := 71) dX12_open_101 (by decide) ?_
    exact Ev.sub [1, 2, 3, 0] rfl (ih t x4 x5 v14 _ HF)

set_option maxRecDepth 20000 in
theorem lk_X12_open {g : aG} {l : Launch} {d : Nat} (hdd : 2 ≤ d) {t : Nat} {x1 : Int32} {x2 : Int32} {x3 : Int32} {x4 : Int32} {h : aH} {r : Int32 × aH} (hT : hK h t = 14) (HF : F_X12_open t x1 x2 x3 x4 h = some r) : MA g l yX12_open cX12_open 7 (some .boolean) d [.ref t, .int x1, .int x2, .int x3, .int x4] h (some (.int r.1), r.2) := by
  refine MA.of (lv0 := [(0, .ref t), (1, .int x1), (2, .int x2), (3, .int x3), (4, .int x4)]) (by decide +kernel) (rfl) (Nat.le_of_ble_eq_true rfl) ?_
  unfold F_X12_open at HF
  refine ev_aload_n 0 dX12_open_0 rfl ?_
  refine ev_iconst (v := 0) dX12_open_1 (by decide) ?_
  refine ev_pI (f := 1300) cl_X12 (k := 0) (by decide) fi_X12_0 rfl fl_X12_175 rfl rfl rfl dX12_open_2 hT ?_
  replace HF := bd_n HF
  obtain ⟨h1, eh1, HF⟩ := HF
  refine ev_heap eh1 ?_
  have c2 : hK h1 t = 14 := by rw [eh1]; exact hT
  refine ev_aload_n 0 dX12_open_5 rfl ?_
  refine ev_iload_n 1 dX12_open_6 rfl ?_
  refine ev_iload_n 2 dX12_open_7 rfl ?_
  refine ev_iload_n 3 dX12_open_8 rfl ?_
  show EvG _ _ _ _ _ _ _ _ _ _ _ 9 _ _ _
  replace HF := bind_o HF
  obtain ⟨⟨z5, h4⟩, e3, HF⟩ := HF
  replace HF := bd_o (bd_o HF)
  dsimp only at HF
  refine ev_callV (As := [.int x1, .int x2, .int x3]) (R1 := (some (.int z5), h4)) (lk_X12_find (d := 1) (Nat.le_refl _) c2 e3) ce_X12_find im_X12_find sl_X12_find ml_X12_312 cl_X12 c2 dX12_open_9 (by omega) (Nat.le_of_ble_eq_true rfl) rfl rfl ?_
  show EvG _ _ _ _ _ _ _ _ _ _ _ 12 [(0, .ref t), (1, .int x1), (2, .int x2), (3, .int x3), (4, .int x4)] [.int z5] h4
  refine ev_istore (lv' := [(5, .int z5), (0, .ref t), (1, .int x1), (2, .int x2), (3, .int x3), (4, .int x4)]) dX12_open_12 (by decide) (rfl) ?_
  refine ev_iload 0 dX12_open_14 rfl ?_
  refine ev_iconst (v := (-1)) dX12_open_16 (by decide) ?_
  by_cases c7 : z5 = (-1)
  · replace HF := ite_T c7 HF
    refine ev_icmp_eqT (tgt := 41) dX12_open_17 (by decide) c7 ?_
    refine ev_iconst (v := 0) dX12_open_41 (by decide) ?_
    obtain rfl := Option.some.inj HF
    exact ev_zret (v := 0) narrow_b0 dX12_open_42
  · replace HF := ite_F c7 HF
    refine ev_icmp_eqF (tgt := 41) dX12_open_17 (by decide) c7 ?_
    refine ev_iload 5 dX12_open_20 rfl ?_
    by_cases c8 : x4 < 0
    · replace HF := ite_T c8 HF
      refine ev_if_ltT (tgt := 41) dX12_open_22 (by decide) c8 ?_
      refine ev_iconst (v := 0) dX12_open_41 (by decide) ?_
      obtain rfl := Option.some.inj HF
      exact ev_zret (v := 0) narrow_b0 dX12_open_42
    · replace HF := ite_F c8 HF
      refine ev_if_ltF (tgt := 41) dX12_open_22 (by decide) c8 ?_
      refine ev_iload 5 dX12_open_25 rfl ?_
      refine ev_bipush (v := 40) dX12_open_27 (by decide) ?_
      by_cases c9 : 40 < x4
      · replace HF := ite_T c9 HF
        refine ev_icmp_gtT (tgt := 41) dX12_open_29 (by decide) c9 ?_
        refine ev_iconst (v := 0) dX12_open_41 (by decide) ?_
        obtain rfl := Option.some.inj HF
        exact ev_zret (v := 0) narrow_b0 dX12_open_42
      · replace HF := ite_F c9 HF
        refine ev_icmp_gtF (tgt := 41) dX12_open_29 (by decide) c9 ?_
        refine ev_iload 5 dX12_open_32 rfl ?_
        refine ev_aload_n 1 dX12_open_34 rfl ?_
        replace HF := bind_ck HF
        obtain ⟨c10, HF⟩ := HF
        refine ev_gI (f := 1316) cl_X12 (k := 16) (by decide) fi_X12_16 rfl fl_X12_309 dX12_open_35 c10 ?_
        by_cases c11 : x4 ≤ hF h4 1316 t
        · replace HF := ite_T c11 HF
          refine ev_icmp_leT (tgt := 43) dX12_open_38 (by decide) c11 ?_
          refine ev_aload_n 1 dX12_open_43 rfl ?_
          refine ev_iconst (v := 3) dX12_open_44 (by decide) ?_
          refine ev_iload_n 2 dX12_open_45 rfl ?_
          refine ev_iload 0 dX12_open_46 rfl ?_
          refine ev_iconst (v := 0) dX12_open_48 (by decide) ?_
          refine ev_iconst (v := 0) dX12_open_49 (by decide) ?_
          replace HF := bind_o HF
          obtain ⟨h13, e12, HF⟩ := HF
          refine ev_callV (As := [.int 3, .int x1, .int z5, .int 0, .int 0]) (R1 := (none, h13)) (lk_X12_done (d := 0) (Nat.le_refl _) c10 e12) ce_X12_done im_X12_done sl_X12_done ml_X12_303 cl_X12 c10 dX12_open_50 (by omega) (Nat.le_of_ble_eq_true rfl) rfl rfl ?_
          show EvG _ _ _ _ _ _ _ _ _ _ _ 53 [(5, .int z5), (0, .ref t), (1, .int x1), (2, .int x2), (3, .int x3), (4, .int x4)] [] h13
          show EvG _ _ _ _ _ _ _ _ _ _ _ 53 _ _ _
          refine ev_aload_n 1 dX12_open_53 rfl ?_
          refine ev_iload 0 dX12_open_54 rfl ?_
          replace HF := bind_ck HF
          obtain ⟨c15, HF⟩ := HF
          replace HF := bind_o HF
          obtain ⟨h17, e16, HF⟩ := HF
          refine ev_callV (As := [.int z5]) (R1 := (none, h17)) (lk_X12_keepRow (d := 0) (Nat.le_refl _) c15 e16) ce_X12_keepRow im_X12_keepRow sl_X12_keepRow ml_X12_315 cl_X12 c15 dX12_open_56 (by omega) (Nat.le_of_ble_eq_true rfl) rfl rfl ?_
          show EvG _ _ _ _ _ _ _ _ _ _ _ 59 [(5, .int z5), (0, .ref t), (1, .int x1), (2, .int x2), (3, .int x3), (4, .int x4)] [] h17
          refine ev_aload_n 1 dX12_open_59 rfl ?_
          replace HF := bind_ck HF
          obtain ⟨c19, HF⟩ := HF
          replace HF := bind_o HF
          obtain ⟨b20, e21, HF⟩ := HF
          refine ev_gS (f := 1313) cl_X12 (k := 13) (by decide) fi_X12_13 rfl fl_X12_38 dX12_open_60 c19 e21 ?_
          refine ev_iload 0 dX12_open_63 rfl ?_
          refine ev_iload 5 dX12_open_65 rfl ?_
          replace HF := bind_ck HF
          obtain ⟨c22, HF⟩ := HF
          refine ev_iast dX12_open_67 c22.1 c22.2 ?_
          replace HF := bd_n HF
          obtain ⟨h23, eh23, HF⟩ := HF
          refine ev_heap eh23 ?_
          have c24 : hK h23 t = 14 := by rw [eh23]; exact c19
          show EvG _ _ _ _ _ _ _ _ _ _ _ 68 _ _ _
          refine ev_iconst (v := 0) dX12_open_68 (by decide) ?_
          refine ev_istore (lv' := [(6, .int 0), (5, .int z5), (0, .ref t), (1, .int x1), (2, .int x2), (3, .int x3), (4, .int x4)]) dX12_open_69 (by decide) (rfl) ?_
          exact Ev.sub [2, 6, 1, 0] rfl (lk_X12_open_71 hdd  fu t x4 z5 0 _ HF)
        · replace HF := ite_F c11 HF
          refine ev_icmp_leF (tgt := 43) dX12_open_38 (by decide) c11 ?_
          refine ev_iconst (v := 0) dX12_open_41 (by decide) ?_
          obtain rfl := Option.some.inj HF
          exact ev_zret (v := 0) narrow_b0 dX12_open_42

set_option maxRecDepth 20000 in
theorem lk_X12_tear {g : aG} {l : Launch} {d : Nat} (hdd : 2 ≤ d) {t : Nat} {x1 : Int32} {x2 : Int32} {x3 : Int32} {h : aH} {r : Int32 × aH} (hT : hK h t = 14) (HF : F_X12_tear t x1 x2 x3 h = some r) : MA g l yX12_tear cX12_tear 5 (some .boolean) d [.ref t, .int x1, .int x2, .int x3] h (some (.int r.1), r.2) := by
  refine MA.of (lv0 := [(0, .ref t), (1, .int x1), (2, .int x2), (3, .int x3)]) (by decide +kernel) (rfl) (Nat.le_of_ble_eq_true rfl) ?_
  unfold F_X12_tear at HF
  refine ev_aload_n 0 dX12_tear_0 rfl ?_
  refine ev_iconst (v := 0) dX12_tear_1 (by decide) ?_
  refine ev_pI (f := 1300) cl_X12 (k := 0) (by decide) fi_X12_0 rfl fl_X12_175 rfl rfl rfl dX12_tear_2 hT ?_
  replace HF := bd_n HF
  obtain ⟨h1, eh1, HF⟩ := HF
  refine ev_heap eh1 ?_
  have c2 : hK h1 t = 14 := by rw [eh1]; exact hT
  refine ev_aload_n 0 dX12_tear_5 rfl ?_
  refine ev_iload_n 1 dX12_tear_6 rfl ?_
  refine ev_iload_n 2 dX12_tear_7 rfl ?_
  refine ev_iload_n 3 dX12_tear_8 rfl ?_
  show EvG _ _ _ _ _ _ _ _ _ _ _ 9 _ _ _
  replace HF := bind_o HF
  obtain ⟨⟨z5, h4⟩, e3, HF⟩ := HF
  replace HF := bd_o (bd_o HF)
  dsimp only at HF
  refine ev_callV (As := [.int x1, .int x2, .int x3]) (R1 := (some (.int z5), h4)) (lk_X12_find (d := 1) (Nat.le_refl _) c2 e3) ce_X12_find im_X12_find sl_X12_find ml_X12_312 cl_X12 c2 dX12_tear_9 (by omega) (Nat.le_of_ble_eq_true rfl) rfl rfl ?_
  show EvG _ _ _ _ _ _ _ _ _ _ _ 12 [(0, .ref t), (1, .int x1), (2, .int x2), (3, .int x3)] [.int z5] h4
  refine ev_istore (lv' := [(4, .int z5), (0, .ref t), (1, .int x1), (2, .int x2), (3, .int x3)]) dX12_tear_12 (by decide) (rfl) ?_
  refine ev_iload 0 dX12_tear_14 rfl ?_
  refine ev_iconst (v := (-1)) dX12_tear_16 (by decide) ?_
  by_cases c7 : z5 = (-1)
  · replace HF := ite_T c7 HF
    refine ev_icmp_eqT (tgt := 31) dX12_tear_17 (by decide) c7 ?_
    refine ev_iconst (v := 0) dX12_tear_31 (by decide) ?_
    obtain rfl := Option.some.inj HF
    exact ev_zret (v := 0) narrow_b0 dX12_tear_32
  · replace HF := ite_F c7 HF
    refine ev_icmp_eqF (tgt := 31) dX12_tear_17 (by decide) c7 ?_
    refine ev_aload_n 1 dX12_tear_20 rfl ?_
    replace HF := bind_ck HF
    obtain ⟨c8, HF⟩ := HF
    replace HF := bind_o HF
    obtain ⟨b9, e10, HF⟩ := HF
    refine ev_gS (f := 1313) cl_X12 (k := 13) (by decide) fi_X12_13 rfl fl_X12_38 dX12_tear_21 c8 e10 ?_
    refine ev_iload 0 dX12_tear_24 rfl ?_
    replace HF := bind_ck HF
    obtain ⟨c11, HF⟩ := HF
    refine ev_iald dX12_tear_26 c11.1 c11.2 ?_
    refine ev_iconst (v := (-1)) dX12_tear_27 (by decide) ?_
    by_cases c12 : hI h4 b9 z5.toNatClampNeg = (-1)
    · replace HF := ite_T c12 HF
      refine ev_icmp_neF (tgt := 33) dX12_tear_28 (by decide) c12 ?_
      refine ev_iconst (v := 0) dX12_tear_31 (by decide) ?_
      obtain rfl := Option.some.inj HF
      exact ev_zret (v := 0) narrow_b0 dX12_tear_32
    · replace HF := ite_F c12 HF
      refine ev_icmp_neT (tgt := 33) dX12_tear_28 (by decide) c12 ?_
      refine ev_aload_n 1 dX12_tear_33 rfl ?_
      refine ev_iconst (v := 3) dX12_tear_34 (by decide) ?_
      refine ev_iload_n 2 dX12_tear_35 rfl ?_
      refine ev_iload 0 dX12_tear_36 rfl ?_
      refine ev_iconst (v := 0) dX12_tear_38 (by decide) ?_
      refine ev_iconst (v := 0) dX12_tear_39 (by decide) ?_
      replace HF := bind_o HF
      obtain ⟨h14, e13, HF⟩ := HF
      refine ev_callV (As := [.int 3, .int x1, .int z5, .int 0, .int 0]) (R1 := (none, h14)) (lk_X12_done (d := 0) (Nat.le_refl _) c8 e13) ce_X12_done im_X12_done sl_X12_done ml_X12_303 cl_X12 c8 dX12_tear_40 (by omega) (Nat.le_of_ble_eq_true rfl) rfl rfl ?_
      show EvG _ _ _ _ _ _ _ _ _ _ _ 43 [(4, .int z5), (0, .ref t), (1, .int x1), (2, .int x2), (3, .int x3)] [] h14
      show EvG _ _ _ _ _ _ _ _ _ _ _ 43 _ _ _
      refine ev_aload_n 1 dX12_tear_43 rfl ?_
      refine ev_iload 0 dX12_tear_44 rfl ?_
      replace HF := bind_ck HF
      obtain ⟨c16, HF⟩ := HF
      replace HF := bind_o HF
      obtain ⟨h18, e17, HF⟩ := HF
      refine ev_callV (As := [.int z5]) (R1 := (none, h18)) (lk_X12_keepRow (d := 0) (Nat.le_refl _) c16 e17) ce_X12_keepRow im_X12_keepRow sl_X12_keepRow ml_X12_315 cl_X12 c16 dX12_tear_46 (by omega) (Nat.le_of_ble_eq_true rfl) rfl rfl ?_
      show EvG _ _ _ _ _ _ _ _ _ _ _ 49 [(4, .int z5), (0, .ref t), (1, .int x1), (2, .int x2), (3, .int x3)] [] h18
      refine ev_aload_n 1 dX12_tear_49 rfl ?_
      replace HF := bind_ck HF
      obtain ⟨c20, HF⟩ := HF
      replace HF := bind_o HF
      obtain ⟨b21, e22, HF⟩ := HF
      refine ev_gS (f := 1313) cl_X12 (k := 13) (by decide) fi_X12_13 rfl fl_X12_38 dX12_tear_50 c20 e22 ?_
      refine ev_iload 0 dX12_tear_53 rfl ?_
      refine ev_iconst (v := (-1)) dX12_tear_55 (by decide) ?_
      replace HF := bind_ck HF
      obtain ⟨c23, HF⟩ := HF
      refine ev_iast dX12_tear_56 c23.1 c23.2 ?_
      replace HF := bd_n HF
      obtain ⟨h24, eh24, HF⟩ := HF
      refine ev_heap eh24 ?_
      have c25 : hK h24 t = 14 := by rw [eh24]; exact c20
      show EvG _ _ _ _ _ _ _ _ _ _ _ 57 _ _ _
      refine ev_iconst (v := 1) dX12_tear_57 (by decide) ?_
      obtain rfl := Option.some.inj HF
      exact ev_zret (v := 1) narrow_b1 dX12_tear_58

set_option maxRecDepth 20000 in
theorem lk_X12_insert_8 {g : aG} {l : Launch} {d : Nat} {h0 : aH} (hdd : 0 ≤ d) {r : aH} : ∀ (n : Nat) (t : Nat) (x1 : Int32) (x2 : Int32) (x3 : Int32) (x4 : Int32) (h : aH), F_X12_insert_8  n t x1 x2 x3 x4 h = some r → Ev g l cX12_insert 5 yX12_insert (none) d h0 (none, r) 8 [(0, .ref t), (1, .int x1), (2, .int x2), (3, .int x3), (4, .int x4)] [] h := by
  intro n
  induction n with
  | zero => intro t x1 x2 x3 x4 h HF; cases HF
  | succ n ih =>
  intro t x1 x2 x3 x4 h HF
  unfold F_X12_insert_8 at HF
  refine ev_iload 4 dX12_insert_8 rfl ?_
  refine ev_iload_n 2 dX12_insert_10 rfl ?_
  by_cases c1 : x4 ≤ x2
  · replace HF := ite_T c1 HF
    refine ev_icmp_leT (tgt := 46) dX12_insert_11 (by decide) c1 ?_
    refine ev_aload_n 0 dX12_insert_46 rfl ?_
    replace HF := bind_ck HF
    obtain ⟨c2, HF⟩ := HF
    replace HF := bind_o HF
    obtain ⟨b3, e4, HF⟩ := HF
    refine ev_gS (f := 1314) cl_X12 (k := 14) (by decide) fi_X12_14 rfl fl_X12_42 dX12_insert_47 c2 e4 ?_
    refine ev_bipush (v := 40) dX12_insert_50 (by decide) ?_
    refine ev_iload_n 1 dX12_insert_52 rfl ?_
    refine ev_imul dX12_insert_53 ?_
    refine ev_iload_n 2 dX12_insert_54 rfl ?_
    refine ev_iadd dX12_insert_55 ?_
    show EvG _ _ _ _ _ _ _ _ _ _ _ 56 _ _ _
    refine ev_iload_n 3 dX12_insert_56 rfl ?_
    replace HF := bind_ck HF
    obtain ⟨c5, HF⟩ := HF
    refine ev_iast dX12_insert_57 c5.1 c5.2 ?_
    replace HF := bd_n HF
    obtain ⟨h6, eh6, HF⟩ := HF
    refine ev_heap eh6 ?_
    have c7 : hK h6 t = 14 := by rw [eh6]; exact c2
    refine ev_aload_n 0 dX12_insert_58 rfl ?_
    replace HF := bind_o HF
    obtain ⟨b8, e9, HF⟩ := HF
    refine ev_gS (f := 1313) cl_X12 (k := 13) (by decide) fi_X12_13 rfl fl_X12_38 dX12_insert_59 c7 e9 ?_
    refine ev_iload_n 1 dX12_insert_62 rfl ?_
    refine ev_dup2 dX12_insert_63 rfl rfl ?_
    replace HF := bind_ck HF
    obtain ⟨c10, HF⟩ := HF
    refine ev_iald dX12_insert_64 c10.1 c10.2 ?_
    refine ev_iconst (v := 1) dX12_insert_65 (by decide) ?_
    show EvG _ _ _ _ _ _ _ _ _ _ _ 66 _ _ _
    refine ev_iadd dX12_insert_66 ?_
    refine ev_iast dX12_insert_67 c10.1 c10.2 ?_
    replace HF := bd_n HF
    obtain ⟨h11, eh11, HF⟩ := HF
    refine ev_heap eh11 ?_
    have c12 : hK h11 t = 14 := by rw [eh11]; exact c7
    obtain rfl := Option.some.inj HF
    exact ev_vret dX12_insert_68
  · replace HF := ite_F c1 HF
    refine ev_icmp_leF (tgt := 46) dX12_insert_11 (by decide) c1 ?_
    refine ev_aload_n 0 dX12_insert_14 rfl ?_
    replace HF := bind_ck HF
    obtain ⟨c13, HF⟩ := HF
    replace HF := bind_o HF
    obtain ⟨b14, e15, HF⟩ := HF
    refine ev_gS (f := 1314) cl_X12 (k := 14) (by decide) fi_X12_14 rfl fl_X12_42 dX12_insert_15 c13 e15 ?_
    refine ev_bipush (v := 40) dX12_insert_18 (by decide) ?_
    refine ev_iload_n 1 dX12_insert_20 rfl ?_
    refine ev_imul dX12_insert_21 ?_
    refine ev_iload 4 dX12_insert_22 rfl ?_
    refine ev_iadd dX12_insert_24 ?_
    show EvG _ _ _ _ _ _ _ _ _ _ _ 25 _ _ _
    refine ev_aload_n 0 dX12_insert_25 rfl ?_
    replace HF := bind_o HF
    obtain ⟨b16, e17, HF⟩ := HF
    refine ev_gS (f := 1314) cl_X12 (k := 14) (by decide) fi_X12_14 rfl fl_X12_42 dX12_insert_26 c13 e17 ?_
    refine ev_bipush (v := 40) dX12_insert_29 (by decide) ?_
    refine ev_iload_n 1 dX12_insert_31 rfl ?_
    refine ev_imul dX12_insert_32 ?_
    refine ev_iload 4 dX12_insert_33 rfl ?_
    refine ev_iadd dX12_insert_35 ?_
    refine ev_iconst (v := 1) dX12_insert_36 (by decide) ?_
    show EvG _ _ _ _ _ _ _ _ _ _ _ 37 _ _ _
    refine ev_isub dX12_insert_37 ?_
    replace HF := bind_ck HF
    obtain ⟨c18, HF⟩ := HF
    refine ev_iald dX12_insert_38 c18.1 c18.2 ?_
    replace HF := bind_ck HF
    obtain ⟨c19, HF⟩ := HF
    refine ev_iast dX12_insert_39 c19.1 c19.2 ?_
    replace HF := bd_n HF
    obtain ⟨h20, eh20, HF⟩ := HF
    refine ev_heap eh20 ?_
    have c21 : hK h20 t = 14 := by rw [eh20]; exact c13
    replace HF := bd_n HF
    obtain ⟨v22, ev22, HF⟩ := HF
    refine ev_iinc (v := v22) (lv' := [(4, .int v22), (0, .ref t), (1, .int x1), (2, .int x2), (3, .int x3)]) 4 dX12_insert_40 rfl (by rw [ev22]; rfl) (by decide) (rfl) ?_
    refine ev_goto (tgt := 8) dX12_insert_43 (by decide) ?_
    exact Ev.sub [1, 2, 3, 4, 0] rfl (ih t x1 x2 x3 v22 _ HF)

set_option maxRecDepth 20000 in
theorem lk_X12_insert {g : aG} {l : Launch} {d : Nat} (hdd : 0 ≤ d) {t : Nat} {x1 : Int32} {x2 : Int32} {x3 : Int32} {h : aH} {r : aH} (hT : hK h t = 14) (HF : F_X12_insert t x1 x2 x3 h = some r) : MA g l yX12_insert cX12_insert 5 (none) d [.ref t, .int x1, .int x2, .int x3] h (none, r) := by
  refine MA.of (lv0 := [(0, .ref t), (1, .int x1), (2, .int x2), (3, .int x3)]) (by decide +kernel) (rfl) (Nat.le_of_ble_eq_true rfl) ?_
  unfold F_X12_insert at HF
  refine ev_aload_n 0 dX12_insert_0 rfl ?_
  replace HF := bind_o HF
  obtain ⟨b1, e2, HF⟩ := HF
  refine ev_gS (f := 1313) cl_X12 (k := 13) (by decide) fi_X12_13 rfl fl_X12_38 dX12_insert_1 hT e2 ?_
  refine ev_iload_n 1 dX12_insert_4 rfl ?_
  replace HF := bind_ck HF
  obtain ⟨c3, HF⟩ := HF
  refine ev_iald dX12_insert_5 c3.1 c3.2 ?_
  replace HF := bd_n HF
  obtain ⟨v4, ev4, HF⟩ := HF
  refine ev_topI ev4 ?_
  refine ev_istore (lv' := [(4, .int v4), (0, .ref t), (1, .int x1), (2, .int x2), (3, .int x3)]) dX12_insert_6 (by decide) (rfl) ?_
  exact Ev.sub [1, 2, 3, 4, 0] rfl (lk_X12_insert_8 hdd  fu t x1 x2 x3 v4 _ HF)

set_option maxRecDepth 20000 in
theorem lk_X12_remove_2 {g : aG} {l : Launch} {d : Nat} {h0 : aH} (hdd : 0 ≤ d) {r : aH} : ∀ (n : Nat) (t : Nat) (x1 : Int32) (x3 : Int32) (h : aH), F_X12_remove_2  n t x1 x3 h = some r → Ev g l cX12_remove 4 yX12_remove (none) d h0 (none, r) 2 [(0, .ref t), (1, .int x1), (3, .int x3)] [] h := by
  intro n
  induction n with
  | zero => intro t x1 x3 h HF; cases HF
  | succ n ih =>
  intro t x1 x3 h HF
  unfold F_X12_remove_2 at HF
  refine ev_iload_n 2 dX12_remove_2 rfl ?_
  refine ev_aload_n 0 dX12_remove_3 rfl ?_
  replace HF := bind_ck HF
  obtain ⟨c1, HF⟩ := HF
  replace HF := bind_o HF
  obtain ⟨b2, e3, HF⟩ := HF
  refine ev_gS (f := 1313) cl_X12 (k := 13) (by decide) fi_X12_13 rfl fl_X12_38 dX12_remove_4 c1 e3 ?_
  refine ev_iload_n 1 dX12_remove_7 rfl ?_
  replace HF := bind_ck HF
  obtain ⟨c4, HF⟩ := HF
  refine ev_iald dX12_remove_8 c4.1 c4.2 ?_
  refine ev_iconst (v := 1) dX12_remove_9 (by decide) ?_
  refine ev_isub dX12_remove_10 ?_
  show EvG _ _ _ _ _ _ _ _ _ _ _ 11 _ _ _
  by_cases c5 : (hI h b2 x1.toNatClampNeg) - 1 ≤ x3
  · replace HF := ite_T c5 HF
    refine ev_icmp_geT (tgt := 44) dX12_remove_11 (by decide) c5 ?_
    refine ev_aload_n 0 dX12_remove_44 rfl ?_
    replace HF := bind_o HF
    obtain ⟨b6, e7, HF⟩ := HF
    refine ev_gS (f := 1313) cl_X12 (k := 13) (by decide) fi_X12_13 rfl fl_X12_38 dX12_remove_45 c1 e7 ?_
    refine ev_iload_n 1 dX12_remove_48 rfl ?_
    refine ev_dup2 dX12_remove_49 rfl rfl ?_
    replace HF := bind_ck HF
    obtain ⟨c8, HF⟩ := HF
    refine ev_iald dX12_remove_50 c8.1 c8.2 ?_
    refine ev_iconst (v := 1) dX12_remove_51 (by decide) ?_
    refine ev_isub dX12_remove_52 ?_
    show EvG _ _ _ _ _ _ _ _ _ _ _ 53 _ _ _
    refine ev_iast dX12_remove_53 c8.1 c8.2 ?_
    replace HF := bd_n HF
    obtain ⟨h9, eh9, HF⟩ := HF
    refine ev_heap eh9 ?_
    have c10 : hK h9 t = 14 := by rw [eh9]; exact c1
    obtain rfl := Option.some.inj HF
    exact ev_vret dX12_remove_54
  · replace HF := ite_F c5 HF
    refine ev_icmp_geF (tgt := 44) dX12_remove_11 (by decide) c5 ?_
    refine ev_aload_n 0 dX12_remove_14 rfl ?_
    replace HF := bind_o HF
    obtain ⟨b11, e12, HF⟩ := HF
    refine ev_gS (f := 1314) cl_X12 (k := 14) (by decide) fi_X12_14 rfl fl_X12_42 dX12_remove_15 c1 e12 ?_
    refine ev_bipush (v := 40) dX12_remove_18 (by decide) ?_
    refine ev_iload_n 1 dX12_remove_20 rfl ?_
    refine ev_imul dX12_remove_21 ?_
    refine ev_iload_n 2 dX12_remove_22 rfl ?_
    refine ev_iadd dX12_remove_23 ?_
    show EvG _ _ _ _ _ _ _ _ _ _ _ 24 _ _ _
    refine ev_aload_n 0 dX12_remove_24 rfl ?_
    replace HF := bind_o HF
    obtain ⟨b13, e14, HF⟩ := HF
    refine ev_gS (f := 1314) cl_X12 (k := 14) (by decide) fi_X12_14 rfl fl_X12_42 dX12_remove_25 c1 e14 ?_
    refine ev_bipush (v := 40) dX12_remove_28 (by decide) ?_
    refine ev_iload_n 1 dX12_remove_30 rfl ?_
    refine ev_imul dX12_remove_31 ?_
    refine ev_iload_n 2 dX12_remove_32 rfl ?_
    refine ev_iadd dX12_remove_33 ?_
    refine ev_iconst (v := 1) dX12_remove_34 (by decide) ?_
    show EvG _ _ _ _ _ _ _ _ _ _ _ 35 _ _ _
    refine ev_iadd dX12_remove_35 ?_
    replace HF := bind_ck HF
    obtain ⟨c15, HF⟩ := HF
    refine ev_iald dX12_remove_36 c15.1 c15.2 ?_
    replace HF := bind_ck HF
    obtain ⟨c16, HF⟩ := HF
    refine ev_iast dX12_remove_37 c16.1 c16.2 ?_
    replace HF := bd_n HF
    obtain ⟨h17, eh17, HF⟩ := HF
    refine ev_heap eh17 ?_
    have c18 : hK h17 t = 14 := by rw [eh17]; exact c1
    replace HF := bd_n HF
    obtain ⟨v19, ev19, HF⟩ := HF
    refine ev_iinc (v := v19) (lv' := [(3, .int v19), (0, .ref t), (1, .int x1)]) 2 dX12_remove_38 rfl (by rw [ev19]; rfl) (by decide) (rfl) ?_
    refine ev_goto (tgt := 2) dX12_remove_41 (by decide) ?_
    exact Ev.sub [1, 2, 0] rfl (ih t x1 v19 _ HF)

set_option maxRecDepth 20000 in
theorem lk_X12_remove {g : aG} {l : Launch} {d : Nat} (hdd : 0 ≤ d) {t : Nat} {x1 : Int32} {x2 : Int32} {h : aH} {r : aH} (hT : hK h t = 14) (HF : F_X12_remove t x1 x2 h = some r) : MA g l yX12_remove cX12_remove 4 (none) d [.ref t, .int x1, .int x2] h (none, r) := by
  refine MA.of (lv0 := [(0, .ref t), (1, .int x1), (2, .int x2)]) (by decide +kernel) (rfl) (Nat.le_of_ble_eq_true rfl) ?_
  unfold F_X12_remove at HF
  refine ev_iload_n 2 dX12_remove_0 rfl ?_
  refine ev_istore_n (lv' := [(3, .int x2), (0, .ref t), (1, .int x1), (2, .int x2)]) dX12_remove_1 (by decide) (rfl) ?_
  exact Ev.sub [1, 2, 0] rfl (lk_X12_remove_2 hdd  fu t x1 x2 _ HF)

set_option maxRecDepth 20000 in
theorem lk_X12_put {g : aG} {l : Launch} {d : Nat} (hdd : 2 ≤ d) {t : Nat} {x1 : Int32} {x2 : Int32} {x3 : Int32} {x4 : Int32} {x5 : Int32} {h : aH} {r : Int32 × aH} (hT : hK h t = 14) (HF : F_X12_put t x1 x2 x3 x4 x5 h = some r) : MA g l yX12_put cX12_put 7 (some .boolean) d [.ref t, .int x1, .int x2, .int x3, .int x4, .int x5] h (some (.int r.1), r.2) := by
  refine MA.of (lv0 := [(0, .ref t), (1, .int x1), (2, .int x2), (3, .int x3), (4, .int x4), (5, .int x5)]) (by decide +kernel) (rfl) (Nat.le_of_ble_eq_true rfl) ?_
  unfold F_X12_put at HF
  refine ev_aload_n 0 dX12_put_0 rfl ?_
  refine ev_iconst (v := 0) dX12_put_1 (by decide) ?_
  refine ev_pI (f := 1300) cl_X12 (k := 0) (by decide) fi_X12_0 rfl fl_X12_175 rfl rfl rfl dX12_put_2 hT ?_
  replace HF := bd_n HF
  obtain ⟨h1, eh1, HF⟩ := HF
  refine ev_heap eh1 ?_
  have c2 : hK h1 t = 14 := by rw [eh1]; exact hT
  refine ev_aload_n 0 dX12_put_5 rfl ?_
  refine ev_iload_n 1 dX12_put_6 rfl ?_
  refine ev_iload_n 2 dX12_put_7 rfl ?_
  refine ev_iload_n 3 dX12_put_8 rfl ?_
  show EvG _ _ _ _ _ _ _ _ _ _ _ 9 _ _ _
  replace HF := bind_o HF
  obtain ⟨⟨z5, h4⟩, e3, HF⟩ := HF
  replace HF := bd_o (bd_o HF)
  dsimp only at HF
  refine ev_callV (As := [.int x1, .int x2, .int x3]) (R1 := (some (.int z5), h4)) (lk_X12_find (d := 1) (Nat.le_refl _) c2 e3) ce_X12_find im_X12_find sl_X12_find ml_X12_312 cl_X12 c2 dX12_put_9 (by omega) (Nat.le_of_ble_eq_true rfl) rfl rfl ?_
  show EvG _ _ _ _ _ _ _ _ _ _ _ 12 [(0, .ref t), (1, .int x1), (2, .int x2), (3, .int x3), (4, .int x4), (5, .int x5)] [.int z5] h4
  refine ev_istore (lv' := [(6, .int z5), (0, .ref t), (1, .int x1), (2, .int x2), (3, .int x3), (4, .int x4), (5, .int x5)]) dX12_put_12 (by decide) (rfl) ?_
  refine ev_iload 0 dX12_put_14 rfl ?_
  refine ev_iconst (v := (-1)) dX12_put_16 (by decide) ?_
  by_cases c7 : z5 = (-1)
  · replace HF := ite_T c7 HF
    refine ev_icmp_eqT (tgt := 60) dX12_put_17 (by decide) c7 ?_
    refine ev_iconst (v := 0) dX12_put_60 (by decide) ?_
    obtain rfl := Option.some.inj HF
    exact ev_zret (v := 0) narrow_b0 dX12_put_61
  · replace HF := ite_F c7 HF
    refine ev_icmp_eqF (tgt := 60) dX12_put_17 (by decide) c7 ?_
    refine ev_aload_n 1 dX12_put_20 rfl ?_
    replace HF := bind_ck HF
    obtain ⟨c8, HF⟩ := HF
    replace HF := bind_o HF
    obtain ⟨b9, e10, HF⟩ := HF
    refine ev_gS (f := 1313) cl_X12 (k := 13) (by decide) fi_X12_13 rfl fl_X12_38 dX12_put_21 c8 e10 ?_
    refine ev_iload 0 dX12_put_24 rfl ?_
    replace HF := bind_ck HF
    obtain ⟨c11, HF⟩ := HF
    refine ev_iald dX12_put_26 c11.1 c11.2 ?_
    refine ev_iconst (v := (-1)) dX12_put_27 (by decide) ?_
    by_cases c12 : hI h4 b9 z5.toNatClampNeg = (-1)
    · replace HF := ite_T c12 HF
      refine ev_icmp_eqT (tgt := 60) dX12_put_28 (by decide) c12 ?_
      refine ev_iconst (v := 0) dX12_put_60 (by decide) ?_
      obtain rfl := Option.some.inj HF
      exact ev_zret (v := 0) narrow_b0 dX12_put_61
    · replace HF := ite_F c12 HF
      refine ev_icmp_eqF (tgt := 60) dX12_put_28 (by decide) c12 ?_
      refine ev_iload 5 dX12_put_31 rfl ?_
      by_cases c13 : x4 < 0
      · replace HF := ite_T c13 HF
        refine ev_if_ltT (tgt := 60) dX12_put_33 (by decide) c13 ?_
        refine ev_iconst (v := 0) dX12_put_60 (by decide) ?_
        obtain rfl := Option.some.inj HF
        exact ev_zret (v := 0) narrow_b0 dX12_put_61
      · replace HF := ite_F c13 HF
        refine ev_if_ltF (tgt := 60) dX12_put_33 (by decide) c13 ?_
        refine ev_iload 5 dX12_put_36 rfl ?_
        refine ev_aload_n 1 dX12_put_38 rfl ?_
        replace HF := bind_o HF
        obtain ⟨b14, e15, HF⟩ := HF
        refine ev_gS (f := 1313) cl_X12 (k := 13) (by decide) fi_X12_13 rfl fl_X12_38 dX12_put_39 c8 e15 ?_
        refine ev_iload 0 dX12_put_42 rfl ?_
        replace HF := bind_ck HF
        obtain ⟨c16, HF⟩ := HF
        refine ev_iald dX12_put_44 c16.1 c16.2 ?_
        by_cases c17 : hI h4 b14 z5.toNatClampNeg < x4
        · replace HF := ite_T c17 HF
          refine ev_icmp_gtT (tgt := 60) dX12_put_45 (by decide) c17 ?_
          refine ev_iconst (v := 0) dX12_put_60 (by decide) ?_
          obtain rfl := Option.some.inj HF
          exact ev_zret (v := 0) narrow_b0 dX12_put_61
        · replace HF := ite_F c17 HF
          refine ev_icmp_gtF (tgt := 60) dX12_put_45 (by decide) c17 ?_
          refine ev_aload_n 1 dX12_put_48 rfl ?_
          replace HF := bind_o HF
          obtain ⟨b18, e19, HF⟩ := HF
          refine ev_gS (f := 1313) cl_X12 (k := 13) (by decide) fi_X12_13 rfl fl_X12_38 dX12_put_49 c8 e19 ?_
          refine ev_iload 0 dX12_put_52 rfl ?_
          replace HF := bind_ck HF
          obtain ⟨c20, HF⟩ := HF
          refine ev_iald dX12_put_54 c20.1 c20.2 ?_
          refine ev_bipush (v := 40) dX12_put_55 (by decide) ?_
          by_cases c21 : hI h4 b18 z5.toNatClampNeg = 40
          · replace HF := ite_T c21 HF
            refine ev_icmp_neF (tgt := 62) dX12_put_57 (by decide) c21 ?_
            refine ev_iconst (v := 0) dX12_put_60 (by decide) ?_
            obtain rfl := Option.some.inj HF
            exact ev_zret (v := 0) narrow_b0 dX12_put_61
          · replace HF := ite_F c21 HF
            refine ev_icmp_neT (tgt := 62) dX12_put_57 (by decide) c21 ?_
            refine ev_aload_n 1 dX12_put_62 rfl ?_
            refine ev_iload 0 dX12_put_63 rfl ?_
            refine ev_iload 5 dX12_put_65 rfl ?_
            refine ev_iload 6 dX12_put_67 rfl ?_
            refine ev_sipush (v := 255) dX12_put_69 (by decide) ?_
            refine ev_iand dX12_put_72 ?_
            replace HF := bind_o HF
            obtain ⟨h23, e22, HF⟩ := HF
            refine ev_callV (As := [.int z5, .int x4, .int (x5 &&& 255)]) (R1 := (none, h23)) (lk_X12_insert (d := 0) (Nat.le_refl _) c8 e22) ce_X12_insert im_X12_insert sl_X12_insert ml_X12_318 cl_X12 c8 dX12_put_73 (by omega) (Nat.le_of_ble_eq_true rfl) rfl rfl ?_
            show EvG _ _ _ _ _ _ _ _ _ _ _ 76 [(6, .int z5), (0, .ref t), (1, .int x1), (2, .int x2), (3, .int x3), (4, .int x4), (5, .int x5)] [] h23
            show EvG _ _ _ _ _ _ _ _ _ _ _ 76 _ _ _
            refine ev_aload_n 1 dX12_put_76 rfl ?_
            refine ev_iconst (v := 4) dX12_put_77 (by decide) ?_
            refine ev_iload_n 2 dX12_put_78 rfl ?_
            refine ev_iload 0 dX12_put_79 rfl ?_
            refine ev_iload 5 dX12_put_81 rfl ?_
            refine ev_iconst (v := 0) dX12_put_83 (by decide) ?_
            replace HF := bind_ck HF
            obtain ⟨c25, HF⟩ := HF
            replace HF := bind_o HF
            obtain ⟨h27, e26, HF⟩ := HF
            refine ev_callV (As := [.int 4, .int x1, .int z5, .int x4, .int 0]) (R1 := (none, h27)) (lk_X12_done (d := 0) (Nat.le_refl _) c25 e26) ce_X12_done im_X12_done sl_X12_done ml_X12_303 cl_X12 c25 dX12_put_84 (by omega) (Nat.le_of_ble_eq_true rfl) rfl rfl ?_
            show EvG _ _ _ _ _ _ _ _ _ _ _ 87 [(6, .int z5), (0, .ref t), (1, .int x1), (2, .int x2), (3, .int x3), (4, .int x4), (5, .int x5)] [] h27
            refine ev_iconst (v := 1) dX12_put_87 (by decide) ?_
            show EvG _ _ _ _ _ _ _ _ _ _ _ 88 _ _ _
            obtain rfl := Option.some.inj HF
            exact ev_zret (v := 1) narrow_b1 dX12_put_88

set_option maxRecDepth 20000 in
theorem lk_X12_mend {g : aG} {l : Launch} {d : Nat} (hdd : 2 ≤ d) {t : Nat} {x1 : Int32} {x2 : Int32} {x3 : Int32} {x4 : Int32} {x5 : Int32} {h : aH} {r : Int32 × aH} (hT : hK h t = 14) (HF : F_X12_mend t x1 x2 x3 x4 x5 h = some r) : MA g l yX12_mend cX12_mend 8 (some .int) d [.ref t, .int x1, .int x2, .int x3, .int x4, .int x5] h (some (.int r.1), r.2) := by
  refine MA.of (lv0 := [(0, .ref t), (1, .int x1), (2, .int x2), (3, .int x3), (4, .int x4), (5, .int x5)]) (by decide +kernel) (rfl) (Nat.le_of_ble_eq_true rfl) ?_
  unfold F_X12_mend at HF
  refine ev_aload_n 0 dX12_mend_0 rfl ?_
  refine ev_iconst (v := 0) dX12_mend_1 (by decide) ?_
  refine ev_pI (f := 1300) cl_X12 (k := 0) (by decide) fi_X12_0 rfl fl_X12_175 rfl rfl rfl dX12_mend_2 hT ?_
  replace HF := bd_n HF
  obtain ⟨h1, eh1, HF⟩ := HF
  refine ev_heap eh1 ?_
  have c2 : hK h1 t = 14 := by rw [eh1]; exact hT
  refine ev_aload_n 0 dX12_mend_5 rfl ?_
  refine ev_iload_n 1 dX12_mend_6 rfl ?_
  refine ev_iload_n 2 dX12_mend_7 rfl ?_
  refine ev_iload_n 3 dX12_mend_8 rfl ?_
  show EvG _ _ _ _ _ _ _ _ _ _ _ 9 _ _ _
  replace HF := bind_o HF
  obtain ⟨⟨z5, h4⟩, e3, HF⟩ := HF
  replace HF := bd_o (bd_o HF)
  dsimp only at HF
  refine ev_callV (As := [.int x1, .int x2, .int x3]) (R1 := (some (.int z5), h4)) (lk_X12_find (d := 1) (Nat.le_refl _) c2 e3) ce_X12_find im_X12_find sl_X12_find ml_X12_312 cl_X12 c2 dX12_mend_9 (by omega) (Nat.le_of_ble_eq_true rfl) rfl rfl ?_
  show EvG _ _ _ _ _ _ _ _ _ _ _ 12 [(0, .ref t), (1, .int x1), (2, .int x2), (3, .int x3), (4, .int x4), (5, .int x5)] [.int z5] h4
  refine ev_istore (lv' := [(6, .int z5), (0, .ref t), (1, .int x1), (2, .int x2), (3, .int x3), (4, .int x4), (5, .int x5)]) dX12_mend_12 (by decide) (rfl) ?_
  refine ev_iload 0 dX12_mend_14 rfl ?_
  refine ev_iconst (v := (-1)) dX12_mend_16 (by decide) ?_
  by_cases c7 : z5 = (-1)
  · replace HF := ite_T c7 HF
    refine ev_icmp_eqT (tgt := 37) dX12_mend_17 (by decide) c7 ?_
    refine ev_iconst (v := (-1)) dX12_mend_37 (by decide) ?_
    obtain rfl := Option.some.inj HF
    exact ev_iret dX12_mend_38
  · replace HF := ite_F c7 HF
    refine ev_icmp_eqF (tgt := 37) dX12_mend_17 (by decide) c7 ?_
    refine ev_iload 5 dX12_mend_20 rfl ?_
    by_cases c8 : x4 < 0
    · replace HF := ite_T c8 HF
      refine ev_if_ltT (tgt := 37) dX12_mend_22 (by decide) c8 ?_
      refine ev_iconst (v := (-1)) dX12_mend_37 (by decide) ?_
      obtain rfl := Option.some.inj HF
      exact ev_iret dX12_mend_38
    · replace HF := ite_F c8 HF
      refine ev_if_ltF (tgt := 37) dX12_mend_22 (by decide) c8 ?_
      refine ev_iload 5 dX12_mend_25 rfl ?_
      refine ev_aload_n 1 dX12_mend_27 rfl ?_
      replace HF := bind_ck HF
      obtain ⟨c9, HF⟩ := HF
      replace HF := bind_o HF
      obtain ⟨b10, e11, HF⟩ := HF
      refine ev_gS (f := 1313) cl_X12 (k := 13) (by decide) fi_X12_13 rfl fl_X12_38 dX12_mend_28 c9 e11 ?_
      refine ev_iload 0 dX12_mend_31 rfl ?_
      replace HF := bind_ck HF
      obtain ⟨c12, HF⟩ := HF
      refine ev_iald dX12_mend_33 c12.1 c12.2 ?_
      by_cases c13 : x4 < hI h4 b10 z5.toNatClampNeg
      · replace HF := ite_T c13 HF
        refine ev_icmp_ltT (tgt := 39) dX12_mend_34 (by decide) c13 ?_
        refine ev_aload_n 1 dX12_mend_39 rfl ?_
        replace HF := bind_o HF
        obtain ⟨b14, e15, HF⟩ := HF
        refine ev_gS (f := 1314) cl_X12 (k := 14) (by decide) fi_X12_14 rfl fl_X12_42 dX12_mend_40 c9 e15 ?_
        refine ev_bipush (v := 40) dX12_mend_43 (by decide) ?_
        refine ev_iload 0 dX12_mend_45 rfl ?_
        refine ev_imul dX12_mend_47 ?_
        refine ev_iload 5 dX12_mend_48 rfl ?_
        refine ev_iadd dX12_mend_50 ?_
        show EvG _ _ _ _ _ _ _ _ _ _ _ 51 _ _ _
        replace HF := bind_ck HF
        obtain ⟨c16, HF⟩ := HF
        refine ev_iald dX12_mend_51 c16.1 c16.2 ?_
        replace HF := bd_n HF
        obtain ⟨v17, ev17, HF⟩ := HF
        refine ev_topI ev17 ?_
        refine ev_istore (lv' := [(7, .int v17), (6, .int z5), (0, .ref t), (1, .int x1), (2, .int x2), (3, .int x3), (4, .int x4), (5, .int x5)]) dX12_mend_52 (by decide) (rfl) ?_
        refine ev_aload_n 2 dX12_mend_54 rfl ?_
        replace HF := bind_o HF
        obtain ⟨b18, e19, HF⟩ := HF
        refine ev_gS (f := 1314) cl_X12 (k := 14) (by decide) fi_X12_14 rfl fl_X12_42 dX12_mend_55 c9 e19 ?_
        refine ev_bipush (v := 40) dX12_mend_58 (by decide) ?_
        refine ev_iload 1 dX12_mend_60 rfl ?_
        refine ev_imul dX12_mend_62 ?_
        refine ev_iload 6 dX12_mend_63 rfl ?_
        show EvG _ _ _ _ _ _ _ _ _ _ _ 65 _ _ _
        refine ev_iadd dX12_mend_65 ?_
        refine ev_iload 7 dX12_mend_66 rfl ?_
        refine ev_sipush (v := 255) dX12_mend_68 (by decide) ?_
        refine ev_iand dX12_mend_71 ?_
        replace HF := bind_ck HF
        obtain ⟨c20, HF⟩ := HF
        refine ev_iast dX12_mend_72 c20.1 c20.2 ?_
        replace HF := bd_n HF
        obtain ⟨h21, eh21, HF⟩ := HF
        refine ev_heap eh21 ?_
        have c22 : hK h21 t = 14 := by rw [eh21]; exact c9
        refine ev_aload_n 2 dX12_mend_73 rfl ?_
        refine ev_iconst (v := 5) dX12_mend_74 (by decide) ?_
        refine ev_iload_n 3 dX12_mend_75 rfl ?_
        show EvG _ _ _ _ _ _ _ _ _ _ _ 76 _ _ _
        refine ev_iload 1 dX12_mend_76 rfl ?_
        refine ev_iload 6 dX12_mend_78 rfl ?_
        refine ev_iload 0 dX12_mend_80 rfl ?_
        replace HF := bind_o HF
        obtain ⟨h24, e23, HF⟩ := HF
        refine ev_callV (As := [.int 5, .int x1, .int z5, .int x4, .int v17]) (R1 := (none, h24)) (lk_X12_done (d := 0) (Nat.le_refl _) c22 e23) ce_X12_done im_X12_done sl_X12_done ml_X12_303 cl_X12 c22 dX12_mend_82 (by omega) (Nat.le_of_ble_eq_true rfl) rfl rfl ?_
        show EvG _ _ _ _ _ _ _ _ _ _ _ 85 [(7, .int v17), (6, .int z5), (0, .ref t), (1, .int x1), (2, .int x2), (3, .int x3), (4, .int x4), (5, .int x5)] [] h24
        refine ev_iload 0 dX12_mend_85 rfl ?_
        obtain rfl := Option.some.inj HF
        exact ev_iret dX12_mend_87
      · replace HF := ite_F c13 HF
        refine ev_icmp_ltF (tgt := 39) dX12_mend_34 (by decide) c13 ?_
        refine ev_iconst (v := (-1)) dX12_mend_37 (by decide) ?_
        obtain rfl := Option.some.inj HF
        exact ev_iret dX12_mend_38

set_option maxRecDepth 20000 in
theorem lk_X12_out {g : aG} {l : Launch} {d : Nat} (hdd : 2 ≤ d) {t : Nat} {x1 : Int32} {x2 : Int32} {x3 : Int32} {x4 : Int32} {h : aH} {r : Int32 × aH} (hT : hK h t = 14) (HF : F_X12_out t x1 x2 x3 x4 h = some r) : MA g l yX12_out cX12_out 7 (some .int) d [.ref t, .int x1, .int x2, .int x3, .int x4] h (some (.int r.1), r.2) := by
  refine MA.of (lv0 := [(0, .ref t), (1, .int x1), (2, .int x2), (3, .int x3), (4, .int x4)]) (by decide +kernel) (rfl) (Nat.le_of_ble_eq_true rfl) ?_
  unfold F_X12_out at HF
  refine ev_aload_n 0 dX12_out_0 rfl ?_
  refine ev_iconst (v := 0) dX12_out_1 (by decide) ?_
  refine ev_pI (f := 1300) cl_X12 (k := 0) (by decide) fi_X12_0 rfl fl_X12_175 rfl rfl rfl dX12_out_2 hT ?_
  replace HF := bd_n HF
  obtain ⟨h1, eh1, HF⟩ := HF
  refine ev_heap eh1 ?_
  have c2 : hK h1 t = 14 := by rw [eh1]; exact hT
  refine ev_aload_n 0 dX12_out_5 rfl ?_
  refine ev_iload_n 1 dX12_out_6 rfl ?_
  refine ev_iload_n 2 dX12_out_7 rfl ?_
  refine ev_iload_n 3 dX12_out_8 rfl ?_
  show EvG _ _ _ _ _ _ _ _ _ _ _ 9 _ _ _
  replace HF := bind_o HF
  obtain ⟨⟨z5, h4⟩, e3, HF⟩ := HF
  replace HF := bd_o (bd_o HF)
  dsimp only at HF
  refine ev_callV (As := [.int x1, .int x2, .int x3]) (R1 := (some (.int z5), h4)) (lk_X12_find (d := 1) (Nat.le_refl _) c2 e3) ce_X12_find im_X12_find sl_X12_find ml_X12_312 cl_X12 c2 dX12_out_9 (by omega) (Nat.le_of_ble_eq_true rfl) rfl rfl ?_
  show EvG _ _ _ _ _ _ _ _ _ _ _ 12 [(0, .ref t), (1, .int x1), (2, .int x2), (3, .int x3), (4, .int x4)] [.int z5] h4
  refine ev_istore (lv' := [(5, .int z5), (0, .ref t), (1, .int x1), (2, .int x2), (3, .int x3), (4, .int x4)]) dX12_out_12 (by decide) (rfl) ?_
  refine ev_iload 0 dX12_out_14 rfl ?_
  refine ev_iconst (v := (-1)) dX12_out_16 (by decide) ?_
  by_cases c7 : z5 = (-1)
  · replace HF := ite_T c7 HF
    refine ev_icmp_eqT (tgt := 37) dX12_out_17 (by decide) c7 ?_
    refine ev_iconst (v := (-1)) dX12_out_37 (by decide) ?_
    obtain rfl := Option.some.inj HF
    exact ev_iret dX12_out_38
  · replace HF := ite_F c7 HF
    refine ev_icmp_eqF (tgt := 37) dX12_out_17 (by decide) c7 ?_
    refine ev_iload 5 dX12_out_20 rfl ?_
    by_cases c8 : x4 < 0
    · replace HF := ite_T c8 HF
      refine ev_if_ltT (tgt := 37) dX12_out_22 (by decide) c8 ?_
      refine ev_iconst (v := (-1)) dX12_out_37 (by decide) ?_
      obtain rfl := Option.some.inj HF
      exact ev_iret dX12_out_38
    · replace HF := ite_F c8 HF
      refine ev_if_ltF (tgt := 37) dX12_out_22 (by decide) c8 ?_
      refine ev_iload 5 dX12_out_25 rfl ?_
      refine ev_aload_n 1 dX12_out_27 rfl ?_
      replace HF := bind_ck HF
      obtain ⟨c9, HF⟩ := HF
      replace HF := bind_o HF
      obtain ⟨b10, e11, HF⟩ := HF
      refine ev_gS (f := 1313) cl_X12 (k := 13) (by decide) fi_X12_13 rfl fl_X12_38 dX12_out_28 c9 e11 ?_
      refine ev_iload 0 dX12_out_31 rfl ?_
      replace HF := bind_ck HF
      obtain ⟨c12, HF⟩ := HF
      refine ev_iald dX12_out_33 c12.1 c12.2 ?_
      by_cases c13 : x4 < hI h4 b10 z5.toNatClampNeg
      · replace HF := ite_T c13 HF
        refine ev_icmp_ltT (tgt := 39) dX12_out_34 (by decide) c13 ?_
        refine ev_aload_n 1 dX12_out_39 rfl ?_
        replace HF := bind_o HF
        obtain ⟨b14, e15, HF⟩ := HF
        refine ev_gS (f := 1314) cl_X12 (k := 14) (by decide) fi_X12_14 rfl fl_X12_42 dX12_out_40 c9 e15 ?_
        refine ev_bipush (v := 40) dX12_out_43 (by decide) ?_
        refine ev_iload 0 dX12_out_45 rfl ?_
        refine ev_imul dX12_out_47 ?_
        refine ev_iload 5 dX12_out_48 rfl ?_
        refine ev_iadd dX12_out_50 ?_
        show EvG _ _ _ _ _ _ _ _ _ _ _ 51 _ _ _
        replace HF := bind_ck HF
        obtain ⟨c16, HF⟩ := HF
        refine ev_iald dX12_out_51 c16.1 c16.2 ?_
        replace HF := bd_n HF
        obtain ⟨v17, ev17, HF⟩ := HF
        refine ev_topI ev17 ?_
        refine ev_istore (lv' := [(6, .int v17), (5, .int z5), (0, .ref t), (1, .int x1), (2, .int x2), (3, .int x3), (4, .int x4)]) dX12_out_52 (by decide) (rfl) ?_
        refine ev_aload_n 2 dX12_out_54 rfl ?_
        refine ev_iload 1 dX12_out_55 rfl ?_
        refine ev_iload 6 dX12_out_57 rfl ?_
        replace HF := bind_o HF
        obtain ⟨h19, e18, HF⟩ := HF
        refine ev_callV (As := [.int z5, .int x4]) (R1 := (none, h19)) (lk_X12_remove (d := 0) (Nat.le_refl _) c9 e18) ce_X12_remove im_X12_remove sl_X12_remove ml_X12_321 cl_X12 c9 dX12_out_59 (by omega) (Nat.le_of_ble_eq_true rfl) rfl rfl ?_
        show EvG _ _ _ _ _ _ _ _ _ _ _ 62 [(6, .int v17), (5, .int z5), (0, .ref t), (1, .int x1), (2, .int x2), (3, .int x3), (4, .int x4)] [] h19
        refine ev_aload_n 2 dX12_out_62 rfl ?_
        refine ev_bipush (v := 6) dX12_out_63 (by decide) ?_
        show EvG _ _ _ _ _ _ _ _ _ _ _ 65 _ _ _
        refine ev_iload_n 3 dX12_out_65 rfl ?_
        refine ev_iload 1 dX12_out_66 rfl ?_
        refine ev_iload 6 dX12_out_68 rfl ?_
        refine ev_iload 0 dX12_out_70 rfl ?_
        replace HF := bind_ck HF
        obtain ⟨c21, HF⟩ := HF
        replace HF := bind_o HF
        obtain ⟨h23, e22, HF⟩ := HF
        refine ev_callV (As := [.int 6, .int x1, .int z5, .int x4, .int v17]) (R1 := (none, h23)) (lk_X12_done (d := 0) (Nat.le_refl _) c21 e22) ce_X12_done im_X12_done sl_X12_done ml_X12_303 cl_X12 c21 dX12_out_72 (by omega) (Nat.le_of_ble_eq_true rfl) rfl rfl ?_
        show EvG _ _ _ _ _ _ _ _ _ _ _ 75 [(6, .int v17), (5, .int z5), (0, .ref t), (1, .int x1), (2, .int x2), (3, .int x3), (4, .int x4)] [] h23
        refine ev_iload 0 dX12_out_75 rfl ?_
        obtain rfl := Option.some.inj HF
        exact ev_iret dX12_out_77
      · replace HF := ite_F c13 HF
        refine ev_icmp_ltF (tgt := 39) dX12_out_34 (by decide) c13 ?_
        refine ev_iconst (v := (-1)) dX12_out_37 (by decide) ?_
        obtain rfl := Option.some.inj HF
        exact ev_iret dX12_out_38

set_option maxRecDepth 20000 in
theorem lk_X12_bowls {g : aG} {l : Launch} {d : Nat} (hdd : 2 ≤ d) {t : Nat} {x1 : Int32} {x2 : Int32} {x3 : Int32} {x4 : Int32} {h : aH} {r : Int32 × aH} (hT : hK h t = 14) (HF : F_X12_bowls t x1 x2 x3 x4 h = some r) : MA g l yX12_bowls cX12_bowls 7 (some .int) d [.ref t, .int x1, .int x2, .int x3, .int x4] h (some (.int r.1), r.2) := by
  refine MA.of (lv0 := [(0, .ref t), (1, .int x1), (2, .int x2), (3, .int x3), (4, .int x4)]) (by decide +kernel) (rfl) (Nat.le_of_ble_eq_true rfl) ?_
  unfold F_X12_bowls at HF
  refine ev_aload_n 0 dX12_bowls_0 rfl ?_
  refine ev_iconst (v := 0) dX12_bowls_1 (by decide) ?_
  refine ev_pI (f := 1300) cl_X12 (k := 0) (by decide) fi_X12_0 rfl fl_X12_175 rfl rfl rfl dX12_bowls_2 hT ?_
  replace HF := bd_n HF
  obtain ⟨h1, eh1, HF⟩ := HF
  refine ev_heap eh1 ?_
  have c2 : hK h1 t = 14 := by rw [eh1]; exact hT
  refine ev_aload_n 0 dX12_bowls_5 rfl ?_
  refine ev_iload_n 1 dX12_bowls_6 rfl ?_
  refine ev_iload_n 2 dX12_bowls_7 rfl ?_
  refine ev_iload_n 3 dX12_bowls_8 rfl ?_
  show EvG _ _ _ _ _ _ _ _ _ _ _ 9 _ _ _
  replace HF := bind_o HF
  obtain ⟨⟨z5, h4⟩, e3, HF⟩ := HF
  replace HF := bd_o (bd_o HF)
  dsimp only at HF
  refine ev_callV (As := [.int x1, .int x2, .int x3]) (R1 := (some (.int z5), h4)) (lk_X12_find (d := 1) (Nat.le_refl _) c2 e3) ce_X12_find im_X12_find sl_X12_find ml_X12_312 cl_X12 c2 dX12_bowls_9 (by omega) (Nat.le_of_ble_eq_true rfl) rfl rfl ?_
  show EvG _ _ _ _ _ _ _ _ _ _ _ 12 [(0, .ref t), (1, .int x1), (2, .int x2), (3, .int x3), (4, .int x4)] [.int z5] h4
  refine ev_istore (lv' := [(5, .int z5), (0, .ref t), (1, .int x1), (2, .int x2), (3, .int x3), (4, .int x4)]) dX12_bowls_12 (by decide) (rfl) ?_
  refine ev_iload 0 dX12_bowls_14 rfl ?_
  refine ev_iconst (v := (-1)) dX12_bowls_16 (by decide) ?_
  by_cases c7 : z5 = (-1)
  · replace HF := ite_T c7 HF
    refine ev_icmp_neF (tgt := 22) dX12_bowls_17 (by decide) c7 ?_
    refine ev_iconst (v := (-1)) dX12_bowls_20 (by decide) ?_
    obtain rfl := Option.some.inj HF
    exact ev_iret dX12_bowls_21
  · replace HF := ite_F c7 HF
    refine ev_icmp_neT (tgt := 22) dX12_bowls_17 (by decide) c7 ?_
    refine ev_aload_n 1 dX12_bowls_22 rfl ?_
    replace HF := bind_ck HF
    obtain ⟨c8, HF⟩ := HF
    replace HF := bind_o HF
    obtain ⟨b9, e10, HF⟩ := HF
    refine ev_gS (f := 1312) cl_X12 (k := 12) (by decide) fi_X12_12 rfl fl_X12_35 dX12_bowls_23 c8 e10 ?_
    refine ev_iload 0 dX12_bowls_26 rfl ?_
    replace HF := bind_ck HF
    obtain ⟨c11, HF⟩ := HF
    refine ev_iald dX12_bowls_28 c11.1 c11.2 ?_
    replace HF := bd_n HF
    obtain ⟨v12, ev12, HF⟩ := HF
    refine ev_topI ev12 ?_
    refine ev_istore (lv' := [(6, .int v12), (5, .int z5), (0, .ref t), (1, .int x1), (2, .int x2), (3, .int x3), (4, .int x4)]) dX12_bowls_29 (by decide) (rfl) ?_
    refine ev_aload_n 2 dX12_bowls_31 rfl ?_
    replace HF := bind_o HF
    obtain ⟨b13, e14, HF⟩ := HF
    refine ev_gS (f := 1312) cl_X12 (k := 12) (by decide) fi_X12_12 rfl fl_X12_35 dX12_bowls_32 c8 e14 ?_
    show EvG _ _ _ _ _ _ _ _ _ _ _ 35 _ _ _
    refine ev_iload 1 dX12_bowls_35 rfl ?_
    refine ev_iload 6 dX12_bowls_37 rfl ?_
    refine ev_bipush (v := 15) dX12_bowls_39 (by decide) ?_
    refine ev_iand dX12_bowls_41 ?_
    replace HF := bind_ck HF
    obtain ⟨c15, HF⟩ := HF
    refine ev_iast dX12_bowls_42 c15.1 c15.2 ?_
    replace HF := bd_n HF
    obtain ⟨h16, eh16, HF⟩ := HF
    refine ev_heap eh16 ?_
    have c17 : hK h16 t = 14 := by rw [eh16]; exact c8
    refine ev_aload_n 2 dX12_bowls_43 rfl ?_
    refine ev_bipush (v := 7) dX12_bowls_44 (by decide) ?_
    refine ev_iload_n 3 dX12_bowls_46 rfl ?_
    show EvG _ _ _ _ _ _ _ _ _ _ _ 47 _ _ _
    refine ev_iload 1 dX12_bowls_47 rfl ?_
    refine ev_iconst (v := 0) dX12_bowls_49 (by decide) ?_
    refine ev_iload 0 dX12_bowls_50 rfl ?_
    replace HF := bind_o HF
    obtain ⟨h19, e18, HF⟩ := HF
    refine ev_callV (As := [.int 7, .int x1, .int z5, .int 0, .int v12]) (R1 := (none, h19)) (lk_X12_done (d := 0) (Nat.le_refl _) c17 e18) ce_X12_done im_X12_done sl_X12_done ml_X12_303 cl_X12 c17 dX12_bowls_52 (by omega) (Nat.le_of_ble_eq_true rfl) rfl rfl ?_
    show EvG _ _ _ _ _ _ _ _ _ _ _ 55 [(6, .int v12), (5, .int z5), (0, .ref t), (1, .int x1), (2, .int x2), (3, .int x3), (4, .int x4)] [] h19
    refine ev_iload 0 dX12_bowls_55 rfl ?_
    obtain rfl := Option.some.inj HF
    exact ev_iret dX12_bowls_57

set_option maxRecDepth 20000 in
theorem lk_X12_undo_156 {g : aG} {l : Launch} {d : Nat} {h0 : aH} (hdd : 1 ≤ d) {r : Int32 × aH} : ∀ (n : Nat) (t : Nat) (x1 : Int32) (x2 : Int32) (x3 : Int32) (x4 : Int32) (h : aH), F_X12_undo_156  n t x1 x2 x3 x4 h = some r → Ev g l cX12_undo 5 yX12_undo (some .int) d h0 (some (.int r.1), r.2) 156 [(0, .ref t), (1, .int x1), (2, .int x2), (3, .int x3), (4, .int x4)] [] h := by
  intro n
  induction n with
  | zero => intro t x1 x2 x3 x4 h HF; cases HF
  | succ n ih =>
  intro t x1 x2 x3 x4 h HF
  unfold F_X12_undo_156 at HF
  refine ev_iload 4 dX12_undo_156 rfl ?_
  refine ev_aload_n 0 dX12_undo_158 rfl ?_
  replace HF := bind_ck HF
  obtain ⟨c1, HF⟩ := HF
  replace HF := bind_o HF
  obtain ⟨b2, e3, HF⟩ := HF
  refine ev_gS (f := 1313) cl_X12 (k := 13) (by decide) fi_X12_13 rfl fl_X12_38 dX12_undo_159 c1 e3 ?_
  refine ev_iload_n 3 dX12_undo_162 rfl ?_
  replace HF := bind_ck HF
  obtain ⟨c4, HF⟩ := HF
  refine ev_iald dX12_undo_163 c4.1 c4.2 ?_
  by_cases c5 : hI h b2 x3.toNatClampNeg ≤ x4
  · replace HF := ite_T c5 HF
    refine ev_icmp_geT (tgt := 197) dX12_undo_164 (by decide) c5 ?_
    refine ev_goto (tgt := 257) dX12_undo_197 (by decide) ?_
    refine ev_iload_n 2 dX12_undo_257 rfl ?_
    obtain rfl := Option.some.inj HF
    exact ev_iret dX12_undo_258
  · replace HF := ite_F c5 HF
    refine ev_icmp_geF (tgt := 197) dX12_undo_164 (by decide) c5 ?_
    refine ev_aload_n 0 dX12_undo_167 rfl ?_
    replace HF := bind_o HF
    obtain ⟨b6, e7, HF⟩ := HF
    refine ev_gS (f := 1314) cl_X12 (k := 14) (by decide) fi_X12_14 rfl fl_X12_42 dX12_undo_168 c1 e7 ?_
    refine ev_bipush (v := 40) dX12_undo_171 (by decide) ?_
    refine ev_iload_n 3 dX12_undo_173 rfl ?_
    refine ev_imul dX12_undo_174 ?_
    refine ev_iload 4 dX12_undo_175 rfl ?_
    refine ev_iadd dX12_undo_177 ?_
    show EvG _ _ _ _ _ _ _ _ _ _ _ 178 _ _ _
    refine ev_aload_n 0 dX12_undo_178 rfl ?_
    replace HF := bind_o HF
    obtain ⟨b8, e9, HF⟩ := HF
    refine ev_gS (f := 1327) cl_X12 (k := 27) (by decide) fi_X12_27 rfl fl_X12_69 dX12_undo_179 c1 e9 ?_
    refine ev_bipush (v := 40) dX12_undo_182 (by decide) ?_
    refine ev_iload_n 1 dX12_undo_184 rfl ?_
    refine ev_imul dX12_undo_185 ?_
    refine ev_iload 4 dX12_undo_186 rfl ?_
    refine ev_iadd dX12_undo_188 ?_
    replace HF := bind_ck HF
    obtain ⟨c10, HF⟩ := HF
    refine ev_iald dX12_undo_189 c10.1 c10.2 ?_
    show EvG _ _ _ _ _ _ _ _ _ _ _ 190 _ _ _
    replace HF := bind_ck HF
    obtain ⟨c11, HF⟩ := HF
    refine ev_iast dX12_undo_190 c11.1 c11.2 ?_
    replace HF := bd_n HF
    obtain ⟨h12, eh12, HF⟩ := HF
    refine ev_heap eh12 ?_
    have c13 : hK h12 t = 14 := by rw [eh12]; exact c1
    replace HF := bd_n HF
    obtain ⟨v14, ev14, HF⟩ := HF
    refine ev_iinc (v := v14) (lv' := [(4, .int v14), (0, .ref t), (1, .int x1), (2, .int x2), (3, .int x3)]) 4 dX12_undo_191 rfl (by rw [ev14]; rfl) (by decide) (rfl) ?_
    refine ev_goto (tgt := 156) dX12_undo_194 (by decide) ?_
    exact Ev.sub [1, 2, 3, 4, 0] rfl (ih t x1 x2 x3 v14 _ HF)

set_option maxRecDepth 20000 in
theorem lk_X12_undo {g : aG} {l : Launch} {d : Nat} (hdd : 1 ≤ d) {t : Nat} {h : aH} {r : Int32 × aH} (hT : hK h t = 14) (HF : F_X12_undo t h = some r) : MA g l yX12_undo cX12_undo 5 (some .int) d [.ref t] h (some (.int r.1), r.2) := by
  refine MA.of (lv0 := [(0, .ref t)]) (by decide +kernel) (rfl) (Nat.le_of_ble_eq_true rfl) ?_
  unfold F_X12_undo at HF
  refine ev_aload_n 0 dX12_undo_0 rfl ?_
  refine ev_iconst (v := 0) dX12_undo_1 (by decide) ?_
  refine ev_pI (f := 1300) cl_X12 (k := 0) (by decide) fi_X12_0 rfl fl_X12_175 rfl rfl rfl dX12_undo_2 hT ?_
  replace HF := bd_n HF
  obtain ⟨h1, eh1, HF⟩ := HF
  refine ev_heap eh1 ?_
  have c2 : hK h1 t = 14 := by rw [eh1]; exact hT
  refine ev_aload_n 0 dX12_undo_5 rfl ?_
  refine ev_gI (f := 1320) cl_X12 (k := 20) (by decide) fi_X12_20 rfl fl_X12_291 dX12_undo_6 c2 ?_
  by_cases c3 : hF h1 1320 t = 0
  · replace HF := ite_T c3 HF
    refine ev_if_neF (tgt := 14) dX12_undo_9 (by decide) c3 ?_
    refine ev_iconst (v := (-1)) dX12_undo_12 (by decide) ?_
    obtain rfl := Option.some.inj HF
    exact ev_iret dX12_undo_13
  · replace HF := ite_F c3 HF
    refine ev_if_neT (tgt := 14) dX12_undo_9 (by decide) c3 ?_
    refine ev_aload_n 0 dX12_undo_14 rfl ?_
    refine ev_dup dX12_undo_15 rfl ?_
    refine ev_gI (f := 1320) cl_X12 (k := 20) (by decide) fi_X12_20 rfl fl_X12_291 dX12_undo_16 c2 ?_
    refine ev_iconst (v := 1) dX12_undo_19 (by decide) ?_
    refine ev_isub dX12_undo_20 ?_
    refine ev_pI (f := 1320) cl_X12 (k := 20) (by decide) fi_X12_20 rfl fl_X12_291 rfl rfl rfl dX12_undo_21 c2 ?_
    replace HF := bd_n HF
    obtain ⟨h4, eh4, HF⟩ := HF
    refine ev_heap eh4 ?_
    have c5 : hK h4 t = 14 := by rw [eh4]; exact c2
    refine ev_aload_n 0 dX12_undo_24 rfl ?_
    show EvG _ _ _ _ _ _ _ _ _ _ _ 25 _ _ _
    refine ev_gI (f := 1320) cl_X12 (k := 20) (by decide) fi_X12_20 rfl fl_X12_291 dX12_undo_25 c5 ?_
    replace HF := bd_n HF
    obtain ⟨v6, ev6, HF⟩ := HF
    refine ev_topI ev6 ?_
    refine ev_istore_n (lv' := [(1, .int v6), (0, .ref t)]) dX12_undo_28 (by decide) (rfl) ?_
    refine ev_aload_n 1 dX12_undo_29 rfl ?_
    replace HF := bind_o HF
    obtain ⟨b7, e8, HF⟩ := HF
    refine ev_gS (f := 1322) cl_X12 (k := 22) (by decide) fi_X12_22 rfl fl_X12_54 dX12_undo_30 c5 e8 ?_
    refine ev_iload_n 0 dX12_undo_33 rfl ?_
    replace HF := bind_ck HF
    obtain ⟨c9, HF⟩ := HF
    refine ev_iald dX12_undo_34 c9.1 c9.2 ?_
    replace HF := bd_n HF
    obtain ⟨v10, ev10, HF⟩ := HF
    refine ev_topI ev10 ?_
    refine ev_istore_n (lv' := [(2, .int v10), (1, .int v6), (0, .ref t)]) dX12_undo_35 (by decide) (rfl) ?_
    refine ev_aload_n 2 dX12_undo_36 rfl ?_
    show EvG _ _ _ _ _ _ _ _ _ _ _ 37 _ _ _
    replace HF := bind_o HF
    obtain ⟨b11, e12, HF⟩ := HF
    refine ev_gS (f := 1323) cl_X12 (k := 23) (by decide) fi_X12_23 rfl fl_X12_57 dX12_undo_37 c5 e12 ?_
    refine ev_iload_n 1 dX12_undo_40 rfl ?_
    replace HF := bind_ck HF
    obtain ⟨c13, HF⟩ := HF
    refine ev_iald dX12_undo_41 c13.1 c13.2 ?_
    replace HF := bd_n HF
    obtain ⟨v14, ev14, HF⟩ := HF
    refine ev_topI ev14 ?_
    refine ev_istore_n (lv' := [(3, .int v14), (2, .int v10), (1, .int v6), (0, .ref t)]) dX12_undo_42 (by decide) (rfl) ?_
    refine ev_aload_n 3 dX12_undo_43 rfl ?_
    replace HF := bind_o HF
    obtain ⟨b15, e16, HF⟩ := HF
    refine ev_gS (f := 1321) cl_X12 (k := 21) (by decide) fi_X12_21 rfl fl_X12_51 dX12_undo_44 c5 e16 ?_
    refine ev_iload_n 2 dX12_undo_47 rfl ?_
    replace HF := bind_ck HF
    obtain ⟨c17, HF⟩ := HF
    refine ev_iald dX12_undo_48 c17.1 c17.2 ?_
    show EvG _ _ _ _ _ _ _ _ _ _ _ 49 _ _ _
    by_cases c18 : hI h4 b15 v6.toNatClampNeg = 0
    · replace HF := ite_T c18 HF
      refine ev_swT (kk := 0) (tgt := 92) dX12_undo_49 c18 (by decide +kernel) (by decide +kernel) ?_
      refine ev_aload_n 3 dX12_undo_92 rfl ?_
      replace HF := bind_o HF
      obtain ⟨b19, e20, HF⟩ := HF
      refine ev_gS (f := 1308) cl_X12 (k := 8) (by decide) fi_X12_8 rfl fl_X12_25 dX12_undo_93 c5 e20 ?_
      refine ev_iload_n 1 dX12_undo_96 rfl ?_
      refine ev_dup2 dX12_undo_97 rfl rfl ?_
      replace HF := bind_ck HF
      obtain ⟨c21, HF⟩ := HF
      refine ev_iald dX12_undo_98 c21.1 c21.2 ?_
      refine ev_iconst (v := 1) dX12_undo_99 (by decide) ?_
      refine ev_isub dX12_undo_100 ?_
      show EvG _ _ _ _ _ _ _ _ _ _ _ 101 _ _ _
      refine ev_iast dX12_undo_101 c21.1 c21.2 ?_
      replace HF := bd_n HF
      obtain ⟨h22, eh22, HF⟩ := HF
      refine ev_heap eh22 ?_
      have c23 : hK h22 t = 14 := by rw [eh22]; exact c5
      refine ev_goto (tgt := 257) dX12_undo_102 (by decide) ?_
      refine ev_iload_n 1 dX12_undo_257 rfl ?_
      obtain rfl := Option.some.inj HF
      exact ev_iret dX12_undo_258
    replace HF := ite_F c18 HF
    by_cases c24 : hI h4 b15 v6.toNatClampNeg = 1
    · replace HF := ite_T c24 HF
      refine ev_swT (kk := 1) (tgt := 105) dX12_undo_49 c24 (by decide +kernel) (by decide +kernel) ?_
      refine ev_aload_n 3 dX12_undo_105 rfl ?_
      replace HF := bind_o HF
      obtain ⟨b25, e26, HF⟩ := HF
      refine ev_gS (f := 1309) cl_X12 (k := 9) (by decide) fi_X12_9 rfl fl_X12_28 dX12_undo_106 c5 e26 ?_
      refine ev_iconst (v := 4) dX12_undo_109 (by decide) ?_
      refine ev_iload_n 1 dX12_undo_110 rfl ?_
      refine ev_imul dX12_undo_111 ?_
      refine ev_aload_n 3 dX12_undo_112 rfl ?_
      replace HF := bind_o HF
      obtain ⟨b27, e28, HF⟩ := HF
      refine ev_gS (f := 1324) cl_X12 (k := 24) (by decide) fi_X12_24 rfl fl_X12_60 dX12_undo_113 c5 e28 ?_
      show EvG _ _ _ _ _ _ _ _ _ _ _ 116 _ _ _
      refine ev_iload_n 2 dX12_undo_116 rfl ?_
      replace HF := bind_ck HF
      obtain ⟨c29, HF⟩ := HF
      refine ev_iald dX12_undo_117 c29.1 c29.2 ?_
      refine ev_iadd dX12_undo_118 ?_
      refine ev_dup2 dX12_undo_119 rfl rfl ?_
      replace HF := bind_ck HF
      obtain ⟨c30, HF⟩ := HF
      refine ev_iald dX12_undo_120 c30.1 c30.2 ?_
      refine ev_iconst (v := 1) dX12_undo_121 (by decide) ?_
      refine ev_isub dX12_undo_122 ?_
      refine ev_iast dX12_undo_123 c30.1 c30.2 ?_
      replace HF := bd_n HF
      obtain ⟨h31, eh31, HF⟩ := HF
      refine ev_heap eh31 ?_
      have c32 : hK h31 t = 14 := by rw [eh31]; exact c5
      show EvG _ _ _ _ _ _ _ _ _ _ _ 124 _ _ _
      refine ev_goto (tgt := 257) dX12_undo_124 (by decide) ?_
      refine ev_iload_n 1 dX12_undo_257 rfl ?_
      obtain rfl := Option.some.inj HF
      exact ev_iret dX12_undo_258
    replace HF := ite_F c24 HF
    by_cases c33 : hI h4 b15 v6.toNatClampNeg = 2
    · replace HF := ite_T c33 HF
      refine ev_swT (kk := 2) (tgt := 127) dX12_undo_49 c33 (by decide +kernel) (by decide +kernel) ?_
      refine ev_aload_n 3 dX12_undo_127 rfl ?_
      refine ev_iload_n 0 dX12_undo_128 rfl ?_
      refine ev_aload_n 3 dX12_undo_129 rfl ?_
      replace HF := bind_o HF
      obtain ⟨b34, e35, HF⟩ := HF
      refine ev_gS (f := 1324) cl_X12 (k := 24) (by decide) fi_X12_24 rfl fl_X12_60 dX12_undo_130 c5 e35 ?_
      refine ev_iload_n 2 dX12_undo_133 rfl ?_
      replace HF := bind_ck HF
      obtain ⟨c36, HF⟩ := HF
      refine ev_iald dX12_undo_134 c36.1 c36.2 ?_
      replace HF := bind_o HF
      obtain ⟨h38, e37, HF⟩ := HF
      refine ev_callV (As := [.int v14, .int (hI h4 b34 v6.toNatClampNeg)]) (R1 := (none, h38)) (lk_X12_remove (d := 0) (Nat.le_refl _) c5 e37) ce_X12_remove im_X12_remove sl_X12_remove ml_X12_321 cl_X12 c5 dX12_undo_135 (by omega) (Nat.le_of_ble_eq_true rfl) rfl rfl ?_
      show EvG _ _ _ _ _ _ _ _ _ _ _ 138 [(3, .int v14), (2, .int v10), (1, .int v6), (0, .ref t)] [] h38
      show EvG _ _ _ _ _ _ _ _ _ _ _ 138 _ _ _
      refine ev_goto (tgt := 257) dX12_undo_138 (by decide) ?_
      refine ev_iload_n 1 dX12_undo_257 rfl ?_
      obtain rfl := Option.some.inj HF
      exact ev_iret dX12_undo_258
    replace HF := ite_F c33 HF
    by_cases c40 : hI h4 b15 v6.toNatClampNeg = 3
    · replace HF := ite_T c40 HF
      refine ev_swT (kk := 3) (tgt := 141) dX12_undo_49 c40 (by decide +kernel) (by decide +kernel) ?_
      refine ev_aload_n 3 dX12_undo_141 rfl ?_
      replace HF := bind_o HF
      obtain ⟨b41, e42, HF⟩ := HF
      refine ev_gS (f := 1313) cl_X12 (k := 13) (by decide) fi_X12_13 rfl fl_X12_38 dX12_undo_142 c5 e42 ?_
      refine ev_iload_n 0 dX12_undo_145 rfl ?_
      refine ev_aload_n 3 dX12_undo_146 rfl ?_
      replace HF := bind_o HF
      obtain ⟨b43, e44, HF⟩ := HF
      refine ev_gS (f := 1326) cl_X12 (k := 26) (by decide) fi_X12_26 rfl fl_X12_66 dX12_undo_147 c5 e44 ?_
      refine ev_iload_n 2 dX12_undo_150 rfl ?_
      replace HF := bind_ck HF
      obtain ⟨c45, HF⟩ := HF
      refine ev_iald dX12_undo_151 c45.1 c45.2 ?_
      show EvG _ _ _ _ _ _ _ _ _ _ _ 152 _ _ _
      replace HF := bind_ck HF
      obtain ⟨c46, HF⟩ := HF
      refine ev_iast dX12_undo_152 c46.1 c46.2 ?_
      replace HF := bd_n HF
      obtain ⟨h47, eh47, HF⟩ := HF
      refine ev_heap eh47 ?_
      have c48 : hK h47 t = 14 := by rw [eh47]; exact c5
      refine ev_iconst (v := 0) dX12_undo_153 (by decide) ?_
      refine ev_istore (lv' := [(4, .int 0), (3, .int v14), (2, .int v10), (1, .int v6), (0, .ref t)]) dX12_undo_154 (by decide) (rfl) ?_
      exact Ev.sub [4, 3, 2, 1, 0] rfl (lk_X12_undo_156 hdd  fu t v6 v10 v14 0 _ HF)
    replace HF := ite_F c40 HF
    by_cases c49 : hI h4 b15 v6.toNatClampNeg = 4
    · replace HF := ite_T c49 HF
      refine ev_swT (kk := 4) (tgt := 127) dX12_undo_49 c49 (by decide +kernel) (by decide +kernel) ?_
      refine ev_aload_n 3 dX12_undo_127 rfl ?_
      refine ev_iload_n 0 dX12_undo_128 rfl ?_
      refine ev_aload_n 3 dX12_undo_129 rfl ?_
      replace HF := bind_o HF
      obtain ⟨b50, e51, HF⟩ := HF
      refine ev_gS (f := 1324) cl_X12 (k := 24) (by decide) fi_X12_24 rfl fl_X12_60 dX12_undo_130 c5 e51 ?_
      refine ev_iload_n 2 dX12_undo_133 rfl ?_
      replace HF := bind_ck HF
      obtain ⟨c52, HF⟩ := HF
      refine ev_iald dX12_undo_134 c52.1 c52.2 ?_
      replace HF := bind_o HF
      obtain ⟨h54, e53, HF⟩ := HF
      refine ev_callV (As := [.int v14, .int (hI h4 b50 v6.toNatClampNeg)]) (R1 := (none, h54)) (lk_X12_remove (d := 0) (Nat.le_refl _) c5 e53) ce_X12_remove im_X12_remove sl_X12_remove ml_X12_321 cl_X12 c5 dX12_undo_135 (by omega) (Nat.le_of_ble_eq_true rfl) rfl rfl ?_
      show EvG _ _ _ _ _ _ _ _ _ _ _ 138 [(3, .int v14), (2, .int v10), (1, .int v6), (0, .ref t)] [] h54
      show EvG _ _ _ _ _ _ _ _ _ _ _ 138 _ _ _
      refine ev_goto (tgt := 257) dX12_undo_138 (by decide) ?_
      refine ev_iload_n 1 dX12_undo_257 rfl ?_
      obtain rfl := Option.some.inj HF
      exact ev_iret dX12_undo_258
    replace HF := ite_F c49 HF
    by_cases c56 : hI h4 b15 v6.toNatClampNeg = 5
    · replace HF := ite_T c56 HF
      refine ev_swT (kk := 5) (tgt := 200) dX12_undo_49 c56 (by decide +kernel) (by decide +kernel) ?_
      refine ev_aload_n 3 dX12_undo_200 rfl ?_
      replace HF := bind_o HF
      obtain ⟨b57, e58, HF⟩ := HF
      refine ev_gS (f := 1314) cl_X12 (k := 14) (by decide) fi_X12_14 rfl fl_X12_42 dX12_undo_201 c5 e58 ?_
      refine ev_bipush (v := 40) dX12_undo_204 (by decide) ?_
      refine ev_iload_n 0 dX12_undo_206 rfl ?_
      refine ev_imul dX12_undo_207 ?_
      refine ev_aload_n 3 dX12_undo_208 rfl ?_
      replace HF := bind_o HF
      obtain ⟨b59, e60, HF⟩ := HF
      refine ev_gS (f := 1324) cl_X12 (k := 24) (by decide) fi_X12_24 rfl fl_X12_60 dX12_undo_209 c5 e60 ?_
      show EvG _ _ _ _ _ _ _ _ _ _ _ 212 _ _ _
      refine ev_iload_n 2 dX12_undo_212 rfl ?_
      replace HF := bind_ck HF
      obtain ⟨c61, HF⟩ := HF
      refine ev_iald dX12_undo_213 c61.1 c61.2 ?_
      refine ev_iadd dX12_undo_214 ?_
      refine ev_aload_n 3 dX12_undo_215 rfl ?_
      replace HF := bind_o HF
      obtain ⟨b62, e63, HF⟩ := HF
      refine ev_gS (f := 1325) cl_X12 (k := 25) (by decide) fi_X12_25 rfl fl_X12_63 dX12_undo_216 c5 e63 ?_
      refine ev_iload_n 2 dX12_undo_219 rfl ?_
      replace HF := bind_ck HF
      obtain ⟨c64, HF⟩ := HF
      refine ev_iald dX12_undo_220 c64.1 c64.2 ?_
      replace HF := bind_ck HF
      obtain ⟨c65, HF⟩ := HF
      refine ev_iast dX12_undo_221 c65.1 c65.2 ?_
      replace HF := bd_n HF
      obtain ⟨h66, eh66, HF⟩ := HF
      refine ev_heap eh66 ?_
      have c67 : hK h66 t = 14 := by rw [eh66]; exact c5
      show EvG _ _ _ _ _ _ _ _ _ _ _ 222 _ _ _
      refine ev_goto (tgt := 257) dX12_undo_222 (by decide) ?_
      refine ev_iload_n 1 dX12_undo_257 rfl ?_
      obtain rfl := Option.some.inj HF
      exact ev_iret dX12_undo_258
    replace HF := ite_F c56 HF
    by_cases c68 : hI h4 b15 v6.toNatClampNeg = 6
    · replace HF := ite_T c68 HF
      refine ev_swT (kk := 6) (tgt := 225) dX12_undo_49 c68 (by decide +kernel) (by decide +kernel) ?_
      refine ev_aload_n 3 dX12_undo_225 rfl ?_
      refine ev_iload_n 0 dX12_undo_226 rfl ?_
      refine ev_aload_n 3 dX12_undo_227 rfl ?_
      replace HF := bind_o HF
      obtain ⟨b69, e70, HF⟩ := HF
      refine ev_gS (f := 1324) cl_X12 (k := 24) (by decide) fi_X12_24 rfl fl_X12_60 dX12_undo_228 c5 e70 ?_
      refine ev_iload_n 2 dX12_undo_231 rfl ?_
      replace HF := bind_ck HF
      obtain ⟨c71, HF⟩ := HF
      refine ev_iald dX12_undo_232 c71.1 c71.2 ?_
      refine ev_aload_n 3 dX12_undo_233 rfl ?_
      show EvG _ _ _ _ _ _ _ _ _ _ _ 234 _ _ _
      replace HF := bind_o HF
      obtain ⟨b72, e73, HF⟩ := HF
      refine ev_gS (f := 1325) cl_X12 (k := 25) (by decide) fi_X12_25 rfl fl_X12_63 dX12_undo_234 c5 e73 ?_
      refine ev_iload_n 2 dX12_undo_237 rfl ?_
      replace HF := bind_ck HF
      obtain ⟨c74, HF⟩ := HF
      refine ev_iald dX12_undo_238 c74.1 c74.2 ?_
      replace HF := bind_o HF
      obtain ⟨h76, e75, HF⟩ := HF
      refine ev_callV (As := [.int v14, .int (hI h4 b69 v6.toNatClampNeg), .int (hI h4 b72 v6.toNatClampNeg)]) (R1 := (none, h76)) (lk_X12_insert (d := 0) (Nat.le_refl _) c5 e75) ce_X12_insert im_X12_insert sl_X12_insert ml_X12_318 cl_X12 c5 dX12_undo_239 (by omega) (Nat.le_of_ble_eq_true rfl) rfl rfl ?_
      show EvG _ _ _ _ _ _ _ _ _ _ _ 242 [(3, .int v14), (2, .int v10), (1, .int v6), (0, .ref t)] [] h76
      refine ev_goto (tgt := 257) dX12_undo_242 (by decide) ?_
      refine ev_iload_n 1 dX12_undo_257 rfl ?_
      obtain rfl := Option.some.inj HF
      exact ev_iret dX12_undo_258
    replace HF := ite_F c68 HF
    refine ev_swTd (ks := [0, 1, 2, 3, 4, 5, 6]) (tgt := 245) dX12_undo_49 (by simp only [List.mem_cons, List.not_mem_nil, or_false, forall_eq_or_imp, forall_eq]; exact ⟨c18, c24, c33, c40, c49, c56, c68⟩) (by decide +kernel) (by decide) ?_
    refine ev_aload_n 3 dX12_undo_245 rfl ?_
    replace HF := bind_o HF
    obtain ⟨b78, e79, HF⟩ := HF
    refine ev_gS (f := 1312) cl_X12 (k := 12) (by decide) fi_X12_12 rfl fl_X12_35 dX12_undo_246 c5 e79 ?_
    refine ev_iload_n 0 dX12_undo_249 rfl ?_
    refine ev_aload_n 3 dX12_undo_250 rfl ?_
    replace HF := bind_o HF
    obtain ⟨b80, e81, HF⟩ := HF
    refine ev_gS (f := 1325) cl_X12 (k := 25) (by decide) fi_X12_25 rfl fl_X12_63 dX12_undo_251 c5 e81 ?_
    refine ev_iload_n 2 dX12_undo_254 rfl ?_
    replace HF := bind_ck HF
    obtain ⟨c82, HF⟩ := HF
    refine ev_iald dX12_undo_255 c82.1 c82.2 ?_
    show EvG _ _ _ _ _ _ _ _ _ _ _ 256 _ _ _
    replace HF := bind_ck HF
    obtain ⟨c83, HF⟩ := HF
    refine ev_iast dX12_undo_256 c83.1 c83.2 ?_
    replace HF := bd_n HF
    obtain ⟨h84, eh84, HF⟩ := HF
    refine ev_heap eh84 ?_
    have c85 : hK h84 t = 14 := by rw [eh84]; exact c5
    refine ev_iload_n 1 dX12_undo_257 rfl ?_
    obtain rfl := Option.some.inj HF
    exact ev_iret dX12_undo_258

set_option maxRecDepth 20000 in
theorem lk_X12_why {g : aG} {l : Launch} {d : Nat} (hdd : 0 ≤ d) {t : Nat} {h : aH} {r : Int32 × aH} (hT : hK h t = 14) (HF : F_X12_why t h = some r) : MA g l yX12_why cX12_why 1 (some .int) d [.ref t] h (some (.int r.1), r.2) := by
  refine MA.of (lv0 := [(0, .ref t)]) (by decide +kernel) (rfl) (Nat.le_of_ble_eq_true rfl) ?_
  unfold F_X12_why at HF
  refine ev_aload_n 0 dX12_why_0 rfl ?_
  refine ev_iconst (v := 0) dX12_why_1 (by decide) ?_
  refine ev_pI (f := 1300) cl_X12 (k := 0) (by decide) fi_X12_0 rfl fl_X12_175 rfl rfl rfl dX12_why_2 hT ?_
  replace HF := bd_n HF
  obtain ⟨h1, eh1, HF⟩ := HF
  refine ev_heap eh1 ?_
  have c2 : hK h1 t = 14 := by rw [eh1]; exact hT
  refine ev_aload_n 0 dX12_why_5 rfl ?_
  refine ev_gI (f := 1319) cl_X12 (k := 19) (by decide) fi_X12_19 rfl fl_X12_297 dX12_why_6 c2 ?_
  obtain rfl := Option.some.inj HF
  exact ev_iret dX12_why_9

set_option maxRecDepth 20000 in
theorem lk_X12_more {g : aG} {l : Launch} {d : Nat} (hdd : 1 ≤ d) {t : Nat} {x1 : Int32} {h : aH} {r : Int32 × aH} (hT : hK h t = 14) (HF : F_X12_more t x1 h = some r) : MA g l yX12_more cX12_more 2 (some .int) d [.ref t, .int x1] h (some (.int r.1), r.2) := by
  refine MA.of (lv0 := [(0, .ref t), (1, .int x1)]) (by decide +kernel) (rfl) (Nat.le_of_ble_eq_true rfl) ?_
  unfold F_X12_more at HF
  refine ev_aload_n 0 dX12_more_0 rfl ?_
  replace HF := bind_o HF
  obtain ⟨b1, e2, HF⟩ := HF
  refine ev_gS (f := 1341) cl_X12 (k := 41) (by decide) fi_X12_41 rfl fl_X12_90 dX12_more_1 hT e2 ?_
  refine ev_iload_n 1 dX12_more_4 rfl ?_
  replace HF := bind_ck HF
  obtain ⟨c3, HF⟩ := HF
  refine ev_iald dX12_more_5 c3.1 c3.2 ?_
  by_cases c4 : hI h b1 x1.toNatClampNeg = 0
  · replace HF := ite_T c4 HF
    refine ev_if_eqT (tgt := 13) dX12_more_6 (by decide) c4 ?_
    refine ev_bipush (v := 6) dX12_more_13 (by decide) ?_
    refine ev_aload_n 0 dX12_more_15 rfl ?_
    refine ev_iload_n 1 dX12_more_16 rfl ?_
    replace HF := bind_o HF
    obtain ⟨⟨z7, h6⟩, e5, HF⟩ := HF
    replace HF := bd_o (bd_o HF)
    dsimp only at HF
    refine ev_callV (As := [.int x1]) (R1 := (some (.int z7), h6)) (lk_X12_left (d := 0) (Nat.le_refl _) hT e5) ce_X12_left im_X12_left sl_X12_left ml_X12_285 cl_X12 hT dX12_more_17 (by omega) (Nat.le_of_ble_eq_true rfl) rfl rfl ?_
    show EvG _ _ _ _ _ _ _ _ _ _ _ 20 [(0, .ref t), (1, .int x1)] [.int z7, .int 6] h6
    refine ev_imul dX12_more_20 ?_
    obtain rfl := Option.some.inj HF
    exact ev_iret dX12_more_21
  · replace HF := ite_F c4 HF
    refine ev_if_eqF (tgt := 13) dX12_more_6 (by decide) c4 ?_
    refine ev_iconst (v := 0) dX12_more_9 (by decide) ?_
    refine ev_goto (tgt := 21) dX12_more_10 (by decide) ?_
    obtain rfl := Option.some.inj HF
    exact ev_iret dX12_more_21

set_option maxRecDepth 20000 in
theorem lk_X12_nowOf {g : aG} {l : Launch} {d : Nat} (hdd : 2 ≤ d) {t : Nat} {x1 : Int32} {x2 : Int32} {h : aH} {r : Int32 × aH} (hT : hK h t = 14) (HF : F_X12_nowOf t x1 x2 h = some r) : MA g l yX12_nowOf cX12_nowOf 4 (some .int) d [.ref t, .int x1, .int x2] h (some (.int r.1), r.2) := by
  refine MA.of (lv0 := [(0, .ref t), (1, .int x1), (2, .int x2)]) (by decide +kernel) (rfl) (Nat.le_of_ble_eq_true rfl) ?_
  unfold F_X12_nowOf at HF
  refine ev_aload_n 0 dX12_nowOf_0 rfl ?_
  refine ev_gI (f := 1332) cl_X12 (k := 32) (by decide) fi_X12_32 rfl fl_X12_215 dX12_nowOf_1 hT ?_
  replace HF := bd_n HF
  obtain ⟨v1, ev1, HF⟩ := HF
  refine ev_topI ev1 ?_
  refine ev_istore_n (lv' := [(3, .int v1), (0, .ref t), (1, .int x1), (2, .int x2)]) dX12_nowOf_4 (by decide) (rfl) ?_
  refine ev_iload_n 3 dX12_nowOf_5 rfl ?_
  by_cases c2 : x2 = 0
  · replace HF := ite_T c2 HF
    refine ev_swT (kk := 0) (tgt := 76) dX12_nowOf_6 c2 (by decide +kernel) (by decide +kernel) ?_
    refine ev_iload_n 0 dX12_nowOf_76 rfl ?_
    obtain rfl := Option.some.inj HF
    exact ev_iret dX12_nowOf_77
  replace HF := ite_F c2 HF
  by_cases c3 : x2 = 1
  · replace HF := ite_T c3 HF
    refine ev_swT (kk := 1) (tgt := 78) dX12_nowOf_6 c3 (by decide +kernel) (by decide +kernel) ?_
    refine ev_iload_n 0 dX12_nowOf_78 rfl ?_
    by_cases c4 : 0 ≤ v1
    · replace HF := ite_T c4 HF
      refine ev_if_geT (tgt := 86) dX12_nowOf_79 (by decide) c4 ?_
      refine ev_aload_n 1 dX12_nowOf_86 rfl ?_
      replace HF := bind_o HF
      obtain ⟨b5, e6, HF⟩ := HF
      refine ev_gS (f := 1345) cl_X12 (k := 45) (by decide) fi_X12_45 rfl fl_X12_102 dX12_nowOf_87 hT e6 ?_
      refine ev_iload_n 0 dX12_nowOf_90 rfl ?_
      replace HF := bind_ck HF
      obtain ⟨c7, HF⟩ := HF
      refine ev_iald dX12_nowOf_91 c7.1 c7.2 ?_
      obtain rfl := Option.some.inj HF
      exact ev_iret dX12_nowOf_92
    · replace HF := ite_F c4 HF
      refine ev_if_geF (tgt := 86) dX12_nowOf_79 (by decide) c4 ?_
      refine ev_iconst (v := (-1)) dX12_nowOf_82 (by decide) ?_
      refine ev_goto (tgt := 92) dX12_nowOf_83 (by decide) ?_
      obtain rfl := Option.some.inj HF
      exact ev_iret dX12_nowOf_92
  replace HF := ite_F c3 HF
  by_cases c8 : x2 = 2
  · replace HF := ite_T c8 HF
    refine ev_swT (kk := 2) (tgt := 93) dX12_nowOf_6 c8 (by decide +kernel) (by decide +kernel) ?_
    refine ev_iload_n 0 dX12_nowOf_93 rfl ?_
    by_cases c9 : 0 ≤ v1
    · replace HF := ite_T c9 HF
      refine ev_if_geT (tgt := 101) dX12_nowOf_94 (by decide) c9 ?_
      refine ev_aload_n 1 dX12_nowOf_101 rfl ?_
      replace HF := bind_o HF
      obtain ⟨b10, e11, HF⟩ := HF
      refine ev_gS (f := 1346) cl_X12 (k := 46) (by decide) fi_X12_46 rfl fl_X12_105 dX12_nowOf_102 hT e11 ?_
      refine ev_iload_n 0 dX12_nowOf_105 rfl ?_
      replace HF := bind_ck HF
      obtain ⟨c12, HF⟩ := HF
      refine ev_iald dX12_nowOf_106 c12.1 c12.2 ?_
      obtain rfl := Option.some.inj HF
      exact ev_iret dX12_nowOf_107
    · replace HF := ite_F c9 HF
      refine ev_if_geF (tgt := 101) dX12_nowOf_94 (by decide) c9 ?_
      refine ev_iconst (v := (-1)) dX12_nowOf_97 (by decide) ?_
      refine ev_goto (tgt := 107) dX12_nowOf_98 (by decide) ?_
      obtain rfl := Option.some.inj HF
      exact ev_iret dX12_nowOf_107
  replace HF := ite_F c8 HF
  by_cases c13 : x2 = 3
  · replace HF := ite_T c13 HF
    refine ev_swT (kk := 3) (tgt := 108) dX12_nowOf_6 c13 (by decide +kernel) (by decide +kernel) ?_
    refine ev_iload_n 0 dX12_nowOf_108 rfl ?_
    by_cases c14 : 0 ≤ v1
    · replace HF := ite_T c14 HF
      refine ev_if_geT (tgt := 116) dX12_nowOf_109 (by decide) c14 ?_
      refine ev_aload_n 1 dX12_nowOf_116 rfl ?_
      replace HF := bind_o HF
      obtain ⟨b15, e16, HF⟩ := HF
      refine ev_gS (f := 1351) cl_X12 (k := 51) (by decide) fi_X12_51 rfl fl_X12_120 dX12_nowOf_117 hT e16 ?_
      refine ev_iload_n 0 dX12_nowOf_120 rfl ?_
      replace HF := bind_ck HF
      obtain ⟨c17, HF⟩ := HF
      refine ev_iald dX12_nowOf_121 c17.1 c17.2 ?_
      obtain rfl := Option.some.inj HF
      exact ev_iret dX12_nowOf_122
    · replace HF := ite_F c14 HF
      refine ev_if_geF (tgt := 116) dX12_nowOf_109 (by decide) c14 ?_
      refine ev_iconst (v := (-1)) dX12_nowOf_112 (by decide) ?_
      refine ev_goto (tgt := 122) dX12_nowOf_113 (by decide) ?_
      obtain rfl := Option.some.inj HF
      exact ev_iret dX12_nowOf_122
  replace HF := ite_F c13 HF
  by_cases c18 : x2 = 4
  · replace HF := ite_T c18 HF
    refine ev_swT (kk := 4) (tgt := 123) dX12_nowOf_6 c18 (by decide +kernel) (by decide +kernel) ?_
    refine ev_iload_n 0 dX12_nowOf_123 rfl ?_
    by_cases c19 : 0 ≤ v1
    · replace HF := ite_T c19 HF
      refine ev_if_geT (tgt := 131) dX12_nowOf_124 (by decide) c19 ?_
      refine ev_aload_n 1 dX12_nowOf_131 rfl ?_
      refine ev_iload_n 0 dX12_nowOf_132 rfl ?_
      replace HF := bind_o HF
      obtain ⟨⟨z22, h21⟩, e20, HF⟩ := HF
      replace HF := bd_o (bd_o HF)
      dsimp only at HF
      refine ev_callV (As := [.int v1]) (R1 := (some (.int z22), h21)) (lk_X12_left (d := 0) (Nat.le_refl _) hT e20) ce_X12_left im_X12_left sl_X12_left ml_X12_285 cl_X12 hT dX12_nowOf_133 (by omega) (Nat.le_of_ble_eq_true rfl) rfl rfl ?_
      show EvG _ _ _ _ _ _ _ _ _ _ _ 136 [(3, .int v1), (0, .ref t), (1, .int x1), (2, .int x2)] [.int z22] h21
      obtain rfl := Option.some.inj HF
      exact ev_iret dX12_nowOf_136
    · replace HF := ite_F c19 HF
      refine ev_if_geF (tgt := 131) dX12_nowOf_124 (by decide) c19 ?_
      refine ev_iconst (v := (-1)) dX12_nowOf_127 (by decide) ?_
      refine ev_goto (tgt := 136) dX12_nowOf_128 (by decide) ?_
      obtain rfl := Option.some.inj HF
      exact ev_iret dX12_nowOf_136
  replace HF := ite_F c18 HF
  by_cases c24 : x2 = 5
  · replace HF := ite_T c24 HF
    refine ev_swT (kk := 5) (tgt := 137) dX12_nowOf_6 c24 (by decide +kernel) (by decide +kernel) ?_
    refine ev_iload_n 0 dX12_nowOf_137 rfl ?_
    by_cases c25 : 0 ≤ v1
    · replace HF := ite_T c25 HF
      refine ev_if_geT (tgt := 145) dX12_nowOf_138 (by decide) c25 ?_
      refine ev_aload_n 1 dX12_nowOf_145 rfl ?_
      replace HF := bind_o HF
      obtain ⟨b26, e27, HF⟩ := HF
      refine ev_gS (f := 1341) cl_X12 (k := 41) (by decide) fi_X12_41 rfl fl_X12_90 dX12_nowOf_146 hT e27 ?_
      refine ev_iload_n 0 dX12_nowOf_149 rfl ?_
      replace HF := bind_ck HF
      obtain ⟨c28, HF⟩ := HF
      refine ev_iald dX12_nowOf_150 c28.1 c28.2 ?_
      obtain rfl := Option.some.inj HF
      exact ev_iret dX12_nowOf_151
    · replace HF := ite_F c25 HF
      refine ev_if_geF (tgt := 145) dX12_nowOf_138 (by decide) c25 ?_
      refine ev_iconst (v := (-1)) dX12_nowOf_141 (by decide) ?_
      refine ev_goto (tgt := 151) dX12_nowOf_142 (by decide) ?_
      obtain rfl := Option.some.inj HF
      exact ev_iret dX12_nowOf_151
  replace HF := ite_F c24 HF
  by_cases c29 : x2 = 6
  · replace HF := ite_T c29 HF
    refine ev_swT (kk := 6) (tgt := 152) dX12_nowOf_6 c29 (by decide +kernel) (by decide +kernel) ?_
    refine ev_iload_n 0 dX12_nowOf_152 rfl ?_
    refine ev_aload_n 1 dX12_nowOf_153 rfl ?_
    refine ev_iload_n 2 dX12_nowOf_154 rfl ?_
    replace HF := bind_o HF
    obtain ⟨⟨z32, h31⟩, e30, HF⟩ := HF
    replace HF := bd_o (bd_o HF)
    dsimp only at HF
    refine ev_callV (As := [.int x1]) (R1 := (some (.int z32), h31)) (lk_X12_lastTurn (d := 0) (Nat.le_refl _) hT e30) ce_X12_lastTurn im_X12_lastTurn sl_X12_lastTurn ml_X12_240 cl_X12 hT dX12_nowOf_155 (by omega) (Nat.le_of_ble_eq_true rfl) rfl rfl ?_
    show EvG _ _ _ _ _ _ _ _ _ _ _ 158 [(3, .int v1), (0, .ref t), (1, .int x1), (2, .int x2)] [.int z32, .int v1] h31
    by_cases c34 : v1 = z32
    · replace HF := ite_T c34 HF
      refine ev_icmp_neF (tgt := 168) dX12_nowOf_158 (by decide) c34 ?_
      refine ev_aload_n 1 dX12_nowOf_161 rfl ?_
      replace HF := bind_ck HF
      obtain ⟨c35, HF⟩ := HF
      refine ev_gI (f := 1334) cl_X12 (k := 34) (by decide) fi_X12_34 rfl fl_X12_221 dX12_nowOf_162 c35 ?_
      refine ev_goto (tgt := 169) dX12_nowOf_165 (by decide) ?_
      obtain rfl := Option.some.inj HF
      exact ev_iret dX12_nowOf_169
    · replace HF := ite_F c34 HF
      refine ev_icmp_neT (tgt := 168) dX12_nowOf_158 (by decide) c34 ?_
      refine ev_iconst (v := (-1)) dX12_nowOf_168 (by decide) ?_
      obtain rfl := Option.some.inj HF
      exact ev_iret dX12_nowOf_169
  replace HF := ite_F c29 HF
  by_cases c36 : x2 = 7
  · replace HF := ite_T c36 HF
    refine ev_swT (kk := 7) (tgt := 170) dX12_nowOf_6 c36 (by decide +kernel) (by decide +kernel) ?_
    refine ev_iload_n 0 dX12_nowOf_170 rfl ?_
    refine ev_aload_n 1 dX12_nowOf_171 rfl ?_
    refine ev_iload_n 2 dX12_nowOf_172 rfl ?_
    replace HF := bind_o HF
    obtain ⟨⟨z39, h38⟩, e37, HF⟩ := HF
    replace HF := bd_o (bd_o HF)
    dsimp only at HF
    refine ev_callV (As := [.int x1]) (R1 := (some (.int z39), h38)) (lk_X12_lastTurn (d := 0) (Nat.le_refl _) hT e37) ce_X12_lastTurn im_X12_lastTurn sl_X12_lastTurn ml_X12_240 cl_X12 hT dX12_nowOf_173 (by omega) (Nat.le_of_ble_eq_true rfl) rfl rfl ?_
    show EvG _ _ _ _ _ _ _ _ _ _ _ 176 [(3, .int v1), (0, .ref t), (1, .int x1), (2, .int x2)] [.int z39, .int v1] h38
    by_cases c41 : v1 = z39
    · replace HF := ite_T c41 HF
      refine ev_icmp_neF (tgt := 197) dX12_nowOf_176 (by decide) c41 ?_
      refine ev_iconst (v := 0) dX12_nowOf_179 (by decide) ?_
      refine ev_aload_n 1 dX12_nowOf_180 rfl ?_
      replace HF := bind_ck HF
      obtain ⟨c42, HF⟩ := HF
      refine ev_gI (f := 1334) cl_X12 (k := 34) (by decide) fi_X12_34 rfl fl_X12_221 dX12_nowOf_181 c42 ?_
      refine ev_aload_n 1 dX12_nowOf_184 rfl ?_
      replace HF := bind_o HF
      obtain ⟨b43, e44, HF⟩ := HF
      refine ev_gS (f := 1335) cl_X12 (k := 35) (by decide) fi_X12_35 rfl fl_X12_72 dX12_nowOf_185 c42 e44 ?_
      refine ev_iload_n 0 dX12_nowOf_188 rfl ?_
      replace HF := bind_ck HF
      obtain ⟨c45, HF⟩ := HF
      refine ev_iald dX12_nowOf_189 c45.1 c45.2 ?_
      show EvG _ _ _ _ _ _ _ _ _ _ _ 190 _ _ _
      refine ev_isub dX12_nowOf_190 ?_
      refine ev_max ml_X12_324 dX12_nowOf_191 (by omega) (Nat.le_of_ble_eq_true rfl) ?_
      replace HF := bd_n HF
      obtain ⟨z46, ez46, HF⟩ := HF
      refine ev_topI ez46 ?_
      refine ev_goto (tgt := 198) dX12_nowOf_194 (by decide) ?_
      obtain rfl := Option.some.inj HF
      exact ev_iret dX12_nowOf_198
    · replace HF := ite_F c41 HF
      refine ev_icmp_neT (tgt := 197) dX12_nowOf_176 (by decide) c41 ?_
      refine ev_iconst (v := (-1)) dX12_nowOf_197 (by decide) ?_
      obtain rfl := Option.some.inj HF
      exact ev_iret dX12_nowOf_198
  replace HF := ite_F c36 HF
  by_cases c47 : x2 = 8
  · replace HF := ite_T c47 HF
    refine ev_swT (kk := 8) (tgt := 199) dX12_nowOf_6 c47 (by decide +kernel) (by decide +kernel) ?_
    refine ev_iload_n 0 dX12_nowOf_199 rfl ?_
    refine ev_aload_n 1 dX12_nowOf_200 rfl ?_
    refine ev_iload_n 2 dX12_nowOf_201 rfl ?_
    replace HF := bind_o HF
    obtain ⟨⟨z50, h49⟩, e48, HF⟩ := HF
    replace HF := bd_o (bd_o HF)
    dsimp only at HF
    refine ev_callV (As := [.int x1]) (R1 := (some (.int z50), h49)) (lk_X12_lastTurn (d := 0) (Nat.le_refl _) hT e48) ce_X12_lastTurn im_X12_lastTurn sl_X12_lastTurn ml_X12_240 cl_X12 hT dX12_nowOf_202 (by omega) (Nat.le_of_ble_eq_true rfl) rfl rfl ?_
    show EvG _ _ _ _ _ _ _ _ _ _ _ 205 [(3, .int v1), (0, .ref t), (1, .int x1), (2, .int x2)] [.int z50, .int v1] h49
    by_cases c52 : v1 = z50
    · replace HF := ite_T c52 HF
      refine ev_icmp_neF (tgt := 235) dX12_nowOf_205 (by decide) c52 ?_
      refine ev_aload_n 1 dX12_nowOf_208 rfl ?_
      replace HF := bind_ck HF
      obtain ⟨c53, HF⟩ := HF
      refine ev_gI (f := 1334) cl_X12 (k := 34) (by decide) fi_X12_34 rfl fl_X12_221 dX12_nowOf_209 c53 ?_
      refine ev_aload_n 1 dX12_nowOf_212 rfl ?_
      replace HF := bind_o HF
      obtain ⟨b54, e55, HF⟩ := HF
      refine ev_gS (f := 1335) cl_X12 (k := 35) (by decide) fi_X12_35 rfl fl_X12_72 dX12_nowOf_213 c53 e55 ?_
      refine ev_iload_n 0 dX12_nowOf_216 rfl ?_
      replace HF := bind_ck HF
      obtain ⟨c56, HF⟩ := HF
      refine ev_iald dX12_nowOf_217 c56.1 c56.2 ?_
      refine ev_isub dX12_nowOf_218 ?_
      show EvG _ _ _ _ _ _ _ _ _ _ _ 219 _ _ _
      refine ev_aload_n 1 dX12_nowOf_219 rfl ?_
      refine ev_iload_n 0 dX12_nowOf_220 rfl ?_
      replace HF := bind_o HF
      obtain ⟨⟨z59, h58⟩, e57, HF⟩ := HF
      replace HF := bd_o (bd_o HF)
      dsimp only at HF
      refine ev_callV (As := [.int v1]) (R1 := (some (.int z59), h58)) (lk_X12_more (d := 1) (Nat.le_refl _) c53 e57) ce_X12_more im_X12_more sl_X12_more ml_X12_329 cl_X12 c53 dX12_nowOf_221 (by omega) (Nat.le_of_ble_eq_true rfl) rfl rfl ?_
      show EvG _ _ _ _ _ _ _ _ _ _ _ 224 [(3, .int v1), (0, .ref t), (1, .int x1), (2, .int x2)] [.int z59, .int ((hF h49 1334 t) - (hI h49 b54 v1.toNatClampNeg))] h58
      by_cases c61 : z59 < (hF h49 1334 t) - (hI h49 b54 v1.toNatClampNeg)
      · replace HF := ite_T c61 HF
        refine ev_icmp_gtT (tgt := 231) dX12_nowOf_224 (by decide) c61 ?_
        refine ev_iconst (v := 0) dX12_nowOf_231 (by decide) ?_
        refine ev_goto (tgt := 236) dX12_nowOf_232 (by decide) ?_
        obtain rfl := Option.some.inj HF
        exact ev_iret dX12_nowOf_236
      · replace HF := ite_F c61 HF
        refine ev_icmp_gtF (tgt := 231) dX12_nowOf_224 (by decide) c61 ?_
        refine ev_iconst (v := 1) dX12_nowOf_227 (by decide) ?_
        refine ev_goto (tgt := 236) dX12_nowOf_228 (by decide) ?_
        obtain rfl := Option.some.inj HF
        exact ev_iret dX12_nowOf_236
    · replace HF := ite_F c52 HF
      refine ev_icmp_neT (tgt := 235) dX12_nowOf_205 (by decide) c52 ?_
      refine ev_iconst (v := (-1)) dX12_nowOf_235 (by decide) ?_
      obtain rfl := Option.some.inj HF
      exact ev_iret dX12_nowOf_236
  replace HF := ite_F c47 HF
  by_cases c62 : x2 = 9
  · replace HF := ite_T c62 HF
    refine ev_swT (kk := 9) (tgt := 237) dX12_nowOf_6 c62 (by decide +kernel) (by decide +kernel) ?_
    refine ev_iload_n 0 dX12_nowOf_237 rfl ?_
    by_cases c63 : 0 ≤ v1
    · replace HF := ite_T c63 HF
      refine ev_if_geT (tgt := 245) dX12_nowOf_238 (by decide) c63 ?_
      refine ev_aload_n 1 dX12_nowOf_245 rfl ?_
      replace HF := bind_o HF
      obtain ⟨b64, e65, HF⟩ := HF
      refine ev_gS (f := 1335) cl_X12 (k := 35) (by decide) fi_X12_35 rfl fl_X12_72 dX12_nowOf_246 hT e65 ?_
      refine ev_iload_n 0 dX12_nowOf_249 rfl ?_
      replace HF := bind_ck HF
      obtain ⟨c66, HF⟩ := HF
      refine ev_iald dX12_nowOf_250 c66.1 c66.2 ?_
      refine ev_aload_n 1 dX12_nowOf_251 rfl ?_
      refine ev_iload_n 0 dX12_nowOf_252 rfl ?_
      replace HF := bind_o HF
      obtain ⟨⟨z69, h68⟩, e67, HF⟩ := HF
      replace HF := bd_o (bd_o HF)
      dsimp only at HF
      refine ev_callV (As := [.int v1]) (R1 := (some (.int z69), h68)) (lk_X12_more (d := 1) (Nat.le_refl _) hT e67) ce_X12_more im_X12_more sl_X12_more ml_X12_329 cl_X12 hT dX12_nowOf_253 (by omega) (Nat.le_of_ble_eq_true rfl) rfl rfl ?_
      show EvG _ _ _ _ _ _ _ _ _ _ _ 256 [(3, .int v1), (0, .ref t), (1, .int x1), (2, .int x2)] [.int z69, .int (hI h b64 v1.toNatClampNeg)] h68
      show EvG _ _ _ _ _ _ _ _ _ _ _ 256 _ _ _
      refine ev_iadd dX12_nowOf_256 ?_
      obtain rfl := Option.some.inj HF
      exact ev_iret dX12_nowOf_257
    · replace HF := ite_F c63 HF
      refine ev_if_geF (tgt := 245) dX12_nowOf_238 (by decide) c63 ?_
      refine ev_iconst (v := (-1)) dX12_nowOf_241 (by decide) ?_
      refine ev_goto (tgt := 257) dX12_nowOf_242 (by decide) ?_
      obtain rfl := Option.some.inj HF
      exact ev_iret dX12_nowOf_257
  replace HF := ite_F c62 HF
  by_cases c71 : x2 = 10
  · replace HF := ite_T c71 HF
    refine ev_swT (kk := 10) (tgt := 258) dX12_nowOf_6 c71 (by decide +kernel) (by decide +kernel) ?_
    refine ev_aload_n 1 dX12_nowOf_258 rfl ?_
    refine ev_gI (f := 1333) cl_X12 (k := 33) (by decide) fi_X12_33 rfl fl_X12_218 dX12_nowOf_259 hT ?_
    obtain rfl := Option.some.inj HF
    exact ev_iret dX12_nowOf_262
  replace HF := ite_F c71 HF
  by_cases c72 : x2 = 11
  · replace HF := ite_T c72 HF
    refine ev_swT (kk := 11) (tgt := 263) dX12_nowOf_6 c72 (by decide +kernel) (by decide +kernel) ?_
    refine ev_aload_n 1 dX12_nowOf_263 rfl ?_
    refine ev_gI (f := 1328) cl_X12 (k := 28) (by decide) fi_X12_28 rfl fl_X12_200 dX12_nowOf_264 hT ?_
    obtain rfl := Option.some.inj HF
    exact ev_iret dX12_nowOf_267
  replace HF := ite_F c72 HF
  by_cases c73 : x2 = 12
  · replace HF := ite_T c73 HF
    refine ev_swT (kk := 12) (tgt := 268) dX12_nowOf_6 c73 (by decide +kernel) (by decide +kernel) ?_
    refine ev_aload_n 1 dX12_nowOf_268 rfl ?_
    refine ev_gI (f := 1329) cl_X12 (k := 29) (by decide) fi_X12_29 rfl fl_X12_203 dX12_nowOf_269 hT ?_
    obtain rfl := Option.some.inj HF
    exact ev_iret dX12_nowOf_272
  replace HF := ite_F c73 HF
  by_cases c74 : x2 = 13
  · replace HF := ite_T c74 HF
    refine ev_swT (kk := 13) (tgt := 273) dX12_nowOf_6 c74 (by decide +kernel) (by decide +kernel) ?_
    refine ev_aload_n 1 dX12_nowOf_273 rfl ?_
    refine ev_gI (f := 1330) cl_X12 (k := 30) (by decide) fi_X12_30 rfl fl_X12_206 dX12_nowOf_274 hT ?_
    obtain rfl := Option.some.inj HF
    exact ev_iret dX12_nowOf_277
  replace HF := ite_F c74 HF
  refine ev_swTd (ks := [0, 1, 2, 3, 4, 5, 6, 7, 8, 9, 10, 11, 12, 13]) (tgt := 278) dX12_nowOf_6 (by simp only [List.mem_cons, List.not_mem_nil, or_false, forall_eq_or_imp, forall_eq]; exact ⟨c2, c3, c8, c13, c18, c24, c29, c36, c47, c62, c71, c72, c73, c74⟩) (by decide +kernel) (by decide) ?_
  refine ev_aload_n 1 dX12_nowOf_278 rfl ?_
  refine ev_gI (f := 1331) cl_X12 (k := 31) (by decide) fi_X12_31 rfl fl_X12_209 dX12_nowOf_279 hT ?_
  show EvG _ _ _ _ _ _ _ _ _ _ _ 282 _ _ _
  obtain rfl := Option.some.inj HF
  exact ev_iret dX12_nowOf_282

set_option maxRecDepth 20000 in
theorem lk_X12_now_23 {g : aG} {l : Launch} {d : Nat} {h0 : aH} (hdd : 6 ≤ d) {r : Int32 × aH} (t : Nat) (h : aH) (HF : F_X12_now_23  t h = some r) : Ev g l cX12_now 3 yX12_now (some .int) d h0 (some (.int r.1), r.2) 23 [(0, .ref t)] [] h := by
  unfold F_X12_now_23 at HF
  refine ev_aload_n 0 dX12_now_23 rfl ?_
  replace HF := bind_ck HF
  obtain ⟨c1, HF⟩ := HF
  replace HF := bind_o HF
  obtain ⟨⟨z4, h3⟩, e2, HF⟩ := HF
  replace HF := bd_o (bd_o HF)
  dsimp only at HF
  refine ev_callV (As := []) (R1 := (some (.int z4), h3)) (lk_X12_fail (d := 0) (Nat.le_refl _) c1 e2) ce_X12_fail im_X12_fail sl_X12_fail ml_X12_332 cl_X12 c1 dX12_now_24 (by omega) (Nat.le_of_ble_eq_true rfl) rfl rfl ?_
  show EvG _ _ _ _ _ _ _ _ _ _ _ 27 [(0, .ref t)] [.int z4] h3
  obtain rfl := Option.some.inj HF
  exact ev_iret dX12_now_27

set_option maxRecDepth 20000 in
theorem lk_X12_now {g : aG} {l : Launch} {d : Nat} (hdd : 6 ≤ d) {t : Nat} {x1 : Int32} {x2 : Int32} {h : aH} {r : Int32 × aH} (hT : hK h t = 14) (HF : F_X12_now t x1 x2 h = some r) : MA g l yX12_now cX12_now 3 (some .int) d [.ref t, .int x1, .int x2] h (some (.int r.1), r.2) := by
  refine MA.of (lv0 := [(0, .ref t), (1, .int x1), (2, .int x2)]) (by decide +kernel) (rfl) (Nat.le_of_ble_eq_true rfl) ?_
  unfold F_X12_now at HF
  refine ev_aload_n 0 dX12_now_0 rfl ?_
  refine ev_iconst (v := 0) dX12_now_1 (by decide) ?_
  refine ev_pI (f := 1300) cl_X12 (k := 0) (by decide) fi_X12_0 rfl fl_X12_175 rfl rfl rfl dX12_now_2 hT ?_
  replace HF := bd_n HF
  obtain ⟨h1, eh1, HF⟩ := HF
  refine ev_heap eh1 ?_
  have c2 : hK h1 t = 14 := by rw [eh1]; exact hT
  refine ev_aload_n 0 dX12_now_5 rfl ?_
  refine ev_iload_n 1 dX12_now_6 rfl ?_
  replace HF := bind_o HF
  obtain ⟨⟨z5, h4⟩, e3, HF⟩ := HF
  replace HF := bd_o (bd_o HF)
  dsimp only at HF
  refine ev_callV (As := [.int x1]) (R1 := (some (.int z5), h4)) (lk_X12_isGame (d := 0) (Nat.le_refl _) c2 e3) ce_X12_isGame im_X12_isGame sl_X12_isGame ml_X12_193 cl_X12 c2 dX12_now_7 (by omega) (Nat.le_of_ble_eq_true rfl) rfl rfl ?_
  show EvG _ _ _ _ _ _ _ _ _ _ _ 10 [(0, .ref t), (1, .int x1), (2, .int x2)] [.int z5] h4
  by_cases c7 : z5 = 0
  · replace HF := ite_T c7 HF
    refine ev_if_eqT (tgt := 23) dX12_now_10 (by decide) c7 ?_
    exact Ev.sub [0] rfl (lk_X12_now_23 hdd  t _ HF)
  · replace HF := ite_F c7 HF
    refine ev_if_eqF (tgt := 23) dX12_now_10 (by decide) c7 ?_
    refine ev_iload_n 2 dX12_now_13 rfl ?_
    by_cases c8 : x2 < 0
    · replace HF := ite_T c8 HF
      refine ev_if_ltT (tgt := 23) dX12_now_14 (by decide) c8 ?_
      exact Ev.sub [0] rfl (lk_X12_now_23 hdd  t _ HF)
    · replace HF := ite_F c8 HF
      refine ev_if_ltF (tgt := 23) dX12_now_14 (by decide) c8 ?_
      refine ev_iload_n 2 dX12_now_17 rfl ?_
      refine ev_bipush (v := 14) dX12_now_18 (by decide) ?_
      by_cases c9 : x2 ≤ 14
      · replace HF := ite_T c9 HF
        refine ev_icmp_leT (tgt := 28) dX12_now_20 (by decide) c9 ?_
        refine ev_aload_n 0 dX12_now_28 rfl ?_
        refine ev_iload_n 1 dX12_now_29 rfl ?_
        replace HF := bind_ck HF
        obtain ⟨c10, HF⟩ := HF
        replace HF := bind_o HF
        obtain ⟨h12, e11, HF⟩ := HF
        refine ev_callV (As := [.int x1]) (R1 := (none, h12)) (lk_X12_play (d := 5) (Nat.le_refl _) c10 e11) ce_X12_play im_X12_play sl_X12_play ml_X12_300 cl_X12 c10 dX12_now_30 (by omega) (Nat.le_of_ble_eq_true rfl) rfl rfl ?_
        show EvG _ _ _ _ _ _ _ _ _ _ _ 33 [(0, .ref t), (1, .int x1), (2, .int x2)] [] h12
        refine ev_aload_n 0 dX12_now_33 rfl ?_
        refine ev_iload_n 1 dX12_now_34 rfl ?_
        refine ev_iload_n 2 dX12_now_35 rfl ?_
        replace HF := bind_ck HF
        obtain ⟨c14, HF⟩ := HF
        replace HF := bind_o HF
        obtain ⟨⟨z17, h16⟩, e15, HF⟩ := HF
        replace HF := bd_o (bd_o HF)
        dsimp only at HF
        refine ev_callV (As := [.int x1, .int x2]) (R1 := (some (.int z17), h16)) (lk_X12_nowOf (d := 2) (Nat.le_refl _) c14 e15) ce_X12_nowOf im_X12_nowOf sl_X12_nowOf ml_X12_336 cl_X12 c14 dX12_now_36 (by omega) (Nat.le_of_ble_eq_true rfl) rfl rfl ?_
        show EvG _ _ _ _ _ _ _ _ _ _ _ 39 [(0, .ref t), (1, .int x1), (2, .int x2)] [.int z17] h16
        show EvG _ _ _ _ _ _ _ _ _ _ _ 39 _ _ _
        obtain rfl := Option.some.inj HF
        exact ev_iret dX12_now_39
      · replace HF := ite_F c9 HF
        refine ev_icmp_leF (tgt := 28) dX12_now_20 (by decide) c9 ?_
        exact Ev.sub [0] rfl (lk_X12_now_23 hdd  t _ HF)

set_option maxRecDepth 20000 in
theorem lk_X12_sumOf_98 {g : aG} {l : Launch} {d : Nat} {h0 : aH} (hdd : 1 ≤ d) {r : Int32 × aH} : ∀ (n : Nat) (t : Nat) (x1 : Int32) (x2 : Int32) (x3 : Int32) (x4 : Int32) (x5 : Int32) (h : aH), F_X12_sumOf_98  n t x1 x2 x3 x4 x5 h = some r → Ev g l cX12_sumOf 6 yX12_sumOf (some .int) d h0 (some (.int r.1), r.2) 98 [(0, .ref t), (1, .int x1), (2, .int x2), (3, .int x3), (4, .int x4), (5, .int x5)] [] h := by
  intro n
  induction n with
  | zero => intro t x1 x2 x3 x4 x5 h HF; cases HF
  | succ n ih =>
  intro t x1 x2 x3 x4 x5 h HF
  unfold F_X12_sumOf_98 at HF
  refine ev_iload 5 dX12_sumOf_98 rfl ?_
  refine ev_aload_n 0 dX12_sumOf_100 rfl ?_
  replace HF := bind_ck HF
  obtain ⟨c1, HF⟩ := HF
  replace HF := bind_o HF
  obtain ⟨b2, e3, HF⟩ := HF
  refine ev_gS (f := 1309) cl_X12 (k := 9) (by decide) fi_X12_9 rfl fl_X12_28 dX12_sumOf_101 c1 e3 ?_
  refine ev_iconst (v := 4) dX12_sumOf_104 (by decide) ?_
  refine ev_iload_n 1 dX12_sumOf_105 rfl ?_
  refine ev_imul dX12_sumOf_106 ?_
  refine ev_iload_n 2 dX12_sumOf_107 rfl ?_
  show EvG _ _ _ _ _ _ _ _ _ _ _ 108 _ _ _
  refine ev_iadd dX12_sumOf_108 ?_
  replace HF := bind_ck HF
  obtain ⟨c4, HF⟩ := HF
  refine ev_iald dX12_sumOf_109 c4.1 c4.2 ?_
  by_cases c5 : hI h b2 ((4 * x1) + x2).toNatClampNeg ≤ x5
  · replace HF := ite_T c5 HF
    refine ev_icmp_geT (tgt := 143) dX12_sumOf_110 (by decide) c5 ?_
    refine ev_iload 4 dX12_sumOf_143 rfl ?_
    obtain rfl := Option.some.inj HF
    exact ev_iret dX12_sumOf_145
  · replace HF := ite_F c5 HF
    refine ev_icmp_geF (tgt := 143) dX12_sumOf_110 (by decide) c5 ?_
    refine ev_iload_n 3 dX12_sumOf_113 rfl ?_
    refine ev_bipush (v := 13) dX12_sumOf_114 (by decide) ?_
    by_cases c6 : x3 = 13
    · replace HF := ite_T c6 HF
      refine ev_icmp_neF (tgt := 143) dX12_sumOf_116 (by decide) c6 ?_
      refine ev_iload 4 dX12_sumOf_119 rfl ?_
      refine ev_aload_n 0 dX12_sumOf_121 rfl ?_
      replace HF := bind_o HF
      obtain ⟨b7, e8, HF⟩ := HF
      refine ev_gS (f := 1359) cl_X12 (k := 59) (by decide) fi_X12_59 rfl fl_X12_145 dX12_sumOf_122 c1 e8 ?_
      refine ev_aload_n 0 dX12_sumOf_125 rfl ?_
      refine ev_iload_n 1 dX12_sumOf_126 rfl ?_
      refine ev_iload_n 2 dX12_sumOf_127 rfl ?_
      refine ev_iload 5 dX12_sumOf_128 rfl ?_
      show EvG _ _ _ _ _ _ _ _ _ _ _ 130 _ _ _
      replace HF := bind_o HF
      obtain ⟨⟨z11, h10⟩, e9, HF⟩ := HF
      replace HF := bd_o (bd_o HF)
      dsimp only at HF
      refine ev_callV (As := [.int x1, .int x2, .int x5]) (R1 := (some (.int z11), h10)) (lk_X12_rowOf (d := 0) (Nat.le_refl _) c1 e9) ce_X12_rowOf im_X12_rowOf sl_X12_rowOf ml_X12_228 cl_X12 c1 dX12_sumOf_130 (by omega) (Nat.le_of_ble_eq_true rfl) rfl rfl ?_
      show EvG _ _ _ _ _ _ _ _ _ _ _ 133 [(0, .ref t), (1, .int x1), (2, .int x2), (3, .int x3), (4, .int x4), (5, .int x5)] [.int z11, .ref b7, .int x4] h10
      replace HF := bind_ck HF
      obtain ⟨c13, HF⟩ := HF
      refine ev_iald dX12_sumOf_133 c13.1 c13.2 ?_
      refine ev_iadd dX12_sumOf_134 ?_
      replace HF := bd_n HF
      obtain ⟨v14, ev14, HF⟩ := HF
      refine ev_topI ev14 ?_
      refine ev_istore (lv' := [(4, .int v14), (0, .ref t), (1, .int x1), (2, .int x2), (3, .int x3), (5, .int x5)]) dX12_sumOf_135 (by decide) (rfl) ?_
      replace HF := bd_n HF
      obtain ⟨v15, ev15, HF⟩ := HF
      refine ev_iinc (v := v15) (lv' := [(5, .int v15), (4, .int v14), (0, .ref t), (1, .int x1), (2, .int x2), (3, .int x3)]) 5 dX12_sumOf_137 rfl (by rw [ev15]; rfl) (by decide) (rfl) ?_
      refine ev_goto (tgt := 98) dX12_sumOf_140 (by decide) ?_
      exact Ev.sub [2, 3, 4, 5, 1, 0] rfl (ih t x1 x2 x3 v14 v15 _ HF)
    · replace HF := ite_F c6 HF
      refine ev_icmp_neT (tgt := 143) dX12_sumOf_116 (by decide) c6 ?_
      refine ev_iload 4 dX12_sumOf_143 rfl ?_
      obtain rfl := Option.some.inj HF
      exact ev_iret dX12_sumOf_145

set_option maxRecDepth 20000 in
theorem lk_X12_sumOf_86 {g : aG} {l : Launch} {d : Nat} {h0 : aH} (hdd : 1 ≤ d) {r : Int32 × aH} (k39 : Nat → Int32 → Int32 → Int32 → Int32 → Int32 → aH → Option (Int32 × aH)) (hk39 : ∀ (t : Nat) (x1 : Int32) (x2 : Int32) (x3 : Int32) (x4 : Int32) (x5 : Int32) (h : aH), k39 t x1 x2 x3 x4 x5 h = some r → Ev g l cX12_sumOf 6 yX12_sumOf (some .int) d h0 (some (.int r.1), r.2) 39 [(0, .ref t), (1, .int x1), (2, .int x2), (3, .int x3), (4, .int x4), (5, .int x5)] [] h) (t : Nat) (x1 : Int32) (x2 : Int32) (x3 : Int32) (x5 : Int32) (y0 : Int32) (y1 : Int32) (h : aH) (HF : F_X12_sumOf_86 k39 t x1 x2 x3 x5 y0 y1 h = some r) : Ev g l cX12_sumOf 6 yX12_sumOf (some .int) d h0 (some (.int r.1), r.2) 86 [(0, .ref t), (1, .int x1), (2, .int x2), (3, .int x3), (5, .int x5)] [.int y1, .int y0] h := by
  unfold F_X12_sumOf_86 at HF
  refine ev_iadd dX12_sumOf_86 ?_
  replace HF := bd_n HF
  obtain ⟨v1, ev1, HF⟩ := HF
  refine ev_topI ev1 ?_
  refine ev_istore (lv' := [(4, .int v1), (0, .ref t), (1, .int x1), (2, .int x2), (3, .int x3), (5, .int x5)]) dX12_sumOf_87 (by decide) (rfl) ?_
  replace HF := bd_n HF
  obtain ⟨v2, ev2, HF⟩ := HF
  refine ev_iinc (v := v2) (lv' := [(5, .int v2), (4, .int v1), (0, .ref t), (1, .int x1), (2, .int x2), (3, .int x3)]) 5 dX12_sumOf_89 rfl (by rw [ev2]; rfl) (by decide) (rfl) ?_
  refine ev_goto (tgt := 39) dX12_sumOf_92 (by decide) ?_
  exact Ev.sub [2, 3, 4, 5, 1, 0] rfl (hk39 t x1 x2 x3 v1 v2 _ HF)

set_option maxRecDepth 20000 in
theorem lk_X12_sumOf_39 {g : aG} {l : Launch} {d : Nat} {h0 : aH} (hdd : 1 ≤ d) {r : Int32 × aH} : ∀ (n : Nat) (t : Nat) (x1 : Int32) (x2 : Int32) (x3 : Int32) (x4 : Int32) (x5 : Int32) (h : aH), F_X12_sumOf_39  n t x1 x2 x3 x4 x5 h = some r → Ev g l cX12_sumOf 6 yX12_sumOf (some .int) d h0 (some (.int r.1), r.2) 39 [(0, .ref t), (1, .int x1), (2, .int x2), (3, .int x3), (4, .int x4), (5, .int x5)] [] h := by
  intro n
  induction n with
  | zero => intro t x1 x2 x3 x4 x5 h HF; cases HF
  | succ n ih =>
  intro t x1 x2 x3 x4 x5 h HF
  unfold F_X12_sumOf_39 at HF
  refine ev_iload 5 dX12_sumOf_39 rfl ?_
  refine ev_bipush (v := 11) dX12_sumOf_41 (by decide) ?_
  refine ev_iload_n 2 dX12_sumOf_43 rfl ?_
  refine ev_imul dX12_sumOf_44 ?_
  refine ev_bipush (v := 11) dX12_sumOf_45 (by decide) ?_
  refine ev_iadd dX12_sumOf_47 ?_
  by_cases c1 : (11 * x2) + 11 ≤ x5
  · replace HF := ite_T c1 HF
    refine ev_icmp_geT (tgt := 95) dX12_sumOf_48 (by decide) c1 ?_
    refine ev_iconst (v := 0) dX12_sumOf_95 (by decide) ?_
    refine ev_istore (lv' := [(5, .int 0), (0, .ref t), (1, .int x1), (2, .int x2), (3, .int x3), (4, .int x4)]) dX12_sumOf_96 (by decide) (rfl) ?_
    exact Ev.sub [1, 2, 3, 4, 5, 0] rfl (lk_X12_sumOf_98 hdd  fu t x1 x2 x3 x4 0 _ HF)
  · replace HF := ite_F c1 HF
    refine ev_icmp_geF (tgt := 95) dX12_sumOf_48 (by decide) c1 ?_
    refine ev_iload 4 dX12_sumOf_51 rfl ?_
    refine ev_iload_n 3 dX12_sumOf_53 rfl ?_
    refine ev_bipush (v := 11) dX12_sumOf_54 (by decide) ?_
    by_cases c2 : x3 = 11
    · replace HF := ite_T c2 HF
      refine ev_icmp_neF (tgt := 69) dX12_sumOf_56 (by decide) c2 ?_
      refine ev_aload_n 0 dX12_sumOf_59 rfl ?_
      replace HF := bind_ck HF
      obtain ⟨c3, HF⟩ := HF
      replace HF := bind_o HF
      obtain ⟨b4, e5, HF⟩ := HF
      refine ev_gS (f := 1353) cl_X12 (k := 53) (by decide) fi_X12_53 rfl fl_X12_127 dX12_sumOf_60 c3 e5 ?_
      refine ev_iload 5 dX12_sumOf_63 rfl ?_
      replace HF := bind_ck HF
      obtain ⟨c6, HF⟩ := HF
      refine ev_iald dX12_sumOf_65 c6.1 c6.2 ?_
      refine ev_goto (tgt := 86) dX12_sumOf_66 (by decide) ?_
      exact Ev.sub [0, 1, 2, 3, 5] rfl (lk_X12_sumOf_86 hdd (F_X12_sumOf_39 n) ih t x1 x2 x3 x5 x4 (hI h b4 x5.toNatClampNeg) _ HF)
    · replace HF := ite_F c2 HF
      refine ev_icmp_neT (tgt := 69) dX12_sumOf_56 (by decide) c2 ?_
      refine ev_iload_n 3 dX12_sumOf_69 rfl ?_
      refine ev_bipush (v := 12) dX12_sumOf_70 (by decide) ?_
      by_cases c7 : x3 = 12
      · replace HF := ite_T c7 HF
        refine ev_icmp_neF (tgt := 85) dX12_sumOf_72 (by decide) c7 ?_
        refine ev_aload_n 0 dX12_sumOf_75 rfl ?_
        replace HF := bind_ck HF
        obtain ⟨c8, HF⟩ := HF
        replace HF := bind_o HF
        obtain ⟨b9, e10, HF⟩ := HF
        refine ev_gS (f := 1357) cl_X12 (k := 57) (by decide) fi_X12_57 rfl fl_X12_139 dX12_sumOf_76 c8 e10 ?_
        refine ev_iload 5 dX12_sumOf_79 rfl ?_
        replace HF := bind_ck HF
        obtain ⟨c11, HF⟩ := HF
        refine ev_iald dX12_sumOf_81 c11.1 c11.2 ?_
        refine ev_goto (tgt := 86) dX12_sumOf_82 (by decide) ?_
        exact Ev.sub [0, 1, 2, 3, 5] rfl (lk_X12_sumOf_86 hdd (F_X12_sumOf_39 n) ih t x1 x2 x3 x5 x4 (hI h b9 x5.toNatClampNeg) _ HF)
      · replace HF := ite_F c7 HF
        refine ev_icmp_neT (tgt := 85) dX12_sumOf_72 (by decide) c7 ?_
        refine ev_iconst (v := 0) dX12_sumOf_85 (by decide) ?_
        exact Ev.sub [0, 1, 2, 3, 5] rfl (lk_X12_sumOf_86 hdd (F_X12_sumOf_39 n) ih t x1 x2 x3 x5 x4 0 _ HF)

set_option maxRecDepth 20000 in
theorem lk_X12_sumOf_31 {g : aG} {l : Launch} {d : Nat} {h0 : aH} (hdd : 1 ≤ d) {r : Int32 × aH} (t : Nat) (x1 : Int32) (x2 : Int32) (x3 : Int32) (y0 : Int32) (h : aH) (HF : F_X12_sumOf_31  t x1 x2 x3 y0 h = some r) : Ev g l cX12_sumOf 6 yX12_sumOf (some .int) d h0 (some (.int r.1), r.2) 31 [(0, .ref t), (1, .int x1), (2, .int x2), (3, .int x3)] [.int y0] h := by
  unfold F_X12_sumOf_31 at HF
  refine ev_istore (lv' := [(4, .int y0), (0, .ref t), (1, .int x1), (2, .int x2), (3, .int x3)]) dX12_sumOf_31 (by decide) (rfl) ?_
  refine ev_bipush (v := 11) dX12_sumOf_33 (by decide) ?_
  refine ev_iload_n 3 dX12_sumOf_35 rfl ?_
  refine ev_imul dX12_sumOf_36 ?_
  replace HF := bd_n HF
  obtain ⟨v1, ev1, HF⟩ := HF
  refine ev_topI ev1 ?_
  refine ev_istore (lv' := [(5, .int v1), (4, .int y0), (0, .ref t), (1, .int x1), (2, .int x2), (3, .int x3)]) dX12_sumOf_37 (by decide) (rfl) ?_
  exact Ev.sub [2, 3, 4, 5, 1, 0] rfl (lk_X12_sumOf_39 hdd  fu t x1 x2 x3 y0 v1 _ HF)

set_option maxRecDepth 20000 in
theorem lk_X12_sumOf {g : aG} {l : Launch} {d : Nat} (hdd : 1 ≤ d) {t : Nat} {x1 : Int32} {x2 : Int32} {x3 : Int32} {h : aH} {r : Int32 × aH} (hT : hK h t = 14) (HF : F_X12_sumOf t x1 x2 x3 h = some r) : MA g l yX12_sumOf cX12_sumOf 6 (some .int) d [.ref t, .int x1, .int x2, .int x3] h (some (.int r.1), r.2) := by
  refine MA.of (lv0 := [(0, .ref t), (1, .int x1), (2, .int x2), (3, .int x3)]) (by decide +kernel) (rfl) (Nat.le_of_ble_eq_true rfl) ?_
  unfold F_X12_sumOf at HF
  refine ev_iload_n 3 dX12_sumOf_0 rfl ?_
  refine ev_bipush (v := 11) dX12_sumOf_1 (by decide) ?_
  by_cases c1 : x3 = 11
  · replace HF := ite_T c1 HF
    refine ev_icmp_neF (tgt := 15) dX12_sumOf_3 (by decide) c1 ?_
    refine ev_aload_n 0 dX12_sumOf_6 rfl ?_
    replace HF := bind_o HF
    obtain ⟨b2, e3, HF⟩ := HF
    refine ev_gS (f := 1339) cl_X12 (k := 39) (by decide) fi_X12_39 rfl fl_X12_84 dX12_sumOf_7 hT e3 ?_
    refine ev_iload_n 2 dX12_sumOf_10 rfl ?_
    replace HF := bind_ck HF
    obtain ⟨c4, HF⟩ := HF
    refine ev_iald dX12_sumOf_11 c4.1 c4.2 ?_
    refine ev_goto (tgt := 31) dX12_sumOf_12 (by decide) ?_
    exact Ev.sub [0, 1, 2, 3] rfl (lk_X12_sumOf_31 hdd  t x1 x2 x3 (hI h b2 x2.toNatClampNeg) _ HF)
  · replace HF := ite_F c1 HF
    refine ev_icmp_neT (tgt := 15) dX12_sumOf_3 (by decide) c1 ?_
    refine ev_iload_n 3 dX12_sumOf_15 rfl ?_
    refine ev_bipush (v := 12) dX12_sumOf_16 (by decide) ?_
    by_cases c5 : x3 = 12
    · replace HF := ite_T c5 HF
      refine ev_icmp_neF (tgt := 30) dX12_sumOf_18 (by decide) c5 ?_
      refine ev_aload_n 0 dX12_sumOf_21 rfl ?_
      replace HF := bind_o HF
      obtain ⟨b6, e7, HF⟩ := HF
      refine ev_gS (f := 1348) cl_X12 (k := 48) (by decide) fi_X12_48 rfl fl_X12_111 dX12_sumOf_22 hT e7 ?_
      refine ev_iload_n 2 dX12_sumOf_25 rfl ?_
      replace HF := bind_ck HF
      obtain ⟨c8, HF⟩ := HF
      refine ev_iald dX12_sumOf_26 c8.1 c8.2 ?_
      refine ev_goto (tgt := 31) dX12_sumOf_27 (by decide) ?_
      exact Ev.sub [0, 1, 2, 3] rfl (lk_X12_sumOf_31 hdd  t x1 x2 x3 (hI h b6 x2.toNatClampNeg) _ HF)
    · replace HF := ite_F c5 HF
      refine ev_icmp_neT (tgt := 30) dX12_sumOf_18 (by decide) c5 ?_
      refine ev_iconst (v := 0) dX12_sumOf_30 (by decide) ?_
      exact Ev.sub [0, 1, 2, 3] rfl (lk_X12_sumOf_31 hdd  t x1 x2 x3 0 _ HF)

set_option maxRecDepth 20000 in
theorem lk_X12_scoreOf {g : aG} {l : Launch} {d : Nat} (hdd : 2 ≤ d) {t : Nat} {x1 : Int32} {x2 : Int32} {x3 : Int32} {h : aH} {r : Int32 × aH} (hT : hK h t = 14) (HF : F_X12_scoreOf t x1 x2 x3 h = some r) : MA g l yX12_scoreOf cX12_scoreOf 4 (some .int) d [.ref t, .int x1, .int x2, .int x3] h (some (.int r.1), r.2) := by
  refine MA.of (lv0 := [(0, .ref t), (1, .int x1), (2, .int x2), (3, .int x3)]) (by decide +kernel) (rfl) (Nat.le_of_ble_eq_true rfl) ?_
  unfold F_X12_scoreOf at HF
  refine ev_iload_n 3 dX12_scoreOf_0 rfl ?_
  by_cases c1 : x3 = 0
  · replace HF := ite_T c1 HF
    refine ev_swT (kk := 0) (tgt := 76) dX12_scoreOf_1 c1 (by decide +kernel) (by decide +kernel) ?_
    refine ev_aload_n 0 dX12_scoreOf_76 rfl ?_
    replace HF := bind_o HF
    obtain ⟨b2, e3, HF⟩ := HF
    refine ev_gS (f := 1335) cl_X12 (k := 35) (by decide) fi_X12_35 rfl fl_X12_72 dX12_scoreOf_77 hT e3 ?_
    refine ev_iload_n 2 dX12_scoreOf_80 rfl ?_
    replace HF := bind_ck HF
    obtain ⟨c4, HF⟩ := HF
    refine ev_iald dX12_scoreOf_81 c4.1 c4.2 ?_
    obtain rfl := Option.some.inj HF
    exact ev_iret dX12_scoreOf_82
  replace HF := ite_F c1 HF
  by_cases c5 : x3 = 1
  · replace HF := ite_T c5 HF
    refine ev_swT (kk := 1) (tgt := 83) dX12_scoreOf_1 c5 (by decide +kernel) (by decide +kernel) ?_
    refine ev_aload_n 0 dX12_scoreOf_83 rfl ?_
    replace HF := bind_o HF
    obtain ⟨b6, e7, HF⟩ := HF
    refine ev_gS (f := 1336) cl_X12 (k := 36) (by decide) fi_X12_36 rfl fl_X12_75 dX12_scoreOf_84 hT e7 ?_
    refine ev_iload_n 2 dX12_scoreOf_87 rfl ?_
    replace HF := bind_ck HF
    obtain ⟨c8, HF⟩ := HF
    refine ev_iald dX12_scoreOf_88 c8.1 c8.2 ?_
    obtain rfl := Option.some.inj HF
    exact ev_iret dX12_scoreOf_89
  replace HF := ite_F c5 HF
  by_cases c9 : x3 = 2
  · replace HF := ite_T c9 HF
    refine ev_swT (kk := 2) (tgt := 90) dX12_scoreOf_1 c9 (by decide +kernel) (by decide +kernel) ?_
    refine ev_aload_n 0 dX12_scoreOf_90 rfl ?_
    replace HF := bind_o HF
    obtain ⟨b10, e11, HF⟩ := HF
    refine ev_gS (f := 1337) cl_X12 (k := 37) (by decide) fi_X12_37 rfl fl_X12_78 dX12_scoreOf_91 hT e11 ?_
    refine ev_iload_n 2 dX12_scoreOf_94 rfl ?_
    replace HF := bind_ck HF
    obtain ⟨c12, HF⟩ := HF
    refine ev_iald dX12_scoreOf_95 c12.1 c12.2 ?_
    obtain rfl := Option.some.inj HF
    exact ev_iret dX12_scoreOf_96
  replace HF := ite_F c9 HF
  by_cases c13 : x3 = 3
  · replace HF := ite_T c13 HF
    refine ev_swT (kk := 3) (tgt := 97) dX12_scoreOf_1 c13 (by decide +kernel) (by decide +kernel) ?_
    refine ev_aload_n 0 dX12_scoreOf_97 rfl ?_
    replace HF := bind_o HF
    obtain ⟨b14, e15, HF⟩ := HF
    refine ev_gS (f := 1338) cl_X12 (k := 38) (by decide) fi_X12_38 rfl fl_X12_81 dX12_scoreOf_98 hT e15 ?_
    refine ev_iload_n 2 dX12_scoreOf_101 rfl ?_
    replace HF := bind_ck HF
    obtain ⟨c16, HF⟩ := HF
    refine ev_iald dX12_scoreOf_102 c16.1 c16.2 ?_
    obtain rfl := Option.some.inj HF
    exact ev_iret dX12_scoreOf_103
  replace HF := ite_F c13 HF
  by_cases c17 : x3 = 4
  · replace HF := ite_T c17 HF
    refine ev_swT (kk := 4) (tgt := 104) dX12_scoreOf_1 c17 (by decide +kernel) (by decide +kernel) ?_
    refine ev_aload_n 0 dX12_scoreOf_104 rfl ?_
    replace HF := bind_o HF
    obtain ⟨b18, e19, HF⟩ := HF
    refine ev_gS (f := 1339) cl_X12 (k := 39) (by decide) fi_X12_39 rfl fl_X12_84 dX12_scoreOf_105 hT e19 ?_
    refine ev_iload_n 2 dX12_scoreOf_108 rfl ?_
    replace HF := bind_ck HF
    obtain ⟨c20, HF⟩ := HF
    refine ev_iald dX12_scoreOf_109 c20.1 c20.2 ?_
    obtain rfl := Option.some.inj HF
    exact ev_iret dX12_scoreOf_110
  replace HF := ite_F c17 HF
  by_cases c21 : x3 = 5
  · replace HF := ite_T c21 HF
    refine ev_swT (kk := 5) (tgt := 111) dX12_scoreOf_1 c21 (by decide +kernel) (by decide +kernel) ?_
    refine ev_aload_n 0 dX12_scoreOf_111 rfl ?_
    replace HF := bind_o HF
    obtain ⟨b22, e23, HF⟩ := HF
    refine ev_gS (f := 1340) cl_X12 (k := 40) (by decide) fi_X12_40 rfl fl_X12_87 dX12_scoreOf_112 hT e23 ?_
    refine ev_iload_n 2 dX12_scoreOf_115 rfl ?_
    replace HF := bind_ck HF
    obtain ⟨c24, HF⟩ := HF
    refine ev_iald dX12_scoreOf_116 c24.1 c24.2 ?_
    obtain rfl := Option.some.inj HF
    exact ev_iret dX12_scoreOf_117
  replace HF := ite_F c21 HF
  by_cases c25 : x3 = 6
  · replace HF := ite_T c25 HF
    refine ev_swT (kk := 6) (tgt := 118) dX12_scoreOf_1 c25 (by decide +kernel) (by decide +kernel) ?_
    refine ev_aload_n 0 dX12_scoreOf_118 rfl ?_
    replace HF := bind_o HF
    obtain ⟨b26, e27, HF⟩ := HF
    refine ev_gS (f := 1341) cl_X12 (k := 41) (by decide) fi_X12_41 rfl fl_X12_90 dX12_scoreOf_119 hT e27 ?_
    refine ev_iload_n 2 dX12_scoreOf_122 rfl ?_
    replace HF := bind_ck HF
    obtain ⟨c28, HF⟩ := HF
    refine ev_iald dX12_scoreOf_123 c28.1 c28.2 ?_
    obtain rfl := Option.some.inj HF
    exact ev_iret dX12_scoreOf_124
  replace HF := ite_F c25 HF
  by_cases c29 : x3 = 7
  · replace HF := ite_T c29 HF
    refine ev_swT (kk := 7) (tgt := 125) dX12_scoreOf_1 c29 (by decide +kernel) (by decide +kernel) ?_
    refine ev_aload_n 0 dX12_scoreOf_125 rfl ?_
    replace HF := bind_o HF
    obtain ⟨b30, e31, HF⟩ := HF
    refine ev_gS (f := 1342) cl_X12 (k := 42) (by decide) fi_X12_42 rfl fl_X12_93 dX12_scoreOf_126 hT e31 ?_
    refine ev_iload_n 2 dX12_scoreOf_129 rfl ?_
    replace HF := bind_ck HF
    obtain ⟨c32, HF⟩ := HF
    refine ev_iald dX12_scoreOf_130 c32.1 c32.2 ?_
    obtain rfl := Option.some.inj HF
    exact ev_iret dX12_scoreOf_131
  replace HF := ite_F c29 HF
  by_cases c33 : x3 = 8
  · replace HF := ite_T c33 HF
    refine ev_swT (kk := 8) (tgt := 132) dX12_scoreOf_1 c33 (by decide +kernel) (by decide +kernel) ?_
    refine ev_aload_n 0 dX12_scoreOf_132 rfl ?_
    replace HF := bind_o HF
    obtain ⟨b34, e35, HF⟩ := HF
    refine ev_gS (f := 1343) cl_X12 (k := 43) (by decide) fi_X12_43 rfl fl_X12_96 dX12_scoreOf_133 hT e35 ?_
    refine ev_iload_n 2 dX12_scoreOf_136 rfl ?_
    replace HF := bind_ck HF
    obtain ⟨c36, HF⟩ := HF
    refine ev_iald dX12_scoreOf_137 c36.1 c36.2 ?_
    obtain rfl := Option.some.inj HF
    exact ev_iret dX12_scoreOf_138
  replace HF := ite_F c33 HF
  by_cases c37 : x3 = 9
  · replace HF := ite_T c37 HF
    refine ev_swT (kk := 9) (tgt := 139) dX12_scoreOf_1 c37 (by decide +kernel) (by decide +kernel) ?_
    refine ev_aload_n 0 dX12_scoreOf_139 rfl ?_
    replace HF := bind_o HF
    obtain ⟨b38, e39, HF⟩ := HF
    refine ev_gS (f := 1352) cl_X12 (k := 52) (by decide) fi_X12_52 rfl fl_X12_123 dX12_scoreOf_140 hT e39 ?_
    refine ev_iload_n 2 dX12_scoreOf_143 rfl ?_
    replace HF := bind_ck HF
    obtain ⟨c40, HF⟩ := HF
    refine ev_bald dX12_scoreOf_144 c40.1 c40.2 ?_
    by_cases c41 : hI h b38 x2.toNatClampNeg = 0
    · replace HF := ite_T c41 HF
      refine ev_if_eqT (tgt := 152) dX12_scoreOf_145 (by decide) c41 ?_
      refine ev_iconst (v := 0) dX12_scoreOf_152 (by decide) ?_
      obtain rfl := Option.some.inj HF
      exact ev_iret dX12_scoreOf_153
    · replace HF := ite_F c41 HF
      refine ev_if_eqF (tgt := 152) dX12_scoreOf_145 (by decide) c41 ?_
      refine ev_iconst (v := 1) dX12_scoreOf_148 (by decide) ?_
      refine ev_goto (tgt := 153) dX12_scoreOf_149 (by decide) ?_
      obtain rfl := Option.some.inj HF
      exact ev_iret dX12_scoreOf_153
  replace HF := ite_F c37 HF
  by_cases c42 : x3 = 10
  · replace HF := ite_T c42 HF
    refine ev_swT (kk := 10) (tgt := 154) dX12_scoreOf_1 c42 (by decide +kernel) (by decide +kernel) ?_
    refine ev_aload_n 0 dX12_scoreOf_154 rfl ?_
    replace HF := bind_o HF
    obtain ⟨b43, e44, HF⟩ := HF
    refine ev_gS (f := 1309) cl_X12 (k := 9) (by decide) fi_X12_9 rfl fl_X12_28 dX12_scoreOf_155 hT e44 ?_
    refine ev_iconst (v := 4) dX12_scoreOf_158 (by decide) ?_
    refine ev_iload_n 1 dX12_scoreOf_159 rfl ?_
    refine ev_imul dX12_scoreOf_160 ?_
    refine ev_iload_n 2 dX12_scoreOf_161 rfl ?_
    refine ev_iadd dX12_scoreOf_162 ?_
    show EvG _ _ _ _ _ _ _ _ _ _ _ 163 _ _ _
    replace HF := bind_ck HF
    obtain ⟨c45, HF⟩ := HF
    refine ev_iald dX12_scoreOf_163 c45.1 c45.2 ?_
    obtain rfl := Option.some.inj HF
    exact ev_iret dX12_scoreOf_164
  replace HF := ite_F c42 HF
  by_cases c46 : x3 = 11
  · replace HF := ite_T c46 HF
    refine ev_swT (kk := 11) (tgt := 165) dX12_scoreOf_1 c46 (by decide +kernel) (by decide +kernel) ?_
    refine ev_aload_n 0 dX12_scoreOf_165 rfl ?_
    refine ev_iload_n 1 dX12_scoreOf_166 rfl ?_
    refine ev_iload_n 2 dX12_scoreOf_167 rfl ?_
    refine ev_iload_n 3 dX12_scoreOf_168 rfl ?_
    replace HF := bind_o HF
    obtain ⟨⟨z49, h48⟩, e47, HF⟩ := HF
    replace HF := bd_o (bd_o HF)
    dsimp only at HF
    refine ev_callV (As := [.int x1, .int x2, .int x3]) (R1 := (some (.int z49), h48)) (lk_X12_sumOf (d := 1) (Nat.le_refl _) hT e47) ce_X12_sumOf im_X12_sumOf sl_X12_sumOf ml_X12_339 cl_X12 hT dX12_scoreOf_169 (by omega) (Nat.le_of_ble_eq_true rfl) rfl rfl ?_
    show EvG _ _ _ _ _ _ _ _ _ _ _ 172 [(0, .ref t), (1, .int x1), (2, .int x2), (3, .int x3)] [.int z49] h48
    obtain rfl := Option.some.inj HF
    exact ev_iret dX12_scoreOf_172
  replace HF := ite_F c46 HF
  by_cases c51 : x3 = 12
  · replace HF := ite_T c51 HF
    refine ev_swT (kk := 12) (tgt := 165) dX12_scoreOf_1 c51 (by decide +kernel) (by decide +kernel) ?_
    refine ev_aload_n 0 dX12_scoreOf_165 rfl ?_
    refine ev_iload_n 1 dX12_scoreOf_166 rfl ?_
    refine ev_iload_n 2 dX12_scoreOf_167 rfl ?_
    refine ev_iload_n 3 dX12_scoreOf_168 rfl ?_
    replace HF := bind_o HF
    obtain ⟨⟨z54, h53⟩, e52, HF⟩ := HF
    replace HF := bd_o (bd_o HF)
    dsimp only at HF
    refine ev_callV (As := [.int x1, .int x2, .int x3]) (R1 := (some (.int z54), h53)) (lk_X12_sumOf (d := 1) (Nat.le_refl _) hT e52) ce_X12_sumOf im_X12_sumOf sl_X12_sumOf ml_X12_339 cl_X12 hT dX12_scoreOf_169 (by omega) (Nat.le_of_ble_eq_true rfl) rfl rfl ?_
    show EvG _ _ _ _ _ _ _ _ _ _ _ 172 [(0, .ref t), (1, .int x1), (2, .int x2), (3, .int x3)] [.int z54] h53
    obtain rfl := Option.some.inj HF
    exact ev_iret dX12_scoreOf_172
  replace HF := ite_F c51 HF
  by_cases c56 : x3 = 13
  · replace HF := ite_T c56 HF
    refine ev_swT (kk := 13) (tgt := 165) dX12_scoreOf_1 c56 (by decide +kernel) (by decide +kernel) ?_
    refine ev_aload_n 0 dX12_scoreOf_165 rfl ?_
    refine ev_iload_n 1 dX12_scoreOf_166 rfl ?_
    refine ev_iload_n 2 dX12_scoreOf_167 rfl ?_
    refine ev_iload_n 3 dX12_scoreOf_168 rfl ?_
    replace HF := bind_o HF
    obtain ⟨⟨z59, h58⟩, e57, HF⟩ := HF
    replace HF := bd_o (bd_o HF)
    dsimp only at HF
    refine ev_callV (As := [.int x1, .int x2, .int x3]) (R1 := (some (.int z59), h58)) (lk_X12_sumOf (d := 1) (Nat.le_refl _) hT e57) ce_X12_sumOf im_X12_sumOf sl_X12_sumOf ml_X12_339 cl_X12 hT dX12_scoreOf_169 (by omega) (Nat.le_of_ble_eq_true rfl) rfl rfl ?_
    show EvG _ _ _ _ _ _ _ _ _ _ _ 172 [(0, .ref t), (1, .int x1), (2, .int x2), (3, .int x3)] [.int z59] h58
    obtain rfl := Option.some.inj HF
    exact ev_iret dX12_scoreOf_172
  replace HF := ite_F c56 HF
  by_cases c61 : x3 = 14
  · replace HF := ite_T c61 HF
    refine ev_swT (kk := 14) (tgt := 173) dX12_scoreOf_1 c61 (by decide +kernel) (by decide +kernel) ?_
    refine ev_aload_n 0 dX12_scoreOf_173 rfl ?_
    replace HF := bind_o HF
    obtain ⟨b62, e63, HF⟩ := HF
    refine ev_gS (f := 1349) cl_X12 (k := 49) (by decide) fi_X12_49 rfl fl_X12_114 dX12_scoreOf_174 hT e63 ?_
    refine ev_iload_n 2 dX12_scoreOf_177 rfl ?_
    replace HF := bind_ck HF
    obtain ⟨c64, HF⟩ := HF
    refine ev_iald dX12_scoreOf_178 c64.1 c64.2 ?_
    obtain rfl := Option.some.inj HF
    exact ev_iret dX12_scoreOf_179
  replace HF := ite_F c61 HF
  refine ev_swTd (ks := [0, 1, 2, 3, 4, 5, 6, 7, 8, 9, 10, 11, 12, 13, 14]) (tgt := 180) dX12_scoreOf_1 (by simp only [List.mem_cons, List.not_mem_nil, or_false, forall_eq_or_imp, forall_eq]; exact ⟨c1, c5, c9, c13, c17, c21, c25, c29, c33, c37, c42, c46, c51, c56, c61⟩) (by decide +kernel) (by decide) ?_
  refine ev_aload_n 0 dX12_scoreOf_180 rfl ?_
  replace HF := bind_o HF
  obtain ⟨b65, e66, HF⟩ := HF
  refine ev_gS (f := 1350) cl_X12 (k := 50) (by decide) fi_X12_50 rfl fl_X12_117 dX12_scoreOf_181 hT e66 ?_
  refine ev_iload_n 2 dX12_scoreOf_184 rfl ?_
  replace HF := bind_ck HF
  obtain ⟨c67, HF⟩ := HF
  refine ev_iald dX12_scoreOf_185 c67.1 c67.2 ?_
  obtain rfl := Option.some.inj HF
  exact ev_iret dX12_scoreOf_186

set_option maxRecDepth 20000 in
theorem lk_X12_isTurn {g : aG} {l : Launch} {d : Nat} (hdd : 1 ≤ d) {t : Nat} {x1 : Int32} {x2 : Int32} {h : aH} {r : Int32 × aH} (hT : hK h t = 14) (HF : F_X12_isTurn t x1 x2 h = some r) : MA g l yX12_isTurn cX12_isTurn 3 (some .boolean) d [.ref t, .int x1, .int x2] h (some (.int r.1), r.2) := by
  refine MA.of (lv0 := [(0, .ref t), (1, .int x1), (2, .int x2)]) (by decide +kernel) (rfl) (Nat.le_of_ble_eq_true rfl) ?_
  unfold F_X12_isTurn at HF
  refine ev_aload_n 0 dX12_isTurn_0 rfl ?_
  refine ev_iload_n 1 dX12_isTurn_1 rfl ?_
  replace HF := bind_o HF
  obtain ⟨⟨z3, h2⟩, e1, HF⟩ := HF
  replace HF := bd_o (bd_o HF)
  dsimp only at HF
  refine ev_callV (As := [.int x1]) (R1 := (some (.int z3), h2)) (lk_X12_isGame (d := 0) (Nat.le_refl _) hT e1) ce_X12_isGame im_X12_isGame sl_X12_isGame ml_X12_193 cl_X12 hT dX12_isTurn_2 (by omega) (Nat.le_of_ble_eq_true rfl) rfl rfl ?_
  show EvG _ _ _ _ _ _ _ _ _ _ _ 5 [(0, .ref t), (1, .int x1), (2, .int x2)] [.int z3] h2
  by_cases c5 : z3 = 0
  · replace HF := ite_T c5 HF
    refine ev_if_eqT (tgt := 26) dX12_isTurn_5 (by decide) c5 ?_
    refine ev_iconst (v := 0) dX12_isTurn_26 (by decide) ?_
    obtain rfl := Option.some.inj HF
    exact ev_zret (v := 0) narrow_b0 dX12_isTurn_27
  · replace HF := ite_F c5 HF
    refine ev_if_eqF (tgt := 26) dX12_isTurn_5 (by decide) c5 ?_
    refine ev_iload_n 2 dX12_isTurn_8 rfl ?_
    by_cases c6 : x2 < 0
    · replace HF := ite_T c6 HF
      refine ev_if_ltT (tgt := 26) dX12_isTurn_9 (by decide) c6 ?_
      refine ev_iconst (v := 0) dX12_isTurn_26 (by decide) ?_
      obtain rfl := Option.some.inj HF
      exact ev_zret (v := 0) narrow_b0 dX12_isTurn_27
    · replace HF := ite_F c6 HF
      refine ev_if_ltF (tgt := 26) dX12_isTurn_9 (by decide) c6 ?_
      refine ev_iload_n 2 dX12_isTurn_12 rfl ?_
      refine ev_aload_n 0 dX12_isTurn_13 rfl ?_
      replace HF := bind_ck HF
      obtain ⟨c7, HF⟩ := HF
      replace HF := bind_o HF
      obtain ⟨b8, e9, HF⟩ := HF
      refine ev_gS (f := 1308) cl_X12 (k := 8) (by decide) fi_X12_8 rfl fl_X12_25 dX12_isTurn_14 c7 e9 ?_
      refine ev_iload_n 1 dX12_isTurn_17 rfl ?_
      replace HF := bind_ck HF
      obtain ⟨c10, HF⟩ := HF
      refine ev_iald dX12_isTurn_18 c10.1 c10.2 ?_
      by_cases c11 : hI h2 b8 x1.toNatClampNeg ≤ x2
      · replace HF := ite_T c11 HF
        refine ev_icmp_geT (tgt := 26) dX12_isTurn_19 (by decide) c11 ?_
        refine ev_iconst (v := 0) dX12_isTurn_26 (by decide) ?_
        obtain rfl := Option.some.inj HF
        exact ev_zret (v := 0) narrow_b0 dX12_isTurn_27
      · replace HF := ite_F c11 HF
        refine ev_icmp_geF (tgt := 26) dX12_isTurn_19 (by decide) c11 ?_
        refine ev_iconst (v := 1) dX12_isTurn_22 (by decide) ?_
        refine ev_goto (tgt := 27) dX12_isTurn_23 (by decide) ?_
        obtain rfl := Option.some.inj HF
        exact ev_zret (v := 1) narrow_b1 dX12_isTurn_27

set_option maxRecDepth 20000 in
theorem lk_X12_score_24 {g : aG} {l : Launch} {d : Nat} {h0 : aH} (hdd : 6 ≤ d) {r : Int32 × aH} (t : Nat) (h : aH) (HF : F_X12_score_24  t h = some r) : Ev g l cX12_score 4 yX12_score (some .int) d h0 (some (.int r.1), r.2) 24 [(0, .ref t)] [] h := by
  unfold F_X12_score_24 at HF
  refine ev_aload_n 0 dX12_score_24 rfl ?_
  replace HF := bind_ck HF
  obtain ⟨c1, HF⟩ := HF
  replace HF := bind_o HF
  obtain ⟨⟨z4, h3⟩, e2, HF⟩ := HF
  replace HF := bd_o (bd_o HF)
  dsimp only at HF
  refine ev_callV (As := []) (R1 := (some (.int z4), h3)) (lk_X12_fail (d := 0) (Nat.le_refl _) c1 e2) ce_X12_fail im_X12_fail sl_X12_fail ml_X12_332 cl_X12 c1 dX12_score_25 (by omega) (Nat.le_of_ble_eq_true rfl) rfl rfl ?_
  show EvG _ _ _ _ _ _ _ _ _ _ _ 28 [(0, .ref t)] [.int z4] h3
  obtain rfl := Option.some.inj HF
  exact ev_iret dX12_score_28

set_option maxRecDepth 20000 in
theorem lk_X12_score {g : aG} {l : Launch} {d : Nat} (hdd : 6 ≤ d) {t : Nat} {x1 : Int32} {x2 : Int32} {x3 : Int32} {h : aH} {r : Int32 × aH} (hT : hK h t = 14) (HF : F_X12_score t x1 x2 x3 h = some r) : MA g l yX12_score cX12_score 4 (some .int) d [.ref t, .int x1, .int x2, .int x3] h (some (.int r.1), r.2) := by
  refine MA.of (lv0 := [(0, .ref t), (1, .int x1), (2, .int x2), (3, .int x3)]) (by decide +kernel) (rfl) (Nat.le_of_ble_eq_true rfl) ?_
  unfold F_X12_score at HF
  refine ev_aload_n 0 dX12_score_0 rfl ?_
  refine ev_iconst (v := 0) dX12_score_1 (by decide) ?_
  refine ev_pI (f := 1300) cl_X12 (k := 0) (by decide) fi_X12_0 rfl fl_X12_175 rfl rfl rfl dX12_score_2 hT ?_
  replace HF := bd_n HF
  obtain ⟨h1, eh1, HF⟩ := HF
  refine ev_heap eh1 ?_
  have c2 : hK h1 t = 14 := by rw [eh1]; exact hT
  refine ev_aload_n 0 dX12_score_5 rfl ?_
  refine ev_iload_n 1 dX12_score_6 rfl ?_
  refine ev_iload_n 2 dX12_score_7 rfl ?_
  replace HF := bind_o HF
  obtain ⟨⟨z5, h4⟩, e3, HF⟩ := HF
  replace HF := bd_o (bd_o HF)
  dsimp only at HF
  refine ev_callV (As := [.int x1, .int x2]) (R1 := (some (.int z5), h4)) (lk_X12_isTurn (d := 1) (Nat.le_refl _) c2 e3) ce_X12_isTurn im_X12_isTurn sl_X12_isTurn ml_X12_342 cl_X12 c2 dX12_score_8 (by omega) (Nat.le_of_ble_eq_true rfl) rfl rfl ?_
  show EvG _ _ _ _ _ _ _ _ _ _ _ 11 [(0, .ref t), (1, .int x1), (2, .int x2), (3, .int x3)] [.int z5] h4
  show EvG _ _ _ _ _ _ _ _ _ _ _ 11 _ _ _
  by_cases c7 : z5 = 0
  · replace HF := ite_T c7 HF
    refine ev_if_eqT (tgt := 24) dX12_score_11 (by decide) c7 ?_
    exact Ev.sub [0] rfl (lk_X12_score_24 hdd  t _ HF)
  · replace HF := ite_F c7 HF
    refine ev_if_eqF (tgt := 24) dX12_score_11 (by decide) c7 ?_
    refine ev_iload_n 3 dX12_score_14 rfl ?_
    by_cases c8 : x3 < 0
    · replace HF := ite_T c8 HF
      refine ev_if_ltT (tgt := 24) dX12_score_15 (by decide) c8 ?_
      exact Ev.sub [0] rfl (lk_X12_score_24 hdd  t _ HF)
    · replace HF := ite_F c8 HF
      refine ev_if_ltF (tgt := 24) dX12_score_15 (by decide) c8 ?_
      refine ev_iload_n 3 dX12_score_18 rfl ?_
      refine ev_bipush (v := 15) dX12_score_19 (by decide) ?_
      by_cases c9 : x3 ≤ 15
      · replace HF := ite_T c9 HF
        refine ev_icmp_leT (tgt := 29) dX12_score_21 (by decide) c9 ?_
        refine ev_aload_n 0 dX12_score_29 rfl ?_
        refine ev_iload_n 1 dX12_score_30 rfl ?_
        replace HF := bind_ck HF
        obtain ⟨c10, HF⟩ := HF
        replace HF := bind_o HF
        obtain ⟨h12, e11, HF⟩ := HF
        refine ev_callV (As := [.int x1]) (R1 := (none, h12)) (lk_X12_play (d := 5) (Nat.le_refl _) c10 e11) ce_X12_play im_X12_play sl_X12_play ml_X12_300 cl_X12 c10 dX12_score_31 (by omega) (Nat.le_of_ble_eq_true rfl) rfl rfl ?_
        show EvG _ _ _ _ _ _ _ _ _ _ _ 34 [(0, .ref t), (1, .int x1), (2, .int x2), (3, .int x3)] [] h12
        refine ev_aload_n 0 dX12_score_34 rfl ?_
        refine ev_iload_n 1 dX12_score_35 rfl ?_
        refine ev_iload_n 2 dX12_score_36 rfl ?_
        refine ev_iload_n 3 dX12_score_37 rfl ?_
        show EvG _ _ _ _ _ _ _ _ _ _ _ 38 _ _ _
        replace HF := bind_ck HF
        obtain ⟨c14, HF⟩ := HF
        replace HF := bind_o HF
        obtain ⟨⟨z17, h16⟩, e15, HF⟩ := HF
        replace HF := bd_o (bd_o HF)
        dsimp only at HF
        refine ev_callV (As := [.int x1, .int x2, .int x3]) (R1 := (some (.int z17), h16)) (lk_X12_scoreOf (d := 2) (Nat.le_refl _) c14 e15) ce_X12_scoreOf im_X12_scoreOf sl_X12_scoreOf ml_X12_345 cl_X12 c14 dX12_score_38 (by omega) (Nat.le_of_ble_eq_true rfl) rfl rfl ?_
        show EvG _ _ _ _ _ _ _ _ _ _ _ 41 [(0, .ref t), (1, .int x1), (2, .int x2), (3, .int x3)] [.int z17] h16
        obtain rfl := Option.some.inj HF
        exact ev_iret dX12_score_41
      · replace HF := ite_F c9 HF
        refine ev_icmp_leF (tgt := 29) dX12_score_21 (by decide) c9 ?_
        exact Ev.sub [0] rfl (lk_X12_score_24 hdd  t _ HF)

set_option maxRecDepth 20000 in
theorem lk_X12_overs_32 {g : aG} {l : Launch} {d : Nat} {h0 : aH} (hdd : 6 ≤ d) {r : Int32 × aH} (t : Nat) (h : aH) (HF : F_X12_overs_32  t h = some r) : Ev g l cX12_overs 6 yX12_overs (some .int) d h0 (some (.int r.1), r.2) 32 [(0, .ref t)] [] h := by
  unfold F_X12_overs_32 at HF
  refine ev_aload_n 0 dX12_overs_32 rfl ?_
  replace HF := bind_ck HF
  obtain ⟨c1, HF⟩ := HF
  replace HF := bind_o HF
  obtain ⟨⟨z4, h3⟩, e2, HF⟩ := HF
  replace HF := bd_o (bd_o HF)
  dsimp only at HF
  refine ev_callV (As := []) (R1 := (some (.int z4), h3)) (lk_X12_fail (d := 0) (Nat.le_refl _) c1 e2) ce_X12_fail im_X12_fail sl_X12_fail ml_X12_332 cl_X12 c1 dX12_overs_33 (by omega) (Nat.le_of_ble_eq_true rfl) rfl rfl ?_
  show EvG _ _ _ _ _ _ _ _ _ _ _ 36 [(0, .ref t)] [.int z4] h3
  obtain rfl := Option.some.inj HF
  exact ev_iret dX12_overs_36

set_option maxRecDepth 20000 in
theorem lk_X12_overs {g : aG} {l : Launch} {d : Nat} (hdd : 6 ≤ d) {t : Nat} {x1 : Int32} {x2 : Int32} {x3 : Int32} {x4 : Int32} {h : aH} {r : Int32 × aH} (hT : hK h t = 14) (HF : F_X12_overs t x1 x2 x3 x4 h = some r) : MA g l yX12_overs cX12_overs 6 (some .int) d [.ref t, .int x1, .int x2, .int x3, .int x4] h (some (.int r.1), r.2) := by
  refine MA.of (lv0 := [(0, .ref t), (1, .int x1), (2, .int x2), (3, .int x3), (4, .int x4)]) (by decide +kernel) (rfl) (Nat.le_of_ble_eq_true rfl) ?_
  unfold F_X12_overs at HF
  refine ev_aload_n 0 dX12_overs_0 rfl ?_
  refine ev_iconst (v := 0) dX12_overs_1 (by decide) ?_
  refine ev_pI (f := 1300) cl_X12 (k := 0) (by decide) fi_X12_0 rfl fl_X12_175 rfl rfl rfl dX12_overs_2 hT ?_
  replace HF := bd_n HF
  obtain ⟨h1, eh1, HF⟩ := HF
  refine ev_heap eh1 ?_
  have c2 : hK h1 t = 14 := by rw [eh1]; exact hT
  refine ev_aload_n 0 dX12_overs_5 rfl ?_
  refine ev_iload_n 1 dX12_overs_6 rfl ?_
  refine ev_iload_n 2 dX12_overs_7 rfl ?_
  refine ev_iload_n 3 dX12_overs_8 rfl ?_
  show EvG _ _ _ _ _ _ _ _ _ _ _ 9 _ _ _
  replace HF := bind_o HF
  obtain ⟨⟨z5, h4⟩, e3, HF⟩ := HF
  replace HF := bd_o (bd_o HF)
  dsimp only at HF
  refine ev_callV (As := [.int x1, .int x2, .int x3]) (R1 := (some (.int z5), h4)) (lk_X12_find (d := 1) (Nat.le_refl _) c2 e3) ce_X12_find im_X12_find sl_X12_find ml_X12_312 cl_X12 c2 dX12_overs_9 (by omega) (Nat.le_of_ble_eq_true rfl) rfl rfl ?_
  show EvG _ _ _ _ _ _ _ _ _ _ _ 12 [(0, .ref t), (1, .int x1), (2, .int x2), (3, .int x3), (4, .int x4)] [.int z5] h4
  refine ev_istore (lv' := [(5, .int z5), (0, .ref t), (1, .int x1), (2, .int x2), (3, .int x3), (4, .int x4)]) dX12_overs_12 (by decide) (rfl) ?_
  refine ev_iload 0 dX12_overs_14 rfl ?_
  refine ev_iconst (v := (-1)) dX12_overs_16 (by decide) ?_
  by_cases c7 : z5 = (-1)
  · replace HF := ite_T c7 HF
    refine ev_icmp_eqT (tgt := 32) dX12_overs_17 (by decide) c7 ?_
    exact Ev.sub [1] rfl (lk_X12_overs_32 hdd  t _ HF)
  · replace HF := ite_F c7 HF
    refine ev_icmp_eqF (tgt := 32) dX12_overs_17 (by decide) c7 ?_
    refine ev_iload 5 dX12_overs_20 rfl ?_
    by_cases c8 : x4 < 0
    · replace HF := ite_T c8 HF
      refine ev_if_ltT (tgt := 32) dX12_overs_22 (by decide) c8 ?_
      exact Ev.sub [1] rfl (lk_X12_overs_32 hdd  t _ HF)
    · replace HF := ite_F c8 HF
      refine ev_if_ltF (tgt := 32) dX12_overs_22 (by decide) c8 ?_
      refine ev_iload 5 dX12_overs_25 rfl ?_
      refine ev_bipush (v := 7) dX12_overs_27 (by decide) ?_
      by_cases c9 : x4 ≤ 7
      · replace HF := ite_T c9 HF
        refine ev_icmp_leT (tgt := 37) dX12_overs_29 (by decide) c9 ?_
        refine ev_aload_n 1 dX12_overs_37 rfl ?_
        refine ev_iload_n 2 dX12_overs_38 rfl ?_
        replace HF := bind_ck HF
        obtain ⟨c10, HF⟩ := HF
        replace HF := bind_o HF
        obtain ⟨h12, e11, HF⟩ := HF
        refine ev_callV (As := [.int x1]) (R1 := (none, h12)) (lk_X12_play (d := 5) (Nat.le_refl _) c10 e11) ce_X12_play im_X12_play sl_X12_play ml_X12_300 cl_X12 c10 dX12_overs_39 (by omega) (Nat.le_of_ble_eq_true rfl) rfl rfl ?_
        show EvG _ _ _ _ _ _ _ _ _ _ _ 42 [(5, .int z5), (0, .ref t), (1, .int x1), (2, .int x2), (3, .int x3), (4, .int x4)] [] h12
        refine ev_iload 5 dX12_overs_42 rfl ?_
        by_cases c14 : x4 = 0
        · replace HF := ite_T c14 HF
          refine ev_swT (kk := 0) (tgt := 88) dX12_overs_44 c14 (by decide +kernel) (by decide +kernel) ?_
          refine ev_aload_n 1 dX12_overs_88 rfl ?_
          replace HF := bind_ck HF
          obtain ⟨c15, HF⟩ := HF
          replace HF := bind_o HF
          obtain ⟨b16, e17, HF⟩ := HF
          refine ev_gS (f := 1312) cl_X12 (k := 12) (by decide) fi_X12_12 rfl fl_X12_35 dX12_overs_89 c15 e17 ?_
          refine ev_iload 0 dX12_overs_92 rfl ?_
          replace HF := bind_ck HF
          obtain ⟨c18, HF⟩ := HF
          refine ev_iald dX12_overs_94 c18.1 c18.2 ?_
          obtain rfl := Option.some.inj HF
          exact ev_iret dX12_overs_95
        replace HF := ite_F c14 HF
        by_cases c19 : x4 = 1
        · replace HF := ite_T c19 HF
          refine ev_swT (kk := 1) (tgt := 96) dX12_overs_44 c19 (by decide +kernel) (by decide +kernel) ?_
          refine ev_aload_n 1 dX12_overs_96 rfl ?_
          replace HF := bind_ck HF
          obtain ⟨c20, HF⟩ := HF
          replace HF := bind_o HF
          obtain ⟨b21, e22, HF⟩ := HF
          refine ev_gS (f := 1313) cl_X12 (k := 13) (by decide) fi_X12_13 rfl fl_X12_38 dX12_overs_97 c20 e22 ?_
          refine ev_iload 0 dX12_overs_100 rfl ?_
          replace HF := bind_ck HF
          obtain ⟨c23, HF⟩ := HF
          refine ev_iald dX12_overs_102 c23.1 c23.2 ?_
          obtain rfl := Option.some.inj HF
          exact ev_iret dX12_overs_103
        replace HF := ite_F c19 HF
        by_cases c24 : x4 = 2
        · replace HF := ite_T c24 HF
          refine ev_swT (kk := 2) (tgt := 104) dX12_overs_44 c24 (by decide +kernel) (by decide +kernel) ?_
          refine ev_aload_n 1 dX12_overs_104 rfl ?_
          replace HF := bind_ck HF
          obtain ⟨c25, HF⟩ := HF
          replace HF := bind_o HF
          obtain ⟨b26, e27, HF⟩ := HF
          refine ev_gS (f := 1359) cl_X12 (k := 59) (by decide) fi_X12_59 rfl fl_X12_145 dX12_overs_105 c25 e27 ?_
          refine ev_iload 0 dX12_overs_108 rfl ?_
          replace HF := bind_ck HF
          obtain ⟨c28, HF⟩ := HF
          refine ev_iald dX12_overs_110 c28.1 c28.2 ?_
          obtain rfl := Option.some.inj HF
          exact ev_iret dX12_overs_111
        replace HF := ite_F c24 HF
        by_cases c29 : x4 = 3
        · replace HF := ite_T c29 HF
          refine ev_swT (kk := 3) (tgt := 112) dX12_overs_44 c29 (by decide +kernel) (by decide +kernel) ?_
          refine ev_aload_n 1 dX12_overs_112 rfl ?_
          replace HF := bind_ck HF
          obtain ⟨c30, HF⟩ := HF
          replace HF := bind_o HF
          obtain ⟨b31, e32, HF⟩ := HF
          refine ev_gS (f := 1360) cl_X12 (k := 60) (by decide) fi_X12_60 rfl fl_X12_148 dX12_overs_113 c30 e32 ?_
          refine ev_iload 0 dX12_overs_116 rfl ?_
          replace HF := bind_ck HF
          obtain ⟨c33, HF⟩ := HF
          refine ev_iald dX12_overs_118 c33.1 c33.2 ?_
          obtain rfl := Option.some.inj HF
          exact ev_iret dX12_overs_119
        replace HF := ite_F c29 HF
        by_cases c34 : x4 = 4
        · replace HF := ite_T c34 HF
          refine ev_swT (kk := 4) (tgt := 120) dX12_overs_44 c34 (by decide +kernel) (by decide +kernel) ?_
          refine ev_aload_n 1 dX12_overs_120 rfl ?_
          replace HF := bind_ck HF
          obtain ⟨c35, HF⟩ := HF
          replace HF := bind_o HF
          obtain ⟨b36, e37, HF⟩ := HF
          refine ev_gS (f := 1361) cl_X12 (k := 61) (by decide) fi_X12_61 rfl fl_X12_151 dX12_overs_121 c35 e37 ?_
          refine ev_iload 0 dX12_overs_124 rfl ?_
          replace HF := bind_ck HF
          obtain ⟨c38, HF⟩ := HF
          refine ev_iald dX12_overs_126 c38.1 c38.2 ?_
          obtain rfl := Option.some.inj HF
          exact ev_iret dX12_overs_127
        replace HF := ite_F c34 HF
        by_cases c39 : x4 = 5
        · replace HF := ite_T c39 HF
          refine ev_swT (kk := 5) (tgt := 128) dX12_overs_44 c39 (by decide +kernel) (by decide +kernel) ?_
          refine ev_aload_n 1 dX12_overs_128 rfl ?_
          replace HF := bind_ck HF
          obtain ⟨c40, HF⟩ := HF
          replace HF := bind_o HF
          obtain ⟨b41, e42, HF⟩ := HF
          refine ev_gS (f := 1362) cl_X12 (k := 62) (by decide) fi_X12_62 rfl fl_X12_154 dX12_overs_129 c40 e42 ?_
          refine ev_iload 0 dX12_overs_132 rfl ?_
          replace HF := bind_ck HF
          obtain ⟨c43, HF⟩ := HF
          refine ev_bald dX12_overs_134 c43.1 c43.2 ?_
          by_cases c44 : hI h12 b41 z5.toNatClampNeg = 0
          · replace HF := ite_T c44 HF
            refine ev_if_eqT (tgt := 142) dX12_overs_135 (by decide) c44 ?_
            refine ev_iconst (v := 0) dX12_overs_142 (by decide) ?_
            obtain rfl := Option.some.inj HF
            exact ev_iret dX12_overs_143
          · replace HF := ite_F c44 HF
            refine ev_if_eqF (tgt := 142) dX12_overs_135 (by decide) c44 ?_
            refine ev_iconst (v := 1) dX12_overs_138 (by decide) ?_
            refine ev_goto (tgt := 143) dX12_overs_139 (by decide) ?_
            obtain rfl := Option.some.inj HF
            exact ev_iret dX12_overs_143
        replace HF := ite_F c39 HF
        by_cases c45 : x4 = 6
        · replace HF := ite_T c45 HF
          refine ev_swT (kk := 6) (tgt := 144) dX12_overs_44 c45 (by decide +kernel) (by decide +kernel) ?_
          refine ev_aload_n 1 dX12_overs_144 rfl ?_
          replace HF := bind_ck HF
          obtain ⟨c46, HF⟩ := HF
          replace HF := bind_o HF
          obtain ⟨b47, e48, HF⟩ := HF
          refine ev_gS (f := 1363) cl_X12 (k := 63) (by decide) fi_X12_63 rfl fl_X12_157 dX12_overs_145 c46 e48 ?_
          refine ev_iload 0 dX12_overs_148 rfl ?_
          replace HF := bind_ck HF
          obtain ⟨c49, HF⟩ := HF
          refine ev_bald dX12_overs_150 c49.1 c49.2 ?_
          by_cases c50 : hI h12 b47 z5.toNatClampNeg = 0
          · replace HF := ite_T c50 HF
            refine ev_if_eqT (tgt := 158) dX12_overs_151 (by decide) c50 ?_
            refine ev_iconst (v := 0) dX12_overs_158 (by decide) ?_
            obtain rfl := Option.some.inj HF
            exact ev_iret dX12_overs_159
          · replace HF := ite_F c50 HF
            refine ev_if_eqF (tgt := 158) dX12_overs_151 (by decide) c50 ?_
            refine ev_iconst (v := 1) dX12_overs_154 (by decide) ?_
            refine ev_goto (tgt := 159) dX12_overs_155 (by decide) ?_
            obtain rfl := Option.some.inj HF
            exact ev_iret dX12_overs_159
        replace HF := ite_F c45 HF
        refine ev_swTd (ks := [0, 1, 2, 3, 4, 5, 6]) (tgt := 160) dX12_overs_44 (by simp only [List.mem_cons, List.not_mem_nil, or_false, forall_eq_or_imp, forall_eq]; exact ⟨c14, c19, c24, c29, c34, c39, c45⟩) (by decide +kernel) (by decide) ?_
        refine ev_aload_n 1 dX12_overs_160 rfl ?_
        replace HF := bind_ck HF
        obtain ⟨c51, HF⟩ := HF
        replace HF := bind_o HF
        obtain ⟨b52, e53, HF⟩ := HF
        refine ev_gS (f := 1364) cl_X12 (k := 64) (by decide) fi_X12_64 rfl fl_X12_160 dX12_overs_161 c51 e53 ?_
        show EvG _ _ _ _ _ _ _ _ _ _ _ 164 _ _ _
        refine ev_iload 0 dX12_overs_164 rfl ?_
        replace HF := bind_ck HF
        obtain ⟨c54, HF⟩ := HF
        refine ev_bald dX12_overs_166 c54.1 c54.2 ?_
        by_cases c55 : hI h12 b52 z5.toNatClampNeg = 0
        · replace HF := ite_T c55 HF
          refine ev_if_eqT (tgt := 174) dX12_overs_167 (by decide) c55 ?_
          refine ev_iconst (v := 0) dX12_overs_174 (by decide) ?_
          obtain rfl := Option.some.inj HF
          exact ev_iret dX12_overs_175
        · replace HF := ite_F c55 HF
          refine ev_if_eqF (tgt := 174) dX12_overs_167 (by decide) c55 ?_
          refine ev_iconst (v := 1) dX12_overs_170 (by decide) ?_
          refine ev_goto (tgt := 175) dX12_overs_171 (by decide) ?_
          obtain rfl := Option.some.inj HF
          exact ev_iret dX12_overs_175
      · replace HF := ite_F c9 HF
        refine ev_icmp_leF (tgt := 37) dX12_overs_29 (by decide) c9 ?_
        exact Ev.sub [1] rfl (lk_X12_overs_32 hdd  t _ HF)

set_option maxRecDepth 20000 in
theorem lk_X12_entry_37 {g : aG} {l : Launch} {d : Nat} {h0 : aH} (hdd : 2 ≤ d) {r : Int32 × aH} (t : Nat) (h : aH) (HF : F_X12_entry_37  t h = some r) : Ev g l cX12_entry 6 yX12_entry (some .int) d h0 (some (.int r.1), r.2) 37 [(0, .ref t)] [] h := by
  unfold F_X12_entry_37 at HF
  refine ev_aload_n 0 dX12_entry_37 rfl ?_
  replace HF := bind_ck HF
  obtain ⟨c1, HF⟩ := HF
  replace HF := bind_o HF
  obtain ⟨⟨z4, h3⟩, e2, HF⟩ := HF
  replace HF := bd_o (bd_o HF)
  dsimp only at HF
  refine ev_callV (As := []) (R1 := (some (.int z4), h3)) (lk_X12_fail (d := 0) (Nat.le_refl _) c1 e2) ce_X12_fail im_X12_fail sl_X12_fail ml_X12_332 cl_X12 c1 dX12_entry_38 (by omega) (Nat.le_of_ble_eq_true rfl) rfl rfl ?_
  show EvG _ _ _ _ _ _ _ _ _ _ _ 41 [(0, .ref t)] [.int z4] h3
  obtain rfl := Option.some.inj HF
  exact ev_iret dX12_entry_41

set_option maxRecDepth 20000 in
theorem lk_X12_entry {g : aG} {l : Launch} {d : Nat} (hdd : 2 ≤ d) {t : Nat} {x1 : Int32} {x2 : Int32} {x3 : Int32} {x4 : Int32} {h : aH} {r : Int32 × aH} (hT : hK h t = 14) (HF : F_X12_entry t x1 x2 x3 x4 h = some r) : MA g l yX12_entry cX12_entry 6 (some .int) d [.ref t, .int x1, .int x2, .int x3, .int x4] h (some (.int r.1), r.2) := by
  refine MA.of (lv0 := [(0, .ref t), (1, .int x1), (2, .int x2), (3, .int x3), (4, .int x4)]) (by decide +kernel) (rfl) (Nat.le_of_ble_eq_true rfl) ?_
  unfold F_X12_entry at HF
  refine ev_aload_n 0 dX12_entry_0 rfl ?_
  refine ev_iconst (v := 0) dX12_entry_1 (by decide) ?_
  refine ev_pI (f := 1300) cl_X12 (k := 0) (by decide) fi_X12_0 rfl fl_X12_175 rfl rfl rfl dX12_entry_2 hT ?_
  replace HF := bd_n HF
  obtain ⟨h1, eh1, HF⟩ := HF
  refine ev_heap eh1 ?_
  have c2 : hK h1 t = 14 := by rw [eh1]; exact hT
  refine ev_aload_n 0 dX12_entry_5 rfl ?_
  refine ev_iload_n 1 dX12_entry_6 rfl ?_
  refine ev_iload_n 2 dX12_entry_7 rfl ?_
  refine ev_iload_n 3 dX12_entry_8 rfl ?_
  show EvG _ _ _ _ _ _ _ _ _ _ _ 9 _ _ _
  replace HF := bind_o HF
  obtain ⟨⟨z5, h4⟩, e3, HF⟩ := HF
  replace HF := bd_o (bd_o HF)
  dsimp only at HF
  refine ev_callV (As := [.int x1, .int x2, .int x3]) (R1 := (some (.int z5), h4)) (lk_X12_find (d := 1) (Nat.le_refl _) c2 e3) ce_X12_find im_X12_find sl_X12_find ml_X12_312 cl_X12 c2 dX12_entry_9 (by omega) (Nat.le_of_ble_eq_true rfl) rfl rfl ?_
  show EvG _ _ _ _ _ _ _ _ _ _ _ 12 [(0, .ref t), (1, .int x1), (2, .int x2), (3, .int x3), (4, .int x4)] [.int z5] h4
  refine ev_istore (lv' := [(5, .int z5), (0, .ref t), (1, .int x1), (2, .int x2), (3, .int x3), (4, .int x4)]) dX12_entry_12 (by decide) (rfl) ?_
  refine ev_iload 0 dX12_entry_14 rfl ?_
  refine ev_iconst (v := (-1)) dX12_entry_16 (by decide) ?_
  by_cases c7 : z5 = (-1)
  · replace HF := ite_T c7 HF
    refine ev_icmp_eqT (tgt := 37) dX12_entry_17 (by decide) c7 ?_
    exact Ev.sub [1] rfl (lk_X12_entry_37 hdd  t _ HF)
  · replace HF := ite_F c7 HF
    refine ev_icmp_eqF (tgt := 37) dX12_entry_17 (by decide) c7 ?_
    refine ev_iload 5 dX12_entry_20 rfl ?_
    by_cases c8 : x4 < 0
    · replace HF := ite_T c8 HF
      refine ev_if_ltT (tgt := 37) dX12_entry_22 (by decide) c8 ?_
      exact Ev.sub [1] rfl (lk_X12_entry_37 hdd  t _ HF)
    · replace HF := ite_F c8 HF
      refine ev_if_ltF (tgt := 37) dX12_entry_22 (by decide) c8 ?_
      refine ev_iload 5 dX12_entry_25 rfl ?_
      refine ev_aload_n 1 dX12_entry_27 rfl ?_
      replace HF := bind_ck HF
      obtain ⟨c9, HF⟩ := HF
      replace HF := bind_o HF
      obtain ⟨b10, e11, HF⟩ := HF
      refine ev_gS (f := 1313) cl_X12 (k := 13) (by decide) fi_X12_13 rfl fl_X12_38 dX12_entry_28 c9 e11 ?_
      refine ev_iload 0 dX12_entry_31 rfl ?_
      replace HF := bind_ck HF
      obtain ⟨c12, HF⟩ := HF
      refine ev_iald dX12_entry_33 c12.1 c12.2 ?_
      by_cases c13 : x4 < hI h4 b10 z5.toNatClampNeg
      · replace HF := ite_T c13 HF
        refine ev_icmp_ltT (tgt := 42) dX12_entry_34 (by decide) c13 ?_
        refine ev_aload_n 1 dX12_entry_42 rfl ?_
        replace HF := bind_o HF
        obtain ⟨b14, e15, HF⟩ := HF
        refine ev_gS (f := 1314) cl_X12 (k := 14) (by decide) fi_X12_14 rfl fl_X12_42 dX12_entry_43 c9 e15 ?_
        refine ev_bipush (v := 40) dX12_entry_46 (by decide) ?_
        refine ev_iload 0 dX12_entry_48 rfl ?_
        refine ev_imul dX12_entry_50 ?_
        refine ev_iload 5 dX12_entry_51 rfl ?_
        refine ev_iadd dX12_entry_53 ?_
        show EvG _ _ _ _ _ _ _ _ _ _ _ 54 _ _ _
        replace HF := bind_ck HF
        obtain ⟨c16, HF⟩ := HF
        refine ev_iald dX12_entry_54 c16.1 c16.2 ?_
        obtain rfl := Option.some.inj HF
        exact ev_iret dX12_entry_55
      · replace HF := ite_F c13 HF
        refine ev_icmp_ltF (tgt := 42) dX12_entry_34 (by decide) c13 ?_
        exact Ev.sub [1] rfl (lk_X12_entry_37 hdd  t _ HF)

set_option maxRecDepth 20000 in
theorem lk_X12_batsOf {g : aG} {l : Launch} {d : Nat} (hdd : 0 ≤ d) {t : Nat} {x1 : Int32} {x2 : Int32} {x3 : Int32} {x4 : Int32} {h : aH} {r : Int32 × aH} (hT : hK h t = 14) (HF : F_X12_batsOf t x1 x2 x3 x4 h = some r) : MA g l yX12_batsOf cX12_batsOf 6 (some .int) d [.ref t, .int x1, .int x2, .int x3, .int x4] h (some (.int r.1), r.2) := by
  refine MA.of (lv0 := [(0, .ref t), (1, .int x1), (2, .int x2), (3, .int x3), (4, .int x4)]) (by decide +kernel) (rfl) (Nat.le_of_ble_eq_true rfl) ?_
  unfold F_X12_batsOf at HF
  refine ev_bipush (v := 11) dX12_batsOf_0 (by decide) ?_
  refine ev_iload_n 2 dX12_batsOf_2 rfl ?_
  refine ev_imul dX12_batsOf_3 ?_
  refine ev_iload_n 3 dX12_batsOf_4 rfl ?_
  refine ev_iadd dX12_batsOf_5 ?_
  replace HF := bd_n HF
  obtain ⟨v1, ev1, HF⟩ := HF
  refine ev_topI ev1 ?_
  refine ev_istore (lv' := [(5, .int v1), (0, .ref t), (1, .int x1), (2, .int x2), (3, .int x3), (4, .int x4)]) dX12_batsOf_6 (by decide) (rfl) ?_
  refine ev_iload 5 dX12_batsOf_8 rfl ?_
  show EvG _ _ _ _ _ _ _ _ _ _ _ 10 _ _ _
  by_cases c2 : x4 = 0
  · replace HF := ite_T c2 HF
    refine ev_if_neF (tgt := 23) dX12_batsOf_10 (by decide) c2 ?_
    refine ev_aload_n 1 dX12_batsOf_13 rfl ?_
    replace HF := bind_o HF
    obtain ⟨b3, e4, HF⟩ := HF
    refine ev_gS (f := 1353) cl_X12 (k := 53) (by decide) fi_X12_53 rfl fl_X12_127 dX12_batsOf_14 hT e4 ?_
    refine ev_iload 0 dX12_batsOf_17 rfl ?_
    replace HF := bind_ck HF
    obtain ⟨c5, HF⟩ := HF
    refine ev_iald dX12_batsOf_19 c5.1 c5.2 ?_
    refine ev_goto (tgt := 73) dX12_batsOf_20 (by decide) ?_
    obtain rfl := Option.some.inj HF
    exact ev_iret dX12_batsOf_73
  · replace HF := ite_F c2 HF
    refine ev_if_neT (tgt := 23) dX12_batsOf_10 (by decide) c2 ?_
    refine ev_iload 5 dX12_batsOf_23 rfl ?_
    refine ev_iconst (v := 1) dX12_batsOf_25 (by decide) ?_
    by_cases c6 : x4 = 1
    · replace HF := ite_T c6 HF
      refine ev_icmp_neF (tgt := 39) dX12_batsOf_26 (by decide) c6 ?_
      refine ev_aload_n 1 dX12_batsOf_29 rfl ?_
      replace HF := bind_o HF
      obtain ⟨b7, e8, HF⟩ := HF
      refine ev_gS (f := 1354) cl_X12 (k := 54) (by decide) fi_X12_54 rfl fl_X12_130 dX12_batsOf_30 hT e8 ?_
      refine ev_iload 0 dX12_batsOf_33 rfl ?_
      replace HF := bind_ck HF
      obtain ⟨c9, HF⟩ := HF
      refine ev_iald dX12_batsOf_35 c9.1 c9.2 ?_
      refine ev_goto (tgt := 73) dX12_batsOf_36 (by decide) ?_
      obtain rfl := Option.some.inj HF
      exact ev_iret dX12_batsOf_73
    · replace HF := ite_F c6 HF
      refine ev_icmp_neT (tgt := 39) dX12_batsOf_26 (by decide) c6 ?_
      refine ev_iload 5 dX12_batsOf_39 rfl ?_
      refine ev_iconst (v := 2) dX12_batsOf_41 (by decide) ?_
      by_cases c10 : x4 = 2
      · replace HF := ite_T c10 HF
        refine ev_icmp_neF (tgt := 55) dX12_batsOf_42 (by decide) c10 ?_
        refine ev_aload_n 1 dX12_batsOf_45 rfl ?_
        replace HF := bind_o HF
        obtain ⟨b11, e12, HF⟩ := HF
        refine ev_gS (f := 1355) cl_X12 (k := 55) (by decide) fi_X12_55 rfl fl_X12_133 dX12_batsOf_46 hT e12 ?_
        refine ev_iload 0 dX12_batsOf_49 rfl ?_
        replace HF := bind_ck HF
        obtain ⟨c13, HF⟩ := HF
        refine ev_iald dX12_batsOf_51 c13.1 c13.2 ?_
        refine ev_goto (tgt := 73) dX12_batsOf_52 (by decide) ?_
        obtain rfl := Option.some.inj HF
        exact ev_iret dX12_batsOf_73
      · replace HF := ite_F c10 HF
        refine ev_icmp_neT (tgt := 55) dX12_batsOf_42 (by decide) c10 ?_
        refine ev_aload_n 1 dX12_batsOf_55 rfl ?_
        replace HF := bind_o HF
        obtain ⟨b14, e15, HF⟩ := HF
        refine ev_gS (f := 1307) cl_X12 (k := 7) (by decide) fi_X12_7 rfl fl_X12_22 dX12_batsOf_56 hT e15 ?_
        refine ev_bipush (v := 22) dX12_batsOf_59 (by decide) ?_
        refine ev_iload_n 2 dX12_batsOf_61 rfl ?_
        refine ev_imul dX12_batsOf_62 ?_
        refine ev_bipush (v := 11) dX12_batsOf_63 (by decide) ?_
        refine ev_iload_n 3 dX12_batsOf_65 rfl ?_
        show EvG _ _ _ _ _ _ _ _ _ _ _ 66 _ _ _
        refine ev_iconst (v := 2) dX12_batsOf_66 (by decide) ?_
        refine ev_irem dX12_batsOf_67 (by decide) ?_
        refine ev_imul dX12_batsOf_68 ?_
        refine ev_iadd dX12_batsOf_69 ?_
        refine ev_iload_n 4 dX12_batsOf_70 rfl ?_
        refine ev_iadd dX12_batsOf_71 ?_
        replace HF := bind_ck HF
        obtain ⟨c16, HF⟩ := HF
        refine ev_iald dX12_batsOf_72 c16.1 c16.2 ?_
        obtain rfl := Option.some.inj HF
        exact ev_iret dX12_batsOf_73

set_option maxRecDepth 20000 in
theorem lk_X12_fieldsOf {g : aG} {l : Launch} {d : Nat} (hdd : 0 ≤ d) {t : Nat} {x1 : Int32} {x2 : Int32} {x3 : Int32} {x4 : Int32} {h : aH} {r : Int32 × aH} (hT : hK h t = 14) (HF : F_X12_fieldsOf t x1 x2 x3 x4 h = some r) : MA g l yX12_fieldsOf cX12_fieldsOf 6 (some .int) d [.ref t, .int x1, .int x2, .int x3, .int x4] h (some (.int r.1), r.2) := by
  refine MA.of (lv0 := [(0, .ref t), (1, .int x1), (2, .int x2), (3, .int x3), (4, .int x4)]) (by decide +kernel) (rfl) (Nat.le_of_ble_eq_true rfl) ?_
  unfold F_X12_fieldsOf at HF
  refine ev_bipush (v := 11) dX12_fieldsOf_0 (by decide) ?_
  refine ev_iload_n 2 dX12_fieldsOf_2 rfl ?_
  refine ev_imul dX12_fieldsOf_3 ?_
  refine ev_iload_n 3 dX12_fieldsOf_4 rfl ?_
  refine ev_iadd dX12_fieldsOf_5 ?_
  replace HF := bd_n HF
  obtain ⟨v1, ev1, HF⟩ := HF
  refine ev_topI ev1 ?_
  refine ev_istore (lv' := [(5, .int v1), (0, .ref t), (1, .int x1), (2, .int x2), (3, .int x3), (4, .int x4)]) dX12_fieldsOf_6 (by decide) (rfl) ?_
  refine ev_iload 5 dX12_fieldsOf_8 rfl ?_
  show EvG _ _ _ _ _ _ _ _ _ _ _ 10 _ _ _
  by_cases c2 : x4 = 0
  · replace HF := ite_T c2 HF
    refine ev_if_neF (tgt := 23) dX12_fieldsOf_10 (by decide) c2 ?_
    refine ev_aload_n 1 dX12_fieldsOf_13 rfl ?_
    replace HF := bind_o HF
    obtain ⟨b3, e4, HF⟩ := HF
    refine ev_gS (f := 1356) cl_X12 (k := 56) (by decide) fi_X12_56 rfl fl_X12_136 dX12_fieldsOf_14 hT e4 ?_
    refine ev_iload 0 dX12_fieldsOf_17 rfl ?_
    replace HF := bind_ck HF
    obtain ⟨c5, HF⟩ := HF
    refine ev_iald dX12_fieldsOf_19 c5.1 c5.2 ?_
    refine ev_goto (tgt := 75) dX12_fieldsOf_20 (by decide) ?_
    obtain rfl := Option.some.inj HF
    exact ev_iret dX12_fieldsOf_75
  · replace HF := ite_F c2 HF
    refine ev_if_neT (tgt := 23) dX12_fieldsOf_10 (by decide) c2 ?_
    refine ev_iload 5 dX12_fieldsOf_23 rfl ?_
    refine ev_iconst (v := 1) dX12_fieldsOf_25 (by decide) ?_
    by_cases c6 : x4 = 1
    · replace HF := ite_T c6 HF
      refine ev_icmp_neF (tgt := 39) dX12_fieldsOf_26 (by decide) c6 ?_
      refine ev_aload_n 1 dX12_fieldsOf_29 rfl ?_
      replace HF := bind_o HF
      obtain ⟨b7, e8, HF⟩ := HF
      refine ev_gS (f := 1357) cl_X12 (k := 57) (by decide) fi_X12_57 rfl fl_X12_139 dX12_fieldsOf_30 hT e8 ?_
      refine ev_iload 0 dX12_fieldsOf_33 rfl ?_
      replace HF := bind_ck HF
      obtain ⟨c9, HF⟩ := HF
      refine ev_iald dX12_fieldsOf_35 c9.1 c9.2 ?_
      refine ev_goto (tgt := 75) dX12_fieldsOf_36 (by decide) ?_
      obtain rfl := Option.some.inj HF
      exact ev_iret dX12_fieldsOf_75
    · replace HF := ite_F c6 HF
      refine ev_icmp_neT (tgt := 39) dX12_fieldsOf_26 (by decide) c6 ?_
      refine ev_iload 5 dX12_fieldsOf_39 rfl ?_
      refine ev_iconst (v := 2) dX12_fieldsOf_41 (by decide) ?_
      by_cases c10 : x4 = 2
      · replace HF := ite_T c10 HF
        refine ev_icmp_neF (tgt := 55) dX12_fieldsOf_42 (by decide) c10 ?_
        refine ev_aload_n 1 dX12_fieldsOf_45 rfl ?_
        replace HF := bind_o HF
        obtain ⟨b11, e12, HF⟩ := HF
        refine ev_gS (f := 1358) cl_X12 (k := 58) (by decide) fi_X12_58 rfl fl_X12_142 dX12_fieldsOf_46 hT e12 ?_
        refine ev_iload 0 dX12_fieldsOf_49 rfl ?_
        replace HF := bind_ck HF
        obtain ⟨c13, HF⟩ := HF
        refine ev_iald dX12_fieldsOf_51 c13.1 c13.2 ?_
        refine ev_goto (tgt := 75) dX12_fieldsOf_52 (by decide) ?_
        obtain rfl := Option.some.inj HF
        exact ev_iret dX12_fieldsOf_75
      · replace HF := ite_F c10 HF
        refine ev_icmp_neT (tgt := 55) dX12_fieldsOf_42 (by decide) c10 ?_
        refine ev_aload_n 1 dX12_fieldsOf_55 rfl ?_
        replace HF := bind_o HF
        obtain ⟨b14, e15, HF⟩ := HF
        refine ev_gS (f := 1307) cl_X12 (k := 7) (by decide) fi_X12_7 rfl fl_X12_22 dX12_fieldsOf_56 hT e15 ?_
        refine ev_bipush (v := 22) dX12_fieldsOf_59 (by decide) ?_
        refine ev_iload_n 2 dX12_fieldsOf_61 rfl ?_
        refine ev_imul dX12_fieldsOf_62 ?_
        refine ev_bipush (v := 11) dX12_fieldsOf_63 (by decide) ?_
        refine ev_iconst (v := 1) dX12_fieldsOf_65 (by decide) ?_
        show EvG _ _ _ _ _ _ _ _ _ _ _ 66 _ _ _
        refine ev_iload_n 3 dX12_fieldsOf_66 rfl ?_
        refine ev_iconst (v := 2) dX12_fieldsOf_67 (by decide) ?_
        refine ev_irem dX12_fieldsOf_68 (by decide) ?_
        refine ev_isub dX12_fieldsOf_69 ?_
        refine ev_imul dX12_fieldsOf_70 ?_
        refine ev_iadd dX12_fieldsOf_71 ?_
        refine ev_iload_n 4 dX12_fieldsOf_72 rfl ?_
        refine ev_iadd dX12_fieldsOf_73 ?_
        show EvG _ _ _ _ _ _ _ _ _ _ _ 74 _ _ _
        replace HF := bind_ck HF
        obtain ⟨c16, HF⟩ := HF
        refine ev_iald dX12_fieldsOf_74 c16.1 c16.2 ?_
        obtain rfl := Option.some.inj HF
        exact ev_iret dX12_fieldsOf_75

set_option maxRecDepth 20000 in
theorem lk_X12_bats_35 {g : aG} {l : Launch} {d : Nat} {h0 : aH} (hdd : 6 ≤ d) {r : Int32 × aH} (t : Nat) (h : aH) (HF : F_X12_bats_35  t h = some r) : Ev g l cX12_bats 5 yX12_bats (some .int) d h0 (some (.int r.1), r.2) 35 [(0, .ref t)] [] h := by
  unfold F_X12_bats_35 at HF
  refine ev_aload_n 0 dX12_bats_35 rfl ?_
  replace HF := bind_ck HF
  obtain ⟨c1, HF⟩ := HF
  replace HF := bind_o HF
  obtain ⟨⟨z4, h3⟩, e2, HF⟩ := HF
  replace HF := bd_o (bd_o HF)
  dsimp only at HF
  refine ev_callV (As := []) (R1 := (some (.int z4), h3)) (lk_X12_fail (d := 0) (Nat.le_refl _) c1 e2) ce_X12_fail im_X12_fail sl_X12_fail ml_X12_332 cl_X12 c1 dX12_bats_36 (by omega) (Nat.le_of_ble_eq_true rfl) rfl rfl ?_
  show EvG _ _ _ _ _ _ _ _ _ _ _ 39 [(0, .ref t)] [.int z4] h3
  obtain rfl := Option.some.inj HF
  exact ev_iret dX12_bats_39

set_option maxRecDepth 20000 in
theorem lk_X12_bats {g : aG} {l : Launch} {d : Nat} (hdd : 6 ≤ d) {t : Nat} {x1 : Int32} {x2 : Int32} {x3 : Int32} {x4 : Int32} {h : aH} {r : Int32 × aH} (hT : hK h t = 14) (HF : F_X12_bats t x1 x2 x3 x4 h = some r) : MA g l yX12_bats cX12_bats 5 (some .int) d [.ref t, .int x1, .int x2, .int x3, .int x4] h (some (.int r.1), r.2) := by
  refine MA.of (lv0 := [(0, .ref t), (1, .int x1), (2, .int x2), (3, .int x3), (4, .int x4)]) (by decide +kernel) (rfl) (Nat.le_of_ble_eq_true rfl) ?_
  unfold F_X12_bats at HF
  refine ev_aload_n 0 dX12_bats_0 rfl ?_
  refine ev_iconst (v := 0) dX12_bats_1 (by decide) ?_
  refine ev_pI (f := 1300) cl_X12 (k := 0) (by decide) fi_X12_0 rfl fl_X12_175 rfl rfl rfl dX12_bats_2 hT ?_
  replace HF := bd_n HF
  obtain ⟨h1, eh1, HF⟩ := HF
  refine ev_heap eh1 ?_
  have c2 : hK h1 t = 14 := by rw [eh1]; exact hT
  refine ev_aload_n 0 dX12_bats_5 rfl ?_
  refine ev_iload_n 1 dX12_bats_6 rfl ?_
  refine ev_iload_n 2 dX12_bats_7 rfl ?_
  replace HF := bind_o HF
  obtain ⟨⟨z5, h4⟩, e3, HF⟩ := HF
  replace HF := bd_o (bd_o HF)
  dsimp only at HF
  refine ev_callV (As := [.int x1, .int x2]) (R1 := (some (.int z5), h4)) (lk_X12_isTurn (d := 1) (Nat.le_refl _) c2 e3) ce_X12_isTurn im_X12_isTurn sl_X12_isTurn ml_X12_342 cl_X12 c2 dX12_bats_8 (by omega) (Nat.le_of_ble_eq_true rfl) rfl rfl ?_
  show EvG _ _ _ _ _ _ _ _ _ _ _ 11 [(0, .ref t), (1, .int x1), (2, .int x2), (3, .int x3), (4, .int x4)] [.int z5] h4
  show EvG _ _ _ _ _ _ _ _ _ _ _ 11 _ _ _
  by_cases c7 : z5 = 0
  · replace HF := ite_T c7 HF
    refine ev_if_eqT (tgt := 35) dX12_bats_11 (by decide) c7 ?_
    exact Ev.sub [0] rfl (lk_X12_bats_35 hdd  t _ HF)
  · replace HF := ite_F c7 HF
    refine ev_if_eqF (tgt := 35) dX12_bats_11 (by decide) c7 ?_
    refine ev_iload_n 3 dX12_bats_14 rfl ?_
    by_cases c8 : x3 < 0
    · replace HF := ite_T c8 HF
      refine ev_if_ltT (tgt := 35) dX12_bats_15 (by decide) c8 ?_
      exact Ev.sub [0] rfl (lk_X12_bats_35 hdd  t _ HF)
    · replace HF := ite_F c8 HF
      refine ev_if_ltF (tgt := 35) dX12_bats_15 (by decide) c8 ?_
      refine ev_iload_n 3 dX12_bats_18 rfl ?_
      refine ev_bipush (v := 10) dX12_bats_19 (by decide) ?_
      by_cases c9 : 10 < x3
      · replace HF := ite_T c9 HF
        refine ev_icmp_gtT (tgt := 35) dX12_bats_21 (by decide) c9 ?_
        exact Ev.sub [0] rfl (lk_X12_bats_35 hdd  t _ HF)
      · replace HF := ite_F c9 HF
        refine ev_icmp_gtF (tgt := 35) dX12_bats_21 (by decide) c9 ?_
        refine ev_iload 4 dX12_bats_24 rfl ?_
        by_cases c10 : x4 < 0
        · replace HF := ite_T c10 HF
          refine ev_if_ltT (tgt := 35) dX12_bats_26 (by decide) c10 ?_
          exact Ev.sub [0] rfl (lk_X12_bats_35 hdd  t _ HF)
        · replace HF := ite_F c10 HF
          refine ev_if_ltF (tgt := 35) dX12_bats_26 (by decide) c10 ?_
          refine ev_iload 4 dX12_bats_29 rfl ?_
          refine ev_iconst (v := 3) dX12_bats_31 (by decide) ?_
          by_cases c11 : x4 ≤ 3
          · replace HF := ite_T c11 HF
            refine ev_icmp_leT (tgt := 40) dX12_bats_32 (by decide) c11 ?_
            refine ev_aload_n 0 dX12_bats_40 rfl ?_
            refine ev_iload_n 1 dX12_bats_41 rfl ?_
            replace HF := bind_ck HF
            obtain ⟨c12, HF⟩ := HF
            replace HF := bind_o HF
            obtain ⟨h14, e13, HF⟩ := HF
            refine ev_callV (As := [.int x1]) (R1 := (none, h14)) (lk_X12_play (d := 5) (Nat.le_refl _) c12 e13) ce_X12_play im_X12_play sl_X12_play ml_X12_300 cl_X12 c12 dX12_bats_42 (by omega) (Nat.le_of_ble_eq_true rfl) rfl rfl ?_
            show EvG _ _ _ _ _ _ _ _ _ _ _ 45 [(0, .ref t), (1, .int x1), (2, .int x2), (3, .int x3), (4, .int x4)] [] h14
            refine ev_aload_n 0 dX12_bats_45 rfl ?_
            refine ev_iload_n 1 dX12_bats_46 rfl ?_
            refine ev_iload_n 2 dX12_bats_47 rfl ?_
            refine ev_iload_n 3 dX12_bats_48 rfl ?_
            show EvG _ _ _ _ _ _ _ _ _ _ _ 49 _ _ _
            refine ev_iload 4 dX12_bats_49 rfl ?_
            replace HF := bind_ck HF
            obtain ⟨c16, HF⟩ := HF
            replace HF := bind_o HF
            obtain ⟨⟨z19, h18⟩, e17, HF⟩ := HF
            replace HF := bd_o (bd_o HF)
            dsimp only at HF
            refine ev_callV (As := [.int x1, .int x2, .int x3, .int x4]) (R1 := (some (.int z19), h18)) (lk_X12_batsOf (d := 0) (Nat.le_refl _) c16 e17) ce_X12_batsOf im_X12_batsOf sl_X12_batsOf ml_X12_348 cl_X12 c16 dX12_bats_51 (by omega) (Nat.le_of_ble_eq_true rfl) rfl rfl ?_
            show EvG _ _ _ _ _ _ _ _ _ _ _ 54 [(0, .ref t), (1, .int x1), (2, .int x2), (3, .int x3), (4, .int x4)] [.int z19] h18
            obtain rfl := Option.some.inj HF
            exact ev_iret dX12_bats_54
          · replace HF := ite_F c11 HF
            refine ev_icmp_leF (tgt := 40) dX12_bats_32 (by decide) c11 ?_
            exact Ev.sub [0] rfl (lk_X12_bats_35 hdd  t _ HF)

set_option maxRecDepth 20000 in
theorem lk_X12_fields_35 {g : aG} {l : Launch} {d : Nat} {h0 : aH} (hdd : 6 ≤ d) {r : Int32 × aH} (t : Nat) (h : aH) (HF : F_X12_fields_35  t h = some r) : Ev g l cX12_fields 5 yX12_fields (some .int) d h0 (some (.int r.1), r.2) 35 [(0, .ref t)] [] h := by
  unfold F_X12_fields_35 at HF
  refine ev_aload_n 0 dX12_fields_35 rfl ?_
  replace HF := bind_ck HF
  obtain ⟨c1, HF⟩ := HF
  replace HF := bind_o HF
  obtain ⟨⟨z4, h3⟩, e2, HF⟩ := HF
  replace HF := bd_o (bd_o HF)
  dsimp only at HF
  refine ev_callV (As := []) (R1 := (some (.int z4), h3)) (lk_X12_fail (d := 0) (Nat.le_refl _) c1 e2) ce_X12_fail im_X12_fail sl_X12_fail ml_X12_332 cl_X12 c1 dX12_fields_36 (by omega) (Nat.le_of_ble_eq_true rfl) rfl rfl ?_
  show EvG _ _ _ _ _ _ _ _ _ _ _ 39 [(0, .ref t)] [.int z4] h3
  obtain rfl := Option.some.inj HF
  exact ev_iret dX12_fields_39

set_option maxRecDepth 20000 in
theorem lk_X12_fields {g : aG} {l : Launch} {d : Nat} (hdd : 6 ≤ d) {t : Nat} {x1 : Int32} {x2 : Int32} {x3 : Int32} {x4 : Int32} {h : aH} {r : Int32 × aH} (hT : hK h t = 14) (HF : F_X12_fields t x1 x2 x3 x4 h = some r) : MA g l yX12_fields cX12_fields 5 (some .int) d [.ref t, .int x1, .int x2, .int x3, .int x4] h (some (.int r.1), r.2) := by
  refine MA.of (lv0 := [(0, .ref t), (1, .int x1), (2, .int x2), (3, .int x3), (4, .int x4)]) (by decide +kernel) (rfl) (Nat.le_of_ble_eq_true rfl) ?_
  unfold F_X12_fields at HF
  refine ev_aload_n 0 dX12_fields_0 rfl ?_
  refine ev_iconst (v := 0) dX12_fields_1 (by decide) ?_
  refine ev_pI (f := 1300) cl_X12 (k := 0) (by decide) fi_X12_0 rfl fl_X12_175 rfl rfl rfl dX12_fields_2 hT ?_
  replace HF := bd_n HF
  obtain ⟨h1, eh1, HF⟩ := HF
  refine ev_heap eh1 ?_
  have c2 : hK h1 t = 14 := by rw [eh1]; exact hT
  refine ev_aload_n 0 dX12_fields_5 rfl ?_
  refine ev_iload_n 1 dX12_fields_6 rfl ?_
  refine ev_iload_n 2 dX12_fields_7 rfl ?_
  replace HF := bind_o HF
  obtain ⟨⟨z5, h4⟩, e3, HF⟩ := HF
  replace HF := bd_o (bd_o HF)
  dsimp only at HF
  refine ev_callV (As := [.int x1, .int x2]) (R1 := (some (.int z5), h4)) (lk_X12_isTurn (d := 1) (Nat.le_refl _) c2 e3) ce_X12_isTurn im_X12_isTurn sl_X12_isTurn ml_X12_342 cl_X12 c2 dX12_fields_8 (by omega) (Nat.le_of_ble_eq_true rfl) rfl rfl ?_
  show EvG _ _ _ _ _ _ _ _ _ _ _ 11 [(0, .ref t), (1, .int x1), (2, .int x2), (3, .int x3), (4, .int x4)] [.int z5] h4
  show EvG _ _ _ _ _ _ _ _ _ _ _ 11 _ _ _
  by_cases c7 : z5 = 0
  · replace HF := ite_T c7 HF
    refine ev_if_eqT (tgt := 35) dX12_fields_11 (by decide) c7 ?_
    exact Ev.sub [0] rfl (lk_X12_fields_35 hdd  t _ HF)
  · replace HF := ite_F c7 HF
    refine ev_if_eqF (tgt := 35) dX12_fields_11 (by decide) c7 ?_
    refine ev_iload_n 3 dX12_fields_14 rfl ?_
    by_cases c8 : x3 < 0
    · replace HF := ite_T c8 HF
      refine ev_if_ltT (tgt := 35) dX12_fields_15 (by decide) c8 ?_
      exact Ev.sub [0] rfl (lk_X12_fields_35 hdd  t _ HF)
    · replace HF := ite_F c8 HF
      refine ev_if_ltF (tgt := 35) dX12_fields_15 (by decide) c8 ?_
      refine ev_iload_n 3 dX12_fields_18 rfl ?_
      refine ev_bipush (v := 10) dX12_fields_19 (by decide) ?_
      by_cases c9 : 10 < x3
      · replace HF := ite_T c9 HF
        refine ev_icmp_gtT (tgt := 35) dX12_fields_21 (by decide) c9 ?_
        exact Ev.sub [0] rfl (lk_X12_fields_35 hdd  t _ HF)
      · replace HF := ite_F c9 HF
        refine ev_icmp_gtF (tgt := 35) dX12_fields_21 (by decide) c9 ?_
        refine ev_iload 4 dX12_fields_24 rfl ?_
        by_cases c10 : x4 < 0
        · replace HF := ite_T c10 HF
          refine ev_if_ltT (tgt := 35) dX12_fields_26 (by decide) c10 ?_
          exact Ev.sub [0] rfl (lk_X12_fields_35 hdd  t _ HF)
        · replace HF := ite_F c10 HF
          refine ev_if_ltF (tgt := 35) dX12_fields_26 (by decide) c10 ?_
          refine ev_iload 4 dX12_fields_29 rfl ?_
          refine ev_iconst (v := 3) dX12_fields_31 (by decide) ?_
          by_cases c11 : x4 ≤ 3
          · replace HF := ite_T c11 HF
            refine ev_icmp_leT (tgt := 40) dX12_fields_32 (by decide) c11 ?_
            refine ev_aload_n 0 dX12_fields_40 rfl ?_
            refine ev_iload_n 1 dX12_fields_41 rfl ?_
            replace HF := bind_ck HF
            obtain ⟨c12, HF⟩ := HF
            replace HF := bind_o HF
            obtain ⟨h14, e13, HF⟩ := HF
            refine ev_callV (As := [.int x1]) (R1 := (none, h14)) (lk_X12_play (d := 5) (Nat.le_refl _) c12 e13) ce_X12_play im_X12_play sl_X12_play ml_X12_300 cl_X12 c12 dX12_fields_42 (by omega) (Nat.le_of_ble_eq_true rfl) rfl rfl ?_
            show EvG _ _ _ _ _ _ _ _ _ _ _ 45 [(0, .ref t), (1, .int x1), (2, .int x2), (3, .int x3), (4, .int x4)] [] h14
            refine ev_aload_n 0 dX12_fields_45 rfl ?_
            refine ev_iload_n 1 dX12_fields_46 rfl ?_
            refine ev_iload_n 2 dX12_fields_47 rfl ?_
            refine ev_iload_n 3 dX12_fields_48 rfl ?_
            show EvG _ _ _ _ _ _ _ _ _ _ _ 49 _ _ _
            refine ev_iload 4 dX12_fields_49 rfl ?_
            replace HF := bind_ck HF
            obtain ⟨c16, HF⟩ := HF
            replace HF := bind_o HF
            obtain ⟨⟨z19, h18⟩, e17, HF⟩ := HF
            replace HF := bd_o (bd_o HF)
            dsimp only at HF
            refine ev_callV (As := [.int x1, .int x2, .int x3, .int x4]) (R1 := (some (.int z19), h18)) (lk_X12_fieldsOf (d := 0) (Nat.le_refl _) c16 e17) ce_X12_fieldsOf im_X12_fieldsOf sl_X12_fieldsOf ml_X12_352 cl_X12 c16 dX12_fields_51 (by omega) (Nat.le_of_ble_eq_true rfl) rfl rfl ?_
            show EvG _ _ _ _ _ _ _ _ _ _ _ 54 [(0, .ref t), (1, .int x1), (2, .int x2), (3, .int x3), (4, .int x4)] [.int z19] h18
            obtain rfl := Option.some.inj HF
            exact ev_iret dX12_fields_54
          · replace HF := ite_F c11 HF
            refine ev_icmp_leF (tgt := 40) dX12_fields_32 (by decide) c11 ?_
            exact Ev.sub [0] rfl (lk_X12_fields_35 hdd  t _ HF)

set_option maxRecDepth 20000 in
theorem lk_X12_better {g : aG} {l : Launch} {d : Nat} (hdd : 0 ≤ d) {t : Nat} {x1 : Int32} {x2 : Int32} {x3 : Int32} {x4 : Int32} {x5 : Int32} {x6 : Int32} {h : aH} {r : aH} (hT : hK h t = 14) (HF : F_X12_better t x1 x2 x3 x4 x5 x6 h = some r) : MA g l yX12_better cX12_better 7 (none) d [.ref t, .int x1, .int x2, .int x3, .int x4, .int x5, .int x6] h (none, r) := by
  refine MA.of (lv0 := [(0, .ref t), (1, .int x1), (2, .int x2), (3, .int x3), (4, .int x4), (5, .int x5), (6, .int x6)]) (by decide +kernel) (rfl) (Nat.le_of_ble_eq_true rfl) ?_
  unfold F_X12_better at HF
  refine ev_aload_n 0 dX12_better_0 rfl ?_
  replace HF := bind_o HF
  obtain ⟨b1, e2, HF⟩ := HF
  refine ev_gS (f := 1367) cl_X12 (k := 67) (by decide) fi_X12_67 rfl fl_X12_163 dX12_better_1 hT e2 ?_
  refine ev_iconst (v := 0) dX12_better_4 (by decide) ?_
  refine ev_iload_n 1 dX12_better_5 rfl ?_
  replace HF := bind_ck HF
  obtain ⟨c3, HF⟩ := HF
  refine ev_iast dX12_better_6 c3.1 c3.2 ?_
  replace HF := bd_n HF
  obtain ⟨h4, eh4, HF⟩ := HF
  refine ev_heap eh4 ?_
  have c5 : hK h4 t = 14 := by rw [eh4]; exact hT
  refine ev_aload_n 0 dX12_better_7 rfl ?_
  replace HF := bind_o HF
  obtain ⟨b6, e7, HF⟩ := HF
  refine ev_gS (f := 1367) cl_X12 (k := 67) (by decide) fi_X12_67 rfl fl_X12_163 dX12_better_8 c5 e7 ?_
  show EvG _ _ _ _ _ _ _ _ _ _ _ 11 _ _ _
  refine ev_iconst (v := 1) dX12_better_11 (by decide) ?_
  refine ev_iload_n 2 dX12_better_12 rfl ?_
  replace HF := bind_ck HF
  obtain ⟨c8, HF⟩ := HF
  refine ev_iast dX12_better_13 c8.1 c8.2 ?_
  replace HF := bd_n HF
  obtain ⟨h9, eh9, HF⟩ := HF
  refine ev_heap eh9 ?_
  have c10 : hK h9 t = 14 := by rw [eh9]; exact c5
  refine ev_aload_n 0 dX12_better_14 rfl ?_
  replace HF := bind_o HF
  obtain ⟨b11, e12, HF⟩ := HF
  refine ev_gS (f := 1367) cl_X12 (k := 67) (by decide) fi_X12_67 rfl fl_X12_163 dX12_better_15 c10 e12 ?_
  refine ev_iconst (v := 2) dX12_better_18 (by decide) ?_
  refine ev_iload_n 3 dX12_better_19 rfl ?_
  replace HF := bind_ck HF
  obtain ⟨c13, HF⟩ := HF
  refine ev_iast dX12_better_20 c13.1 c13.2 ?_
  replace HF := bd_n HF
  obtain ⟨h14, eh14, HF⟩ := HF
  refine ev_heap eh14 ?_
  have c15 : hK h14 t = 14 := by rw [eh14]; exact c10
  show EvG _ _ _ _ _ _ _ _ _ _ _ 21 _ _ _
  refine ev_aload_n 0 dX12_better_21 rfl ?_
  replace HF := bind_o HF
  obtain ⟨b16, e17, HF⟩ := HF
  refine ev_gS (f := 1367) cl_X12 (k := 67) (by decide) fi_X12_67 rfl fl_X12_163 dX12_better_22 c15 e17 ?_
  refine ev_iconst (v := 3) dX12_better_25 (by decide) ?_
  refine ev_iload 4 dX12_better_26 rfl ?_
  replace HF := bind_ck HF
  obtain ⟨c18, HF⟩ := HF
  refine ev_iast dX12_better_28 c18.1 c18.2 ?_
  replace HF := bd_n HF
  obtain ⟨h19, eh19, HF⟩ := HF
  refine ev_heap eh19 ?_
  have c20 : hK h19 t = 14 := by rw [eh19]; exact c15
  refine ev_aload_n 0 dX12_better_29 rfl ?_
  replace HF := bind_o HF
  obtain ⟨b21, e22, HF⟩ := HF
  refine ev_gS (f := 1367) cl_X12 (k := 67) (by decide) fi_X12_67 rfl fl_X12_163 dX12_better_30 c20 e22 ?_
  refine ev_iconst (v := 4) dX12_better_33 (by decide) ?_
  show EvG _ _ _ _ _ _ _ _ _ _ _ 34 _ _ _
  refine ev_iload 5 dX12_better_34 rfl ?_
  replace HF := bind_ck HF
  obtain ⟨c23, HF⟩ := HF
  refine ev_iast dX12_better_36 c23.1 c23.2 ?_
  replace HF := bd_n HF
  obtain ⟨h24, eh24, HF⟩ := HF
  refine ev_heap eh24 ?_
  have c25 : hK h24 t = 14 := by rw [eh24]; exact c20
  refine ev_aload_n 0 dX12_better_37 rfl ?_
  replace HF := bind_o HF
  obtain ⟨b26, e27, HF⟩ := HF
  refine ev_gS (f := 1367) cl_X12 (k := 67) (by decide) fi_X12_67 rfl fl_X12_163 dX12_better_38 c25 e27 ?_
  refine ev_iconst (v := 5) dX12_better_41 (by decide) ?_
  refine ev_iload 6 dX12_better_42 rfl ?_
  replace HF := bind_ck HF
  obtain ⟨c28, HF⟩ := HF
  refine ev_iast dX12_better_44 c28.1 c28.2 ?_
  replace HF := bd_n HF
  obtain ⟨h29, eh29, HF⟩ := HF
  refine ev_heap eh29 ?_
  have c30 : hK h29 t = 14 := by rw [eh29]; exact c25
  obtain rfl := Option.some.inj HF
  exact ev_vret dX12_better_45

set_option maxRecDepth 20000 in
theorem lk_X12_recordOf_254 {g : aG} {l : Launch} {d : Nat} {h0 : aH} (hdd : 6 ≤ d) {r : aH} (k7 : Nat → Int32 → Int32 → Int32 → aH → Option (aH)) (hk7 : ∀ (t : Nat) (x1 : Int32) (x2 : Int32) (x3 : Int32) (h : aH), k7 t x1 x2 x3 h = some r → Ev g l cX12_recordOf 9 yX12_recordOf (none) d h0 (none, r) 7 [(0, .ref t), (1, .int x1), (2, .int x2), (3, .int x3)] [] h) (k95 : Nat → Int32 → Int32 → Int32 → Int32 → Int32 → Int32 → aH → Option (aH)) (hk95 : ∀ (t : Nat) (x1 : Int32) (x2 : Int32) (x3 : Int32) (x4 : Int32) (x5 : Int32) (x6 : Int32) (h : aH), k95 t x1 x2 x3 x4 x5 x6 h = some r → Ev g l cX12_recordOf 9 yX12_recordOf (none) d h0 (none, r) 95 [(0, .ref t), (1, .int x1), (2, .int x2), (3, .int x3), (4, .int x4), (5, .int x5), (6, .int x6)] [] h) (t : Nat) (x1 : Int32) (x2 : Int32) (x3 : Int32) (x4 : Int32) (x5 : Int32) (x6 : Int32) (x7 : Int32) (x8 : Int32) (h : aH) (HF : F_X12_recordOf_254 k7 k95 t x1 x2 x3 x4 x5 x6 x7 x8 h = some r) : Ev g l cX12_recordOf 9 yX12_recordOf (none) d h0 (none, r) 254 [(0, .ref t), (1, .int x1), (2, .int x2), (3, .int x3), (4, .int x4), (5, .int x5), (6, .int x6), (7, .int x7), (8, .int x8)] [] h := by
  unfold F_X12_recordOf_254 at HF
  refine ev_aload_n 0 dX12_recordOf_254 rfl ?_
  replace HF := bind_ck HF
  obtain ⟨c1, HF⟩ := HF
  replace HF := bind_o HF
  obtain ⟨b2, e3, HF⟩ := HF
  refine ev_gS (f := 1368) cl_X12 (k := 68) (by decide) fi_X12_68 rfl fl_X12_166 dX12_recordOf_255 c1 e3 ?_
  refine ev_bipush (v := 30) dX12_recordOf_258 (by decide) ?_
  refine ev_iload 4 dX12_recordOf_260 rfl ?_
  refine ev_imul dX12_recordOf_262 ?_
  refine ev_iload 8 dX12_recordOf_263 rfl ?_
  refine ev_iadd dX12_recordOf_265 ?_
  show EvG _ _ _ _ _ _ _ _ _ _ _ 266 _ _ _
  refine ev_dup2 dX12_recordOf_266 rfl rfl ?_
  replace HF := bind_ck HF
  obtain ⟨c4, HF⟩ := HF
  refine ev_iald dX12_recordOf_267 c4.1 c4.2 ?_
  refine ev_aload_n 0 dX12_recordOf_268 rfl ?_
  replace HF := bind_o HF
  obtain ⟨b5, e6, HF⟩ := HF
  refine ev_gS (f := 1353) cl_X12 (k := 53) (by decide) fi_X12_53 rfl fl_X12_127 dX12_recordOf_269 c1 e6 ?_
  refine ev_iload 7 dX12_recordOf_272 rfl ?_
  replace HF := bind_ck HF
  obtain ⟨c7, HF⟩ := HF
  refine ev_iald dX12_recordOf_274 c7.1 c7.2 ?_
  refine ev_iadd dX12_recordOf_275 ?_
  refine ev_iast dX12_recordOf_276 c4.1 c4.2 ?_
  replace HF := bd_n HF
  obtain ⟨h8, eh8, HF⟩ := HF
  refine ev_heap eh8 ?_
  have c9 : hK h8 t = 14 := by rw [eh8]; exact c1
  show EvG _ _ _ _ _ _ _ _ _ _ _ 277 _ _ _
  replace HF := bd_n HF
  obtain ⟨v10, ev10, HF⟩ := HF
  refine ev_iinc (v := v10) (lv' := [(6, .int v10), (0, .ref t), (1, .int x1), (2, .int x2), (3, .int x3), (4, .int x4), (5, .int x5), (7, .int x7), (8, .int x8)]) 6 dX12_recordOf_277 rfl (by rw [ev10]; rfl) (by decide) (rfl) ?_
  refine ev_goto (tgt := 95) dX12_recordOf_280 (by decide) ?_
  exact Ev.sub [1, 2, 3, 4, 5, 6, 0] rfl (hk95 t x1 x2 x3 x4 x5 v10 _ HF)

set_option maxRecDepth 20000 in
theorem lk_X12_recordOf_223 {g : aG} {l : Launch} {d : Nat} {h0 : aH} (hdd : 6 ≤ d) {r : aH} (k7 : Nat → Int32 → Int32 → Int32 → aH → Option (aH)) (hk7 : ∀ (t : Nat) (x1 : Int32) (x2 : Int32) (x3 : Int32) (h : aH), k7 t x1 x2 x3 h = some r → Ev g l cX12_recordOf 9 yX12_recordOf (none) d h0 (none, r) 7 [(0, .ref t), (1, .int x1), (2, .int x2), (3, .int x3)] [] h) (k95 : Nat → Int32 → Int32 → Int32 → Int32 → Int32 → Int32 → aH → Option (aH)) (hk95 : ∀ (t : Nat) (x1 : Int32) (x2 : Int32) (x3 : Int32) (x4 : Int32) (x5 : Int32) (x6 : Int32) (h : aH), k95 t x1 x2 x3 x4 x5 x6 h = some r → Ev g l cX12_recordOf 9 yX12_recordOf (none) d h0 (none, r) 95 [(0, .ref t), (1, .int x1), (2, .int x2), (3, .int x3), (4, .int x4), (5, .int x5), (6, .int x6)] [] h) (t : Nat) (x1 : Int32) (x2 : Int32) (x3 : Int32) (x4 : Int32) (x5 : Int32) (x6 : Int32) (x7 : Int32) (x8 : Int32) (h : aH) (HF : F_X12_recordOf_223 k7 k95 t x1 x2 x3 x4 x5 x6 x7 x8 h = some r) : Ev g l cX12_recordOf 9 yX12_recordOf (none) d h0 (none, r) 223 [(0, .ref t), (1, .int x1), (2, .int x2), (3, .int x3), (4, .int x4), (5, .int x5), (6, .int x6), (7, .int x7), (8, .int x8)] [] h := by
  unfold F_X12_recordOf_223 at HF
  refine ev_aload_n 0 dX12_recordOf_223 rfl ?_
  refine ev_aload_n 0 dX12_recordOf_224 rfl ?_
  replace HF := bind_ck HF
  obtain ⟨c1, HF⟩ := HF
  replace HF := bind_o HF
  obtain ⟨b2, e3, HF⟩ := HF
  refine ev_gS (f := 1358) cl_X12 (k := 58) (by decide) fi_X12_58 rfl fl_X12_142 dX12_recordOf_225 c1 e3 ?_
  refine ev_iload 7 dX12_recordOf_228 rfl ?_
  replace HF := bind_ck HF
  obtain ⟨c4, HF⟩ := HF
  refine ev_iald dX12_recordOf_230 c4.1 c4.2 ?_
  refine ev_iload_n 2 dX12_recordOf_231 rfl ?_
  refine ev_iload_n 3 dX12_recordOf_232 rfl ?_
  show EvG _ _ _ _ _ _ _ _ _ _ _ 233 _ _ _
  refine ev_iload 5 dX12_recordOf_233 rfl ?_
  refine ev_aload_n 0 dX12_recordOf_235 rfl ?_
  refine ev_iload_n 2 dX12_recordOf_236 rfl ?_
  refine ev_iload_n 3 dX12_recordOf_237 rfl ?_
  refine ev_iload 6 dX12_recordOf_238 rfl ?_
  refine ev_iconst (v := 3) dX12_recordOf_240 (by decide) ?_
  replace HF := bind_o HF
  obtain ⟨⟨z7, h6⟩, e5, HF⟩ := HF
  replace HF := bd_o (bd_o HF)
  dsimp only at HF
  refine ev_callV (As := [.int x2, .int x3, .int x6, .int 3]) (R1 := (some (.int z7), h6)) (lk_X12_fieldsOf (d := 0) (Nat.le_refl _) c1 e5) ce_X12_fieldsOf im_X12_fieldsOf sl_X12_fieldsOf ml_X12_352 cl_X12 c1 dX12_recordOf_241 (by omega) (Nat.le_of_ble_eq_true rfl) rfl rfl ?_
  show EvG _ _ _ _ _ _ _ _ _ _ _ 244 [(0, .ref t), (1, .int x1), (2, .int x2), (3, .int x3), (4, .int x4), (5, .int x5), (6, .int x6), (7, .int x7), (8, .int x8)] [.int z7, .int x5, .int x3, .int x2, .int (hI h b2 x7.toNatClampNeg), .ref t] h6
  refine ev_aload_n 0 dX12_recordOf_244 rfl ?_
  show EvG _ _ _ _ _ _ _ _ _ _ _ 245 _ _ _
  replace HF := bind_ck HF
  obtain ⟨c9, HF⟩ := HF
  replace HF := bind_o HF
  obtain ⟨b10, e11, HF⟩ := HF
  refine ev_gS (f := 1357) cl_X12 (k := 57) (by decide) fi_X12_57 rfl fl_X12_139 dX12_recordOf_245 c9 e11 ?_
  refine ev_iload 7 dX12_recordOf_248 rfl ?_
  replace HF := bind_ck HF
  obtain ⟨c12, HF⟩ := HF
  refine ev_iald dX12_recordOf_250 c12.1 c12.2 ?_
  replace HF := bind_o HF
  obtain ⟨h14, e13, HF⟩ := HF
  refine ev_callV (As := [.int (hI h b2 x7.toNatClampNeg), .int x2, .int x3, .int x5, .int z7, .int (hI h6 b10 x7.toNatClampNeg)]) (R1 := (none, h14)) (lk_X12_better (d := 0) (Nat.le_refl _) c9 e13) ce_X12_better im_X12_better sl_X12_better ml_X12_355 cl_X12 c9 dX12_recordOf_251 (by omega) (Nat.le_of_ble_eq_true rfl) rfl rfl ?_
  show EvG _ _ _ _ _ _ _ _ _ _ _ 254 [(0, .ref t), (1, .int x1), (2, .int x2), (3, .int x3), (4, .int x4), (5, .int x5), (6, .int x6), (7, .int x7), (8, .int x8)] [] h14
  exact Ev.sub [0, 1, 2, 3, 4, 5, 6, 7, 8] rfl (lk_X12_recordOf_254 hdd k7 hk7 k95 hk95 t x1 x2 x3 x4 x5 x6 x7 x8 _ HF)

set_option maxRecDepth 20000 in
theorem lk_X12_recordOf_160 {g : aG} {l : Launch} {d : Nat} {h0 : aH} (hdd : 6 ≤ d) {r : aH} (k7 : Nat → Int32 → Int32 → Int32 → aH → Option (aH)) (hk7 : ∀ (t : Nat) (x1 : Int32) (x2 : Int32) (x3 : Int32) (h : aH), k7 t x1 x2 x3 h = some r → Ev g l cX12_recordOf 9 yX12_recordOf (none) d h0 (none, r) 7 [(0, .ref t), (1, .int x1), (2, .int x2), (3, .int x3)] [] h) (k95 : Nat → Int32 → Int32 → Int32 → Int32 → Int32 → Int32 → aH → Option (aH)) (hk95 : ∀ (t : Nat) (x1 : Int32) (x2 : Int32) (x3 : Int32) (x4 : Int32) (x5 : Int32) (x6 : Int32) (h : aH), k95 t x1 x2 x3 x4 x5 x6 h = some r → Ev g l cX12_recordOf 9 yX12_recordOf (none) d h0 (none, r) 95 [(0, .ref t), (1, .int x1), (2, .int x2), (3, .int x3), (4, .int x4), (5, .int x5), (6, .int x6)] [] h) (t : Nat) (x1 : Int32) (x2 : Int32) (x3 : Int32) (x4 : Int32) (x5 : Int32) (x6 : Int32) (x7 : Int32) (x8 : Int32) (h : aH) (HF : F_X12_recordOf_160 k7 k95 t x1 x2 x3 x4 x5 x6 x7 x8 h = some r) : Ev g l cX12_recordOf 9 yX12_recordOf (none) d h0 (none, r) 160 [(0, .ref t), (1, .int x1), (2, .int x2), (3, .int x3), (4, .int x4), (5, .int x5), (6, .int x6), (7, .int x7), (8, .int x8)] [] h := by
  unfold F_X12_recordOf_160 at HF
  refine ev_iload_n 1 dX12_recordOf_160 rfl ?_
  refine ev_iconst (v := 1) dX12_recordOf_161 (by decide) ?_
  by_cases c1 : x1 = 1
  · replace HF := ite_T c1 HF
    refine ev_icmp_neF (tgt := 254) dX12_recordOf_162 (by decide) c1 ?_
    refine ev_aload_n 0 dX12_recordOf_165 rfl ?_
    replace HF := bind_ck HF
    obtain ⟨c2, HF⟩ := HF
    replace HF := bind_o HF
    obtain ⟨b3, e4, HF⟩ := HF
    refine ev_gS (f := 1356) cl_X12 (k := 56) (by decide) fi_X12_56 rfl fl_X12_136 dX12_recordOf_166 c2 e4 ?_
    refine ev_iload 7 dX12_recordOf_169 rfl ?_
    replace HF := bind_ck HF
    obtain ⟨c5, HF⟩ := HF
    refine ev_iald dX12_recordOf_171 c5.1 c5.2 ?_
    by_cases c6 : hI h b3 x7.toNatClampNeg ≤ 0
    · replace HF := ite_T c6 HF
      refine ev_if_leT (tgt := 254) dX12_recordOf_172 (by decide) c6 ?_
      exact Ev.sub [0, 1, 2, 3, 4, 5, 6, 7, 8] rfl (lk_X12_recordOf_254 hdd k7 hk7 k95 hk95 t x1 x2 x3 x4 x5 x6 x7 x8 _ HF)
    · replace HF := ite_F c6 HF
      refine ev_if_leF (tgt := 254) dX12_recordOf_172 (by decide) c6 ?_
      refine ev_aload_n 0 dX12_recordOf_175 rfl ?_
      replace HF := bind_o HF
      obtain ⟨b7, e8, HF⟩ := HF
      refine ev_gS (f := 1358) cl_X12 (k := 58) (by decide) fi_X12_58 rfl fl_X12_142 dX12_recordOf_176 c2 e8 ?_
      refine ev_iload 7 dX12_recordOf_179 rfl ?_
      replace HF := bind_ck HF
      obtain ⟨c9, HF⟩ := HF
      refine ev_iald dX12_recordOf_181 c9.1 c9.2 ?_
      refine ev_aload_n 0 dX12_recordOf_182 rfl ?_
      replace HF := bind_o HF
      obtain ⟨b10, e11, HF⟩ := HF
      refine ev_gS (f := 1367) cl_X12 (k := 67) (by decide) fi_X12_67 rfl fl_X12_163 dX12_recordOf_183 c2 e11 ?_
      refine ev_iconst (v := 0) dX12_recordOf_186 (by decide) ?_
      show EvG _ _ _ _ _ _ _ _ _ _ _ 187 _ _ _
      replace HF := bind_ck HF
      obtain ⟨c12, HF⟩ := HF
      refine ev_iald dX12_recordOf_187 c12.1 c12.2 ?_
      by_cases c13 : hI h b10 (0 : Int32).toNatClampNeg < hI h b7 x7.toNatClampNeg
      · replace HF := ite_T c13 HF
        refine ev_icmp_gtT (tgt := 223) dX12_recordOf_188 (by decide) c13 ?_
        exact Ev.sub [0, 1, 2, 3, 4, 5, 6, 7, 8] rfl (lk_X12_recordOf_223 hdd k7 hk7 k95 hk95 t x1 x2 x3 x4 x5 x6 x7 x8 _ HF)
      · replace HF := ite_F c13 HF
        refine ev_icmp_gtF (tgt := 223) dX12_recordOf_188 (by decide) c13 ?_
        refine ev_aload_n 0 dX12_recordOf_191 rfl ?_
        replace HF := bind_o HF
        obtain ⟨b14, e15, HF⟩ := HF
        refine ev_gS (f := 1358) cl_X12 (k := 58) (by decide) fi_X12_58 rfl fl_X12_142 dX12_recordOf_192 c2 e15 ?_
        refine ev_iload 7 dX12_recordOf_195 rfl ?_
        replace HF := bind_ck HF
        obtain ⟨c16, HF⟩ := HF
        refine ev_iald dX12_recordOf_197 c16.1 c16.2 ?_
        refine ev_aload_n 0 dX12_recordOf_198 rfl ?_
        replace HF := bind_o HF
        obtain ⟨b17, e18, HF⟩ := HF
        refine ev_gS (f := 1367) cl_X12 (k := 67) (by decide) fi_X12_67 rfl fl_X12_163 dX12_recordOf_199 c2 e18 ?_
        refine ev_iconst (v := 0) dX12_recordOf_202 (by decide) ?_
        show EvG _ _ _ _ _ _ _ _ _ _ _ 203 _ _ _
        replace HF := bind_ck HF
        obtain ⟨c19, HF⟩ := HF
        refine ev_iald dX12_recordOf_203 c19.1 c19.2 ?_
        by_cases c20 : hI h b14 x7.toNatClampNeg = hI h b17 (0 : Int32).toNatClampNeg
        · replace HF := ite_T c20 HF
          refine ev_icmp_neF (tgt := 254) dX12_recordOf_204 (by decide) c20 ?_
          refine ev_aload_n 0 dX12_recordOf_207 rfl ?_
          replace HF := bind_o HF
          obtain ⟨b21, e22, HF⟩ := HF
          refine ev_gS (f := 1357) cl_X12 (k := 57) (by decide) fi_X12_57 rfl fl_X12_139 dX12_recordOf_208 c2 e22 ?_
          refine ev_iload 7 dX12_recordOf_211 rfl ?_
          replace HF := bind_ck HF
          obtain ⟨c23, HF⟩ := HF
          refine ev_iald dX12_recordOf_213 c23.1 c23.2 ?_
          refine ev_aload_n 0 dX12_recordOf_214 rfl ?_
          replace HF := bind_o HF
          obtain ⟨b24, e25, HF⟩ := HF
          refine ev_gS (f := 1367) cl_X12 (k := 67) (by decide) fi_X12_67 rfl fl_X12_163 dX12_recordOf_215 c2 e25 ?_
          refine ev_iconst (v := 5) dX12_recordOf_218 (by decide) ?_
          show EvG _ _ _ _ _ _ _ _ _ _ _ 219 _ _ _
          replace HF := bind_ck HF
          obtain ⟨c26, HF⟩ := HF
          refine ev_iald dX12_recordOf_219 c26.1 c26.2 ?_
          by_cases c27 : hI h b24 (5 : Int32).toNatClampNeg ≤ hI h b21 x7.toNatClampNeg
          · replace HF := ite_T c27 HF
            refine ev_icmp_geT (tgt := 254) dX12_recordOf_220 (by decide) c27 ?_
            exact Ev.sub [0, 1, 2, 3, 4, 5, 6, 7, 8] rfl (lk_X12_recordOf_254 hdd k7 hk7 k95 hk95 t x1 x2 x3 x4 x5 x6 x7 x8 _ HF)
          · replace HF := ite_F c27 HF
            refine ev_icmp_geF (tgt := 254) dX12_recordOf_220 (by decide) c27 ?_
            exact Ev.sub [0, 1, 2, 3, 4, 5, 6, 7, 8] rfl (lk_X12_recordOf_223 hdd k7 hk7 k95 hk95 t x1 x2 x3 x4 x5 x6 x7 x8 _ HF)
        · replace HF := ite_F c20 HF
          refine ev_icmp_neT (tgt := 254) dX12_recordOf_204 (by decide) c20 ?_
          exact Ev.sub [0, 1, 2, 3, 4, 5, 6, 7, 8] rfl (lk_X12_recordOf_254 hdd k7 hk7 k95 hk95 t x1 x2 x3 x4 x5 x6 x7 x8 _ HF)
  · replace HF := ite_F c1 HF
    refine ev_icmp_neT (tgt := 254) dX12_recordOf_162 (by decide) c1 ?_
    exact Ev.sub [0, 1, 2, 3, 4, 5, 6, 7, 8] rfl (lk_X12_recordOf_254 hdd k7 hk7 k95 hk95 t x1 x2 x3 x4 x5 x6 x7 x8 _ HF)

set_option maxRecDepth 20000 in
theorem lk_X12_recordOf_95 {g : aG} {l : Launch} {d : Nat} {h0 : aH} (hdd : 6 ≤ d) {r : aH} (k7 : Nat → Int32 → Int32 → Int32 → aH → Option (aH)) (hk7 : ∀ (t : Nat) (x1 : Int32) (x2 : Int32) (x3 : Int32) (h : aH), k7 t x1 x2 x3 h = some r → Ev g l cX12_recordOf 9 yX12_recordOf (none) d h0 (none, r) 7 [(0, .ref t), (1, .int x1), (2, .int x2), (3, .int x3)] [] h) : ∀ (n : Nat) (t : Nat) (x1 : Int32) (x2 : Int32) (x3 : Int32) (x4 : Int32) (x5 : Int32) (x6 : Int32) (h : aH), F_X12_recordOf_95 k7 n t x1 x2 x3 x4 x5 x6 h = some r → Ev g l cX12_recordOf 9 yX12_recordOf (none) d h0 (none, r) 95 [(0, .ref t), (1, .int x1), (2, .int x2), (3, .int x3), (4, .int x4), (5, .int x5), (6, .int x6)] [] h := by
  intro n
  induction n with
  | zero => intro t x1 x2 x3 x4 x5 x6 h HF; cases HF
  | succ n ih =>
  intro t x1 x2 x3 x4 x5 x6 h HF
  unfold F_X12_recordOf_95 at HF
  refine ev_iload 6 dX12_recordOf_95 rfl ?_
  refine ev_bipush (v := 11) dX12_recordOf_97 (by decide) ?_
  by_cases c1 : 11 ≤ x6
  · replace HF := ite_T c1 HF
    refine ev_icmp_geT (tgt := 283) dX12_recordOf_99 (by decide) c1 ?_
    replace HF := bd_n HF
    obtain ⟨v2, ev2, HF⟩ := HF
    refine ev_iinc (v := v2) (lv' := [(3, .int v2), (0, .ref t), (1, .int x1), (2, .int x2), (4, .int x4), (5, .int x5), (6, .int x6)]) 3 dX12_recordOf_283 rfl (by rw [ev2]; rfl) (by decide) (rfl) ?_
    refine ev_goto (tgt := 7) dX12_recordOf_286 (by decide) ?_
    exact Ev.sub [1, 2, 3, 0] rfl (hk7 t x1 x2 v2 _ HF)
  · replace HF := ite_F c1 HF
    refine ev_icmp_geF (tgt := 283) dX12_recordOf_99 (by decide) c1 ?_
    refine ev_bipush (v := 11) dX12_recordOf_102 (by decide) ?_
    refine ev_iload_n 3 dX12_recordOf_104 rfl ?_
    refine ev_imul dX12_recordOf_105 ?_
    refine ev_iload 6 dX12_recordOf_106 rfl ?_
    refine ev_iadd dX12_recordOf_108 ?_
    replace HF := bd_n HF
    obtain ⟨v3, ev3, HF⟩ := HF
    refine ev_topI ev3 ?_
    refine ev_istore (lv' := [(7, .int v3), (0, .ref t), (1, .int x1), (2, .int x2), (3, .int x3), (4, .int x4), (5, .int x5), (6, .int x6)]) dX12_recordOf_109 (by decide) (rfl) ?_
    refine ev_aload_n 1 dX12_recordOf_111 rfl ?_
    show EvG _ _ _ _ _ _ _ _ _ _ _ 112 _ _ _
    refine ev_iload_n 3 dX12_recordOf_112 rfl ?_
    refine ev_iload_n 4 dX12_recordOf_113 rfl ?_
    refine ev_iload 7 dX12_recordOf_114 rfl ?_
    refine ev_iconst (v := 3) dX12_recordOf_116 (by decide) ?_
    replace HF := bind_ck HF
    obtain ⟨c4, HF⟩ := HF
    replace HF := bind_o HF
    obtain ⟨⟨z7, h6⟩, e5, HF⟩ := HF
    replace HF := bd_o (bd_o HF)
    dsimp only at HF
    refine ev_callV (As := [.int x2, .int x3, .int x6, .int 3]) (R1 := (some (.int z7), h6)) (lk_X12_batsOf (d := 0) (Nat.le_refl _) c4 e5) ce_X12_batsOf im_X12_batsOf sl_X12_batsOf ml_X12_348 cl_X12 c4 dX12_recordOf_117 (by omega) (Nat.le_of_ble_eq_true rfl) rfl rfl ?_
    show EvG _ _ _ _ _ _ _ _ _ _ _ 120 [(7, .int v3), (0, .ref t), (1, .int x1), (2, .int x2), (3, .int x3), (4, .int x4), (5, .int x5), (6, .int x6)] [.int z7] h6
    refine ev_istore (lv' := [(8, .int z7), (7, .int v3), (0, .ref t), (1, .int x1), (2, .int x2), (3, .int x3), (4, .int x4), (5, .int x5), (6, .int x6)]) dX12_recordOf_120 (by decide) (rfl) ?_
    refine ev_iload_n 3 dX12_recordOf_122 rfl ?_
    by_cases c9 : x1 = 0
    · replace HF := ite_T c9 HF
      refine ev_if_neF (tgt := 160) dX12_recordOf_123 (by decide) c9 ?_
      refine ev_aload_n 2 dX12_recordOf_126 rfl ?_
      replace HF := bind_ck HF
      obtain ⟨c10, HF⟩ := HF
      replace HF := bind_o HF
      obtain ⟨b11, e12, HF⟩ := HF
      refine ev_gS (f := 1353) cl_X12 (k := 53) (by decide) fi_X12_53 rfl fl_X12_127 dX12_recordOf_127 c10 e12 ?_
      refine ev_iload 1 dX12_recordOf_130 rfl ?_
      replace HF := bind_ck HF
      obtain ⟨c13, HF⟩ := HF
      refine ev_iald dX12_recordOf_132 c13.1 c13.2 ?_
      refine ev_aload_n 2 dX12_recordOf_133 rfl ?_
      replace HF := bind_o HF
      obtain ⟨b14, e15, HF⟩ := HF
      refine ev_gS (f := 1367) cl_X12 (k := 67) (by decide) fi_X12_67 rfl fl_X12_163 dX12_recordOf_134 c10 e15 ?_
      refine ev_iconst (v := 0) dX12_recordOf_137 (by decide) ?_
      show EvG _ _ _ _ _ _ _ _ _ _ _ 138 _ _ _
      replace HF := bind_ck HF
      obtain ⟨c16, HF⟩ := HF
      refine ev_iald dX12_recordOf_138 c16.1 c16.2 ?_
      by_cases c17 : hI h6 b11 v3.toNatClampNeg ≤ hI h6 b14 (0 : Int32).toNatClampNeg
      · replace HF := ite_T c17 HF
        refine ev_icmp_leT (tgt := 160) dX12_recordOf_139 (by decide) c17 ?_
        exact Ev.sub [2, 3, 4, 5, 6, 7, 8, 1, 0] rfl (lk_X12_recordOf_160 hdd k7 hk7 (F_X12_recordOf_95 k7 n) ih t x1 x2 x3 x4 x5 x6 v3 z7 _ HF)
      · replace HF := ite_F c17 HF
        refine ev_icmp_leF (tgt := 160) dX12_recordOf_139 (by decide) c17 ?_
        refine ev_aload_n 2 dX12_recordOf_142 rfl ?_
        refine ev_aload_n 2 dX12_recordOf_143 rfl ?_
        replace HF := bind_o HF
        obtain ⟨b18, e19, HF⟩ := HF
        refine ev_gS (f := 1353) cl_X12 (k := 53) (by decide) fi_X12_53 rfl fl_X12_127 dX12_recordOf_144 c10 e19 ?_
        refine ev_iload 1 dX12_recordOf_147 rfl ?_
        replace HF := bind_ck HF
        obtain ⟨c20, HF⟩ := HF
        refine ev_iald dX12_recordOf_149 c20.1 c20.2 ?_
        refine ev_iload_n 4 dX12_recordOf_150 rfl ?_
        refine ev_iload_n 5 dX12_recordOf_151 rfl ?_
        show EvG _ _ _ _ _ _ _ _ _ _ _ 152 _ _ _
        refine ev_iload 6 dX12_recordOf_152 rfl ?_
        refine ev_iload 0 dX12_recordOf_154 rfl ?_
        refine ev_iconst (v := 0) dX12_recordOf_156 (by decide) ?_
        replace HF := bind_o HF
        obtain ⟨h22, e21, HF⟩ := HF
        refine ev_callV (As := [.int (hI h6 b18 v3.toNatClampNeg), .int x2, .int x3, .int x4, .int z7, .int 0]) (R1 := (none, h22)) (lk_X12_better (d := 0) (Nat.le_refl _) c10 e21) ce_X12_better im_X12_better sl_X12_better ml_X12_355 cl_X12 c10 dX12_recordOf_157 (by omega) (Nat.le_of_ble_eq_true rfl) rfl rfl ?_
        show EvG _ _ _ _ _ _ _ _ _ _ _ 160 [(8, .int z7), (7, .int v3), (0, .ref t), (1, .int x1), (2, .int x2), (3, .int x3), (4, .int x4), (5, .int x5), (6, .int x6)] [] h22
        exact Ev.sub [2, 3, 4, 5, 6, 7, 8, 1, 0] rfl (lk_X12_recordOf_160 hdd k7 hk7 (F_X12_recordOf_95 k7 n) ih t x1 x2 x3 x4 x5 x6 v3 z7 _ HF)
    · replace HF := ite_F c9 HF
      refine ev_if_neT (tgt := 160) dX12_recordOf_123 (by decide) c9 ?_
      exact Ev.sub [2, 3, 4, 5, 6, 7, 8, 1, 0] rfl (lk_X12_recordOf_160 hdd k7 hk7 (F_X12_recordOf_95 k7 n) ih t x1 x2 x3 x4 x5 x6 v3 z7 _ HF)

set_option maxRecDepth 20000 in
theorem lk_X12_recordOf_92 {g : aG} {l : Launch} {d : Nat} {h0 : aH} (hdd : 6 ≤ d) {r : aH} (k7 : Nat → Int32 → Int32 → Int32 → aH → Option (aH)) (hk7 : ∀ (t : Nat) (x1 : Int32) (x2 : Int32) (x3 : Int32) (h : aH), k7 t x1 x2 x3 h = some r → Ev g l cX12_recordOf 9 yX12_recordOf (none) d h0 (none, r) 7 [(0, .ref t), (1, .int x1), (2, .int x2), (3, .int x3)] [] h) (t : Nat) (x1 : Int32) (x2 : Int32) (x3 : Int32) (x4 : Int32) (x5 : Int32) (h : aH) (HF : F_X12_recordOf_92 k7 t x1 x2 x3 x4 x5 h = some r) : Ev g l cX12_recordOf 9 yX12_recordOf (none) d h0 (none, r) 92 [(0, .ref t), (1, .int x1), (2, .int x2), (3, .int x3), (4, .int x4), (5, .int x5)] [] h := by
  unfold F_X12_recordOf_92 at HF
  refine ev_iconst (v := 0) dX12_recordOf_92 (by decide) ?_
  refine ev_istore (lv' := [(6, .int 0), (0, .ref t), (1, .int x1), (2, .int x2), (3, .int x3), (4, .int x4), (5, .int x5)]) dX12_recordOf_93 (by decide) (rfl) ?_
  exact Ev.sub [1, 2, 3, 4, 5, 6, 0] rfl (lk_X12_recordOf_95 hdd k7 hk7 fu t x1 x2 x3 x4 x5 0 _ HF)

set_option maxRecDepth 20000 in
theorem lk_X12_recordOf_7 {g : aG} {l : Launch} {d : Nat} {h0 : aH} (hdd : 6 ≤ d) {r : aH} : ∀ (n : Nat) (t : Nat) (x1 : Int32) (x2 : Int32) (x3 : Int32) (h : aH), F_X12_recordOf_7  n t x1 x2 x3 h = some r → Ev g l cX12_recordOf 9 yX12_recordOf (none) d h0 (none, r) 7 [(0, .ref t), (1, .int x1), (2, .int x2), (3, .int x3)] [] h := by
  intro n
  induction n with
  | zero => intro t x1 x2 x3 h HF; cases HF
  | succ n ih =>
  intro t x1 x2 x3 h HF
  unfold F_X12_recordOf_7 at HF
  refine ev_iload_n 3 dX12_recordOf_7 rfl ?_
  refine ev_aload_n 0 dX12_recordOf_8 rfl ?_
  replace HF := bind_ck HF
  obtain ⟨c1, HF⟩ := HF
  replace HF := bind_o HF
  obtain ⟨b2, e3, HF⟩ := HF
  refine ev_gS (f := 1308) cl_X12 (k := 8) (by decide) fi_X12_8 rfl fl_X12_25 dX12_recordOf_9 c1 e3 ?_
  refine ev_iload_n 2 dX12_recordOf_12 rfl ?_
  replace HF := bind_ck HF
  obtain ⟨c4, HF⟩ := HF
  refine ev_iald dX12_recordOf_13 c4.1 c4.2 ?_
  by_cases c5 : hI h b2 x2.toNatClampNeg ≤ x3
  · replace HF := ite_T c5 HF
    refine ev_icmp_geT (tgt := 289) dX12_recordOf_14 (by decide) c5 ?_
    obtain rfl := Option.some.inj HF
    exact ev_vret dX12_recordOf_289
  · replace HF := ite_F c5 HF
    refine ev_icmp_geF (tgt := 289) dX12_recordOf_14 (by decide) c5 ?_
    refine ev_aload_n 0 dX12_recordOf_17 rfl ?_
    replace HF := bind_o HF
    obtain ⟨b6, e7, HF⟩ := HF
    refine ev_gS (f := 1352) cl_X12 (k := 52) (by decide) fi_X12_52 rfl fl_X12_123 dX12_recordOf_18 c1 e7 ?_
    refine ev_iload_n 3 dX12_recordOf_21 rfl ?_
    replace HF := bind_ck HF
    obtain ⟨c8, HF⟩ := HF
    refine ev_bald dX12_recordOf_22 c8.1 c8.2 ?_
    by_cases c9 : hI h b6 x3.toNatClampNeg = 0
    · replace HF := ite_T c9 HF
      refine ev_if_eqT (tgt := 289) dX12_recordOf_23 (by decide) c9 ?_
      obtain rfl := Option.some.inj HF
      exact ev_vret dX12_recordOf_289
    · replace HF := ite_F c9 HF
      refine ev_if_eqF (tgt := 289) dX12_recordOf_23 (by decide) c9 ?_
      refine ev_aload_n 0 dX12_recordOf_26 rfl ?_
      replace HF := bind_o HF
      obtain ⟨b10, e11, HF⟩ := HF
      refine ev_gS (f := 1304) cl_X12 (k := 4) (by decide) fi_X12_4 rfl fl_X12_13 dX12_recordOf_27 c1 e11 ?_
      refine ev_iconst (v := 2) dX12_recordOf_30 (by decide) ?_
      refine ev_iload_n 2 dX12_recordOf_31 rfl ?_
      refine ev_imul dX12_recordOf_32 ?_
      refine ev_iload_n 3 dX12_recordOf_33 rfl ?_
      refine ev_iconst (v := 2) dX12_recordOf_34 (by decide) ?_
      show EvG _ _ _ _ _ _ _ _ _ _ _ 35 _ _ _
      refine ev_irem dX12_recordOf_35 (by decide) ?_
      refine ev_iadd dX12_recordOf_36 ?_
      replace HF := bind_ck HF
      obtain ⟨c12, HF⟩ := HF
      refine ev_iald dX12_recordOf_37 c12.1 c12.2 ?_
      replace HF := bd_n HF
      obtain ⟨v13, ev13, HF⟩ := HF
      refine ev_topI ev13 ?_
      refine ev_istore (lv' := [(4, .int v13), (0, .ref t), (1, .int x1), (2, .int x2), (3, .int x3)]) dX12_recordOf_38 (by decide) (rfl) ?_
      refine ev_aload_n 1 dX12_recordOf_40 rfl ?_
      replace HF := bind_o HF
      obtain ⟨b14, e15, HF⟩ := HF
      refine ev_gS (f := 1304) cl_X12 (k := 4) (by decide) fi_X12_4 rfl fl_X12_13 dX12_recordOf_41 c1 e15 ?_
      refine ev_iconst (v := 2) dX12_recordOf_44 (by decide) ?_
      refine ev_iload_n 3 dX12_recordOf_45 rfl ?_
      show EvG _ _ _ _ _ _ _ _ _ _ _ 46 _ _ _
      refine ev_imul dX12_recordOf_46 ?_
      refine ev_iconst (v := 1) dX12_recordOf_47 (by decide) ?_
      refine ev_iadd dX12_recordOf_48 ?_
      refine ev_iload_n 4 dX12_recordOf_49 rfl ?_
      refine ev_iconst (v := 2) dX12_recordOf_50 (by decide) ?_
      refine ev_irem dX12_recordOf_51 (by decide) ?_
      refine ev_isub dX12_recordOf_52 ?_
      replace HF := bind_ck HF
      obtain ⟨c16, HF⟩ := HF
      refine ev_iald dX12_recordOf_53 c16.1 c16.2 ?_
      show EvG _ _ _ _ _ _ _ _ _ _ _ 54 _ _ _
      replace HF := bd_n HF
      obtain ⟨v17, ev17, HF⟩ := HF
      refine ev_topI ev17 ?_
      refine ev_istore (lv' := [(5, .int v17), (4, .int v13), (0, .ref t), (1, .int x1), (2, .int x2), (3, .int x3)]) dX12_recordOf_54 (by decide) (rfl) ?_
      refine ev_iload_n 3 dX12_recordOf_56 rfl ?_
      refine ev_iconst (v := 2) dX12_recordOf_57 (by decide) ?_
      by_cases c18 : x1 = 2
      · replace HF := ite_T c18 HF
        refine ev_icmp_neF (tgt := 92) dX12_recordOf_58 (by decide) c18 ?_
        refine ev_aload_n 2 dX12_recordOf_61 rfl ?_
        replace HF := bind_o HF
        obtain ⟨b19, e20, HF⟩ := HF
        refine ev_gS (f := 1335) cl_X12 (k := 35) (by decide) fi_X12_35 rfl fl_X12_72 dX12_recordOf_62 c1 e20 ?_
        refine ev_iload_n 5 dX12_recordOf_65 rfl ?_
        replace HF := bind_ck HF
        obtain ⟨c21, HF⟩ := HF
        refine ev_iald dX12_recordOf_66 c21.1 c21.2 ?_
        refine ev_aload_n 2 dX12_recordOf_67 rfl ?_
        replace HF := bind_o HF
        obtain ⟨b22, e23, HF⟩ := HF
        refine ev_gS (f := 1367) cl_X12 (k := 67) (by decide) fi_X12_67 rfl fl_X12_163 dX12_recordOf_68 c1 e23 ?_
        refine ev_iconst (v := 0) dX12_recordOf_71 (by decide) ?_
        show EvG _ _ _ _ _ _ _ _ _ _ _ 72 _ _ _
        replace HF := bind_ck HF
        obtain ⟨c24, HF⟩ := HF
        refine ev_iald dX12_recordOf_72 c24.1 c24.2 ?_
        by_cases c25 : hI h b19 x3.toNatClampNeg ≤ hI h b22 (0 : Int32).toNatClampNeg
        · replace HF := ite_T c25 HF
          refine ev_icmp_leT (tgt := 92) dX12_recordOf_73 (by decide) c25 ?_
          exact Ev.sub [2, 3, 4, 5, 1, 0] rfl (lk_X12_recordOf_92 hdd (F_X12_recordOf_7 n) ih t x1 x2 x3 v13 v17 _ HF)
        · replace HF := ite_F c25 HF
          refine ev_icmp_leF (tgt := 92) dX12_recordOf_73 (by decide) c25 ?_
          refine ev_aload_n 2 dX12_recordOf_76 rfl ?_
          refine ev_aload_n 2 dX12_recordOf_77 rfl ?_
          replace HF := bind_o HF
          obtain ⟨b26, e27, HF⟩ := HF
          refine ev_gS (f := 1335) cl_X12 (k := 35) (by decide) fi_X12_35 rfl fl_X12_72 dX12_recordOf_78 c1 e27 ?_
          refine ev_iload_n 5 dX12_recordOf_81 rfl ?_
          replace HF := bind_ck HF
          obtain ⟨c28, HF⟩ := HF
          refine ev_iald dX12_recordOf_82 c28.1 c28.2 ?_
          refine ev_iload_n 4 dX12_recordOf_83 rfl ?_
          refine ev_iload_n 5 dX12_recordOf_84 rfl ?_
          show EvG _ _ _ _ _ _ _ _ _ _ _ 85 _ _ _
          refine ev_iload 1 dX12_recordOf_85 rfl ?_
          refine ev_iconst (v := (-1)) dX12_recordOf_87 (by decide) ?_
          refine ev_iconst (v := 0) dX12_recordOf_88 (by decide) ?_
          replace HF := bind_o HF
          obtain ⟨h30, e29, HF⟩ := HF
          refine ev_callV (As := [.int (hI h b26 x3.toNatClampNeg), .int x2, .int x3, .int v13, .int ((-1)), .int 0]) (R1 := (none, h30)) (lk_X12_better (d := 0) (Nat.le_refl _) c1 e29) ce_X12_better im_X12_better sl_X12_better ml_X12_355 cl_X12 c1 dX12_recordOf_89 (by omega) (Nat.le_of_ble_eq_true rfl) rfl rfl ?_
          show EvG _ _ _ _ _ _ _ _ _ _ _ 92 [(5, .int v17), (4, .int v13), (0, .ref t), (1, .int x1), (2, .int x2), (3, .int x3)] [] h30
          exact Ev.sub [2, 3, 4, 5, 1, 0] rfl (lk_X12_recordOf_92 hdd (F_X12_recordOf_7 n) ih t x1 x2 x3 v13 v17 _ HF)
      · replace HF := ite_F c18 HF
        refine ev_icmp_neT (tgt := 92) dX12_recordOf_58 (by decide) c18 ?_
        exact Ev.sub [2, 3, 4, 5, 1, 0] rfl (lk_X12_recordOf_92 hdd (F_X12_recordOf_7 n) ih t x1 x2 x3 v13 v17 _ HF)

set_option maxRecDepth 20000 in
theorem lk_X12_recordOf {g : aG} {l : Launch} {d : Nat} (hdd : 6 ≤ d) {t : Nat} {x1 : Int32} {x2 : Int32} {h : aH} {r : aH} (hT : hK h t = 14) (HF : F_X12_recordOf t x1 x2 h = some r) : MA g l yX12_recordOf cX12_recordOf 9 (none) d [.ref t, .int x1, .int x2] h (none, r) := by
  refine MA.of (lv0 := [(0, .ref t), (1, .int x1), (2, .int x2)]) (by decide +kernel) (rfl) (Nat.le_of_ble_eq_true rfl) ?_
  unfold F_X12_recordOf at HF
  refine ev_aload_n 0 dX12_recordOf_0 rfl ?_
  refine ev_iload_n 2 dX12_recordOf_1 rfl ?_
  replace HF := bind_o HF
  obtain ⟨h2, e1, HF⟩ := HF
  refine ev_callV (As := [.int x2]) (R1 := (none, h2)) (lk_X12_play (d := 5) (Nat.le_refl _) hT e1) ce_X12_play im_X12_play sl_X12_play ml_X12_300 cl_X12 hT dX12_recordOf_2 (by omega) (Nat.le_of_ble_eq_true rfl) rfl rfl ?_
  show EvG _ _ _ _ _ _ _ _ _ _ _ 5 [(0, .ref t), (1, .int x1), (2, .int x2)] [] h2
  refine ev_iconst (v := 0) dX12_recordOf_5 (by decide) ?_
  refine ev_istore_n (lv' := [(3, .int 0), (0, .ref t), (1, .int x1), (2, .int x2)]) dX12_recordOf_6 (by decide) (rfl) ?_
  exact Ev.sub [1, 2, 3, 0] rfl (lk_X12_recordOf_7 hdd  fu t x1 x2 0 _ HF)

set_option maxRecDepth 20000 in
theorem lk_X12_record_154 {g : aG} {l : Launch} {d : Nat} {h0 : aH} (hdd : 7 ≤ d) {r : Int32 × aH} (k84 : Nat → Int32 → Int32 → Int32 → aH → Option (Int32 × aH)) (hk84 : ∀ (t : Nat) (x1 : Int32) (x2 : Int32) (x3 : Int32) (h : aH), k84 t x1 x2 x3 h = some r → Ev g l cX12_record 5 yX12_record (some .int) d h0 (some (.int r.1), r.2) 84 [(0, .ref t), (1, .int x1), (2, .int x2), (3, .int x3)] [] h) (k100 : Nat → Int32 → Int32 → Int32 → Int32 → aH → Option (Int32 × aH)) (hk100 : ∀ (t : Nat) (x1 : Int32) (x2 : Int32) (x3 : Int32) (x4 : Int32) (h : aH), k100 t x1 x2 x3 x4 h = some r → Ev g l cX12_record 5 yX12_record (some .int) d h0 (some (.int r.1), r.2) 100 [(0, .ref t), (1, .int x1), (2, .int x2), (3, .int x3), (4, .int x4)] [] h) (t : Nat) (x1 : Int32) (x2 : Int32) (x3 : Int32) (x4 : Int32) (h : aH) (HF : F_X12_record_154 k84 k100 t x1 x2 x3 x4 h = some r) : Ev g l cX12_record 5 yX12_record (some .int) d h0 (some (.int r.1), r.2) 154 [(0, .ref t), (1, .int x1), (2, .int x2), (3, .int x3), (4, .int x4)] [] h := by
  unfold F_X12_record_154 at HF
  replace HF := bd_n HF
  obtain ⟨v1, ev1, HF⟩ := HF
  refine ev_iinc (v := v1) (lv' := [(4, .int v1), (0, .ref t), (1, .int x1), (2, .int x2), (3, .int x3)]) 4 dX12_record_154 rfl (by rw [ev1]; rfl) (by decide) (rfl) ?_
  refine ev_goto (tgt := 100) dX12_record_157 (by decide) ?_
  exact Ev.sub [1, 2, 3, 4, 0] rfl (hk100 t x1 x2 x3 v1 _ HF)

set_option maxRecDepth 20000 in
theorem lk_X12_record_100 {g : aG} {l : Launch} {d : Nat} {h0 : aH} (hdd : 7 ≤ d) {r : Int32 × aH} (k84 : Nat → Int32 → Int32 → Int32 → aH → Option (Int32 × aH)) (hk84 : ∀ (t : Nat) (x1 : Int32) (x2 : Int32) (x3 : Int32) (h : aH), k84 t x1 x2 x3 h = some r → Ev g l cX12_record 5 yX12_record (some .int) d h0 (some (.int r.1), r.2) 84 [(0, .ref t), (1, .int x1), (2, .int x2), (3, .int x3)] [] h) : ∀ (n : Nat) (t : Nat) (x1 : Int32) (x2 : Int32) (x3 : Int32) (x4 : Int32) (h : aH), F_X12_record_100 k84 n t x1 x2 x3 x4 h = some r → Ev g l cX12_record 5 yX12_record (some .int) d h0 (some (.int r.1), r.2) 100 [(0, .ref t), (1, .int x1), (2, .int x2), (3, .int x3), (4, .int x4)] [] h := by
  intro n
  induction n with
  | zero => intro t x1 x2 x3 x4 h HF; cases HF
  | succ n ih =>
  intro t x1 x2 x3 x4 h HF
  unfold F_X12_record_100 at HF
  refine ev_iload 4 dX12_record_100 rfl ?_
  refine ev_aload_n 0 dX12_record_102 rfl ?_
  replace HF := bind_ck HF
  obtain ⟨c1, HF⟩ := HF
  replace HF := bind_o HF
  obtain ⟨b2, e3, HF⟩ := HF
  refine ev_gS (f := 1303) cl_X12 (k := 3) (by decide) fi_X12_3 rfl fl_X12_9 dX12_record_103 c1 e3 ?_
  refine ev_iload_n 3 dX12_record_106 rfl ?_
  replace HF := bind_ck HF
  obtain ⟨c4, HF⟩ := HF
  refine ev_iald dX12_record_107 c4.1 c4.2 ?_
  by_cases c5 : hI h b2 x3.toNatClampNeg ≤ x4
  · replace HF := ite_T c5 HF
    refine ev_icmp_geT (tgt := 160) dX12_record_108 (by decide) c5 ?_
    replace HF := bd_n HF
    obtain ⟨v6, ev6, HF⟩ := HF
    refine ev_iinc (v := v6) (lv' := [(3, .int v6), (0, .ref t), (1, .int x1), (2, .int x2), (4, .int x4)]) 3 dX12_record_160 rfl (by rw [ev6]; rfl) (by decide) (rfl) ?_
    refine ev_goto (tgt := 84) dX12_record_163 (by decide) ?_
    exact Ev.sub [1, 2, 3, 0] rfl (hk84 t x1 x2 v6 _ HF)
  · replace HF := ite_F c5 HF
    refine ev_icmp_geF (tgt := 160) dX12_record_108 (by decide) c5 ?_
    refine ev_aload_n 0 dX12_record_111 rfl ?_
    replace HF := bind_o HF
    obtain ⟨b7, e8, HF⟩ := HF
    refine ev_gS (f := 1368) cl_X12 (k := 68) (by decide) fi_X12_68 rfl fl_X12_166 dX12_record_112 c1 e8 ?_
    refine ev_bipush (v := 30) dX12_record_115 (by decide) ?_
    refine ev_iload_n 3 dX12_record_117 rfl ?_
    refine ev_imul dX12_record_118 ?_
    refine ev_iload 4 dX12_record_119 rfl ?_
    refine ev_iadd dX12_record_121 ?_
    show EvG _ _ _ _ _ _ _ _ _ _ _ 122 _ _ _
    replace HF := bind_ck HF
    obtain ⟨c9, HF⟩ := HF
    refine ev_iald dX12_record_122 c9.1 c9.2 ?_
    refine ev_aload_n 0 dX12_record_123 rfl ?_
    replace HF := bind_o HF
    obtain ⟨b10, e11, HF⟩ := HF
    refine ev_gS (f := 1367) cl_X12 (k := 67) (by decide) fi_X12_67 rfl fl_X12_163 dX12_record_124 c1 e11 ?_
    refine ev_iconst (v := 0) dX12_record_127 (by decide) ?_
    replace HF := bind_ck HF
    obtain ⟨c12, HF⟩ := HF
    refine ev_iald dX12_record_128 c12.1 c12.2 ?_
    by_cases c13 : hI h b7 ((30 * x3) + x4).toNatClampNeg ≤ hI h b10 (0 : Int32).toNatClampNeg
    · replace HF := ite_T c13 HF
      refine ev_icmp_leT (tgt := 154) dX12_record_129 (by decide) c13 ?_
      exact Ev.sub [0, 1, 2, 3, 4] rfl (lk_X12_record_154 hdd k84 hk84 (F_X12_record_100 k84 n) ih t x1 x2 x3 x4 _ HF)
    · replace HF := ite_F c13 HF
      refine ev_icmp_leF (tgt := 154) dX12_record_129 (by decide) c13 ?_
      refine ev_aload_n 0 dX12_record_132 rfl ?_
      refine ev_aload_n 0 dX12_record_133 rfl ?_
      replace HF := bind_o HF
      obtain ⟨b14, e15, HF⟩ := HF
      refine ev_gS (f := 1368) cl_X12 (k := 68) (by decide) fi_X12_68 rfl fl_X12_166 dX12_record_134 c1 e15 ?_
      refine ev_bipush (v := 30) dX12_record_137 (by decide) ?_
      refine ev_iload_n 3 dX12_record_139 rfl ?_
      refine ev_imul dX12_record_140 ?_
      refine ev_iload 4 dX12_record_141 rfl ?_
      show EvG _ _ _ _ _ _ _ _ _ _ _ 143 _ _ _
      refine ev_iadd dX12_record_143 ?_
      replace HF := bind_ck HF
      obtain ⟨c16, HF⟩ := HF
      refine ev_iald dX12_record_144 c16.1 c16.2 ?_
      refine ev_iconst (v := (-1)) dX12_record_145 (by decide) ?_
      refine ev_iconst (v := (-1)) dX12_record_146 (by decide) ?_
      refine ev_iload_n 3 dX12_record_147 rfl ?_
      refine ev_iload 4 dX12_record_148 rfl ?_
      refine ev_iconst (v := 0) dX12_record_150 (by decide) ?_
      replace HF := bind_o HF
      obtain ⟨h18, e17, HF⟩ := HF
      refine ev_callV (As := [.int (hI h b14 ((30 * x3) + x4).toNatClampNeg), .int ((-1)), .int ((-1)), .int x3, .int x4, .int 0]) (R1 := (none, h18)) (lk_X12_better (d := 0) (Nat.le_refl _) c1 e17) ce_X12_better im_X12_better sl_X12_better ml_X12_355 cl_X12 c1 dX12_record_151 (by omega) (Nat.le_of_ble_eq_true rfl) rfl rfl ?_
      show EvG _ _ _ _ _ _ _ _ _ _ _ 154 [(0, .ref t), (1, .int x1), (2, .int x2), (3, .int x3), (4, .int x4)] [] h18
      exact Ev.sub [0, 1, 2, 3, 4] rfl (lk_X12_record_154 hdd k84 hk84 (F_X12_record_100 k84 n) ih t x1 x2 x3 x4 _ HF)

set_option maxRecDepth 20000 in
theorem lk_X12_record_84 {g : aG} {l : Launch} {d : Nat} {h0 : aH} (hdd : 7 ≤ d) {r : Int32 × aH} : ∀ (n : Nat) (t : Nat) (x1 : Int32) (x2 : Int32) (x3 : Int32) (h : aH), F_X12_record_84  n t x1 x2 x3 h = some r → Ev g l cX12_record 5 yX12_record (some .int) d h0 (some (.int r.1), r.2) 84 [(0, .ref t), (1, .int x1), (2, .int x2), (3, .int x3)] [] h := by
  intro n
  induction n with
  | zero => intro t x1 x2 x3 h HF; cases HF
  | succ n ih =>
  intro t x1 x2 x3 h HF
  unfold F_X12_record_84 at HF
  refine ev_iload_n 3 dX12_record_84 rfl ?_
  refine ev_aload_n 0 dX12_record_85 rfl ?_
  replace HF := bind_ck HF
  obtain ⟨c1, HF⟩ := HF
  refine ev_gI (f := 1301) cl_X12 (k := 1) (by decide) fi_X12_1 rfl fl_X12_179 dX12_record_86 c1 ?_
  by_cases c2 : hF h 1301 t ≤ x3
  · replace HF := ite_T c2 HF
    refine ev_icmp_geT (tgt := 166) dX12_record_89 (by decide) c2 ?_
    refine ev_aload_n 0 dX12_record_166 rfl ?_
    replace HF := bind_o HF
    obtain ⟨b3, e4, HF⟩ := HF
    refine ev_gS (f := 1367) cl_X12 (k := 67) (by decide) fi_X12_67 rfl fl_X12_163 dX12_record_167 c1 e4 ?_
    refine ev_iload_n 2 dX12_record_170 rfl ?_
    replace HF := bind_ck HF
    obtain ⟨c5, HF⟩ := HF
    refine ev_iald dX12_record_171 c5.1 c5.2 ?_
    obtain rfl := Option.some.inj HF
    exact ev_iret dX12_record_172
  · replace HF := ite_F c2 HF
    refine ev_icmp_geF (tgt := 166) dX12_record_89 (by decide) c2 ?_
    refine ev_iload_n 1 dX12_record_92 rfl ?_
    refine ev_iconst (v := 3) dX12_record_93 (by decide) ?_
    by_cases c6 : x1 = 3
    · replace HF := ite_T c6 HF
      refine ev_icmp_neF (tgt := 166) dX12_record_94 (by decide) c6 ?_
      refine ev_iconst (v := 0) dX12_record_97 (by decide) ?_
      refine ev_istore (lv' := [(4, .int 0), (0, .ref t), (1, .int x1), (2, .int x2), (3, .int x3)]) dX12_record_98 (by decide) (rfl) ?_
      exact Ev.sub [1, 2, 3, 4, 0] rfl (lk_X12_record_100 hdd (F_X12_record_84 n) ih fu t x1 x2 x3 0 _ HF)
    · replace HF := ite_F c6 HF
      refine ev_icmp_neT (tgt := 166) dX12_record_94 (by decide) c6 ?_
      refine ev_aload_n 0 dX12_record_166 rfl ?_
      replace HF := bind_o HF
      obtain ⟨b7, e8, HF⟩ := HF
      refine ev_gS (f := 1367) cl_X12 (k := 67) (by decide) fi_X12_67 rfl fl_X12_163 dX12_record_167 c1 e8 ?_
      refine ev_iload_n 2 dX12_record_170 rfl ?_
      replace HF := bind_ck HF
      obtain ⟨c9, HF⟩ := HF
      refine ev_iald dX12_record_171 c9.1 c9.2 ?_
      obtain rfl := Option.some.inj HF
      exact ev_iret dX12_record_172

set_option maxRecDepth 20000 in
theorem lk_X12_record_62 {g : aG} {l : Launch} {d : Nat} {h0 : aH} (hdd : 7 ≤ d) {r : Int32 × aH} : ∀ (n : Nat) (t : Nat) (x1 : Int32) (x2 : Int32) (x3 : Int32) (h : aH), F_X12_record_62  n t x1 x2 x3 h = some r → Ev g l cX12_record 5 yX12_record (some .int) d h0 (some (.int r.1), r.2) 62 [(0, .ref t), (1, .int x1), (2, .int x2), (3, .int x3)] [] h := by
  intro n
  induction n with
  | zero => intro t x1 x2 x3 h HF; cases HF
  | succ n ih =>
  intro t x1 x2 x3 h HF
  unfold F_X12_record_62 at HF
  refine ev_iload_n 3 dX12_record_62 rfl ?_
  refine ev_aload_n 0 dX12_record_63 rfl ?_
  replace HF := bind_ck HF
  obtain ⟨c1, HF⟩ := HF
  refine ev_gI (f := 1302) cl_X12 (k := 2) (by decide) fi_X12_2 rfl fl_X12_182 dX12_record_64 c1 ?_
  by_cases c2 : hF h 1302 t ≤ x3
  · replace HF := ite_T c2 HF
    refine ev_icmp_geT (tgt := 82) dX12_record_67 (by decide) c2 ?_
    refine ev_iconst (v := 0) dX12_record_82 (by decide) ?_
    refine ev_istore_n (lv' := [(3, .int 0), (0, .ref t), (1, .int x1), (2, .int x2)]) dX12_record_83 (by decide) (rfl) ?_
    exact Ev.sub [1, 2, 3, 0] rfl (lk_X12_record_84 hdd  fu t x1 x2 0 _ HF)
  · replace HF := ite_F c2 HF
    refine ev_icmp_geF (tgt := 82) dX12_record_67 (by decide) c2 ?_
    refine ev_aload_n 0 dX12_record_70 rfl ?_
    refine ev_iload_n 1 dX12_record_71 rfl ?_
    refine ev_iload_n 3 dX12_record_72 rfl ?_
    replace HF := bind_o HF
    obtain ⟨h4, e3, HF⟩ := HF
    refine ev_callV (As := [.int x1, .int x3]) (R1 := (none, h4)) (lk_X12_recordOf (d := 6) (Nat.le_refl _) c1 e3) ce_X12_recordOf im_X12_recordOf sl_X12_recordOf ml_X12_359 cl_X12 c1 dX12_record_73 (by omega) (Nat.le_of_ble_eq_true rfl) rfl rfl ?_
    show EvG _ _ _ _ _ _ _ _ _ _ _ 76 [(0, .ref t), (1, .int x1), (2, .int x2), (3, .int x3)] [] h4
    replace HF := bd_n HF
    obtain ⟨v6, ev6, HF⟩ := HF
    refine ev_iinc (v := v6) (lv' := [(3, .int v6), (0, .ref t), (1, .int x1), (2, .int x2)]) 3 dX12_record_76 rfl (by rw [ev6]; rfl) (by decide) (rfl) ?_
    refine ev_goto (tgt := 62) dX12_record_79 (by decide) ?_
    exact Ev.sub [1, 2, 3, 0] rfl (ih t x1 x2 v6 _ HF)

set_option maxRecDepth 20000 in
theorem lk_X12_record_40 {g : aG} {l : Launch} {d : Nat} {h0 : aH} (hdd : 7 ≤ d) {r : Int32 × aH} : ∀ (n : Nat) (t : Nat) (x1 : Int32) (x2 : Int32) (x3 : Int32) (h : aH), F_X12_record_40  n t x1 x2 x3 h = some r → Ev g l cX12_record 5 yX12_record (some .int) d h0 (some (.int r.1), r.2) 40 [(0, .ref t), (1, .int x1), (2, .int x2), (3, .int x3)] [] h := by
  intro n
  induction n with
  | zero => intro t x1 x2 x3 h HF; cases HF
  | succ n ih =>
  intro t x1 x2 x3 h HF
  unfold F_X12_record_40 at HF
  refine ev_iload_n 3 dX12_record_40 rfl ?_
  refine ev_sipush (v := 1800) dX12_record_41 (by decide) ?_
  by_cases c1 : 1800 ≤ x3
  · replace HF := ite_T c1 HF
    refine ev_icmp_geT (tgt := 60) dX12_record_44 (by decide) c1 ?_
    refine ev_iconst (v := 0) dX12_record_60 (by decide) ?_
    refine ev_istore_n (lv' := [(3, .int 0), (0, .ref t), (1, .int x1), (2, .int x2)]) dX12_record_61 (by decide) (rfl) ?_
    exact Ev.sub [1, 2, 3, 0] rfl (lk_X12_record_62 hdd  fu t x1 x2 0 _ HF)
  · replace HF := ite_F c1 HF
    refine ev_icmp_geF (tgt := 60) dX12_record_44 (by decide) c1 ?_
    refine ev_aload_n 0 dX12_record_47 rfl ?_
    replace HF := bind_ck HF
    obtain ⟨c2, HF⟩ := HF
    replace HF := bind_o HF
    obtain ⟨b3, e4, HF⟩ := HF
    refine ev_gS (f := 1368) cl_X12 (k := 68) (by decide) fi_X12_68 rfl fl_X12_166 dX12_record_48 c2 e4 ?_
    refine ev_iload_n 3 dX12_record_51 rfl ?_
    refine ev_iconst (v := 0) dX12_record_52 (by decide) ?_
    replace HF := bind_ck HF
    obtain ⟨c5, HF⟩ := HF
    refine ev_iast dX12_record_53 c5.1 c5.2 ?_
    replace HF := bd_n HF
    obtain ⟨h6, eh6, HF⟩ := HF
    refine ev_heap eh6 ?_
    have c7 : hK h6 t = 14 := by rw [eh6]; exact c2
    replace HF := bd_n HF
    obtain ⟨v8, ev8, HF⟩ := HF
    refine ev_iinc (v := v8) (lv' := [(3, .int v8), (0, .ref t), (1, .int x1), (2, .int x2)]) 3 dX12_record_54 rfl (by rw [ev8]; rfl) (by decide) (rfl) ?_
    refine ev_goto (tgt := 40) dX12_record_57 (by decide) ?_
    exact Ev.sub [1, 2, 3, 0] rfl (ih t x1 x2 v8 _ HF)

set_option maxRecDepth 20000 in
theorem lk_X12_record_23 {g : aG} {l : Launch} {d : Nat} {h0 : aH} (hdd : 7 ≤ d) {r : Int32 × aH} (t : Nat) (h : aH) (HF : F_X12_record_23  t h = some r) : Ev g l cX12_record 5 yX12_record (some .int) d h0 (some (.int r.1), r.2) 23 [(0, .ref t)] [] h := by
  unfold F_X12_record_23 at HF
  refine ev_aload_n 0 dX12_record_23 rfl ?_
  replace HF := bind_ck HF
  obtain ⟨c1, HF⟩ := HF
  replace HF := bind_o HF
  obtain ⟨⟨z4, h3⟩, e2, HF⟩ := HF
  replace HF := bd_o (bd_o HF)
  dsimp only at HF
  refine ev_callV (As := []) (R1 := (some (.int z4), h3)) (lk_X12_fail (d := 0) (Nat.le_refl _) c1 e2) ce_X12_fail im_X12_fail sl_X12_fail ml_X12_332 cl_X12 c1 dX12_record_24 (by omega) (Nat.le_of_ble_eq_true rfl) rfl rfl ?_
  show EvG _ _ _ _ _ _ _ _ _ _ _ 27 [(0, .ref t)] [.int z4] h3
  obtain rfl := Option.some.inj HF
  exact ev_iret dX12_record_27

set_option maxRecDepth 20000 in
theorem lk_X12_record {g : aG} {l : Launch} {d : Nat} (hdd : 7 ≤ d) {t : Nat} {x1 : Int32} {x2 : Int32} {h : aH} {r : Int32 × aH} (hT : hK h t = 14) (HF : F_X12_record t x1 x2 h = some r) : MA g l yX12_record cX12_record 5 (some .int) d [.ref t, .int x1, .int x2] h (some (.int r.1), r.2) := by
  refine MA.of (lv0 := [(0, .ref t), (1, .int x1), (2, .int x2)]) (by decide +kernel) (rfl) (Nat.le_of_ble_eq_true rfl) ?_
  unfold F_X12_record at HF
  refine ev_aload_n 0 dX12_record_0 rfl ?_
  refine ev_iconst (v := 0) dX12_record_1 (by decide) ?_
  refine ev_pI (f := 1300) cl_X12 (k := 0) (by decide) fi_X12_0 rfl fl_X12_175 rfl rfl rfl dX12_record_2 hT ?_
  replace HF := bd_n HF
  obtain ⟨h1, eh1, HF⟩ := HF
  refine ev_heap eh1 ?_
  have c2 : hK h1 t = 14 := by rw [eh1]; exact hT
  refine ev_iload_n 1 dX12_record_5 rfl ?_
  by_cases c3 : x1 < 0
  · replace HF := ite_T c3 HF
    refine ev_if_ltT (tgt := 23) dX12_record_6 (by decide) c3 ?_
    exact Ev.sub [0] rfl (lk_X12_record_23 hdd  t _ HF)
  · replace HF := ite_F c3 HF
    refine ev_if_ltF (tgt := 23) dX12_record_6 (by decide) c3 ?_
    refine ev_iload_n 1 dX12_record_9 rfl ?_
    refine ev_iconst (v := 3) dX12_record_10 (by decide) ?_
    by_cases c4 : 3 < x1
    · replace HF := ite_T c4 HF
      refine ev_icmp_gtT (tgt := 23) dX12_record_11 (by decide) c4 ?_
      exact Ev.sub [0] rfl (lk_X12_record_23 hdd  t _ HF)
    · replace HF := ite_F c4 HF
      refine ev_icmp_gtF (tgt := 23) dX12_record_11 (by decide) c4 ?_
      refine ev_iload_n 2 dX12_record_14 rfl ?_
      by_cases c5 : x2 < 0
      · replace HF := ite_T c5 HF
        refine ev_if_ltT (tgt := 23) dX12_record_15 (by decide) c5 ?_
        exact Ev.sub [0] rfl (lk_X12_record_23 hdd  t _ HF)
      · replace HF := ite_F c5 HF
        refine ev_if_ltF (tgt := 23) dX12_record_15 (by decide) c5 ?_
        refine ev_iload_n 2 dX12_record_18 rfl ?_
        refine ev_iconst (v := 5) dX12_record_19 (by decide) ?_
        by_cases c6 : x2 ≤ 5
        · replace HF := ite_T c6 HF
          refine ev_icmp_leT (tgt := 28) dX12_record_20 (by decide) c6 ?_
          refine ev_aload_n 0 dX12_record_28 rfl ?_
          refine ev_iconst (v := (-1)) dX12_record_29 (by decide) ?_
          refine ev_iconst (v := (-1)) dX12_record_30 (by decide) ?_
          refine ev_iconst (v := (-1)) dX12_record_31 (by decide) ?_
          refine ev_iconst (v := (-1)) dX12_record_32 (by decide) ?_
          refine ev_iconst (v := (-1)) dX12_record_33 (by decide) ?_
          refine ev_iconst (v := (-1)) dX12_record_34 (by decide) ?_
          show EvG _ _ _ _ _ _ _ _ _ _ _ 35 _ _ _
          replace HF := bind_o HF
          obtain ⟨h8, e7, HF⟩ := HF
          refine ev_callV (As := [.int ((-1)), .int ((-1)), .int ((-1)), .int ((-1)), .int ((-1)), .int ((-1))]) (R1 := (none, h8)) (lk_X12_better (d := 0) (Nat.le_refl _) c2 e7) ce_X12_better im_X12_better sl_X12_better ml_X12_355 cl_X12 c2 dX12_record_35 (by omega) (Nat.le_of_ble_eq_true rfl) rfl rfl ?_
          show EvG _ _ _ _ _ _ _ _ _ _ _ 38 [(0, .ref t), (1, .int x1), (2, .int x2)] [] h8
          refine ev_iconst (v := 0) dX12_record_38 (by decide) ?_
          refine ev_istore_n (lv' := [(3, .int 0), (0, .ref t), (1, .int x1), (2, .int x2)]) dX12_record_39 (by decide) (rfl) ?_
          exact Ev.sub [1, 2, 3, 0] rfl (lk_X12_record_40 hdd  fu t x1 x2 0 _ HF)
        · replace HF := ite_F c6 HF
          refine ev_icmp_leF (tgt := 28) dX12_record_20 (by decide) c6 ?_
          exact Ev.sub [0] rfl (lk_X12_record_23 hdd  t _ HF)

set_option maxRecDepth 20000 in
theorem lk_X12_say_20 {g : aG} {l : Launch} {d : Nat} {h0 : aH} (hdd : 0 ≤ d) {r : aH} (t : Nat) (h : aH) (HF : F_X12_say_20  t h = some r) : Ev g l cX12_say 2 yX12_say (none) d h0 (none, r) 20 [(0, .ref t)] [] h := by
  unfold F_X12_say_20 at HF
  refine ev_aload_n 0 dX12_say_20 rfl ?_
  refine ev_dup dX12_say_21 rfl ?_
  replace HF := bind_ck HF
  obtain ⟨c1, HF⟩ := HF
  refine ev_gI (f := 1318) cl_X12 (k := 18) (by decide) fi_X12_18 rfl fl_X12_362 dX12_say_22 c1 ?_
  refine ev_iconst (v := 1) dX12_say_25 (by decide) ?_
  refine ev_iadd dX12_say_26 ?_
  refine ev_pI (f := 1318) cl_X12 (k := 18) (by decide) fi_X12_18 rfl fl_X12_362 rfl rfl rfl dX12_say_27 c1 ?_
  replace HF := bd_n HF
  obtain ⟨h2, eh2, HF⟩ := HF
  refine ev_heap eh2 ?_
  have c3 : hK h2 t = 14 := by rw [eh2]; exact c1
  obtain rfl := Option.some.inj HF
  exact ev_vret dX12_say_30

set_option maxRecDepth 20000 in
theorem lk_X12_say {g : aG} {l : Launch} {d : Nat} (hdd : 0 ≤ d) {t : Nat} {x1 : Int32} {h : aH} {r : aH} (hT : hK h t = 14) (HF : F_X12_say t x1 h = some r) : MA g l yX12_say cX12_say 2 (none) d [.ref t, .int x1] h (none, r) := by
  refine MA.of (lv0 := [(0, .ref t), (1, .int x1)]) (by decide +kernel) (rfl) (Nat.le_of_ble_eq_true rfl) ?_
  unfold F_X12_say at HF
  refine ev_aload_n 0 dX12_say_0 rfl ?_
  refine ev_gI (f := 1318) cl_X12 (k := 18) (by decide) fi_X12_18 rfl fl_X12_362 dX12_say_1 hT ?_
  refine ev_sipush (v := 8000) dX12_say_4 (by decide) ?_
  by_cases c1 : 8000 ≤ hF h 1318 t
  · replace HF := ite_T c1 HF
    refine ev_icmp_geT (tgt := 20) dX12_say_7 (by decide) c1 ?_
    exact Ev.sub [0] rfl (lk_X12_say_20 hdd  t _ HF)
  · replace HF := ite_F c1 HF
    refine ev_icmp_geF (tgt := 20) dX12_say_7 (by decide) c1 ?_
    refine ev_aload_n 0 dX12_say_10 rfl ?_
    replace HF := bind_o HF
    obtain ⟨b2, e3, HF⟩ := HF
    refine ev_gS (f := 1317) cl_X12 (k := 17) (by decide) fi_X12_17 rfl fl_X12_48 dX12_say_11 hT e3 ?_
    refine ev_aload_n 0 dX12_say_14 rfl ?_
    refine ev_gI (f := 1318) cl_X12 (k := 18) (by decide) fi_X12_18 rfl fl_X12_362 dX12_say_15 hT ?_
    refine ev_iload_n 1 dX12_say_18 rfl ?_
    replace HF := bind_ck HF
    obtain ⟨c4, HF⟩ := HF
    refine ev_iast dX12_say_19 c4.1 c4.2 ?_
    replace HF := bd_n HF
    obtain ⟨h5, eh5, HF⟩ := HF
    refine ev_heap eh5 ?_
    have c6 : hK h5 t = 14 := by rw [eh5]; exact hT
    exact Ev.sub [0] rfl (lk_X12_say_20 hdd  t _ HF)

set_option maxRecDepth 20000 in
theorem lk_X12_image_194 {g : aG} {l : Launch} {d : Nat} {h0 : aH} (hdd : 6 ≤ d) {r : Int32 × aH} (k118 : Nat → Int32 → Int32 → aH → Option (Int32 × aH)) (hk118 : ∀ (t : Nat) (x1 : Int32) (x2 : Int32) (h : aH), k118 t x1 x2 h = some r → Ev g l cX12_image 6 yX12_image (some .int) d h0 (some (.int r.1), r.2) 118 [(0, .ref t), (1, .int x1), (2, .int x2)] [] h) (k144 : Nat → Int32 → Int32 → Int32 → aH → Option (Int32 × aH)) (hk144 : ∀ (t : Nat) (x1 : Int32) (x2 : Int32) (x3 : Int32) (h : aH), k144 t x1 x2 x3 h = some r → Ev g l cX12_image 6 yX12_image (some .int) d h0 (some (.int r.1), r.2) 144 [(0, .ref t), (1, .int x1), (2, .int x2), (3, .int x3)] [] h) : ∀ (n : Nat) (t : Nat) (x1 : Int32) (x2 : Int32) (x3 : Int32) (x4 : Int32) (x5 : Int32) (h : aH), F_X12_image_194 k118 k144 n t x1 x2 x3 x4 x5 h = some r → Ev g l cX12_image 6 yX12_image (some .int) d h0 (some (.int r.1), r.2) 194 [(0, .ref t), (1, .int x1), (2, .int x2), (3, .int x3), (4, .int x4), (5, .int x5)] [] h := by
  intro n
  induction n with
  | zero => intro t x1 x2 x3 x4 x5 h HF; cases HF
  | succ n ih =>
  intro t x1 x2 x3 x4 x5 h HF
  unfold F_X12_image_194 at HF
  refine ev_iload 5 dX12_image_194 rfl ?_
  refine ev_aload_n 0 dX12_image_196 rfl ?_
  replace HF := bind_ck HF
  obtain ⟨c1, HF⟩ := HF
  replace HF := bind_o HF
  obtain ⟨b2, e3, HF⟩ := HF
  refine ev_gS (f := 1313) cl_X12 (k := 13) (by decide) fi_X12_13 rfl fl_X12_38 dX12_image_197 c1 e3 ?_
  refine ev_iload 4 dX12_image_200 rfl ?_
  replace HF := bind_ck HF
  obtain ⟨c4, HF⟩ := HF
  refine ev_iald dX12_image_202 c4.1 c4.2 ?_
  by_cases c5 : hI h b2 x4.toNatClampNeg ≤ x5
  · replace HF := ite_T c5 HF
    refine ev_icmp_geT (tgt := 229) dX12_image_203 (by decide) c5 ?_
    replace HF := bd_n HF
    obtain ⟨v6, ev6, HF⟩ := HF
    refine ev_iinc (v := v6) (lv' := [(3, .int v6), (0, .ref t), (1, .int x1), (2, .int x2), (4, .int x4), (5, .int x5)]) 3 dX12_image_229 rfl (by rw [ev6]; rfl) (by decide) (rfl) ?_
    refine ev_goto (tgt := 144) dX12_image_232 (by decide) ?_
    exact Ev.sub [1, 2, 3, 0] rfl (hk144 t x1 x2 v6 _ HF)
  · replace HF := ite_F c5 HF
    refine ev_icmp_geF (tgt := 229) dX12_image_203 (by decide) c5 ?_
    refine ev_aload_n 0 dX12_image_206 rfl ?_
    refine ev_aload_n 0 dX12_image_207 rfl ?_
    replace HF := bind_o HF
    obtain ⟨b7, e8, HF⟩ := HF
    refine ev_gS (f := 1314) cl_X12 (k := 14) (by decide) fi_X12_14 rfl fl_X12_42 dX12_image_208 c1 e8 ?_
    refine ev_bipush (v := 40) dX12_image_211 (by decide) ?_
    refine ev_iload 4 dX12_image_213 rfl ?_
    refine ev_imul dX12_image_215 ?_
    refine ev_iload 5 dX12_image_216 rfl ?_
    show EvG _ _ _ _ _ _ _ _ _ _ _ 218 _ _ _
    refine ev_iadd dX12_image_218 ?_
    replace HF := bind_ck HF
    obtain ⟨c9, HF⟩ := HF
    refine ev_iald dX12_image_219 c9.1 c9.2 ?_
    replace HF := bind_o HF
    obtain ⟨h11, e10, HF⟩ := HF
    refine ev_callV (As := [.int (hI h b7 ((40 * x4) + x5).toNatClampNeg)]) (R1 := (none, h11)) (lk_X12_say (d := 0) (Nat.le_refl _) c1 e10) ce_X12_say im_X12_say sl_X12_say ml_X12_365 cl_X12 c1 dX12_image_220 (by omega) (Nat.le_of_ble_eq_true rfl) rfl rfl ?_
    show EvG _ _ _ _ _ _ _ _ _ _ _ 223 [(0, .ref t), (1, .int x1), (2, .int x2), (3, .int x3), (4, .int x4), (5, .int x5)] [] h11
    replace HF := bd_n HF
    obtain ⟨v13, ev13, HF⟩ := HF
    refine ev_iinc (v := v13) (lv' := [(5, .int v13), (0, .ref t), (1, .int x1), (2, .int x2), (3, .int x3), (4, .int x4)]) 5 dX12_image_223 rfl (by rw [ev13]; rfl) (by decide) (rfl) ?_
    refine ev_goto (tgt := 194) dX12_image_226 (by decide) ?_
    exact Ev.sub [1, 2, 3, 4, 5, 0] rfl (ih t x1 x2 x3 x4 v13 _ HF)

set_option maxRecDepth 20000 in
theorem lk_X12_image_144 {g : aG} {l : Launch} {d : Nat} {h0 : aH} (hdd : 6 ≤ d) {r : Int32 × aH} (k118 : Nat → Int32 → Int32 → aH → Option (Int32 × aH)) (hk118 : ∀ (t : Nat) (x1 : Int32) (x2 : Int32) (h : aH), k118 t x1 x2 h = some r → Ev g l cX12_image 6 yX12_image (some .int) d h0 (some (.int r.1), r.2) 118 [(0, .ref t), (1, .int x1), (2, .int x2)] [] h) : ∀ (n : Nat) (t : Nat) (x1 : Int32) (x2 : Int32) (x3 : Int32) (h : aH), F_X12_image_144 k118 n t x1 x2 x3 h = some r → Ev g l cX12_image 6 yX12_image (some .int) d h0 (some (.int r.1), r.2) 144 [(0, .ref t), (1, .int x1), (2, .int x2), (3, .int x3)] [] h := by
  intro n
  induction n with
  | zero => intro t x1 x2 x3 h HF; cases HF
  | succ n ih =>
  intro t x1 x2 x3 h HF
  unfold F_X12_image_144 at HF
  refine ev_iload_n 3 dX12_image_144 rfl ?_
  refine ev_aload_n 0 dX12_image_145 rfl ?_
  replace HF := bind_ck HF
  obtain ⟨c1, HF⟩ := HF
  replace HF := bind_o HF
  obtain ⟨b2, e3, HF⟩ := HF
  refine ev_gS (f := 1309) cl_X12 (k := 9) (by decide) fi_X12_9 rfl fl_X12_28 dX12_image_146 c1 e3 ?_
  refine ev_iconst (v := 4) dX12_image_149 (by decide) ?_
  refine ev_iload_n 1 dX12_image_150 rfl ?_
  refine ev_imul dX12_image_151 ?_
  refine ev_iload_n 2 dX12_image_152 rfl ?_
  show EvG _ _ _ _ _ _ _ _ _ _ _ 153 _ _ _
  refine ev_iadd dX12_image_153 ?_
  replace HF := bind_ck HF
  obtain ⟨c4, HF⟩ := HF
  refine ev_iald dX12_image_154 c4.1 c4.2 ?_
  by_cases c5 : hI h b2 ((4 * x1) + x2).toNatClampNeg ≤ x3
  · replace HF := ite_T c5 HF
    refine ev_icmp_geT (tgt := 235) dX12_image_155 (by decide) c5 ?_
    refine ev_aload_n 0 dX12_image_235 rfl ?_
    refine ev_aload_n 0 dX12_image_236 rfl ?_
    replace HF := bind_o HF
    obtain ⟨b6, e7, HF⟩ := HF
    refine ev_gS (f := 1335) cl_X12 (k := 35) (by decide) fi_X12_35 rfl fl_X12_72 dX12_image_237 c1 e7 ?_
    refine ev_iload_n 2 dX12_image_240 rfl ?_
    replace HF := bind_ck HF
    obtain ⟨c8, HF⟩ := HF
    refine ev_iald dX12_image_241 c8.1 c8.2 ?_
    refine ev_sipush (v := 256) dX12_image_242 (by decide) ?_
    refine ev_idiv dX12_image_245 (by decide) ?_
    show EvG _ _ _ _ _ _ _ _ _ _ _ 246 _ _ _
    refine ev_sipush (v := 256) dX12_image_246 (by decide) ?_
    refine ev_irem dX12_image_249 (by decide) ?_
    replace HF := bind_o HF
    obtain ⟨h10, e9, HF⟩ := HF
    refine ev_callV (As := [.int (((hI h b6 x2.toNatClampNeg) / 256) - ((hI h b6 x2.toNatClampNeg) / 256) / 256 * 256)]) (R1 := (none, h10)) (lk_X12_say (d := 0) (Nat.le_refl _) c1 e9) ce_X12_say im_X12_say sl_X12_say ml_X12_365 cl_X12 c1 dX12_image_250 (by omega) (Nat.le_of_ble_eq_true rfl) rfl rfl ?_
    show EvG _ _ _ _ _ _ _ _ _ _ _ 253 [(0, .ref t), (1, .int x1), (2, .int x2), (3, .int x3)] [] h10
    refine ev_aload_n 0 dX12_image_253 rfl ?_
    refine ev_aload_n 0 dX12_image_254 rfl ?_
    replace HF := bind_ck HF
    obtain ⟨c12, HF⟩ := HF
    replace HF := bind_o HF
    obtain ⟨b13, e14, HF⟩ := HF
    refine ev_gS (f := 1335) cl_X12 (k := 35) (by decide) fi_X12_35 rfl fl_X12_72 dX12_image_255 c12 e14 ?_
    refine ev_iload_n 2 dX12_image_258 rfl ?_
    replace HF := bind_ck HF
    obtain ⟨c15, HF⟩ := HF
    refine ev_iald dX12_image_259 c15.1 c15.2 ?_
    show EvG _ _ _ _ _ _ _ _ _ _ _ 260 _ _ _
    refine ev_sipush (v := 256) dX12_image_260 (by decide) ?_
    refine ev_irem dX12_image_263 (by decide) ?_
    replace HF := bind_o HF
    obtain ⟨h17, e16, HF⟩ := HF
    refine ev_callV (As := [.int ((hI h10 b13 x2.toNatClampNeg) - (hI h10 b13 x2.toNatClampNeg) / 256 * 256)]) (R1 := (none, h17)) (lk_X12_say (d := 0) (Nat.le_refl _) c12 e16) ce_X12_say im_X12_say sl_X12_say ml_X12_365 cl_X12 c12 dX12_image_264 (by omega) (Nat.le_of_ble_eq_true rfl) rfl rfl ?_
    show EvG _ _ _ _ _ _ _ _ _ _ _ 267 [(0, .ref t), (1, .int x1), (2, .int x2), (3, .int x3)] [] h17
    replace HF := bd_n HF
    obtain ⟨v19, ev19, HF⟩ := HF
    refine ev_iinc (v := v19) (lv' := [(2, .int v19), (0, .ref t), (1, .int x1), (3, .int x3)]) 2 dX12_image_267 rfl (by rw [ev19]; rfl) (by decide) (rfl) ?_
    refine ev_goto (tgt := 118) dX12_image_270 (by decide) ?_
    exact Ev.sub [1, 2, 0] rfl (hk118 t x1 v19 _ HF)
  · replace HF := ite_F c5 HF
    refine ev_icmp_geF (tgt := 235) dX12_image_155 (by decide) c5 ?_
    refine ev_aload_n 0 dX12_image_158 rfl ?_
    refine ev_iload_n 1 dX12_image_159 rfl ?_
    refine ev_iload_n 2 dX12_image_160 rfl ?_
    refine ev_iload_n 3 dX12_image_161 rfl ?_
    replace HF := bind_o HF
    obtain ⟨⟨z22, h21⟩, e20, HF⟩ := HF
    replace HF := bd_o (bd_o HF)
    dsimp only at HF
    refine ev_callV (As := [.int x1, .int x2, .int x3]) (R1 := (some (.int z22), h21)) (lk_X12_rowOf (d := 0) (Nat.le_refl _) c1 e20) ce_X12_rowOf im_X12_rowOf sl_X12_rowOf ml_X12_228 cl_X12 c1 dX12_image_162 (by omega) (Nat.le_of_ble_eq_true rfl) rfl rfl ?_
    show EvG _ _ _ _ _ _ _ _ _ _ _ 165 [(0, .ref t), (1, .int x1), (2, .int x2), (3, .int x3)] [.int z22] h21
    refine ev_istore (lv' := [(4, .int z22), (0, .ref t), (1, .int x1), (2, .int x2), (3, .int x3)]) dX12_image_165 (by decide) (rfl) ?_
    refine ev_aload_n 1 dX12_image_167 rfl ?_
    show EvG _ _ _ _ _ _ _ _ _ _ _ 168 _ _ _
    refine ev_aload_n 1 dX12_image_168 rfl ?_
    replace HF := bind_ck HF
    obtain ⟨c24, HF⟩ := HF
    replace HF := bind_o HF
    obtain ⟨b25, e26, HF⟩ := HF
    refine ev_gS (f := 1312) cl_X12 (k := 12) (by decide) fi_X12_12 rfl fl_X12_35 dX12_image_169 c24 e26 ?_
    refine ev_iload 0 dX12_image_172 rfl ?_
    replace HF := bind_ck HF
    obtain ⟨c27, HF⟩ := HF
    refine ev_iald dX12_image_174 c27.1 c27.2 ?_
    replace HF := bind_o HF
    obtain ⟨h29, e28, HF⟩ := HF
    refine ev_callV (As := [.int (hI h21 b25 z22.toNatClampNeg)]) (R1 := (none, h29)) (lk_X12_say (d := 0) (Nat.le_refl _) c24 e28) ce_X12_say im_X12_say sl_X12_say ml_X12_365 cl_X12 c24 dX12_image_175 (by omega) (Nat.le_of_ble_eq_true rfl) rfl rfl ?_
    show EvG _ _ _ _ _ _ _ _ _ _ _ 178 [(4, .int z22), (0, .ref t), (1, .int x1), (2, .int x2), (3, .int x3)] [] h29
    refine ev_aload_n 1 dX12_image_178 rfl ?_
    refine ev_aload_n 1 dX12_image_179 rfl ?_
    replace HF := bind_ck HF
    obtain ⟨c31, HF⟩ := HF
    replace HF := bind_o HF
    obtain ⟨b32, e33, HF⟩ := HF
    refine ev_gS (f := 1313) cl_X12 (k := 13) (by decide) fi_X12_13 rfl fl_X12_38 dX12_image_180 c31 e33 ?_
    show EvG _ _ _ _ _ _ _ _ _ _ _ 183 _ _ _
    refine ev_iload 0 dX12_image_183 rfl ?_
    replace HF := bind_ck HF
    obtain ⟨c34, HF⟩ := HF
    refine ev_iald dX12_image_185 c34.1 c34.2 ?_
    refine ev_iconst (v := 1) dX12_image_186 (by decide) ?_
    refine ev_iadd dX12_image_187 ?_
    replace HF := bind_o HF
    obtain ⟨h36, e35, HF⟩ := HF
    refine ev_callV (As := [.int ((hI h29 b32 z22.toNatClampNeg) + 1)]) (R1 := (none, h36)) (lk_X12_say (d := 0) (Nat.le_refl _) c31 e35) ce_X12_say im_X12_say sl_X12_say ml_X12_365 cl_X12 c31 dX12_image_188 (by omega) (Nat.le_of_ble_eq_true rfl) rfl rfl ?_
    show EvG _ _ _ _ _ _ _ _ _ _ _ 191 [(4, .int z22), (0, .ref t), (1, .int x1), (2, .int x2), (3, .int x3)] [] h36
    refine ev_iconst (v := 0) dX12_image_191 (by decide) ?_
    refine ev_istore (lv' := [(5, .int 0), (4, .int z22), (0, .ref t), (1, .int x1), (2, .int x2), (3, .int x3)]) dX12_image_192 (by decide) (rfl) ?_
    exact Ev.sub [2, 3, 4, 5, 1, 0] rfl (lk_X12_image_194 hdd k118 hk118 (F_X12_image_144 k118 n) ih fu t x1 x2 x3 z22 0 _ HF)

set_option maxRecDepth 20000 in
theorem lk_X12_image_118 {g : aG} {l : Launch} {d : Nat} {h0 : aH} (hdd : 6 ≤ d) {r : Int32 × aH} : ∀ (n : Nat) (t : Nat) (x1 : Int32) (x2 : Int32) (h : aH), F_X12_image_118  n t x1 x2 h = some r → Ev g l cX12_image 6 yX12_image (some .int) d h0 (some (.int r.1), r.2) 118 [(0, .ref t), (1, .int x1), (2, .int x2)] [] h := by
  intro n
  induction n with
  | zero => intro t x1 x2 h HF; cases HF
  | succ n ih =>
  intro t x1 x2 h HF
  unfold F_X12_image_118 at HF
  refine ev_iload_n 2 dX12_image_118 rfl ?_
  refine ev_aload_n 0 dX12_image_119 rfl ?_
  replace HF := bind_ck HF
  obtain ⟨c1, HF⟩ := HF
  replace HF := bind_o HF
  obtain ⟨b2, e3, HF⟩ := HF
  refine ev_gS (f := 1308) cl_X12 (k := 8) (by decide) fi_X12_8 rfl fl_X12_25 dX12_image_120 c1 e3 ?_
  refine ev_iload_n 1 dX12_image_123 rfl ?_
  replace HF := bind_ck HF
  obtain ⟨c4, HF⟩ := HF
  refine ev_iald dX12_image_124 c4.1 c4.2 ?_
  by_cases c5 : hI h b2 x1.toNatClampNeg ≤ x2
  · replace HF := ite_T c5 HF
    refine ev_icmp_geT (tgt := 273) dX12_image_125 (by decide) c5 ?_
    refine ev_aload_n 0 dX12_image_273 rfl ?_
    refine ev_gI (f := 1318) cl_X12 (k := 18) (by decide) fi_X12_18 rfl fl_X12_362 dX12_image_274 c1 ?_
    refine ev_sipush (v := 8000) dX12_image_277 (by decide) ?_
    by_cases c6 : hF h 1318 t ≤ 8000
    · replace HF := ite_T c6 HF
      refine ev_icmp_leT (tgt := 290) dX12_image_280 (by decide) c6 ?_
      refine ev_aload_n 0 dX12_image_290 rfl ?_
      refine ev_gI (f := 1318) cl_X12 (k := 18) (by decide) fi_X12_18 rfl fl_X12_362 dX12_image_291 c1 ?_
      obtain rfl := Option.some.inj HF
      exact ev_iret dX12_image_294
    · replace HF := ite_F c6 HF
      refine ev_icmp_leF (tgt := 290) dX12_image_280 (by decide) c6 ?_
      refine ev_aload_n 0 dX12_image_283 rfl ?_
      refine ev_iconst (v := 0) dX12_image_284 (by decide) ?_
      refine ev_pI (f := 1318) cl_X12 (k := 18) (by decide) fi_X12_18 rfl fl_X12_362 rfl rfl rfl dX12_image_285 c1 ?_
      replace HF := bd_n HF
      obtain ⟨h7, eh7, HF⟩ := HF
      refine ev_heap eh7 ?_
      have c8 : hK h7 t = 14 := by rw [eh7]; exact c1
      refine ev_iconst (v := (-1)) dX12_image_288 (by decide) ?_
      obtain rfl := Option.some.inj HF
      exact ev_iret dX12_image_289
  · replace HF := ite_F c5 HF
    refine ev_icmp_geF (tgt := 273) dX12_image_125 (by decide) c5 ?_
    refine ev_aload_n 0 dX12_image_128 rfl ?_
    refine ev_aload_n 0 dX12_image_129 rfl ?_
    replace HF := bind_o HF
    obtain ⟨b9, e10, HF⟩ := HF
    refine ev_gS (f := 1309) cl_X12 (k := 9) (by decide) fi_X12_9 rfl fl_X12_28 dX12_image_130 c1 e10 ?_
    refine ev_iconst (v := 4) dX12_image_133 (by decide) ?_
    refine ev_iload_n 1 dX12_image_134 rfl ?_
    refine ev_imul dX12_image_135 ?_
    refine ev_iload_n 2 dX12_image_136 rfl ?_
    show EvG _ _ _ _ _ _ _ _ _ _ _ 137 _ _ _
    refine ev_iadd dX12_image_137 ?_
    replace HF := bind_ck HF
    obtain ⟨c11, HF⟩ := HF
    refine ev_iald dX12_image_138 c11.1 c11.2 ?_
    replace HF := bind_o HF
    obtain ⟨h13, e12, HF⟩ := HF
    refine ev_callV (As := [.int (hI h b9 ((4 * x1) + x2).toNatClampNeg)]) (R1 := (none, h13)) (lk_X12_say (d := 0) (Nat.le_refl _) c1 e12) ce_X12_say im_X12_say sl_X12_say ml_X12_365 cl_X12 c1 dX12_image_139 (by omega) (Nat.le_of_ble_eq_true rfl) rfl rfl ?_
    show EvG _ _ _ _ _ _ _ _ _ _ _ 142 [(0, .ref t), (1, .int x1), (2, .int x2)] [] h13
    refine ev_iconst (v := 0) dX12_image_142 (by decide) ?_
    refine ev_istore_n (lv' := [(3, .int 0), (0, .ref t), (1, .int x1), (2, .int x2)]) dX12_image_143 (by decide) (rfl) ?_
    exact Ev.sub [1, 2, 3, 0] rfl (lk_X12_image_144 hdd (F_X12_image_118 n) ih fu t x1 x2 0 _ HF)

set_option maxRecDepth 20000 in
theorem lk_X12_image_79 {g : aG} {l : Launch} {d : Nat} {h0 : aH} (hdd : 6 ≤ d) {r : Int32 × aH} : ∀ (n : Nat) (t : Nat) (x1 : Int32) (x2 : Int32) (h : aH), F_X12_image_79  n t x1 x2 h = some r → Ev g l cX12_image 6 yX12_image (some .int) d h0 (some (.int r.1), r.2) 79 [(0, .ref t), (1, .int x1), (2, .int x2)] [] h := by
  intro n
  induction n with
  | zero => intro t x1 x2 h HF; cases HF
  | succ n ih =>
  intro t x1 x2 h HF
  unfold F_X12_image_79 at HF
  refine ev_iload_n 2 dX12_image_79 rfl ?_
  refine ev_bipush (v := 22) dX12_image_80 (by decide) ?_
  by_cases c1 : 22 ≤ x2
  · replace HF := ite_T c1 HF
    refine ev_icmp_geT (tgt := 106) dX12_image_82 (by decide) c1 ?_
    refine ev_aload_n 0 dX12_image_106 rfl ?_
    refine ev_aload_n 0 dX12_image_107 rfl ?_
    replace HF := bind_ck HF
    obtain ⟨c2, HF⟩ := HF
    replace HF := bind_o HF
    obtain ⟨b3, e4, HF⟩ := HF
    refine ev_gS (f := 1308) cl_X12 (k := 8) (by decide) fi_X12_8 rfl fl_X12_25 dX12_image_108 c2 e4 ?_
    refine ev_iload_n 1 dX12_image_111 rfl ?_
    replace HF := bind_ck HF
    obtain ⟨c5, HF⟩ := HF
    refine ev_iald dX12_image_112 c5.1 c5.2 ?_
    replace HF := bind_o HF
    obtain ⟨h7, e6, HF⟩ := HF
    refine ev_callV (As := [.int (hI h b3 x1.toNatClampNeg)]) (R1 := (none, h7)) (lk_X12_say (d := 0) (Nat.le_refl _) c2 e6) ce_X12_say im_X12_say sl_X12_say ml_X12_365 cl_X12 c2 dX12_image_113 (by omega) (Nat.le_of_ble_eq_true rfl) rfl rfl ?_
    show EvG _ _ _ _ _ _ _ _ _ _ _ 116 [(0, .ref t), (1, .int x1), (2, .int x2)] [] h7
    refine ev_iconst (v := 0) dX12_image_116 (by decide) ?_
    show EvG _ _ _ _ _ _ _ _ _ _ _ 117 _ _ _
    refine ev_istore_n (lv' := [(2, .int 0), (0, .ref t), (1, .int x1)]) dX12_image_117 (by decide) (rfl) ?_
    exact Ev.sub [1, 2, 0] rfl (lk_X12_image_118 hdd  fu t x1 0 _ HF)
  · replace HF := ite_F c1 HF
    refine ev_icmp_geF (tgt := 106) dX12_image_82 (by decide) c1 ?_
    refine ev_aload_n 0 dX12_image_85 rfl ?_
    refine ev_aload_n 0 dX12_image_86 rfl ?_
    replace HF := bind_ck HF
    obtain ⟨c9, HF⟩ := HF
    replace HF := bind_o HF
    obtain ⟨b10, e11, HF⟩ := HF
    refine ev_gS (f := 1307) cl_X12 (k := 7) (by decide) fi_X12_7 rfl fl_X12_22 dX12_image_87 c9 e11 ?_
    refine ev_bipush (v := 22) dX12_image_90 (by decide) ?_
    refine ev_iload_n 1 dX12_image_92 rfl ?_
    refine ev_imul dX12_image_93 ?_
    refine ev_iload_n 2 dX12_image_94 rfl ?_
    show EvG _ _ _ _ _ _ _ _ _ _ _ 95 _ _ _
    refine ev_iadd dX12_image_95 ?_
    replace HF := bind_ck HF
    obtain ⟨c12, HF⟩ := HF
    refine ev_iald dX12_image_96 c12.1 c12.2 ?_
    replace HF := bind_o HF
    obtain ⟨h14, e13, HF⟩ := HF
    refine ev_callV (As := [.int (hI h b10 ((22 * x1) + x2).toNatClampNeg)]) (R1 := (none, h14)) (lk_X12_say (d := 0) (Nat.le_refl _) c9 e13) ce_X12_say im_X12_say sl_X12_say ml_X12_365 cl_X12 c9 dX12_image_97 (by omega) (Nat.le_of_ble_eq_true rfl) rfl rfl ?_
    show EvG _ _ _ _ _ _ _ _ _ _ _ 100 [(0, .ref t), (1, .int x1), (2, .int x2)] [] h14
    replace HF := bd_n HF
    obtain ⟨v16, ev16, HF⟩ := HF
    refine ev_iinc (v := v16) (lv' := [(2, .int v16), (0, .ref t), (1, .int x1)]) 2 dX12_image_100 rfl (by rw [ev16]; rfl) (by decide) (rfl) ?_
    refine ev_goto (tgt := 79) dX12_image_103 (by decide) ?_
    exact Ev.sub [1, 2, 0] rfl (ih t x1 v16 _ HF)

set_option maxRecDepth 20000 in
theorem lk_X12_image {g : aG} {l : Launch} {d : Nat} (hdd : 6 ≤ d) {t : Nat} {x1 : Int32} {h : aH} {r : Int32 × aH} (hT : hK h t = 14) (HF : F_X12_image t x1 h = some r) : MA g l yX12_image cX12_image 6 (some .int) d [.ref t, .int x1] h (some (.int r.1), r.2) := by
  refine MA.of (lv0 := [(0, .ref t), (1, .int x1)]) (by decide +kernel) (rfl) (Nat.le_of_ble_eq_true rfl) ?_
  unfold F_X12_image at HF
  refine ev_aload_n 0 dX12_image_0 rfl ?_
  refine ev_iconst (v := 0) dX12_image_1 (by decide) ?_
  refine ev_pI (f := 1300) cl_X12 (k := 0) (by decide) fi_X12_0 rfl fl_X12_175 rfl rfl rfl dX12_image_2 hT ?_
  replace HF := bd_n HF
  obtain ⟨h1, eh1, HF⟩ := HF
  refine ev_heap eh1 ?_
  have c2 : hK h1 t = 14 := by rw [eh1]; exact hT
  refine ev_aload_n 0 dX12_image_5 rfl ?_
  refine ev_iload_n 1 dX12_image_6 rfl ?_
  replace HF := bind_o HF
  obtain ⟨⟨z5, h4⟩, e3, HF⟩ := HF
  replace HF := bd_o (bd_o HF)
  dsimp only at HF
  refine ev_callV (As := [.int x1]) (R1 := (some (.int z5), h4)) (lk_X12_isGame (d := 0) (Nat.le_refl _) c2 e3) ce_X12_isGame im_X12_isGame sl_X12_isGame ml_X12_193 cl_X12 c2 dX12_image_7 (by omega) (Nat.le_of_ble_eq_true rfl) rfl rfl ?_
  show EvG _ _ _ _ _ _ _ _ _ _ _ 10 [(0, .ref t), (1, .int x1)] [.int z5] h4
  by_cases c7 : z5 = 0
  · replace HF := ite_T c7 HF
    refine ev_if_neF (tgt := 15) dX12_image_10 (by decide) c7 ?_
    refine ev_iconst (v := (-1)) dX12_image_13 (by decide) ?_
    obtain rfl := Option.some.inj HF
    exact ev_iret dX12_image_14
  · replace HF := ite_F c7 HF
    refine ev_if_neT (tgt := 15) dX12_image_10 (by decide) c7 ?_
    refine ev_aload_n 0 dX12_image_15 rfl ?_
    refine ev_iload_n 1 dX12_image_16 rfl ?_
    replace HF := bind_ck HF
    obtain ⟨c8, HF⟩ := HF
    replace HF := bind_o HF
    obtain ⟨h10, e9, HF⟩ := HF
    refine ev_callV (As := [.int x1]) (R1 := (none, h10)) (lk_X12_play (d := 5) (Nat.le_refl _) c8 e9) ce_X12_play im_X12_play sl_X12_play ml_X12_300 cl_X12 c8 dX12_image_17 (by omega) (Nat.le_of_ble_eq_true rfl) rfl rfl ?_
    show EvG _ _ _ _ _ _ _ _ _ _ _ 20 [(0, .ref t), (1, .int x1)] [] h10
    refine ev_aload_n 0 dX12_image_20 rfl ?_
    refine ev_iconst (v := 0) dX12_image_21 (by decide) ?_
    replace HF := bind_ck HF
    obtain ⟨c12, HF⟩ := HF
    refine ev_pI (f := 1318) cl_X12 (k := 18) (by decide) fi_X12_18 rfl fl_X12_362 rfl rfl rfl dX12_image_22 c12 ?_
    replace HF := bd_n HF
    obtain ⟨h13, eh13, HF⟩ := HF
    refine ev_heap eh13 ?_
    have c14 : hK h13 t = 14 := by rw [eh13]; exact c12
    refine ev_aload_n 0 dX12_image_25 rfl ?_
    show EvG _ _ _ _ _ _ _ _ _ _ _ 26 _ _ _
    refine ev_bipush (v := 66) dX12_image_26 (by decide) ?_
    replace HF := bind_o HF
    obtain ⟨h16, e15, HF⟩ := HF
    refine ev_callV (As := [.int 66]) (R1 := (none, h16)) (lk_X12_say (d := 0) (Nat.le_refl _) c14 e15) ce_X12_say im_X12_say sl_X12_say ml_X12_365 cl_X12 c14 dX12_image_28 (by omega) (Nat.le_of_ble_eq_true rfl) rfl rfl ?_
    show EvG _ _ _ _ _ _ _ _ _ _ _ 31 [(0, .ref t), (1, .int x1)] [] h16
    refine ev_aload_n 0 dX12_image_31 rfl ?_
    refine ev_aload_n 0 dX12_image_32 rfl ?_
    replace HF := bind_ck HF
    obtain ⟨c18, HF⟩ := HF
    replace HF := bind_o HF
    obtain ⟨b19, e20, HF⟩ := HF
    refine ev_gS (f := 1304) cl_X12 (k := 4) (by decide) fi_X12_4 rfl fl_X12_13 dX12_image_33 c18 e20 ?_
    refine ev_iconst (v := 2) dX12_image_36 (by decide) ?_
    refine ev_iload_n 1 dX12_image_37 rfl ?_
    refine ev_imul dX12_image_38 ?_
    show EvG _ _ _ _ _ _ _ _ _ _ _ 39 _ _ _
    replace HF := bind_ck HF
    obtain ⟨c21, HF⟩ := HF
    refine ev_iald dX12_image_39 c21.1 c21.2 ?_
    replace HF := bind_o HF
    obtain ⟨h23, e22, HF⟩ := HF
    refine ev_callV (As := [.int (hI h16 b19 (2 * x1).toNatClampNeg)]) (R1 := (none, h23)) (lk_X12_say (d := 0) (Nat.le_refl _) c18 e22) ce_X12_say im_X12_say sl_X12_say ml_X12_365 cl_X12 c18 dX12_image_40 (by omega) (Nat.le_of_ble_eq_true rfl) rfl rfl ?_
    show EvG _ _ _ _ _ _ _ _ _ _ _ 43 [(0, .ref t), (1, .int x1)] [] h23
    refine ev_aload_n 0 dX12_image_43 rfl ?_
    refine ev_aload_n 0 dX12_image_44 rfl ?_
    replace HF := bind_ck HF
    obtain ⟨c25, HF⟩ := HF
    replace HF := bind_o HF
    obtain ⟨b26, e27, HF⟩ := HF
    refine ev_gS (f := 1304) cl_X12 (k := 4) (by decide) fi_X12_4 rfl fl_X12_13 dX12_image_45 c25 e27 ?_
    refine ev_iconst (v := 2) dX12_image_48 (by decide) ?_
    refine ev_iload_n 1 dX12_image_49 rfl ?_
    refine ev_imul dX12_image_50 ?_
    show EvG _ _ _ _ _ _ _ _ _ _ _ 51 _ _ _
    refine ev_iconst (v := 1) dX12_image_51 (by decide) ?_
    refine ev_iadd dX12_image_52 ?_
    replace HF := bind_ck HF
    obtain ⟨c28, HF⟩ := HF
    refine ev_iald dX12_image_53 c28.1 c28.2 ?_
    replace HF := bind_o HF
    obtain ⟨h30, e29, HF⟩ := HF
    refine ev_callV (As := [.int (hI h23 b26 ((2 * x1) + 1).toNatClampNeg)]) (R1 := (none, h30)) (lk_X12_say (d := 0) (Nat.le_refl _) c25 e29) ce_X12_say im_X12_say sl_X12_say ml_X12_365 cl_X12 c25 dX12_image_54 (by omega) (Nat.le_of_ble_eq_true rfl) rfl rfl ?_
    show EvG _ _ _ _ _ _ _ _ _ _ _ 57 [(0, .ref t), (1, .int x1)] [] h30
    refine ev_aload_n 0 dX12_image_57 rfl ?_
    refine ev_aload_n 0 dX12_image_58 rfl ?_
    replace HF := bind_ck HF
    obtain ⟨c32, HF⟩ := HF
    replace HF := bind_o HF
    obtain ⟨b33, e34, HF⟩ := HF
    refine ev_gS (f := 1305) cl_X12 (k := 5) (by decide) fi_X12_5 rfl fl_X12_16 dX12_image_59 c32 e34 ?_
    refine ev_iload_n 1 dX12_image_62 rfl ?_
    show EvG _ _ _ _ _ _ _ _ _ _ _ 63 _ _ _
    replace HF := bind_ck HF
    obtain ⟨c35, HF⟩ := HF
    refine ev_iald dX12_image_63 c35.1 c35.2 ?_
    replace HF := bind_o HF
    obtain ⟨h37, e36, HF⟩ := HF
    refine ev_callV (As := [.int (hI h30 b33 x1.toNatClampNeg)]) (R1 := (none, h37)) (lk_X12_say (d := 0) (Nat.le_refl _) c32 e36) ce_X12_say im_X12_say sl_X12_say ml_X12_365 cl_X12 c32 dX12_image_64 (by omega) (Nat.le_of_ble_eq_true rfl) rfl rfl ?_
    show EvG _ _ _ _ _ _ _ _ _ _ _ 67 [(0, .ref t), (1, .int x1)] [] h37
    refine ev_aload_n 0 dX12_image_67 rfl ?_
    refine ev_aload_n 0 dX12_image_68 rfl ?_
    replace HF := bind_ck HF
    obtain ⟨c39, HF⟩ := HF
    replace HF := bind_o HF
    obtain ⟨b40, e41, HF⟩ := HF
    refine ev_gS (f := 1306) cl_X12 (k := 6) (by decide) fi_X12_6 rfl fl_X12_19 dX12_image_69 c39 e41 ?_
    refine ev_iload_n 1 dX12_image_72 rfl ?_
    replace HF := bind_ck HF
    obtain ⟨c42, HF⟩ := HF
    refine ev_iald dX12_image_73 c42.1 c42.2 ?_
    replace HF := bind_o HF
    obtain ⟨h44, e43, HF⟩ := HF
    refine ev_callV (As := [.int (hI h37 b40 x1.toNatClampNeg)]) (R1 := (none, h44)) (lk_X12_say (d := 0) (Nat.le_refl _) c39 e43) ce_X12_say im_X12_say sl_X12_say ml_X12_365 cl_X12 c39 dX12_image_74 (by omega) (Nat.le_of_ble_eq_true rfl) rfl rfl ?_
    show EvG _ _ _ _ _ _ _ _ _ _ _ 77 [(0, .ref t), (1, .int x1)] [] h44
    show EvG _ _ _ _ _ _ _ _ _ _ _ 77 _ _ _
    refine ev_iconst (v := 0) dX12_image_77 (by decide) ?_
    refine ev_istore_n (lv' := [(2, .int 0), (0, .ref t), (1, .int x1)]) dX12_image_78 (by decide) (rfl) ?_
    exact Ev.sub [1, 2, 0] rfl (lk_X12_image_79 hdd  fu t x1 0 _ HF)

set_option maxRecDepth 20000 in
theorem lk_X12_told_17 {g : aG} {l : Launch} {d : Nat} {h0 : aH} (hdd : 1 ≤ d) {r : Int32 × aH} (t : Nat) (h : aH) (HF : F_X12_told_17  t h = some r) : Ev g l cX12_told 2 yX12_told (some .int) d h0 (some (.int r.1), r.2) 17 [(0, .ref t)] [] h := by
  unfold F_X12_told_17 at HF
  refine ev_aload_n 0 dX12_told_17 rfl ?_
  replace HF := bind_ck HF
  obtain ⟨c1, HF⟩ := HF
  replace HF := bind_o HF
  obtain ⟨⟨z4, h3⟩, e2, HF⟩ := HF
  replace HF := bd_o (bd_o HF)
  dsimp only at HF
  refine ev_callV (As := []) (R1 := (some (.int z4), h3)) (lk_X12_fail (d := 0) (Nat.le_refl _) c1 e2) ce_X12_fail im_X12_fail sl_X12_fail ml_X12_332 cl_X12 c1 dX12_told_18 (by omega) (Nat.le_of_ble_eq_true rfl) rfl rfl ?_
  show EvG _ _ _ _ _ _ _ _ _ _ _ 21 [(0, .ref t)] [.int z4] h3
  obtain rfl := Option.some.inj HF
  exact ev_iret dX12_told_21

set_option maxRecDepth 20000 in
theorem lk_X12_told {g : aG} {l : Launch} {d : Nat} (hdd : 1 ≤ d) {t : Nat} {x1 : Int32} {h : aH} {r : Int32 × aH} (hT : hK h t = 14) (HF : F_X12_told t x1 h = some r) : MA g l yX12_told cX12_told 2 (some .int) d [.ref t, .int x1] h (some (.int r.1), r.2) := by
  refine MA.of (lv0 := [(0, .ref t), (1, .int x1)]) (by decide +kernel) (rfl) (Nat.le_of_ble_eq_true rfl) ?_
  unfold F_X12_told at HF
  refine ev_aload_n 0 dX12_told_0 rfl ?_
  refine ev_iconst (v := 0) dX12_told_1 (by decide) ?_
  refine ev_pI (f := 1300) cl_X12 (k := 0) (by decide) fi_X12_0 rfl fl_X12_175 rfl rfl rfl dX12_told_2 hT ?_
  replace HF := bd_n HF
  obtain ⟨h1, eh1, HF⟩ := HF
  refine ev_heap eh1 ?_
  have c2 : hK h1 t = 14 := by rw [eh1]; exact hT
  refine ev_iload_n 1 dX12_told_5 rfl ?_
  by_cases c3 : x1 < 0
  · replace HF := ite_T c3 HF
    refine ev_if_ltT (tgt := 17) dX12_told_6 (by decide) c3 ?_
    exact Ev.sub [0] rfl (lk_X12_told_17 hdd  t _ HF)
  · replace HF := ite_F c3 HF
    refine ev_if_ltF (tgt := 17) dX12_told_6 (by decide) c3 ?_
    refine ev_iload_n 1 dX12_told_9 rfl ?_
    refine ev_aload_n 0 dX12_told_10 rfl ?_
    refine ev_gI (f := 1318) cl_X12 (k := 18) (by decide) fi_X12_18 rfl fl_X12_362 dX12_told_11 c2 ?_
    by_cases c4 : x1 < hF h1 1318 t
    · replace HF := ite_T c4 HF
      refine ev_icmp_ltT (tgt := 22) dX12_told_14 (by decide) c4 ?_
      refine ev_aload_n 0 dX12_told_22 rfl ?_
      replace HF := bind_o HF
      obtain ⟨b5, e6, HF⟩ := HF
      refine ev_gS (f := 1317) cl_X12 (k := 17) (by decide) fi_X12_17 rfl fl_X12_48 dX12_told_23 c2 e6 ?_
      refine ev_iload_n 1 dX12_told_26 rfl ?_
      replace HF := bind_ck HF
      obtain ⟨c7, HF⟩ := HF
      refine ev_iald dX12_told_27 c7.1 c7.2 ?_
      obtain rfl := Option.some.inj HF
      exact ev_iret dX12_told_28
    · replace HF := ite_F c4 HF
      refine ev_icmp_ltF (tgt := 22) dX12_told_14 (by decide) c4 ?_
      exact Ev.sub [0] rfl (lk_X12_told_17 hdd  t _ HF)

set_option maxRecDepth 20000 in
theorem lk_X12_read_46 {g : aG} {l : Launch} {d : Nat} {h0 : aH} (hdd : 0 ≤ d) {r : Int32 × aH} (t : Nat) (x1 : Int32) (h : aH) (HF : F_X12_read_46  t x1 h = some r) : Ev g l cX12_read 3 yX12_read (some .int) d h0 (some (.int r.1), r.2) 46 [(0, .ref t), (1, .int x1)] [] h := by
  unfold F_X12_read_46 at HF
  refine ev_aload_n 0 dX12_read_46 rfl ?_
  refine ev_iconst (v := 1) dX12_read_47 (by decide) ?_
  replace HF := bind_ck HF
  obtain ⟨c1, HF⟩ := HF
  refine ev_pI (f := 1369) cl_X12 (k := 69) (by decide) fi_X12_69 rfl fl_X12_368 rfl rfl rfl dX12_read_48 c1 ?_
  replace HF := bd_n HF
  obtain ⟨h2, eh2, HF⟩ := HF
  refine ev_heap eh2 ?_
  have c3 : hK h2 t = 14 := by rw [eh2]; exact c1
  refine ev_iload_n 1 dX12_read_51 rfl ?_
  obtain rfl := Option.some.inj HF
  exact ev_iret dX12_read_52

set_option maxRecDepth 20000 in
theorem lk_X12_read {g : aG} {l : Launch} {d : Nat} (hdd : 0 ≤ d) {t : Nat} {x1 : Int32} {x2 : Int32} {h : aH} {r : Int32 × aH} (hT : hK h t = 14) (HF : F_X12_read t x1 x2 h = some r) : MA g l yX12_read cX12_read 3 (some .int) d [.ref t, .int x1, .int x2] h (some (.int r.1), r.2) := by
  refine MA.of (lv0 := [(0, .ref t), (1, .int x1), (2, .int x2)]) (by decide +kernel) (rfl) (Nat.le_of_ble_eq_true rfl) ?_
  unfold F_X12_read at HF
  refine ev_aload_n 0 dX12_read_0 rfl ?_
  refine ev_gI (f := 1369) cl_X12 (k := 69) (by decide) fi_X12_69 rfl fl_X12_368 dX12_read_1 hT ?_
  by_cases c1 : hF h 1369 t = 0
  · replace HF := ite_T c1 HF
    refine ev_if_eqT (tgt := 9) dX12_read_4 (by decide) c1 ?_
    refine ev_aload_n 0 dX12_read_9 rfl ?_
    refine ev_gI (f := 1365) cl_X12 (k := 65) (by decide) fi_X12_65 rfl fl_X12_372 dX12_read_10 hT ?_
    refine ev_aload_n 0 dX12_read_13 rfl ?_
    refine ev_gI (f := 1366) cl_X12 (k := 66) (by decide) fi_X12_66 rfl fl_X12_375 dX12_read_14 hT ?_
    by_cases c2 : hF h 1365 t = hF h 1366 t
    · replace HF := ite_T c2 HF
      refine ev_icmp_eqT (tgt := 46) dX12_read_17 (by decide) c2 ?_
      exact Ev.sub [0, 1] rfl (lk_X12_read_46 hdd  t x1 _ HF)
    · replace HF := ite_F c2 HF
      refine ev_icmp_eqF (tgt := 46) dX12_read_17 (by decide) c2 ?_
      refine ev_aload_n 0 dX12_read_20 rfl ?_
      replace HF := bind_o HF
      obtain ⟨b3, e4, HF⟩ := HF
      refine ev_gS (f := 1315) cl_X12 (k := 15) (by decide) fi_X12_15 rfl fl_X12_45 dX12_read_21 hT e4 ?_
      refine ev_aload_n 0 dX12_read_24 rfl ?_
      refine ev_gI (f := 1365) cl_X12 (k := 65) (by decide) fi_X12_65 rfl fl_X12_372 dX12_read_25 hT ?_
      replace HF := bind_ck HF
      obtain ⟨c5, HF⟩ := HF
      refine ev_iald dX12_read_28 c5.1 c5.2 ?_
      refine ev_iload_n 1 dX12_read_29 rfl ?_
      by_cases c6 : hI h b3 (hF h 1365 t).toNatClampNeg < x1
      · replace HF := ite_T c6 HF
        refine ev_icmp_ltT (tgt := 46) dX12_read_30 (by decide) c6 ?_
        exact Ev.sub [0, 1] rfl (lk_X12_read_46 hdd  t x1 _ HF)
      · replace HF := ite_F c6 HF
        refine ev_icmp_ltF (tgt := 46) dX12_read_30 (by decide) c6 ?_
        refine ev_aload_n 0 dX12_read_33 rfl ?_
        replace HF := bind_o HF
        obtain ⟨b7, e8, HF⟩ := HF
        refine ev_gS (f := 1315) cl_X12 (k := 15) (by decide) fi_X12_15 rfl fl_X12_45 dX12_read_34 hT e8 ?_
        refine ev_aload_n 0 dX12_read_37 rfl ?_
        refine ev_gI (f := 1365) cl_X12 (k := 65) (by decide) fi_X12_65 rfl fl_X12_372 dX12_read_38 hT ?_
        replace HF := bind_ck HF
        obtain ⟨c9, HF⟩ := HF
        refine ev_iald dX12_read_41 c9.1 c9.2 ?_
        refine ev_iload_n 2 dX12_read_42 rfl ?_
        by_cases c10 : hI h b7 (hF h 1365 t).toNatClampNeg ≤ x2
        · replace HF := ite_T c10 HF
          refine ev_icmp_leT (tgt := 53) dX12_read_43 (by decide) c10 ?_
          refine ev_aload_n 0 dX12_read_53 rfl ?_
          refine ev_dup dX12_read_54 rfl ?_
          refine ev_gI (f := 1365) cl_X12 (k := 65) (by decide) fi_X12_65 rfl fl_X12_372 dX12_read_55 hT ?_
          refine ev_iconst (v := 1) dX12_read_58 (by decide) ?_
          refine ev_iadd dX12_read_59 ?_
          refine ev_pI (f := 1365) cl_X12 (k := 65) (by decide) fi_X12_65 rfl fl_X12_372 rfl rfl rfl dX12_read_60 hT ?_
          replace HF := bd_n HF
          obtain ⟨h11, eh11, HF⟩ := HF
          refine ev_heap eh11 ?_
          have c12 : hK h11 t = 14 := by rw [eh11]; exact hT
          refine ev_aload_n 0 dX12_read_63 rfl ?_
          show EvG _ _ _ _ _ _ _ _ _ _ _ 64 _ _ _
          replace HF := bind_o HF
          obtain ⟨b13, e14, HF⟩ := HF
          refine ev_gS (f := 1315) cl_X12 (k := 15) (by decide) fi_X12_15 rfl fl_X12_45 dX12_read_64 c12 e14 ?_
          refine ev_aload_n 0 dX12_read_67 rfl ?_
          refine ev_gI (f := 1365) cl_X12 (k := 65) (by decide) fi_X12_65 rfl fl_X12_372 dX12_read_68 c12 ?_
          refine ev_iconst (v := 1) dX12_read_71 (by decide) ?_
          refine ev_isub dX12_read_72 ?_
          replace HF := bind_ck HF
          obtain ⟨c15, HF⟩ := HF
          refine ev_iald dX12_read_73 c15.1 c15.2 ?_
          obtain rfl := Option.some.inj HF
          exact ev_iret dX12_read_74
        · replace HF := ite_F c10 HF
          refine ev_icmp_leF (tgt := 53) dX12_read_43 (by decide) c10 ?_
          exact Ev.sub [0, 1] rfl (lk_X12_read_46 hdd  t x1 _ HF)
  · replace HF := ite_F c1 HF
    refine ev_if_eqF (tgt := 9) dX12_read_4 (by decide) c1 ?_
    refine ev_iload_n 1 dX12_read_7 rfl ?_
    obtain rfl := Option.some.inj HF
    exact ev_iret dX12_read_8

set_option maxRecDepth 20000 in
theorem lk_X12_readPlayer_85 {g : aG} {l : Launch} {d : Nat} {h0 : aH} (hdd : 1 ≤ d) {r : aH} (t : Nat) (x1 : Int32) (x2 : Int32) (x3 : Int32) (h : aH) (HF : F_X12_readPlayer_85  t x1 x2 x3 h = some r) : Ev g l cX12_readPlayer 5 yX12_readPlayer (none) d h0 (none, r) 85 [(0, .ref t), (1, .int x1), (2, .int x2), (3, .int x3)] [] h := by
  unfold F_X12_readPlayer_85 at HF
  refine ev_aload_n 0 dX12_readPlayer_85 rfl ?_
  replace HF := bind_ck HF
  obtain ⟨c1, HF⟩ := HF
  replace HF := bind_o HF
  obtain ⟨b2, e3, HF⟩ := HF
  refine ev_gS (f := 1307) cl_X12 (k := 7) (by decide) fi_X12_7 rfl fl_X12_22 dX12_readPlayer_86 c1 e3 ?_
  refine ev_bipush (v := 22) dX12_readPlayer_89 (by decide) ?_
  refine ev_iload_n 1 dX12_readPlayer_91 rfl ?_
  refine ev_imul dX12_readPlayer_92 ?_
  refine ev_iload_n 2 dX12_readPlayer_93 rfl ?_
  refine ev_iadd dX12_readPlayer_94 ?_
  show EvG _ _ _ _ _ _ _ _ _ _ _ 95 _ _ _
  refine ev_iload_n 3 dX12_readPlayer_95 rfl ?_
  replace HF := bind_ck HF
  obtain ⟨c4, HF⟩ := HF
  refine ev_iast dX12_readPlayer_96 c4.1 c4.2 ?_
  replace HF := bd_n HF
  obtain ⟨h5, eh5, HF⟩ := HF
  refine ev_heap eh5 ?_
  have c6 : hK h5 t = 14 := by rw [eh5]; exact c1
  obtain rfl := Option.some.inj HF
  exact ev_vret dX12_readPlayer_97

set_option maxRecDepth 20000 in
theorem lk_X12_readPlayer_79 {g : aG} {l : Launch} {d : Nat} {h0 : aH} (hdd : 1 ≤ d) {r : aH} (k35 : Nat → Int32 → Int32 → Int32 → Int32 → aH → Option (aH)) (hk35 : ∀ (t : Nat) (x1 : Int32) (x2 : Int32) (x3 : Int32) (x4 : Int32) (h : aH), k35 t x1 x2 x3 x4 h = some r → Ev g l cX12_readPlayer 5 yX12_readPlayer (none) d h0 (none, r) 35 [(0, .ref t), (1, .int x1), (2, .int x2), (3, .int x3), (4, .int x4)] [] h) (t : Nat) (x1 : Int32) (x2 : Int32) (x3 : Int32) (x4 : Int32) (h : aH) (HF : F_X12_readPlayer_79 k35 t x1 x2 x3 x4 h = some r) : Ev g l cX12_readPlayer 5 yX12_readPlayer (none) d h0 (none, r) 79 [(0, .ref t), (1, .int x1), (2, .int x2), (3, .int x3), (4, .int x4)] [] h := by
  unfold F_X12_readPlayer_79 at HF
  replace HF := bd_n HF
  obtain ⟨v1, ev1, HF⟩ := HF
  refine ev_iinc (v := v1) (lv' := [(4, .int v1), (0, .ref t), (1, .int x1), (2, .int x2), (3, .int x3)]) 4 dX12_readPlayer_79 rfl (by rw [ev1]; rfl) (by decide) (rfl) ?_
  refine ev_goto (tgt := 35) dX12_readPlayer_82 (by decide) ?_
  exact Ev.sub [1, 2, 3, 4, 0] rfl (hk35 t x1 x2 x3 v1 _ HF)

set_option maxRecDepth 20000 in
theorem lk_X12_readPlayer_35 {g : aG} {l : Launch} {d : Nat} {h0 : aH} (hdd : 1 ≤ d) {r : aH} : ∀ (n : Nat) (t : Nat) (x1 : Int32) (x2 : Int32) (x3 : Int32) (x4 : Int32) (h : aH), F_X12_readPlayer_35  n t x1 x2 x3 x4 h = some r → Ev g l cX12_readPlayer 5 yX12_readPlayer (none) d h0 (none, r) 35 [(0, .ref t), (1, .int x1), (2, .int x2), (3, .int x3), (4, .int x4)] [] h := by
  intro n
  induction n with
  | zero => intro t x1 x2 x3 x4 h HF; cases HF
  | succ n ih =>
  intro t x1 x2 x3 x4 h HF
  unfold F_X12_readPlayer_35 at HF
  refine ev_iload 4 dX12_readPlayer_35 rfl ?_
  refine ev_iload_n 2 dX12_readPlayer_37 rfl ?_
  by_cases c1 : x2 ≤ x4
  · replace HF := ite_T c1 HF
    refine ev_icmp_geT (tgt := 85) dX12_readPlayer_38 (by decide) c1 ?_
    exact Ev.sub [0, 1, 2, 3] rfl (lk_X12_readPlayer_85 hdd  t x1 x2 x3 _ HF)
  · replace HF := ite_F c1 HF
    refine ev_icmp_geF (tgt := 85) dX12_readPlayer_38 (by decide) c1 ?_
    refine ev_aload_n 0 dX12_readPlayer_41 rfl ?_
    replace HF := bind_ck HF
    obtain ⟨c2, HF⟩ := HF
    refine ev_gI (f := 1369) cl_X12 (k := 69) (by decide) fi_X12_69 rfl fl_X12_368 dX12_readPlayer_42 c2 ?_
    by_cases c3 : hF h 1369 t = 0
    · replace HF := ite_T c3 HF
      refine ev_if_neF (tgt := 85) dX12_readPlayer_45 (by decide) c3 ?_
      refine ev_aload_n 0 dX12_readPlayer_48 rfl ?_
      replace HF := bind_o HF
      obtain ⟨b4, e5, HF⟩ := HF
      refine ev_gS (f := 1307) cl_X12 (k := 7) (by decide) fi_X12_7 rfl fl_X12_22 dX12_readPlayer_49 c2 e5 ?_
      refine ev_bipush (v := 22) dX12_readPlayer_52 (by decide) ?_
      refine ev_iload_n 1 dX12_readPlayer_54 rfl ?_
      refine ev_imul dX12_readPlayer_55 ?_
      refine ev_iload 4 dX12_readPlayer_56 rfl ?_
      refine ev_iadd dX12_readPlayer_58 ?_
      show EvG _ _ _ _ _ _ _ _ _ _ _ 59 _ _ _
      replace HF := bind_ck HF
      obtain ⟨c6, HF⟩ := HF
      refine ev_iald dX12_readPlayer_59 c6.1 c6.2 ?_
      refine ev_iload_n 3 dX12_readPlayer_60 rfl ?_
      by_cases c7 : hI h b4 ((22 * x1) + x4).toNatClampNeg = x3
      · replace HF := ite_T c7 HF
        refine ev_icmp_neF (tgt := 79) dX12_readPlayer_61 (by decide) c7 ?_
        refine ev_aload_n 0 dX12_readPlayer_64 rfl ?_
        refine ev_iconst (v := 1) dX12_readPlayer_65 (by decide) ?_
        refine ev_pI (f := 1369) cl_X12 (k := 69) (by decide) fi_X12_69 rfl fl_X12_368 rfl rfl rfl dX12_readPlayer_66 c2 ?_
        replace HF := bd_n HF
        obtain ⟨h8, eh8, HF⟩ := HF
        refine ev_heap eh8 ?_
        have c9 : hK h8 t = 14 := by rw [eh8]; exact c2
        refine ev_aload_n 0 dX12_readPlayer_69 rfl ?_
        refine ev_dup dX12_readPlayer_70 rfl ?_
        refine ev_gI (f := 1365) cl_X12 (k := 65) (by decide) fi_X12_65 rfl fl_X12_372 dX12_readPlayer_71 c9 ?_
        refine ev_iconst (v := 1) dX12_readPlayer_74 (by decide) ?_
        show EvG _ _ _ _ _ _ _ _ _ _ _ 75 _ _ _
        refine ev_isub dX12_readPlayer_75 ?_
        refine ev_pI (f := 1365) cl_X12 (k := 65) (by decide) fi_X12_65 rfl fl_X12_372 rfl rfl rfl dX12_readPlayer_76 c9 ?_
        replace HF := bd_n HF
        obtain ⟨h10, eh10, HF⟩ := HF
        refine ev_heap eh10 ?_
        have c11 : hK h10 t = 14 := by rw [eh10]; exact c9
        exact Ev.sub [0, 1, 2, 3, 4] rfl (lk_X12_readPlayer_79 hdd (F_X12_readPlayer_35 n) ih t x1 x2 x3 x4 _ HF)
      · replace HF := ite_F c7 HF
        refine ev_icmp_neT (tgt := 79) dX12_readPlayer_61 (by decide) c7 ?_
        exact Ev.sub [0, 1, 2, 3, 4] rfl (lk_X12_readPlayer_79 hdd (F_X12_readPlayer_35 n) ih t x1 x2 x3 x4 _ HF)
    · replace HF := ite_F c3 HF
      refine ev_if_neT (tgt := 85) dX12_readPlayer_45 (by decide) c3 ?_
      exact Ev.sub [0, 1, 2, 3] rfl (lk_X12_readPlayer_85 hdd  t x1 x2 x3 _ HF)

set_option maxRecDepth 20000 in
theorem lk_X12_readPlayer {g : aG} {l : Launch} {d : Nat} (hdd : 1 ≤ d) {t : Nat} {x1 : Int32} {x2 : Int32} {h : aH} {r : aH} (hT : hK h t = 14) (HF : F_X12_readPlayer t x1 x2 h = some r) : MA g l yX12_readPlayer cX12_readPlayer 5 (none) d [.ref t, .int x1, .int x2] h (none, r) := by
  refine MA.of (lv0 := [(0, .ref t), (1, .int x1), (2, .int x2)]) (by decide +kernel) (rfl) (Nat.le_of_ble_eq_true rfl) ?_
  unfold F_X12_readPlayer at HF
  refine ev_aload_n 0 dX12_readPlayer_0 rfl ?_
  refine ev_iconst (v := 0) dX12_readPlayer_1 (by decide) ?_
  refine ev_aload_n 0 dX12_readPlayer_2 rfl ?_
  replace HF := bind_o HF
  obtain ⟨b1, e2, HF⟩ := HF
  refine ev_gS (f := 1303) cl_X12 (k := 3) (by decide) fi_X12_3 rfl fl_X12_9 dX12_readPlayer_3 hT e2 ?_
  refine ev_aload_n 0 dX12_readPlayer_6 rfl ?_
  replace HF := bind_o HF
  obtain ⟨b3, e4, HF⟩ := HF
  refine ev_gS (f := 1304) cl_X12 (k := 4) (by decide) fi_X12_4 rfl fl_X12_13 dX12_readPlayer_7 hT e4 ?_
  refine ev_iconst (v := 2) dX12_readPlayer_10 (by decide) ?_
  show EvG _ _ _ _ _ _ _ _ _ _ _ 11 _ _ _
  refine ev_iload_n 1 dX12_readPlayer_11 rfl ?_
  refine ev_imul dX12_readPlayer_12 ?_
  refine ev_iload_n 2 dX12_readPlayer_13 rfl ?_
  refine ev_bipush (v := 11) dX12_readPlayer_14 (by decide) ?_
  refine ev_idiv dX12_readPlayer_16 (by decide) ?_
  refine ev_iadd dX12_readPlayer_17 ?_
  replace HF := bind_ck HF
  obtain ⟨c5, HF⟩ := HF
  refine ev_iald dX12_readPlayer_18 c5.1 c5.2 ?_
  replace HF := bind_ck HF
  obtain ⟨c6, HF⟩ := HF
  refine ev_iald dX12_readPlayer_19 c6.1 c6.2 ?_
  show EvG _ _ _ _ _ _ _ _ _ _ _ 20 _ _ _
  refine ev_iconst (v := 1) dX12_readPlayer_20 (by decide) ?_
  refine ev_isub dX12_readPlayer_21 ?_
  replace HF := bind_o HF
  obtain ⟨⟨z9, h8⟩, e7, HF⟩ := HF
  replace HF := bd_o (bd_o HF)
  dsimp only at HF
  refine ev_callV (As := [.int 0, .int ((hI h b1 (hI h b3 ((2 * x1) + (x2 / 11)).toNatClampNeg).toNatClampNeg) - 1)]) (R1 := (some (.int z9), h8)) (lk_X12_read (d := 0) (Nat.le_refl _) hT e7) ce_X12_read im_X12_read sl_X12_read ml_X12_378 cl_X12 hT dX12_readPlayer_22 (by omega) (Nat.le_of_ble_eq_true rfl) rfl rfl ?_
  show EvG _ _ _ _ _ _ _ _ _ _ _ 25 [(0, .ref t), (1, .int x1), (2, .int x2)] [.int z9] h8
  refine ev_istore_n (lv' := [(3, .int z9), (0, .ref t), (1, .int x1), (2, .int x2)]) dX12_readPlayer_25 (by decide) (rfl) ?_
  refine ev_iload_n 3 dX12_readPlayer_26 rfl ?_
  refine ev_bipush (v := 11) dX12_readPlayer_27 (by decide) ?_
  refine ev_idiv dX12_readPlayer_29 (by decide) ?_
  refine ev_bipush (v := 11) dX12_readPlayer_30 (by decide) ?_
  show EvG _ _ _ _ _ _ _ _ _ _ _ 32 _ _ _
  refine ev_imul dX12_readPlayer_32 ?_
  replace HF := bd_n HF
  obtain ⟨v11, ev11, HF⟩ := HF
  refine ev_topI ev11 ?_
  refine ev_istore (lv' := [(4, .int v11), (3, .int z9), (0, .ref t), (1, .int x1), (2, .int x2)]) dX12_readPlayer_33 (by decide) (rfl) ?_
  exact Ev.sub [2, 3, 4, 1, 0] rfl (lk_X12_readPlayer_35 hdd  fu t x1 x2 z9 v11 _ HF)

set_option maxRecDepth 20000 in
theorem lk_X12_readTurn_155 {g : aG} {l : Launch} {d : Nat} {h0 : aH} (hdd : 1 ≤ d) {r : aH} (t : Nat) (x2 : Int32) (h : aH) (HF : F_X12_readTurn_155  t x2 h = some r) : Ev g l cX12_readTurn 8 yX12_readTurn (none) d h0 (none, r) 155 [(0, .ref t), (2, .int x2)] [] h := by
  unfold F_X12_readTurn_155 at HF
  refine ev_aload_n 0 dX12_readTurn_155 rfl ?_
  replace HF := bind_ck HF
  obtain ⟨c1, HF⟩ := HF
  replace HF := bind_o HF
  obtain ⟨b2, e3, HF⟩ := HF
  refine ev_gS (f := 1370) cl_X12 (k := 70) (by decide) fi_X12_70 rfl fl_X12_169 dX12_readTurn_156 c1 e3 ?_
  refine ev_iload_n 1 dX12_readTurn_159 rfl ?_
  refine ev_sipush (v := 256) dX12_readTurn_160 (by decide) ?_
  refine ev_aload_n 0 dX12_readTurn_163 rfl ?_
  refine ev_iconst (v := 0) dX12_readTurn_164 (by decide) ?_
  refine ev_sipush (v := 255) dX12_readTurn_165 (by decide) ?_
  show EvG _ _ _ _ _ _ _ _ _ _ _ 168 _ _ _
  replace HF := bind_o HF
  obtain ⟨⟨z6, h5⟩, e4, HF⟩ := HF
  replace HF := bd_o (bd_o HF)
  dsimp only at HF
  refine ev_callV (As := [.int 0, .int 255]) (R1 := (some (.int z6), h5)) (lk_X12_read (d := 0) (Nat.le_refl _) c1 e4) ce_X12_read im_X12_read sl_X12_read ml_X12_378 cl_X12 c1 dX12_readTurn_168 (by omega) (Nat.le_of_ble_eq_true rfl) rfl rfl ?_
  show EvG _ _ _ _ _ _ _ _ _ _ _ 171 [(0, .ref t), (2, .int x2)] [.int z6, .int 256, .int x2, .ref b2] h5
  refine ev_imul dX12_readTurn_171 ?_
  refine ev_aload_n 0 dX12_readTurn_172 rfl ?_
  refine ev_iconst (v := 0) dX12_readTurn_173 (by decide) ?_
  refine ev_sipush (v := 255) dX12_readTurn_174 (by decide) ?_
  replace HF := bind_ck HF
  obtain ⟨c8, HF⟩ := HF
  replace HF := bind_o HF
  obtain ⟨⟨z11, h10⟩, e9, HF⟩ := HF
  replace HF := bd_o (bd_o HF)
  dsimp only at HF
  refine ev_callV (As := [.int 0, .int 255]) (R1 := (some (.int z11), h10)) (lk_X12_read (d := 0) (Nat.le_refl _) c8 e9) ce_X12_read im_X12_read sl_X12_read ml_X12_378 cl_X12 c8 dX12_readTurn_177 (by omega) (Nat.le_of_ble_eq_true rfl) rfl rfl ?_
  show EvG _ _ _ _ _ _ _ _ _ _ _ 180 [(0, .ref t), (2, .int x2)] [.int z11, .int (256 * z6), .int x2, .ref b2] h10
  refine ev_iadd dX12_readTurn_180 ?_
  replace HF := bind_ck HF
  obtain ⟨c13, HF⟩ := HF
  refine ev_iast dX12_readTurn_181 c13.1 c13.2 ?_
  replace HF := bd_n HF
  obtain ⟨h14, eh14, HF⟩ := HF
  refine ev_heap eh14 ?_
  show EvG _ _ _ _ _ _ _ _ _ _ _ 182 _ _ _
  obtain rfl := Option.some.inj HF
  exact ev_vret dX12_readTurn_182

set_option maxRecDepth 20000 in
theorem lk_X12_readTurn_116 {g : aG} {l : Launch} {d : Nat} {h0 : aH} (hdd : 1 ≤ d) {r : aH} (k23 : Nat → Int32 → Int32 → Int32 → Int32 → aH → Option (aH)) (hk23 : ∀ (t : Nat) (x1 : Int32) (x2 : Int32) (x3 : Int32) (x4 : Int32) (h : aH), k23 t x1 x2 x3 x4 h = some r → Ev g l cX12_readTurn 8 yX12_readTurn (none) d h0 (none, r) 23 [(0, .ref t), (1, .int x1), (2, .int x2), (3, .int x3), (4, .int x4)] [] h) (t : Nat) (x1 : Int32) (x2 : Int32) (x3 : Int32) (x4 : Int32) (x5 : Int32) (h : aH) (HF : F_X12_readTurn_116 k23 t x1 x2 x3 x4 x5 h = some r) : Ev g l cX12_readTurn 8 yX12_readTurn (none) d h0 (none, r) 116 [(0, .ref t), (1, .int x1), (2, .int x2), (3, .int x3), (4, .int x4), (5, .int x5)] [] h := by
  unfold F_X12_readTurn_116 at HF
  refine ev_aload_n 0 dX12_readTurn_116 rfl ?_
  replace HF := bind_ck HF
  obtain ⟨c1, HF⟩ := HF
  replace HF := bind_o HF
  obtain ⟨b2, e3, HF⟩ := HF
  refine ev_gS (f := 1310) cl_X12 (k := 10) (by decide) fi_X12_10 rfl fl_X12_32 dX12_readTurn_117 c1 e3 ?_
  refine ev_sipush (v := 130) dX12_readTurn_120 (by decide) ?_
  refine ev_iconst (v := 4) dX12_readTurn_123 (by decide) ?_
  refine ev_iload_n 1 dX12_readTurn_124 rfl ?_
  refine ev_imul dX12_readTurn_125 ?_
  refine ev_iload_n 2 dX12_readTurn_126 rfl ?_
  show EvG _ _ _ _ _ _ _ _ _ _ _ 127 _ _ _
  refine ev_iadd dX12_readTurn_127 ?_
  refine ev_imul dX12_readTurn_128 ?_
  refine ev_iload 4 dX12_readTurn_129 rfl ?_
  refine ev_iadd dX12_readTurn_131 ?_
  refine ev_iload 5 dX12_readTurn_132 rfl ?_
  replace HF := bind_ck HF
  obtain ⟨c4, HF⟩ := HF
  refine ev_iast dX12_readTurn_134 c4.1 c4.2 ?_
  replace HF := bd_n HF
  obtain ⟨h5, eh5, HF⟩ := HF
  refine ev_heap eh5 ?_
  have c6 : hK h5 t = 14 := by rw [eh5]; exact c1
  refine ev_aload_n 0 dX12_readTurn_135 rfl ?_
  replace HF := bind_o HF
  obtain ⟨b7, e8, HF⟩ := HF
  refine ev_gS (f := 1309) cl_X12 (k := 9) (by decide) fi_X12_9 rfl fl_X12_28 dX12_readTurn_136 c6 e8 ?_
  show EvG _ _ _ _ _ _ _ _ _ _ _ 139 _ _ _
  refine ev_iconst (v := 4) dX12_readTurn_139 (by decide) ?_
  refine ev_iload_n 1 dX12_readTurn_140 rfl ?_
  refine ev_imul dX12_readTurn_141 ?_
  refine ev_iload_n 2 dX12_readTurn_142 rfl ?_
  refine ev_iadd dX12_readTurn_143 ?_
  refine ev_dup2 dX12_readTurn_144 rfl rfl ?_
  replace HF := bind_ck HF
  obtain ⟨c9, HF⟩ := HF
  refine ev_iald dX12_readTurn_145 c9.1 c9.2 ?_
  refine ev_iconst (v := 1) dX12_readTurn_146 (by decide) ?_
  show EvG _ _ _ _ _ _ _ _ _ _ _ 147 _ _ _
  refine ev_iadd dX12_readTurn_147 ?_
  refine ev_iast dX12_readTurn_148 c9.1 c9.2 ?_
  replace HF := bd_n HF
  obtain ⟨h10, eh10, HF⟩ := HF
  refine ev_heap eh10 ?_
  have c11 : hK h10 t = 14 := by rw [eh10]; exact c6
  replace HF := bd_n HF
  obtain ⟨v12, ev12, HF⟩ := HF
  refine ev_iinc (v := v12) (lv' := [(4, .int v12), (0, .ref t), (1, .int x1), (2, .int x2), (3, .int x3), (5, .int x5)]) 4 dX12_readTurn_149 rfl (by rw [ev12]; rfl) (by decide) (rfl) ?_
  refine ev_goto (tgt := 23) dX12_readTurn_152 (by decide) ?_
  exact Ev.sub [1, 2, 3, 4, 0] rfl (hk23 t x1 x2 x3 v12 _ HF)

set_option maxRecDepth 20000 in
theorem lk_X12_readTurn_73 {g : aG} {l : Launch} {d : Nat} {h0 : aH} (hdd : 1 ≤ d) {r : aH} (k23 : Nat → Int32 → Int32 → Int32 → Int32 → aH → Option (aH)) (hk23 : ∀ (t : Nat) (x1 : Int32) (x2 : Int32) (x3 : Int32) (x4 : Int32) (h : aH), k23 t x1 x2 x3 x4 h = some r → Ev g l cX12_readTurn 8 yX12_readTurn (none) d h0 (none, r) 23 [(0, .ref t), (1, .int x1), (2, .int x2), (3, .int x3), (4, .int x4)] [] h) : ∀ (n : Nat) (t : Nat) (x1 : Int32) (x2 : Int32) (x3 : Int32) (x4 : Int32) (x5 : Int32) (x6 : Int32) (x7 : Int32) (h : aH), F_X12_readTurn_73 k23 n t x1 x2 x3 x4 x5 x6 x7 h = some r → Ev g l cX12_readTurn 8 yX12_readTurn (none) d h0 (none, r) 73 [(0, .ref t), (1, .int x1), (2, .int x2), (3, .int x3), (4, .int x4), (5, .int x5), (6, .int x6), (7, .int x7)] [] h := by
  intro n
  induction n with
  | zero => intro t x1 x2 x3 x4 x5 x6 x7 h HF; cases HF
  | succ n ih =>
  intro t x1 x2 x3 x4 x5 x6 x7 h HF
  unfold F_X12_readTurn_73 at HF
  refine ev_iload 7 dX12_readTurn_73 rfl ?_
  refine ev_iload 6 dX12_readTurn_75 rfl ?_
  refine ev_iconst (v := 1) dX12_readTurn_77 (by decide) ?_
  refine ev_isub dX12_readTurn_78 ?_
  by_cases c1 : x6 - 1 ≤ x7
  · replace HF := ite_T c1 HF
    refine ev_icmp_geT (tgt := 116) dX12_readTurn_79 (by decide) c1 ?_
    exact Ev.sub [0, 1, 2, 3, 4, 5] rfl (lk_X12_readTurn_116 hdd k23 hk23 t x1 x2 x3 x4 x5 _ HF)
  · replace HF := ite_F c1 HF
    refine ev_icmp_geF (tgt := 116) dX12_readTurn_79 (by decide) c1 ?_
    refine ev_aload_n 0 dX12_readTurn_82 rfl ?_
    replace HF := bind_ck HF
    obtain ⟨c2, HF⟩ := HF
    refine ev_gI (f := 1369) cl_X12 (k := 69) (by decide) fi_X12_69 rfl fl_X12_368 dX12_readTurn_83 c2 ?_
    by_cases c3 : hF h 1369 t = 0
    · replace HF := ite_T c3 HF
      refine ev_if_neF (tgt := 116) dX12_readTurn_86 (by decide) c3 ?_
      refine ev_aload_n 0 dX12_readTurn_89 rfl ?_
      replace HF := bind_o HF
      obtain ⟨b4, e5, HF⟩ := HF
      refine ev_gS (f := 1314) cl_X12 (k := 14) (by decide) fi_X12_14 rfl fl_X12_42 dX12_readTurn_90 c2 e5 ?_
      refine ev_bipush (v := 40) dX12_readTurn_93 (by decide) ?_
      refine ev_iload 5 dX12_readTurn_95 rfl ?_
      refine ev_imul dX12_readTurn_97 ?_
      refine ev_iload 7 dX12_readTurn_98 rfl ?_
      refine ev_iadd dX12_readTurn_100 ?_
      show EvG _ _ _ _ _ _ _ _ _ _ _ 101 _ _ _
      refine ev_aload_n 0 dX12_readTurn_101 rfl ?_
      refine ev_iconst (v := 0) dX12_readTurn_102 (by decide) ?_
      refine ev_sipush (v := 255) dX12_readTurn_103 (by decide) ?_
      replace HF := bind_o HF
      obtain ⟨⟨z8, h7⟩, e6, HF⟩ := HF
      replace HF := bd_o (bd_o HF)
      dsimp only at HF
      refine ev_callV (As := [.int 0, .int 255]) (R1 := (some (.int z8), h7)) (lk_X12_read (d := 0) (Nat.le_refl _) c2 e6) ce_X12_read im_X12_read sl_X12_read ml_X12_378 cl_X12 c2 dX12_readTurn_106 (by omega) (Nat.le_of_ble_eq_true rfl) rfl rfl ?_
      show EvG _ _ _ _ _ _ _ _ _ _ _ 109 [(0, .ref t), (1, .int x1), (2, .int x2), (3, .int x3), (4, .int x4), (5, .int x5), (6, .int x6), (7, .int x7)] [.int z8, .int ((40 * x5) + x7), .ref b4] h7
      replace HF := bind_ck HF
      obtain ⟨c10, HF⟩ := HF
      refine ev_iast dX12_readTurn_109 c10.1 c10.2 ?_
      replace HF := bd_n HF
      obtain ⟨h11, eh11, HF⟩ := HF
      refine ev_heap eh11 ?_
      replace HF := bd_n HF
      obtain ⟨v12, ev12, HF⟩ := HF
      refine ev_iinc (v := v12) (lv' := [(7, .int v12), (0, .ref t), (1, .int x1), (2, .int x2), (3, .int x3), (4, .int x4), (5, .int x5), (6, .int x6)]) 7 dX12_readTurn_110 rfl (by rw [ev12]; rfl) (by decide) (rfl) ?_
      refine ev_goto (tgt := 73) dX12_readTurn_113 (by decide) ?_
      exact Ev.sub [1, 2, 3, 4, 5, 6, 7, 0] rfl (ih t x1 x2 x3 x4 x5 x6 v12 _ HF)
    · replace HF := ite_F c3 HF
      refine ev_if_neT (tgt := 116) dX12_readTurn_86 (by decide) c3 ?_
      exact Ev.sub [0, 1, 2, 3, 4, 5] rfl (lk_X12_readTurn_116 hdd k23 hk23 t x1 x2 x3 x4 x5 _ HF)

set_option maxRecDepth 20000 in
theorem lk_X12_readTurn_23 {g : aG} {l : Launch} {d : Nat} {h0 : aH} (hdd : 1 ≤ d) {r : aH} : ∀ (n : Nat) (t : Nat) (x1 : Int32) (x2 : Int32) (x3 : Int32) (x4 : Int32) (h : aH), F_X12_readTurn_23  n t x1 x2 x3 x4 h = some r → Ev g l cX12_readTurn 8 yX12_readTurn (none) d h0 (none, r) 23 [(0, .ref t), (1, .int x1), (2, .int x2), (3, .int x3), (4, .int x4)] [] h := by
  intro n
  induction n with
  | zero => intro t x1 x2 x3 x4 h HF; cases HF
  | succ n ih =>
  intro t x1 x2 x3 x4 h HF
  unfold F_X12_readTurn_23 at HF
  refine ev_iload 4 dX12_readTurn_23 rfl ?_
  refine ev_iload_n 3 dX12_readTurn_25 rfl ?_
  by_cases c1 : x3 ≤ x4
  · replace HF := ite_T c1 HF
    refine ev_icmp_geT (tgt := 155) dX12_readTurn_26 (by decide) c1 ?_
    exact Ev.sub [0, 2] rfl (lk_X12_readTurn_155 hdd  t x2 _ HF)
  · replace HF := ite_F c1 HF
    refine ev_icmp_geF (tgt := 155) dX12_readTurn_26 (by decide) c1 ?_
    refine ev_aload_n 0 dX12_readTurn_29 rfl ?_
    replace HF := bind_ck HF
    obtain ⟨c2, HF⟩ := HF
    refine ev_gI (f := 1369) cl_X12 (k := 69) (by decide) fi_X12_69 rfl fl_X12_368 dX12_readTurn_30 c2 ?_
    by_cases c3 : hF h 1369 t = 0
    · replace HF := ite_T c3 HF
      refine ev_if_neF (tgt := 155) dX12_readTurn_33 (by decide) c3 ?_
      refine ev_aload_n 0 dX12_readTurn_36 rfl ?_
      refine ev_aload_n 0 dX12_readTurn_37 rfl ?_
      refine ev_iconst (v := 0) dX12_readTurn_38 (by decide) ?_
      refine ev_bipush (v := 15) dX12_readTurn_39 (by decide) ?_
      replace HF := bind_o HF
      obtain ⟨⟨z6, h5⟩, e4, HF⟩ := HF
      replace HF := bd_o (bd_o HF)
      dsimp only at HF
      refine ev_callV (As := [.int 0, .int 15]) (R1 := (some (.int z6), h5)) (lk_X12_read (d := 0) (Nat.le_refl _) c2 e4) ce_X12_read im_X12_read sl_X12_read ml_X12_378 cl_X12 c2 dX12_readTurn_41 (by omega) (Nat.le_of_ble_eq_true rfl) rfl rfl ?_
      show EvG _ _ _ _ _ _ _ _ _ _ _ 44 [(0, .ref t), (1, .int x1), (2, .int x2), (3, .int x3), (4, .int x4)] [.int z6, .ref t] h5
      refine ev_iconst (v := 0) dX12_readTurn_44 (by decide) ?_
      replace HF := bind_ck HF
      obtain ⟨c8, HF⟩ := HF
      replace HF := bind_o HF
      obtain ⟨⟨z11, h10⟩, e9, HF⟩ := HF
      replace HF := bd_o (bd_o HF)
      dsimp only at HF
      refine ev_callV (As := [.int z6, .int 0]) (R1 := (some (.int z11), h10)) (lk_X12_newRow (d := 0) (Nat.le_refl _) c8 e9) ce_X12_newRow im_X12_newRow sl_X12_newRow ml_X12_306 cl_X12 c8 dX12_readTurn_45 (by omega) (Nat.le_of_ble_eq_true rfl) rfl rfl ?_
      show EvG _ _ _ _ _ _ _ _ _ _ _ 48 [(0, .ref t), (1, .int x1), (2, .int x2), (3, .int x3), (4, .int x4)] [.int z11] h10
      show EvG _ _ _ _ _ _ _ _ _ _ _ 48 _ _ _
      refine ev_istore (lv' := [(5, .int z11), (0, .ref t), (1, .int x1), (2, .int x2), (3, .int x3), (4, .int x4)]) dX12_readTurn_48 (by decide) (rfl) ?_
      refine ev_aload_n 1 dX12_readTurn_50 rfl ?_
      refine ev_iconst (v := 0) dX12_readTurn_51 (by decide) ?_
      refine ev_bipush (v := 41) dX12_readTurn_52 (by decide) ?_
      replace HF := bind_ck HF
      obtain ⟨c13, HF⟩ := HF
      replace HF := bind_o HF
      obtain ⟨⟨z16, h15⟩, e14, HF⟩ := HF
      replace HF := bd_o (bd_o HF)
      dsimp only at HF
      refine ev_callV (As := [.int 0, .int 41]) (R1 := (some (.int z16), h15)) (lk_X12_read (d := 0) (Nat.le_refl _) c13 e14) ce_X12_read im_X12_read sl_X12_read ml_X12_378 cl_X12 c13 dX12_readTurn_54 (by omega) (Nat.le_of_ble_eq_true rfl) rfl rfl ?_
      show EvG _ _ _ _ _ _ _ _ _ _ _ 57 [(5, .int z11), (0, .ref t), (1, .int x1), (2, .int x2), (3, .int x3), (4, .int x4)] [.int z16] h15
      refine ev_istore (lv' := [(6, .int z16), (5, .int z11), (0, .ref t), (1, .int x1), (2, .int x2), (3, .int x3), (4, .int x4)]) dX12_readTurn_57 (by decide) (rfl) ?_
      refine ev_aload_n 2 dX12_readTurn_59 rfl ?_
      replace HF := bind_ck HF
      obtain ⟨c18, HF⟩ := HF
      replace HF := bind_o HF
      obtain ⟨b19, e20, HF⟩ := HF
      refine ev_gS (f := 1313) cl_X12 (k := 13) (by decide) fi_X12_13 rfl fl_X12_38 dX12_readTurn_60 c18 e20 ?_
      show EvG _ _ _ _ _ _ _ _ _ _ _ 63 _ _ _
      refine ev_iload 1 dX12_readTurn_63 rfl ?_
      refine ev_iload 0 dX12_readTurn_65 rfl ?_
      refine ev_iconst (v := 1) dX12_readTurn_67 (by decide) ?_
      refine ev_isub dX12_readTurn_68 ?_
      replace HF := bind_ck HF
      obtain ⟨c21, HF⟩ := HF
      refine ev_iast dX12_readTurn_69 c21.1 c21.2 ?_
      replace HF := bd_n HF
      obtain ⟨h22, eh22, HF⟩ := HF
      refine ev_heap eh22 ?_
      have c23 : hK h22 t = 14 := by rw [eh22]; exact c18
      refine ev_iconst (v := 0) dX12_readTurn_70 (by decide) ?_
      refine ev_istore (lv' := [(7, .int 0), (6, .int z16), (5, .int z11), (0, .ref t), (1, .int x1), (2, .int x2), (3, .int x3), (4, .int x4)]) dX12_readTurn_71 (by decide) (rfl) ?_
      exact Ev.sub [3, 4, 5, 6, 7, 2, 1, 0] rfl (lk_X12_readTurn_73 hdd (F_X12_readTurn_23 n) ih fu t x1 x2 x3 x4 z11 z16 0 _ HF)
    · replace HF := ite_F c3 HF
      refine ev_if_neT (tgt := 155) dX12_readTurn_33 (by decide) c3 ?_
      exact Ev.sub [0, 2] rfl (lk_X12_readTurn_155 hdd  t x2 _ HF)

set_option maxRecDepth 20000 in
theorem lk_X12_readTurn {g : aG} {l : Launch} {d : Nat} (hdd : 1 ≤ d) {t : Nat} {x1 : Int32} {x2 : Int32} {h : aH} {r : aH} (hT : hK h t = 14) (HF : F_X12_readTurn t x1 x2 h = some r) : MA g l yX12_readTurn cX12_readTurn 8 (none) d [.ref t, .int x1, .int x2] h (none, r) := by
  refine MA.of (lv0 := [(0, .ref t), (1, .int x1), (2, .int x2)]) (by decide +kernel) (rfl) (Nat.le_of_ble_eq_true rfl) ?_
  unfold F_X12_readTurn at HF
  refine ev_aload_n 0 dX12_readTurn_0 rfl ?_
  refine ev_iconst (v := 0) dX12_readTurn_1 (by decide) ?_
  refine ev_sipush (v := 130) dX12_readTurn_2 (by decide) ?_
  replace HF := bind_o HF
  obtain ⟨⟨z3, h2⟩, e1, HF⟩ := HF
  replace HF := bd_o (bd_o HF)
  dsimp only at HF
  refine ev_callV (As := [.int 0, .int 130]) (R1 := (some (.int z3), h2)) (lk_X12_read (d := 0) (Nat.le_refl _) hT e1) ce_X12_read im_X12_read sl_X12_read ml_X12_378 cl_X12 hT dX12_readTurn_5 (by omega) (Nat.le_of_ble_eq_true rfl) rfl rfl ?_
  show EvG _ _ _ _ _ _ _ _ _ _ _ 8 [(0, .ref t), (1, .int x1), (2, .int x2)] [.int z3] h2
  refine ev_istore_n (lv' := [(3, .int z3), (0, .ref t), (1, .int x1), (2, .int x2)]) dX12_readTurn_8 (by decide) (rfl) ?_
  refine ev_aload_n 1 dX12_readTurn_9 rfl ?_
  replace HF := bind_ck HF
  obtain ⟨c5, HF⟩ := HF
  replace HF := bind_o HF
  obtain ⟨b6, e7, HF⟩ := HF
  refine ev_gS (f := 1309) cl_X12 (k := 9) (by decide) fi_X12_9 rfl fl_X12_28 dX12_readTurn_10 c5 e7 ?_
  show EvG _ _ _ _ _ _ _ _ _ _ _ 13 _ _ _
  refine ev_iconst (v := 4) dX12_readTurn_13 (by decide) ?_
  refine ev_iload_n 2 dX12_readTurn_14 rfl ?_
  refine ev_imul dX12_readTurn_15 ?_
  refine ev_iload_n 3 dX12_readTurn_16 rfl ?_
  refine ev_iadd dX12_readTurn_17 ?_
  refine ev_iconst (v := 0) dX12_readTurn_18 (by decide) ?_
  replace HF := bind_ck HF
  obtain ⟨c8, HF⟩ := HF
  refine ev_iast dX12_readTurn_19 c8.1 c8.2 ?_
  replace HF := bd_n HF
  obtain ⟨h9, eh9, HF⟩ := HF
  refine ev_heap eh9 ?_
  have c10 : hK h9 t = 14 := by rw [eh9]; exact c5
  refine ev_iconst (v := 0) dX12_readTurn_20 (by decide) ?_
  show EvG _ _ _ _ _ _ _ _ _ _ _ 21 _ _ _
  refine ev_istore (lv' := [(4, .int 0), (3, .int z3), (0, .ref t), (1, .int x1), (2, .int x2)]) dX12_readTurn_21 (by decide) (rfl) ?_
  exact Ev.sub [2, 3, 4, 1, 0] rfl (lk_X12_readTurn_23 hdd  fu t x1 x2 z3 0 _ HF)

set_option maxRecDepth 20000 in
theorem lk_X12_placeWrong_229 {g : aG} {l : Launch} {d : Nat} {h0 : aH} (hdd : 1 ≤ d) {r : Int32 × aH} (k11 : Nat → Int32 → Int32 → Int32 → Int32 → Int32 → aH → Option (Int32 × aH)) (hk11 : ∀ (t : Nat) (x1 : Int32) (x2 : Int32) (x3 : Int32) (x4 : Int32) (x5 : Int32) (h : aH), k11 t x1 x2 x3 x4 x5 h = some r → Ev g l cX12_placeWrong 8 yX12_placeWrong (some .int) d h0 (some (.int r.1), r.2) 11 [(0, .ref t), (1, .int x1), (2, .int x2), (3, .int x3), (4, .int x4), (5, .int x5)] [] h) (t : Nat) (x1 : Int32) (x2 : Int32) (x3 : Int32) (x4 : Int32) (x5 : Int32) (h : aH) (HF : F_X12_placeWrong_229 k11 t x1 x2 x3 x4 x5 h = some r) : Ev g l cX12_placeWrong 8 yX12_placeWrong (some .int) d h0 (some (.int r.1), r.2) 229 [(0, .ref t), (1, .int x1), (2, .int x2), (3, .int x3), (4, .int x4), (5, .int x5)] [] h := by
  unfold F_X12_placeWrong_229 at HF
  replace HF := bd_n HF
  obtain ⟨v1, ev1, HF⟩ := HF
  refine ev_iinc (v := v1) (lv' := [(2, .int v1), (0, .ref t), (1, .int x1), (3, .int x3), (4, .int x4), (5, .int x5)]) 2 dX12_placeWrong_229 rfl (by rw [ev1]; rfl) (by decide) (rfl) ?_
  replace HF := bd_n HF
  obtain ⟨v2, ev2, HF⟩ := HF
  refine ev_iinc (v := v2) (lv' := [(5, .int v2), (2, .int v1), (0, .ref t), (1, .int x1), (3, .int x3), (4, .int x4)]) 5 dX12_placeWrong_232 rfl (by rw [ev2]; rfl) (by decide) (rfl) ?_
  refine ev_goto (tgt := 11) dX12_placeWrong_235 (by decide) ?_
  exact Ev.sub [2, 3, 1, 4, 5, 0] rfl (hk11 t x1 v1 x3 x4 v2 _ HF)

set_option maxRecDepth 20000 in
theorem lk_X12_placeWrong_194 {g : aG} {l : Launch} {d : Nat} {h0 : aH} (hdd : 1 ≤ d) {r : Int32 × aH} (k11 : Nat → Int32 → Int32 → Int32 → Int32 → Int32 → aH → Option (Int32 × aH)) (hk11 : ∀ (t : Nat) (x1 : Int32) (x2 : Int32) (x3 : Int32) (x4 : Int32) (x5 : Int32) (h : aH), k11 t x1 x2 x3 x4 x5 h = some r → Ev g l cX12_placeWrong 8 yX12_placeWrong (some .int) d h0 (some (.int r.1), r.2) 11 [(0, .ref t), (1, .int x1), (2, .int x2), (3, .int x3), (4, .int x4), (5, .int x5)] [] h) (t : Nat) (x1 : Int32) (x2 : Int32) (x3 : Int32) (x4 : Int32) (x5 : Int32) (h : aH) (HF : F_X12_placeWrong_194 k11 t x1 x2 x3 x4 x5 h = some r) : Ev g l cX12_placeWrong 8 yX12_placeWrong (some .int) d h0 (some (.int r.1), r.2) 194 [(0, .ref t), (1, .int x1), (2, .int x2), (3, .int x3), (4, .int x4), (5, .int x5)] [] h := by
  unfold F_X12_placeWrong_194 at HF
  refine ev_iload 4 dX12_placeWrong_194 rfl ?_
  by_cases c1 : x4 = 0
  · replace HF := ite_T c1 HF
    refine ev_if_neF (tgt := 229) dX12_placeWrong_196 (by decide) c1 ?_
    refine ev_aload_n 0 dX12_placeWrong_199 rfl ?_
    replace HF := bind_ck HF
    obtain ⟨c2, HF⟩ := HF
    replace HF := bind_o HF
    obtain ⟨b3, e4, HF⟩ := HF
    refine ev_gS (f := 1370) cl_X12 (k := 70) (by decide) fi_X12_70 rfl fl_X12_169 dX12_placeWrong_200 c2 e4 ?_
    refine ev_iload 5 dX12_placeWrong_203 rfl ?_
    replace HF := bind_ck HF
    obtain ⟨c5, HF⟩ := HF
    refine ev_iald dX12_placeWrong_205 c5.1 c5.2 ?_
    refine ev_sipush (v := 256) dX12_placeWrong_206 (by decide) ?_
    refine ev_irem dX12_placeWrong_209 (by decide) ?_
    refine ev_aload_n 0 dX12_placeWrong_210 rfl ?_
    show EvG _ _ _ _ _ _ _ _ _ _ _ 211 _ _ _
    replace HF := bind_o HF
    obtain ⟨b6, e7, HF⟩ := HF
    refine ev_gS (f := 1335) cl_X12 (k := 35) (by decide) fi_X12_35 rfl fl_X12_72 dX12_placeWrong_211 c2 e7 ?_
    refine ev_iload 5 dX12_placeWrong_214 rfl ?_
    replace HF := bind_ck HF
    obtain ⟨c8, HF⟩ := HF
    refine ev_iald dX12_placeWrong_216 c8.1 c8.2 ?_
    refine ev_sipush (v := 256) dX12_placeWrong_217 (by decide) ?_
    refine ev_irem dX12_placeWrong_220 (by decide) ?_
    by_cases c9 : (hI h b3 x5.toNatClampNeg) - (hI h b3 x5.toNatClampNeg) / 256 * 256 = (hI h b6 x5.toNatClampNeg) - (hI h b6 x5.toNatClampNeg) / 256 * 256
    · replace HF := ite_T c9 HF
      refine ev_icmp_eqT (tgt := 229) dX12_placeWrong_221 (by decide) c9 ?_
      exact Ev.sub [0, 1, 2, 3, 4, 5] rfl (lk_X12_placeWrong_229 hdd k11 hk11 t x1 x2 x3 x4 x5 _ HF)
    · replace HF := ite_F c9 HF
      refine ev_icmp_eqF (tgt := 229) dX12_placeWrong_221 (by decide) c9 ?_
      refine ev_iload_n 2 dX12_placeWrong_224 rfl ?_
      refine ev_iconst (v := 2) dX12_placeWrong_225 (by decide) ?_
      refine ev_iadd dX12_placeWrong_226 ?_
      replace HF := bd_n HF
      obtain ⟨v10, ev10, HF⟩ := HF
      refine ev_topI ev10 ?_
      refine ev_istore (lv' := [(4, .int v10), (0, .ref t), (1, .int x1), (2, .int x2), (3, .int x3), (5, .int x5)]) dX12_placeWrong_227 (by decide) (rfl) ?_
      exact Ev.sub [1, 2, 3, 4, 0, 5] rfl (lk_X12_placeWrong_229 hdd k11 hk11 t x1 x2 x3 v10 x5 _ HF)
  · replace HF := ite_F c1 HF
    refine ev_if_neT (tgt := 229) dX12_placeWrong_196 (by decide) c1 ?_
    exact Ev.sub [0, 1, 2, 3, 4, 5] rfl (lk_X12_placeWrong_229 hdd k11 hk11 t x1 x2 x3 x4 x5 _ HF)

set_option maxRecDepth 20000 in
theorem lk_X12_placeWrong_133 {g : aG} {l : Launch} {d : Nat} {h0 : aH} (hdd : 1 ≤ d) {r : Int32 × aH} (k11 : Nat → Int32 → Int32 → Int32 → Int32 → Int32 → aH → Option (Int32 × aH)) (hk11 : ∀ (t : Nat) (x1 : Int32) (x2 : Int32) (x3 : Int32) (x4 : Int32) (x5 : Int32) (h : aH), k11 t x1 x2 x3 x4 x5 h = some r → Ev g l cX12_placeWrong 8 yX12_placeWrong (some .int) d h0 (some (.int r.1), r.2) 11 [(0, .ref t), (1, .int x1), (2, .int x2), (3, .int x3), (4, .int x4), (5, .int x5)] [] h) (k56 : Nat → Int32 → Int32 → Int32 → Int32 → Int32 → Int32 → aH → Option (Int32 × aH)) (hk56 : ∀ (t : Nat) (x1 : Int32) (x2 : Int32) (x3 : Int32) (x4 : Int32) (x5 : Int32) (x6 : Int32) (h : aH), k56 t x1 x2 x3 x4 x5 x6 h = some r → Ev g l cX12_placeWrong 8 yX12_placeWrong (some .int) d h0 (some (.int r.1), r.2) 56 [(0, .ref t), (1, .int x1), (2, .int x2), (3, .int x3), (4, .int x4), (5, .int x5), (6, .int x6)] [] h) (t : Nat) (x1 : Int32) (x2 : Int32) (x3 : Int32) (x4 : Int32) (x5 : Int32) (x6 : Int32) (x7 : Int32) (h : aH) (HF : F_X12_placeWrong_133 k11 k56 t x1 x2 x3 x4 x5 x6 x7 h = some r) : Ev g l cX12_placeWrong 8 yX12_placeWrong (some .int) d h0 (some (.int r.1), r.2) 133 [(0, .ref t), (1, .int x1), (2, .int x2), (3, .int x3), (4, .int x4), (5, .int x5), (6, .int x6), (7, .int x7)] [] h := by
  unfold F_X12_placeWrong_133 at HF
  refine ev_iload_n 2 dX12_placeWrong_133 rfl ?_
  refine ev_iconst (v := 2) dX12_placeWrong_134 (by decide) ?_
  refine ev_iconst (v := 0) dX12_placeWrong_135 (by decide) ?_
  refine ev_aload_n 0 dX12_placeWrong_136 rfl ?_
  replace HF := bind_ck HF
  obtain ⟨c1, HF⟩ := HF
  replace HF := bind_o HF
  obtain ⟨b2, e3, HF⟩ := HF
  refine ev_gS (f := 1313) cl_X12 (k := 13) (by decide) fi_X12_13 rfl fl_X12_38 dX12_placeWrong_137 c1 e3 ?_
  refine ev_iload 7 dX12_placeWrong_140 rfl ?_
  replace HF := bind_ck HF
  obtain ⟨c4, HF⟩ := HF
  refine ev_iald dX12_placeWrong_142 c4.1 c4.2 ?_
  show EvG _ _ _ _ _ _ _ _ _ _ _ 143 _ _ _
  refine ev_max ml_X12_324 dX12_placeWrong_143 (by omega) (Nat.le_of_ble_eq_true rfl) ?_
  replace HF := bd_n HF
  obtain ⟨z5, ez5, HF⟩ := HF
  refine ev_topI ez5 ?_
  refine ev_iadd dX12_placeWrong_146 ?_
  refine ev_iadd dX12_placeWrong_147 ?_
  replace HF := bd_n HF
  obtain ⟨v6, ev6, HF⟩ := HF
  refine ev_topI ev6 ?_
  refine ev_istore_n (lv' := [(2, .int v6), (0, .ref t), (1, .int x1), (3, .int x3), (4, .int x4), (5, .int x5), (6, .int x6), (7, .int x7)]) dX12_placeWrong_148 (by decide) (rfl) ?_
  replace HF := bd_n HF
  obtain ⟨v7, ev7, HF⟩ := HF
  refine ev_iinc (v := v7) (lv' := [(6, .int v7), (2, .int v6), (0, .ref t), (1, .int x1), (3, .int x3), (4, .int x4), (5, .int x5), (7, .int x7)]) 6 dX12_placeWrong_149 rfl (by rw [ev7]; rfl) (by decide) (rfl) ?_
  refine ev_goto (tgt := 56) dX12_placeWrong_152 (by decide) ?_
  exact Ev.sub [2, 3, 1, 4, 5, 6, 0] rfl (hk56 t x1 v6 x3 x4 x5 v7 _ HF)

set_option maxRecDepth 20000 in
theorem lk_X12_placeWrong_132 {g : aG} {l : Launch} {d : Nat} {h0 : aH} (hdd : 1 ≤ d) {r : Int32 × aH} (k11 : Nat → Int32 → Int32 → Int32 → Int32 → Int32 → aH → Option (Int32 × aH)) (hk11 : ∀ (t : Nat) (x1 : Int32) (x2 : Int32) (x3 : Int32) (x4 : Int32) (x5 : Int32) (h : aH), k11 t x1 x2 x3 x4 x5 h = some r → Ev g l cX12_placeWrong 8 yX12_placeWrong (some .int) d h0 (some (.int r.1), r.2) 11 [(0, .ref t), (1, .int x1), (2, .int x2), (3, .int x3), (4, .int x4), (5, .int x5)] [] h) (k56 : Nat → Int32 → Int32 → Int32 → Int32 → Int32 → Int32 → aH → Option (Int32 × aH)) (hk56 : ∀ (t : Nat) (x1 : Int32) (x2 : Int32) (x3 : Int32) (x4 : Int32) (x5 : Int32) (x6 : Int32) (h : aH), k56 t x1 x2 x3 x4 x5 x6 h = some r → Ev g l cX12_placeWrong 8 yX12_placeWrong (some .int) d h0 (some (.int r.1), r.2) 56 [(0, .ref t), (1, .int x1), (2, .int x2), (3, .int x3), (4, .int x4), (5, .int x5), (6, .int x6)] [] h) (t : Nat) (x1 : Int32) (x2 : Int32) (x4 : Int32) (x5 : Int32) (x6 : Int32) (x7 : Int32) (y0 : Int32) (h : aH) (HF : F_X12_placeWrong_132 k11 k56 t x1 x2 x4 x5 x6 x7 y0 h = some r) : Ev g l cX12_placeWrong 8 yX12_placeWrong (some .int) d h0 (some (.int r.1), r.2) 132 [(0, .ref t), (1, .int x1), (2, .int x2), (4, .int x4), (5, .int x5), (6, .int x6), (7, .int x7)] [.int y0] h := by
  unfold F_X12_placeWrong_132 at HF
  refine ev_istore_n (lv' := [(3, .int y0), (0, .ref t), (1, .int x1), (2, .int x2), (4, .int x4), (5, .int x5), (6, .int x6), (7, .int x7)]) dX12_placeWrong_132 (by decide) (rfl) ?_
  exact Ev.sub [1, 2, 3, 0, 4, 5, 6, 7] rfl (lk_X12_placeWrong_133 hdd k11 hk11 k56 hk56 t x1 x2 y0 x4 x5 x6 x7 _ HF)

set_option maxRecDepth 20000 in
theorem lk_X12_placeWrong_56 {g : aG} {l : Launch} {d : Nat} {h0 : aH} (hdd : 1 ≤ d) {r : Int32 × aH} (k11 : Nat → Int32 → Int32 → Int32 → Int32 → Int32 → aH → Option (Int32 × aH)) (hk11 : ∀ (t : Nat) (x1 : Int32) (x2 : Int32) (x3 : Int32) (x4 : Int32) (x5 : Int32) (h : aH), k11 t x1 x2 x3 x4 x5 h = some r → Ev g l cX12_placeWrong 8 yX12_placeWrong (some .int) d h0 (some (.int r.1), r.2) 11 [(0, .ref t), (1, .int x1), (2, .int x2), (3, .int x3), (4, .int x4), (5, .int x5)] [] h) : ∀ (n : Nat) (t : Nat) (x1 : Int32) (x2 : Int32) (x3 : Int32) (x4 : Int32) (x5 : Int32) (x6 : Int32) (h : aH), F_X12_placeWrong_56 k11 n t x1 x2 x3 x4 x5 x6 h = some r → Ev g l cX12_placeWrong 8 yX12_placeWrong (some .int) d h0 (some (.int r.1), r.2) 56 [(0, .ref t), (1, .int x1), (2, .int x2), (3, .int x3), (4, .int x4), (5, .int x5), (6, .int x6)] [] h := by
  intro n
  induction n with
  | zero => intro t x1 x2 x3 x4 x5 x6 h HF; cases HF
  | succ n ih =>
  intro t x1 x2 x3 x4 x5 x6 h HF
  unfold F_X12_placeWrong_56 at HF
  refine ev_iload 6 dX12_placeWrong_56 rfl ?_
  refine ev_aload_n 0 dX12_placeWrong_58 rfl ?_
  replace HF := bind_ck HF
  obtain ⟨c1, HF⟩ := HF
  replace HF := bind_o HF
  obtain ⟨b2, e3, HF⟩ := HF
  refine ev_gS (f := 1309) cl_X12 (k := 9) (by decide) fi_X12_9 rfl fl_X12_28 dX12_placeWrong_59 c1 e3 ?_
  refine ev_iconst (v := 4) dX12_placeWrong_62 (by decide) ?_
  refine ev_iload_n 1 dX12_placeWrong_63 rfl ?_
  refine ev_imul dX12_placeWrong_64 ?_
  refine ev_iload 5 dX12_placeWrong_65 rfl ?_
  show EvG _ _ _ _ _ _ _ _ _ _ _ 67 _ _ _
  refine ev_iadd dX12_placeWrong_67 ?_
  replace HF := bind_ck HF
  obtain ⟨c4, HF⟩ := HF
  refine ev_iald dX12_placeWrong_68 c4.1 c4.2 ?_
  by_cases c5 : hI h b2 ((4 * x1) + x5).toNatClampNeg ≤ x6
  · replace HF := ite_T c5 HF
    refine ev_icmp_geT (tgt := 155) dX12_placeWrong_69 (by decide) c5 ?_
    refine ev_iload 4 dX12_placeWrong_155 rfl ?_
    by_cases c6 : x4 = 0
    · replace HF := ite_T c6 HF
      refine ev_if_neF (tgt := 194) dX12_placeWrong_157 (by decide) c6 ?_
      refine ev_aload_n 0 dX12_placeWrong_160 rfl ?_
      replace HF := bind_o HF
      obtain ⟨b7, e8, HF⟩ := HF
      refine ev_gS (f := 1370) cl_X12 (k := 70) (by decide) fi_X12_70 rfl fl_X12_169 dX12_placeWrong_161 c1 e8 ?_
      refine ev_iload 5 dX12_placeWrong_164 rfl ?_
      replace HF := bind_ck HF
      obtain ⟨c9, HF⟩ := HF
      refine ev_iald dX12_placeWrong_166 c9.1 c9.2 ?_
      refine ev_sipush (v := 256) dX12_placeWrong_167 (by decide) ?_
      refine ev_idiv dX12_placeWrong_170 (by decide) ?_
      refine ev_aload_n 0 dX12_placeWrong_171 rfl ?_
      show EvG _ _ _ _ _ _ _ _ _ _ _ 172 _ _ _
      replace HF := bind_o HF
      obtain ⟨b10, e11, HF⟩ := HF
      refine ev_gS (f := 1335) cl_X12 (k := 35) (by decide) fi_X12_35 rfl fl_X12_72 dX12_placeWrong_172 c1 e11 ?_
      refine ev_iload 5 dX12_placeWrong_175 rfl ?_
      replace HF := bind_ck HF
      obtain ⟨c12, HF⟩ := HF
      refine ev_iald dX12_placeWrong_177 c12.1 c12.2 ?_
      refine ev_sipush (v := 256) dX12_placeWrong_178 (by decide) ?_
      refine ev_idiv dX12_placeWrong_181 (by decide) ?_
      refine ev_sipush (v := 256) dX12_placeWrong_182 (by decide) ?_
      refine ev_irem dX12_placeWrong_185 (by decide) ?_
      by_cases c13 : (hI h b7 x5.toNatClampNeg) / 256 = ((hI h b10 x5.toNatClampNeg) / 256) - ((hI h b10 x5.toNatClampNeg) / 256) / 256 * 256
      · replace HF := ite_T c13 HF
        refine ev_icmp_eqT (tgt := 194) dX12_placeWrong_186 (by decide) c13 ?_
        exact Ev.sub [0, 1, 2, 3, 4, 5] rfl (lk_X12_placeWrong_194 hdd k11 hk11 t x1 x2 x3 x4 x5 _ HF)
      · replace HF := ite_F c13 HF
        refine ev_icmp_eqF (tgt := 194) dX12_placeWrong_186 (by decide) c13 ?_
        refine ev_iload_n 2 dX12_placeWrong_189 rfl ?_
        refine ev_iconst (v := 1) dX12_placeWrong_190 (by decide) ?_
        refine ev_iadd dX12_placeWrong_191 ?_
        replace HF := bd_n HF
        obtain ⟨v14, ev14, HF⟩ := HF
        refine ev_topI ev14 ?_
        refine ev_istore (lv' := [(4, .int v14), (0, .ref t), (1, .int x1), (2, .int x2), (3, .int x3), (5, .int x5), (6, .int x6)]) dX12_placeWrong_192 (by decide) (rfl) ?_
        exact Ev.sub [1, 2, 3, 4, 0, 5] rfl (lk_X12_placeWrong_194 hdd k11 hk11 t x1 x2 x3 v14 x5 _ HF)
    · replace HF := ite_F c6 HF
      refine ev_if_neT (tgt := 194) dX12_placeWrong_157 (by decide) c6 ?_
      exact Ev.sub [0, 1, 2, 3, 4, 5] rfl (lk_X12_placeWrong_194 hdd k11 hk11 t x1 x2 x3 x4 x5 _ HF)
  · replace HF := ite_F c5 HF
    refine ev_icmp_geF (tgt := 155) dX12_placeWrong_69 (by decide) c5 ?_
    refine ev_aload_n 0 dX12_placeWrong_72 rfl ?_
    refine ev_iload_n 1 dX12_placeWrong_73 rfl ?_
    refine ev_iload 5 dX12_placeWrong_74 rfl ?_
    refine ev_iload 6 dX12_placeWrong_76 rfl ?_
    replace HF := bind_o HF
    obtain ⟨⟨z17, h16⟩, e15, HF⟩ := HF
    replace HF := bd_o (bd_o HF)
    dsimp only at HF
    refine ev_callV (As := [.int x1, .int x5, .int x6]) (R1 := (some (.int z17), h16)) (lk_X12_rowOf (d := 0) (Nat.le_refl _) c1 e15) ce_X12_rowOf im_X12_rowOf sl_X12_rowOf ml_X12_228 cl_X12 c1 dX12_placeWrong_78 (by omega) (Nat.le_of_ble_eq_true rfl) rfl rfl ?_
    show EvG _ _ _ _ _ _ _ _ _ _ _ 81 [(0, .ref t), (1, .int x1), (2, .int x2), (3, .int x3), (4, .int x4), (5, .int x5), (6, .int x6)] [.int z17] h16
    refine ev_istore (lv' := [(7, .int z17), (0, .ref t), (1, .int x1), (2, .int x2), (3, .int x3), (4, .int x4), (5, .int x5), (6, .int x6)]) dX12_placeWrong_81 (by decide) (rfl) ?_
    refine ev_aload_n 1 dX12_placeWrong_83 rfl ?_
    show EvG _ _ _ _ _ _ _ _ _ _ _ 84 _ _ _
    replace HF := bind_ck HF
    obtain ⟨c19, HF⟩ := HF
    refine ev_gI (f := 1328) cl_X12 (k := 28) (by decide) fi_X12_28 rfl fl_X12_200 dX12_placeWrong_84 c19 ?_
    by_cases c20 : hF h16 1328 t = 0
    · replace HF := ite_T c20 HF
      refine ev_if_eqT (tgt := 133) dX12_placeWrong_87 (by decide) c20 ?_
      exact Ev.sub [1, 2, 3, 4, 5, 6, 7, 0] rfl (lk_X12_placeWrong_133 hdd k11 hk11 (F_X12_placeWrong_56 k11 n) ih t x1 x2 x3 x4 x5 x6 z17 _ HF)
    · replace HF := ite_F c20 HF
      refine ev_if_eqF (tgt := 133) dX12_placeWrong_87 (by decide) c20 ?_
      refine ev_aload_n 1 dX12_placeWrong_90 rfl ?_
      refine ev_gI (f := 1329) cl_X12 (k := 29) (by decide) fi_X12_29 rfl fl_X12_203 dX12_placeWrong_91 c19 ?_
      refine ev_iload 6 dX12_placeWrong_94 rfl ?_
      by_cases c21 : hF h16 1329 t = x5
      · replace HF := ite_T c21 HF
        refine ev_icmp_neF (tgt := 133) dX12_placeWrong_96 (by decide) c21 ?_
        refine ev_aload_n 1 dX12_placeWrong_99 rfl ?_
        refine ev_gI (f := 1330) cl_X12 (k := 30) (by decide) fi_X12_30 rfl fl_X12_206 dX12_placeWrong_100 c19 ?_
        refine ev_iload 7 dX12_placeWrong_103 rfl ?_
        by_cases c22 : hF h16 1330 t = x6
        · replace HF := ite_T c22 HF
          refine ev_icmp_neF (tgt := 133) dX12_placeWrong_105 (by decide) c22 ?_
          refine ev_aload_n 1 dX12_placeWrong_108 rfl ?_
          refine ev_gI (f := 1331) cl_X12 (k := 31) (by decide) fi_X12_31 rfl fl_X12_209 dX12_placeWrong_109 c19 ?_
          refine ev_iconst (v := (-1)) dX12_placeWrong_112 (by decide) ?_
          by_cases c23 : hF h16 1331 t = (-1)
          · replace HF := ite_T c23 HF
            refine ev_icmp_neF (tgt := 122) dX12_placeWrong_113 (by decide) c23 ?_
            refine ev_iload_n 3 dX12_placeWrong_116 rfl ?_
            refine ev_iconst (v := 1) dX12_placeWrong_117 (by decide) ?_
            refine ev_iadd dX12_placeWrong_118 ?_
            refine ev_goto (tgt := 132) dX12_placeWrong_119 (by decide) ?_
            exact Ev.sub [1, 2, 3, 5, 6, 7, 0] rfl (lk_X12_placeWrong_132 hdd k11 hk11 (F_X12_placeWrong_56 k11 n) ih t x1 x2 x4 x5 x6 z17 (x2 + 1) _ HF)
          · replace HF := ite_F c23 HF
            refine ev_icmp_neT (tgt := 122) dX12_placeWrong_113 (by decide) c23 ?_
            refine ev_iload_n 3 dX12_placeWrong_122 rfl ?_
            refine ev_iconst (v := 2) dX12_placeWrong_123 (by decide) ?_
            refine ev_iadd dX12_placeWrong_124 ?_
            refine ev_aload_n 1 dX12_placeWrong_125 rfl ?_
            refine ev_gI (f := 1331) cl_X12 (k := 31) (by decide) fi_X12_31 rfl fl_X12_209 dX12_placeWrong_126 c19 ?_
            refine ev_iadd dX12_placeWrong_129 ?_
            refine ev_iconst (v := 1) dX12_placeWrong_130 (by decide) ?_
            show EvG _ _ _ _ _ _ _ _ _ _ _ 131 _ _ _
            refine ev_iadd dX12_placeWrong_131 ?_
            exact Ev.sub [1, 2, 3, 5, 6, 7, 0] rfl (lk_X12_placeWrong_132 hdd k11 hk11 (F_X12_placeWrong_56 k11 n) ih t x1 x2 x4 x5 x6 z17 (((x2 + 2) + (hF h16 1331 t)) + 1) _ HF)
        · replace HF := ite_F c22 HF
          refine ev_icmp_neT (tgt := 133) dX12_placeWrong_105 (by decide) c22 ?_
          exact Ev.sub [1, 2, 3, 4, 5, 6, 7, 0] rfl (lk_X12_placeWrong_133 hdd k11 hk11 (F_X12_placeWrong_56 k11 n) ih t x1 x2 x3 x4 x5 x6 z17 _ HF)
      · replace HF := ite_F c21 HF
        refine ev_icmp_neT (tgt := 133) dX12_placeWrong_96 (by decide) c21 ?_
        exact Ev.sub [1, 2, 3, 4, 5, 6, 7, 0] rfl (lk_X12_placeWrong_133 hdd k11 hk11 (F_X12_placeWrong_56 k11 n) ih t x1 x2 x3 x4 x5 x6 z17 _ HF)

set_option maxRecDepth 20000 in
theorem lk_X12_placeWrong_50 {g : aG} {l : Launch} {d : Nat} {h0 : aH} (hdd : 1 ≤ d) {r : Int32 × aH} (k11 : Nat → Int32 → Int32 → Int32 → Int32 → Int32 → aH → Option (Int32 × aH)) (hk11 : ∀ (t : Nat) (x1 : Int32) (x2 : Int32) (x3 : Int32) (x4 : Int32) (x5 : Int32) (h : aH), k11 t x1 x2 x3 x4 x5 h = some r → Ev g l cX12_placeWrong 8 yX12_placeWrong (some .int) d h0 (some (.int r.1), r.2) 11 [(0, .ref t), (1, .int x1), (2, .int x2), (3, .int x3), (4, .int x4), (5, .int x5)] [] h) (t : Nat) (x1 : Int32) (x2 : Int32) (x3 : Int32) (x4 : Int32) (x5 : Int32) (h : aH) (HF : F_X12_placeWrong_50 k11 t x1 x2 x3 x4 x5 h = some r) : Ev g l cX12_placeWrong 8 yX12_placeWrong (some .int) d h0 (some (.int r.1), r.2) 50 [(0, .ref t), (1, .int x1), (2, .int x2), (3, .int x3), (4, .int x4), (5, .int x5)] [] h := by
  unfold F_X12_placeWrong_50 at HF
  replace HF := bd_n HF
  obtain ⟨v1, ev1, HF⟩ := HF
  refine ev_iinc (v := v1) (lv' := [(2, .int v1), (0, .ref t), (1, .int x1), (3, .int x3), (4, .int x4), (5, .int x5)]) 2 dX12_placeWrong_50 rfl (by rw [ev1]; rfl) (by decide) (rfl) ?_
  refine ev_iconst (v := 0) dX12_placeWrong_53 (by decide) ?_
  refine ev_istore (lv' := [(6, .int 0), (2, .int v1), (0, .ref t), (1, .int x1), (3, .int x3), (4, .int x4), (5, .int x5)]) dX12_placeWrong_54 (by decide) (rfl) ?_
  exact Ev.sub [2, 3, 1, 4, 5, 6, 0] rfl (lk_X12_placeWrong_56 hdd k11 hk11 fu t x1 v1 x3 x4 x5 0 _ HF)

set_option maxRecDepth 20000 in
theorem lk_X12_placeWrong_11 {g : aG} {l : Launch} {d : Nat} {h0 : aH} (hdd : 1 ≤ d) {r : Int32 × aH} : ∀ (n : Nat) (t : Nat) (x1 : Int32) (x2 : Int32) (x3 : Int32) (x4 : Int32) (x5 : Int32) (h : aH), F_X12_placeWrong_11  n t x1 x2 x3 x4 x5 h = some r → Ev g l cX12_placeWrong 8 yX12_placeWrong (some .int) d h0 (some (.int r.1), r.2) 11 [(0, .ref t), (1, .int x1), (2, .int x2), (3, .int x3), (4, .int x4), (5, .int x5)] [] h := by
  intro n
  induction n with
  | zero => intro t x1 x2 x3 x4 x5 h HF; cases HF
  | succ n ih =>
  intro t x1 x2 x3 x4 x5 h HF
  unfold F_X12_placeWrong_11 at HF
  refine ev_iload 5 dX12_placeWrong_11 rfl ?_
  refine ev_aload_n 0 dX12_placeWrong_13 rfl ?_
  replace HF := bind_ck HF
  obtain ⟨c1, HF⟩ := HF
  replace HF := bind_o HF
  obtain ⟨b2, e3, HF⟩ := HF
  refine ev_gS (f := 1308) cl_X12 (k := 8) (by decide) fi_X12_8 rfl fl_X12_25 dX12_placeWrong_14 c1 e3 ?_
  refine ev_iload_n 1 dX12_placeWrong_17 rfl ?_
  replace HF := bind_ck HF
  obtain ⟨c4, HF⟩ := HF
  refine ev_iald dX12_placeWrong_18 c4.1 c4.2 ?_
  by_cases c5 : hI h b2 x1.toNatClampNeg ≤ x5
  · replace HF := ite_T c5 HF
    refine ev_icmp_geT (tgt := 238) dX12_placeWrong_19 (by decide) c5 ?_
    refine ev_aload_n 0 dX12_placeWrong_238 rfl ?_
    refine ev_gI (f := 1328) cl_X12 (k := 28) (by decide) fi_X12_28 rfl fl_X12_200 dX12_placeWrong_239 c1 ?_
    by_cases c6 : hF h 1328 t = 0
    · replace HF := ite_T c6 HF
      refine ev_if_eqT (tgt := 249) dX12_placeWrong_242 (by decide) c6 ?_
      refine ev_iload 4 dX12_placeWrong_249 rfl ?_
      obtain rfl := Option.some.inj HF
      exact ev_iret dX12_placeWrong_251
    · replace HF := ite_F c6 HF
      refine ev_if_eqF (tgt := 249) dX12_placeWrong_242 (by decide) c6 ?_
      refine ev_iload_n 3 dX12_placeWrong_245 rfl ?_
      refine ev_goto (tgt := 251) dX12_placeWrong_246 (by decide) ?_
      obtain rfl := Option.some.inj HF
      exact ev_iret dX12_placeWrong_251
  · replace HF := ite_F c5 HF
    refine ev_icmp_geF (tgt := 238) dX12_placeWrong_19 (by decide) c5 ?_
    refine ev_aload_n 0 dX12_placeWrong_22 rfl ?_
    refine ev_gI (f := 1328) cl_X12 (k := 28) (by decide) fi_X12_28 rfl fl_X12_200 dX12_placeWrong_23 c1 ?_
    by_cases c7 : hF h 1328 t = 0
    · replace HF := ite_T c7 HF
      refine ev_if_eqT (tgt := 50) dX12_placeWrong_26 (by decide) c7 ?_
      exact Ev.sub [0, 1, 2, 3, 4, 5] rfl (lk_X12_placeWrong_50 hdd (F_X12_placeWrong_11 n) ih t x1 x2 x3 x4 x5 _ HF)
    · replace HF := ite_F c7 HF
      refine ev_if_eqF (tgt := 50) dX12_placeWrong_26 (by decide) c7 ?_
      refine ev_aload_n 0 dX12_placeWrong_29 rfl ?_
      refine ev_gI (f := 1329) cl_X12 (k := 29) (by decide) fi_X12_29 rfl fl_X12_203 dX12_placeWrong_30 c1 ?_
      refine ev_iload 5 dX12_placeWrong_33 rfl ?_
      by_cases c8 : hF h 1329 t = x5
      · replace HF := ite_T c8 HF
        refine ev_icmp_neF (tgt := 50) dX12_placeWrong_35 (by decide) c8 ?_
        refine ev_aload_n 0 dX12_placeWrong_38 rfl ?_
        refine ev_gI (f := 1330) cl_X12 (k := 30) (by decide) fi_X12_30 rfl fl_X12_206 dX12_placeWrong_39 c1 ?_
        refine ev_iconst (v := (-1)) dX12_placeWrong_42 (by decide) ?_
        by_cases c9 : hF h 1330 t = (-1)
        · replace HF := ite_T c9 HF
          refine ev_icmp_neF (tgt := 50) dX12_placeWrong_43 (by decide) c9 ?_
          refine ev_iload_n 2 dX12_placeWrong_46 rfl ?_
          refine ev_iconst (v := 1) dX12_placeWrong_47 (by decide) ?_
          refine ev_iadd dX12_placeWrong_48 ?_
          replace HF := bd_n HF
          obtain ⟨v10, ev10, HF⟩ := HF
          refine ev_topI ev10 ?_
          refine ev_istore_n (lv' := [(3, .int v10), (0, .ref t), (1, .int x1), (2, .int x2), (4, .int x4), (5, .int x5)]) dX12_placeWrong_49 (by decide) (rfl) ?_
          exact Ev.sub [1, 2, 3, 0, 4, 5] rfl (lk_X12_placeWrong_50 hdd (F_X12_placeWrong_11 n) ih t x1 x2 v10 x4 x5 _ HF)
        · replace HF := ite_F c9 HF
          refine ev_icmp_neT (tgt := 50) dX12_placeWrong_43 (by decide) c9 ?_
          exact Ev.sub [0, 1, 2, 3, 4, 5] rfl (lk_X12_placeWrong_50 hdd (F_X12_placeWrong_11 n) ih t x1 x2 x3 x4 x5 _ HF)
      · replace HF := ite_F c8 HF
        refine ev_icmp_neT (tgt := 50) dX12_placeWrong_35 (by decide) c8 ?_
        exact Ev.sub [0, 1, 2, 3, 4, 5] rfl (lk_X12_placeWrong_50 hdd (F_X12_placeWrong_11 n) ih t x1 x2 x3 x4 x5 _ HF)

set_option maxRecDepth 20000 in
theorem lk_X12_placeWrong {g : aG} {l : Launch} {d : Nat} (hdd : 1 ≤ d) {t : Nat} {x1 : Int32} {h : aH} {r : Int32 × aH} (hT : hK h t = 14) (HF : F_X12_placeWrong t x1 h = some r) : MA g l yX12_placeWrong cX12_placeWrong 8 (some .int) d [.ref t, .int x1] h (some (.int r.1), r.2) := by
  refine MA.of (lv0 := [(0, .ref t), (1, .int x1)]) (by decide +kernel) (rfl) (Nat.le_of_ble_eq_true rfl) ?_
  unfold F_X12_placeWrong at HF
  refine ev_bipush (v := 28) dX12_placeWrong_0 (by decide) ?_
  refine ev_istore_n (lv' := [(2, .int 28), (0, .ref t), (1, .int x1)]) dX12_placeWrong_2 (by decide) (rfl) ?_
  refine ev_iconst (v := 0) dX12_placeWrong_3 (by decide) ?_
  refine ev_istore_n (lv' := [(3, .int 0), (2, .int 28), (0, .ref t), (1, .int x1)]) dX12_placeWrong_4 (by decide) (rfl) ?_
  refine ev_iconst (v := 0) dX12_placeWrong_5 (by decide) ?_
  refine ev_istore (lv' := [(4, .int 0), (3, .int 0), (2, .int 28), (0, .ref t), (1, .int x1)]) dX12_placeWrong_6 (by decide) (rfl) ?_
  refine ev_iconst (v := 0) dX12_placeWrong_8 (by decide) ?_
  show EvG _ _ _ _ _ _ _ _ _ _ _ 9 _ _ _
  refine ev_istore (lv' := [(5, .int 0), (4, .int 0), (3, .int 0), (2, .int 28), (0, .ref t), (1, .int x1)]) dX12_placeWrong_9 (by decide) (rfl) ?_
  exact Ev.sub [4, 5, 3, 2, 1, 0] rfl (lk_X12_placeWrong_11 hdd  fu t x1 28 0 0 0 _ HF)

set_option maxRecDepth 20000 in
theorem lk_X12_readImage_248 {g : aG} {l : Launch} {d : Nat} {h0 : aH} (hdd : 6 ≤ d) {r : Int32 × aH} (t : Nat) (x2 : Int32) (h : aH) (HF : F_X12_readImage_248  t x2 h = some r) : Ev g l cX12_readImage 9 yX12_readImage (some .int) d h0 (some (.int r.1), r.2) 248 [(0, .ref t), (2, .int x2)] [] h := by
  unfold F_X12_readImage_248 at HF
  refine ev_aload_n 0 dX12_readImage_248 rfl ?_
  replace HF := bind_ck HF
  obtain ⟨c1, HF⟩ := HF
  refine ev_gI (f := 1369) cl_X12 (k := 69) (by decide) fi_X12_69 rfl fl_X12_368 dX12_readImage_249 c1 ?_
  by_cases c2 : hF h 1369 t = 0
  · replace HF := ite_T c2 HF
    refine ev_if_eqT (tgt := 262) dX12_readImage_252 (by decide) c2 ?_
    refine ev_aload_n 0 dX12_readImage_262 rfl ?_
    refine ev_iload_n 1 dX12_readImage_263 rfl ?_
    replace HF := bind_o HF
    obtain ⟨h4, e3, HF⟩ := HF
    refine ev_callV (As := [.int x2]) (R1 := (none, h4)) (lk_X12_play (d := 5) (Nat.le_refl _) c1 e3) ce_X12_play im_X12_play sl_X12_play ml_X12_300 cl_X12 c1 dX12_readImage_264 (by omega) (Nat.le_of_ble_eq_true rfl) rfl rfl ?_
    show EvG _ _ _ _ _ _ _ _ _ _ _ 267 [(0, .ref t), (2, .int x2)] [] h4
    refine ev_aload_n 0 dX12_readImage_267 rfl ?_
    refine ev_iload_n 1 dX12_readImage_268 rfl ?_
    replace HF := bind_ck HF
    obtain ⟨c6, HF⟩ := HF
    replace HF := bind_o HF
    obtain ⟨⟨z9, h8⟩, e7, HF⟩ := HF
    replace HF := bd_o (bd_o HF)
    dsimp only at HF
    refine ev_callV (As := [.int x2]) (R1 := (some (.int z9), h8)) (lk_X12_placeWrong (d := 1) (Nat.le_refl _) c6 e7) ce_X12_placeWrong im_X12_placeWrong sl_X12_placeWrong ml_X12_387 cl_X12 c6 dX12_readImage_269 (by omega) (Nat.le_of_ble_eq_true rfl) rfl rfl ?_
    show EvG _ _ _ _ _ _ _ _ _ _ _ 272 [(0, .ref t), (2, .int x2)] [.int z9] h8
    obtain rfl := Option.some.inj HF
    exact ev_iret dX12_readImage_272
  · replace HF := ite_F c2 HF
    refine ev_if_eqF (tgt := 262) dX12_readImage_252 (by decide) c2 ?_
    refine ev_aload_n 0 dX12_readImage_255 rfl ?_
    refine ev_gI (f := 1365) cl_X12 (k := 65) (by decide) fi_X12_65 rfl fl_X12_372 dX12_readImage_256 c1 ?_
    refine ev_iconst (v := 1) dX12_readImage_259 (by decide) ?_
    refine ev_iadd dX12_readImage_260 ?_
    obtain rfl := Option.some.inj HF
    exact ev_iret dX12_readImage_261

set_option maxRecDepth 20000 in
theorem lk_X12_readImage_228 {g : aG} {l : Launch} {d : Nat} {h0 : aH} (hdd : 6 ≤ d) {r : Int32 × aH} (t : Nat) (x1 : Int32) (x2 : Int32) (h : aH) (HF : F_X12_readImage_228  t x1 x2 h = some r) : Ev g l cX12_readImage 9 yX12_readImage (some .int) d h0 (some (.int r.1), r.2) 228 [(0, .ref t), (1, .int x1), (2, .int x2)] [] h := by
  unfold F_X12_readImage_228 at HF
  refine ev_aload_n 0 dX12_readImage_228 rfl ?_
  replace HF := bind_ck HF
  obtain ⟨c1, HF⟩ := HF
  refine ev_gI (f := 1369) cl_X12 (k := 69) (by decide) fi_X12_69 rfl fl_X12_368 dX12_readImage_229 c1 ?_
  by_cases c2 : hF h 1369 t = 0
  · replace HF := ite_T c2 HF
    refine ev_if_neF (tgt := 248) dX12_readImage_232 (by decide) c2 ?_
    refine ev_aload_n 0 dX12_readImage_235 rfl ?_
    refine ev_gI (f := 1365) cl_X12 (k := 65) (by decide) fi_X12_65 rfl fl_X12_372 dX12_readImage_236 c1 ?_
    refine ev_iload_n 1 dX12_readImage_239 rfl ?_
    by_cases c3 : x1 ≤ hF h 1365 t
    · replace HF := ite_T c3 HF
      refine ev_icmp_geT (tgt := 248) dX12_readImage_240 (by decide) c3 ?_
      exact Ev.sub [0, 2] rfl (lk_X12_readImage_248 hdd  t x2 _ HF)
    · replace HF := ite_F c3 HF
      refine ev_icmp_geF (tgt := 248) dX12_readImage_240 (by decide) c3 ?_
      refine ev_aload_n 0 dX12_readImage_243 rfl ?_
      refine ev_iconst (v := 1) dX12_readImage_244 (by decide) ?_
      refine ev_pI (f := 1369) cl_X12 (k := 69) (by decide) fi_X12_69 rfl fl_X12_368 rfl rfl rfl dX12_readImage_245 c1 ?_
      replace HF := bd_n HF
      obtain ⟨h4, eh4, HF⟩ := HF
      refine ev_heap eh4 ?_
      have c5 : hK h4 t = 14 := by rw [eh4]; exact c1
      exact Ev.sub [0, 2] rfl (lk_X12_readImage_248 hdd  t x2 _ HF)
  · replace HF := ite_F c2 HF
    refine ev_if_neT (tgt := 248) dX12_readImage_232 (by decide) c2 ?_
    exact Ev.sub [0, 2] rfl (lk_X12_readImage_248 hdd  t x2 _ HF)

set_option maxRecDepth 20000 in
theorem lk_X12_readImage_197 {g : aG} {l : Launch} {d : Nat} {h0 : aH} (hdd : 6 ≤ d) {r : Int32 × aH} : ∀ (n : Nat) (t : Nat) (x1 : Int32) (x2 : Int32) (x8 : Int32) (h : aH), F_X12_readImage_197  n t x1 x2 x8 h = some r → Ev g l cX12_readImage 9 yX12_readImage (some .int) d h0 (some (.int r.1), r.2) 197 [(0, .ref t), (1, .int x1), (2, .int x2), (8, .int x8)] [] h := by
  intro n
  induction n with
  | zero => intro t x1 x2 x8 h HF; cases HF
  | succ n ih =>
  intro t x1 x2 x8 h HF
  unfold F_X12_readImage_197 at HF
  refine ev_iload 3 dX12_readImage_197 rfl ?_
  refine ev_aload_n 0 dX12_readImage_199 rfl ?_
  replace HF := bind_ck HF
  obtain ⟨c1, HF⟩ := HF
  replace HF := bind_o HF
  obtain ⟨b2, e3, HF⟩ := HF
  refine ev_gS (f := 1308) cl_X12 (k := 8) (by decide) fi_X12_8 rfl fl_X12_25 dX12_readImage_200 c1 e3 ?_
  refine ev_iload_n 2 dX12_readImage_203 rfl ?_
  replace HF := bind_ck HF
  obtain ⟨c4, HF⟩ := HF
  refine ev_iald dX12_readImage_204 c4.1 c4.2 ?_
  by_cases c5 : hI h b2 x2.toNatClampNeg ≤ x8
  · replace HF := ite_T c5 HF
    refine ev_icmp_geT (tgt := 228) dX12_readImage_205 (by decide) c5 ?_
    exact Ev.sub [0, 1, 2] rfl (lk_X12_readImage_228 hdd  t x1 x2 _ HF)
  · replace HF := ite_F c5 HF
    refine ev_icmp_geF (tgt := 228) dX12_readImage_205 (by decide) c5 ?_
    refine ev_aload_n 0 dX12_readImage_208 rfl ?_
    refine ev_gI (f := 1369) cl_X12 (k := 69) (by decide) fi_X12_69 rfl fl_X12_368 dX12_readImage_209 c1 ?_
    by_cases c6 : hF h 1369 t = 0
    · replace HF := ite_T c6 HF
      refine ev_if_neF (tgt := 228) dX12_readImage_212 (by decide) c6 ?_
      refine ev_aload_n 0 dX12_readImage_215 rfl ?_
      refine ev_iload_n 2 dX12_readImage_216 rfl ?_
      refine ev_iload 3 dX12_readImage_217 rfl ?_
      replace HF := bind_o HF
      obtain ⟨h8, e7, HF⟩ := HF
      refine ev_callV (As := [.int x2, .int x8]) (R1 := (none, h8)) (lk_X12_readTurn (d := 1) (Nat.le_refl _) c1 e7) ce_X12_readTurn im_X12_readTurn sl_X12_readTurn ml_X12_384 cl_X12 c1 dX12_readImage_219 (by omega) (Nat.le_of_ble_eq_true rfl) rfl rfl ?_
      show EvG _ _ _ _ _ _ _ _ _ _ _ 222 [(0, .ref t), (1, .int x1), (2, .int x2), (8, .int x8)] [] h8
      replace HF := bd_n HF
      obtain ⟨v10, ev10, HF⟩ := HF
      refine ev_iinc (v := v10) (lv' := [(8, .int v10), (0, .ref t), (1, .int x1), (2, .int x2)]) 3 dX12_readImage_222 rfl (by rw [ev10]; rfl) (by decide) (rfl) ?_
      refine ev_goto (tgt := 197) dX12_readImage_225 (by decide) ?_
      exact Ev.sub [1, 2, 3, 0] rfl (ih t x1 x2 v10 _ HF)
    · replace HF := ite_F c6 HF
      refine ev_if_neT (tgt := 228) dX12_readImage_212 (by decide) c6 ?_
      exact Ev.sub [0, 1, 2] rfl (lk_X12_readImage_228 hdd  t x1 x2 _ HF)

set_option maxRecDepth 20000 in
theorem lk_X12_readImage_164 {g : aG} {l : Launch} {d : Nat} {h0 : aH} (hdd : 6 ≤ d) {r : Int32 × aH} (t : Nat) (x1 : Int32) (x2 : Int32) (x6 : Int32) (h : aH) (HF : F_X12_readImage_164  t x1 x2 x6 h = some r) : Ev g l cX12_readImage 9 yX12_readImage (some .int) d h0 (some (.int r.1), r.2) 164 [(0, .ref t), (1, .int x1), (2, .int x2), (6, .int x6)] [] h := by
  unfold F_X12_readImage_164 at HF
  refine ev_aload_n 0 dX12_readImage_164 rfl ?_
  refine ev_iconst (v := 0) dX12_readImage_165 (by decide) ?_
  refine ev_iconst (v := 2) dX12_readImage_166 (by decide) ?_
  refine ev_iload 3 dX12_readImage_167 rfl ?_
  refine ev_imul dX12_readImage_169 ?_
  replace HF := bind_ck HF
  obtain ⟨c1, HF⟩ := HF
  replace HF := bind_o HF
  obtain ⟨⟨z4, h3⟩, e2, HF⟩ := HF
  replace HF := bd_o (bd_o HF)
  dsimp only at HF
  refine ev_callV (As := [.int 0, .int (2 * x6)]) (R1 := (some (.int z4), h3)) (lk_X12_read (d := 0) (Nat.le_refl _) c1 e2) ce_X12_read im_X12_read sl_X12_read ml_X12_378 cl_X12 c1 dX12_readImage_170 (by omega) (Nat.le_of_ble_eq_true rfl) rfl rfl ?_
  show EvG _ _ _ _ _ _ _ _ _ _ _ 173 [(0, .ref t), (1, .int x1), (2, .int x2), (6, .int x6)] [.int z4] h3
  refine ev_istore (lv' := [(7, .int z4), (0, .ref t), (1, .int x1), (2, .int x2), (6, .int x6)]) dX12_readImage_173 (by decide) (rfl) ?_
  show EvG _ _ _ _ _ _ _ _ _ _ _ 175 _ _ _
  refine ev_aload_n 1 dX12_readImage_175 rfl ?_
  replace HF := bind_ck HF
  obtain ⟨c6, HF⟩ := HF
  replace HF := bind_o HF
  obtain ⟨b7, e8, HF⟩ := HF
  refine ev_gS (f := 1308) cl_X12 (k := 8) (by decide) fi_X12_8 rfl fl_X12_25 dX12_readImage_176 c6 e8 ?_
  refine ev_iload_n 3 dX12_readImage_179 rfl ?_
  refine ev_aload_n 1 dX12_readImage_180 rfl ?_
  refine ev_gI (f := 1369) cl_X12 (k := 69) (by decide) fi_X12_69 rfl fl_X12_368 dX12_readImage_181 c6 ?_
  by_cases c9 : hF h3 1369 t = 0
  · replace HF := ite_T c9 HF
    refine ev_if_eqT (tgt := 191) dX12_readImage_184 (by decide) c9 ?_
    refine ev_iload 0 dX12_readImage_191 rfl ?_
    replace HF := bind_ck HF
    obtain ⟨c10, HF⟩ := HF
    refine ev_iast dX12_readImage_193 c10.1 c10.2 ?_
    replace HF := bd_n HF
    obtain ⟨h11, eh11, HF⟩ := HF
    refine ev_heap eh11 ?_
    have c12 : hK h11 t = 14 := by rw [eh11]; exact c6
    refine ev_iconst (v := 0) dX12_readImage_194 (by decide) ?_
    refine ev_istore (lv' := [(8, .int 0), (7, .int z4), (0, .ref t), (1, .int x1), (2, .int x2), (6, .int x6)]) dX12_readImage_195 (by decide) (rfl) ?_
    exact Ev.sub [2, 3, 4, 0] rfl (lk_X12_readImage_197 hdd  fu t x1 x2 0 _ HF)
  · replace HF := ite_F c9 HF
    refine ev_if_eqF (tgt := 191) dX12_readImage_184 (by decide) c9 ?_
    refine ev_iconst (v := 0) dX12_readImage_187 (by decide) ?_
    refine ev_goto (tgt := 193) dX12_readImage_188 (by decide) ?_
    replace HF := bind_ck HF
    obtain ⟨c13, HF⟩ := HF
    refine ev_iast dX12_readImage_193 c13.1 c13.2 ?_
    replace HF := bd_n HF
    obtain ⟨h14, eh14, HF⟩ := HF
    refine ev_heap eh14 ?_
    have c15 : hK h14 t = 14 := by rw [eh14]; exact c6
    refine ev_iconst (v := 0) dX12_readImage_194 (by decide) ?_
    refine ev_istore (lv' := [(8, .int 0), (7, .int z4), (0, .ref t), (1, .int x1), (2, .int x2), (6, .int x6)]) dX12_readImage_195 (by decide) (rfl) ?_
    exact Ev.sub [2, 3, 4, 0] rfl (lk_X12_readImage_197 hdd  fu t x1 x2 0 _ HF)

set_option maxRecDepth 20000 in
theorem lk_X12_readImage_137 {g : aG} {l : Launch} {d : Nat} {h0 : aH} (hdd : 6 ≤ d) {r : Int32 × aH} : ∀ (n : Nat) (t : Nat) (x1 : Int32) (x2 : Int32) (x6 : Int32) (x7 : Int32) (h : aH), F_X12_readImage_137  n t x1 x2 x6 x7 h = some r → Ev g l cX12_readImage 9 yX12_readImage (some .int) d h0 (some (.int r.1), r.2) 137 [(0, .ref t), (1, .int x1), (2, .int x2), (6, .int x6), (7, .int x7)] [] h := by
  intro n
  induction n with
  | zero => intro t x1 x2 x6 x7 h HF; cases HF
  | succ n ih =>
  intro t x1 x2 x6 x7 h HF
  unfold F_X12_readImage_137 at HF
  refine ev_iload 4 dX12_readImage_137 rfl ?_
  refine ev_bipush (v := 22) dX12_readImage_139 (by decide) ?_
  by_cases c1 : 22 ≤ x7
  · replace HF := ite_T c1 HF
    refine ev_icmp_geT (tgt := 164) dX12_readImage_141 (by decide) c1 ?_
    exact Ev.sub [0, 1, 2, 3] rfl (lk_X12_readImage_164 hdd  t x1 x2 x6 _ HF)
  · replace HF := ite_F c1 HF
    refine ev_icmp_geF (tgt := 164) dX12_readImage_141 (by decide) c1 ?_
    refine ev_aload_n 0 dX12_readImage_144 rfl ?_
    replace HF := bind_ck HF
    obtain ⟨c2, HF⟩ := HF
    refine ev_gI (f := 1369) cl_X12 (k := 69) (by decide) fi_X12_69 rfl fl_X12_368 dX12_readImage_145 c2 ?_
    by_cases c3 : hF h 1369 t = 0
    · replace HF := ite_T c3 HF
      refine ev_if_neF (tgt := 164) dX12_readImage_148 (by decide) c3 ?_
      refine ev_aload_n 0 dX12_readImage_151 rfl ?_
      refine ev_iload_n 2 dX12_readImage_152 rfl ?_
      refine ev_iload 4 dX12_readImage_153 rfl ?_
      replace HF := bind_o HF
      obtain ⟨h5, e4, HF⟩ := HF
      refine ev_callV (As := [.int x2, .int x7]) (R1 := (none, h5)) (lk_X12_readPlayer (d := 1) (Nat.le_refl _) c2 e4) ce_X12_readPlayer im_X12_readPlayer sl_X12_readPlayer ml_X12_381 cl_X12 c2 dX12_readImage_155 (by omega) (Nat.le_of_ble_eq_true rfl) rfl rfl ?_
      show EvG _ _ _ _ _ _ _ _ _ _ _ 158 [(0, .ref t), (1, .int x1), (2, .int x2), (6, .int x6), (7, .int x7)] [] h5
      replace HF := bd_n HF
      obtain ⟨v7, ev7, HF⟩ := HF
      refine ev_iinc (v := v7) (lv' := [(7, .int v7), (0, .ref t), (1, .int x1), (2, .int x2), (6, .int x6)]) 4 dX12_readImage_158 rfl (by rw [ev7]; rfl) (by decide) (rfl) ?_
      refine ev_goto (tgt := 137) dX12_readImage_161 (by decide) ?_
      exact Ev.sub [1, 2, 3, 4, 0] rfl (ih t x1 x2 x6 v7 _ HF)
    · replace HF := ite_F c3 HF
      refine ev_if_neT (tgt := 164) dX12_readImage_148 (by decide) c3 ?_
      exact Ev.sub [0, 1, 2, 3] rfl (lk_X12_readImage_164 hdd  t x1 x2 x6 _ HF)

set_option maxRecDepth 20000 in
theorem lk_X12_readImage_82 {g : aG} {l : Launch} {d : Nat} {h0 : aH} (hdd : 6 ≤ d) {r : Int32 × aH} (t : Nat) (x1 : Int32) (x2 : Int32) (x3 : Int32) (x4 : Int32) (h : aH) (HF : F_X12_readImage_82  t x1 x2 x3 x4 h = some r) : Ev g l cX12_readImage 9 yX12_readImage (some .int) d h0 (some (.int r.1), r.2) 82 [(0, .ref t), (1, .int x1), (2, .int x2), (3, .int x3), (4, .int x4)] [] h := by
  unfold F_X12_readImage_82 at HF
  refine ev_aload_n 0 dX12_readImage_82 rfl ?_
  refine ev_iconst (v := 1) dX12_readImage_83 (by decide) ?_
  refine ev_bipush (v := 120) dX12_readImage_84 (by decide) ?_
  replace HF := bind_ck HF
  obtain ⟨c1, HF⟩ := HF
  replace HF := bind_o HF
  obtain ⟨⟨z4, h3⟩, e2, HF⟩ := HF
  replace HF := bd_o (bd_o HF)
  dsimp only at HF
  refine ev_callV (As := [.int 1, .int 120]) (R1 := (some (.int z4), h3)) (lk_X12_read (d := 0) (Nat.le_refl _) c1 e2) ce_X12_read im_X12_read sl_X12_read ml_X12_378 cl_X12 c1 dX12_readImage_86 (by omega) (Nat.le_of_ble_eq_true rfl) rfl rfl ?_
  show EvG _ _ _ _ _ _ _ _ _ _ _ 89 [(0, .ref t), (1, .int x1), (2, .int x2), (3, .int x3), (4, .int x4)] [.int z4] h3
  refine ev_istore (lv' := [(5, .int z4), (0, .ref t), (1, .int x1), (2, .int x2), (3, .int x3), (4, .int x4)]) dX12_readImage_89 (by decide) (rfl) ?_
  refine ev_aload_n 1 dX12_readImage_91 rfl ?_
  refine ev_iconst (v := 1) dX12_readImage_92 (by decide) ?_
  show EvG _ _ _ _ _ _ _ _ _ _ _ 93 _ _ _
  refine ev_iconst (v := 2) dX12_readImage_93 (by decide) ?_
  replace HF := bind_ck HF
  obtain ⟨c6, HF⟩ := HF
  replace HF := bind_o HF
  obtain ⟨⟨z9, h8⟩, e7, HF⟩ := HF
  replace HF := bd_o (bd_o HF)
  dsimp only at HF
  refine ev_callV (As := [.int 1, .int 2]) (R1 := (some (.int z9), h8)) (lk_X12_read (d := 0) (Nat.le_refl _) c6 e7) ce_X12_read im_X12_read sl_X12_read ml_X12_378 cl_X12 c6 dX12_readImage_94 (by omega) (Nat.le_of_ble_eq_true rfl) rfl rfl ?_
  show EvG _ _ _ _ _ _ _ _ _ _ _ 97 [(5, .int z4), (0, .ref t), (1, .int x1), (2, .int x2), (3, .int x3), (4, .int x4)] [.int z9] h8
  refine ev_istore (lv' := [(6, .int z9), (5, .int z4), (0, .ref t), (1, .int x1), (2, .int x2), (3, .int x3), (4, .int x4)]) dX12_readImage_97 (by decide) (rfl) ?_
  refine ev_aload_n 2 dX12_readImage_99 rfl ?_
  replace HF := bind_ck HF
  obtain ⟨c11, HF⟩ := HF
  refine ev_gI (f := 1369) cl_X12 (k := 69) (by decide) fi_X12_69 rfl fl_X12_368 dX12_readImage_100 c11 ?_
  by_cases c12 : hF h8 1369 t = 0
  · replace HF := ite_T c12 HF
    refine ev_if_eqT (tgt := 113) dX12_readImage_103 (by decide) c12 ?_
    refine ev_aload_n 2 dX12_readImage_113 rfl ?_
    refine ev_iload_n 5 dX12_readImage_114 rfl ?_
    refine ev_iload 6 dX12_readImage_115 rfl ?_
    refine ev_iload 1 dX12_readImage_117 rfl ?_
    refine ev_iload 0 dX12_readImage_119 rfl ?_
    replace HF := bind_o HF
    obtain ⟨h14, e13, HF⟩ := HF
    refine ev_callV (As := [.int x3, .int x4, .int z4, .int z9]) (R1 := (none, h14)) (lk_X12_newGame (d := 0) (Nat.le_refl _) c11 e13) ce_X12_newGame im_X12_newGame sl_X12_newGame ml_X12_189 cl_X12 c11 dX12_readImage_121 (by omega) (Nat.le_of_ble_eq_true rfl) rfl rfl ?_
    show EvG _ _ _ _ _ _ _ _ _ _ _ 124 [(6, .int z9), (5, .int z4), (0, .ref t), (1, .int x1), (2, .int x2), (3, .int x3), (4, .int x4)] [] h14
    refine ev_aload_n 2 dX12_readImage_124 rfl ?_
    show EvG _ _ _ _ _ _ _ _ _ _ _ 125 _ _ _
    refine ev_dup dX12_readImage_125 rfl ?_
    replace HF := bind_ck HF
    obtain ⟨c16, HF⟩ := HF
    refine ev_gI (f := 1302) cl_X12 (k := 2) (by decide) fi_X12_2 rfl fl_X12_182 dX12_readImage_126 c16 ?_
    refine ev_iconst (v := 1) dX12_readImage_129 (by decide) ?_
    refine ev_isub dX12_readImage_130 ?_
    refine ev_pI (f := 1302) cl_X12 (k := 2) (by decide) fi_X12_2 rfl fl_X12_182 rfl rfl rfl dX12_readImage_131 c16 ?_
    replace HF := bd_n HF
    obtain ⟨h17, eh17, HF⟩ := HF
    refine ev_heap eh17 ?_
    have c18 : hK h17 t = 14 := by rw [eh17]; exact c16
    refine ev_iconst (v := 0) dX12_readImage_134 (by decide) ?_
    refine ev_istore (lv' := [(7, .int 0), (6, .int z9), (5, .int z4), (0, .ref t), (1, .int x1), (2, .int x2), (3, .int x3), (4, .int x4)]) dX12_readImage_135 (by decide) (rfl) ?_
    exact Ev.sub [3, 4, 5, 1, 0] rfl (lk_X12_readImage_137 hdd  fu t x1 x2 z9 0 _ HF)
  · replace HF := ite_F c12 HF
    refine ev_if_eqF (tgt := 113) dX12_readImage_103 (by decide) c12 ?_
    refine ev_aload_n 2 dX12_readImage_106 rfl ?_
    refine ev_gI (f := 1365) cl_X12 (k := 65) (by decide) fi_X12_65 rfl fl_X12_372 dX12_readImage_107 c11 ?_
    refine ev_iconst (v := 1) dX12_readImage_110 (by decide) ?_
    refine ev_iadd dX12_readImage_111 ?_
    obtain rfl := Option.some.inj HF
    exact ev_iret dX12_readImage_112

set_option maxRecDepth 20000 in
theorem lk_X12_readImage {g : aG} {l : Launch} {d : Nat} (hdd : 6 ≤ d) {t : Nat} {x1 : Int32} {h : aH} {r : Int32 × aH} (hT : hK h t = 14) (HF : F_X12_readImage t x1 h = some r) : MA g l yX12_readImage cX12_readImage 9 (some .int) d [.ref t, .int x1] h (some (.int r.1), r.2) := by
  refine MA.of (lv0 := [(0, .ref t), (1, .int x1)]) (by decide +kernel) (rfl) (Nat.le_of_ble_eq_true rfl) ?_
  unfold F_X12_readImage at HF
  refine ev_aload_n 0 dX12_readImage_0 rfl ?_
  refine ev_iconst (v := 0) dX12_readImage_1 (by decide) ?_
  refine ev_pI (f := 1365) cl_X12 (k := 65) (by decide) fi_X12_65 rfl fl_X12_372 rfl rfl rfl dX12_readImage_2 hT ?_
  replace HF := bd_n HF
  obtain ⟨h1, eh1, HF⟩ := HF
  refine ev_heap eh1 ?_
  have c2 : hK h1 t = 14 := by rw [eh1]; exact hT
  refine ev_aload_n 0 dX12_readImage_5 rfl ?_
  refine ev_iload_n 1 dX12_readImage_6 rfl ?_
  refine ev_pI (f := 1366) cl_X12 (k := 66) (by decide) fi_X12_66 rfl fl_X12_375 rfl rfl rfl dX12_readImage_7 c2 ?_
  replace HF := bd_n HF
  obtain ⟨h3, eh3, HF⟩ := HF
  refine ev_heap eh3 ?_
  have c4 : hK h3 t = 14 := by rw [eh3]; exact c2
  refine ev_aload_n 0 dX12_readImage_10 rfl ?_
  show EvG _ _ _ _ _ _ _ _ _ _ _ 11 _ _ _
  refine ev_iconst (v := 0) dX12_readImage_11 (by decide) ?_
  refine ev_pI (f := 1369) cl_X12 (k := 69) (by decide) fi_X12_69 rfl fl_X12_368 rfl rfl rfl dX12_readImage_12 c4 ?_
  replace HF := bd_n HF
  obtain ⟨h5, eh5, HF⟩ := HF
  refine ev_heap eh5 ?_
  have c6 : hK h5 t = 14 := by rw [eh5]; exact c4
  refine ev_aload_n 0 dX12_readImage_15 rfl ?_
  refine ev_gI (f := 1302) cl_X12 (k := 2) (by decide) fi_X12_2 rfl fl_X12_182 dX12_readImage_16 c6 ?_
  replace HF := bd_n HF
  obtain ⟨v7, ev7, HF⟩ := HF
  refine ev_topI ev7 ?_
  refine ev_istore_n (lv' := [(2, .int v7), (0, .ref t), (1, .int x1)]) dX12_readImage_19 (by decide) (rfl) ?_
  refine ev_aload_n 1 dX12_readImage_20 rfl ?_
  refine ev_bipush (v := 66) dX12_readImage_21 (by decide) ?_
  refine ev_bipush (v := 66) dX12_readImage_23 (by decide) ?_
  show EvG _ _ _ _ _ _ _ _ _ _ _ 25 _ _ _
  replace HF := bind_o HF
  obtain ⟨⟨z10, h9⟩, e8, HF⟩ := HF
  replace HF := bd_o (bd_o HF)
  dsimp only at HF
  refine ev_callV (As := [.int 66, .int 66]) (R1 := (some (.int z10), h9)) (lk_X12_read (d := 0) (Nat.le_refl _) c6 e8) ce_X12_read im_X12_read sl_X12_read ml_X12_378 cl_X12 c6 dX12_readImage_25 (by omega) (Nat.le_of_ble_eq_true rfl) rfl rfl ?_
  show EvG _ _ _ _ _ _ _ _ _ _ _ 28 [(2, .int v7), (0, .ref t), (1, .int x1)] [.int z10] h9
  refine ev_pop dX12_readImage_28 (by first | rfl | exact va_cat _) ?_
  refine ev_aload_n 1 dX12_readImage_29 rfl ?_
  refine ev_iconst (v := 0) dX12_readImage_30 (by decide) ?_
  refine ev_aload_n 1 dX12_readImage_31 rfl ?_
  replace HF := bind_ck HF
  obtain ⟨c12, HF⟩ := HF
  refine ev_gI (f := 1301) cl_X12 (k := 1) (by decide) fi_X12_1 rfl fl_X12_179 dX12_readImage_32 c12 ?_
  refine ev_iconst (v := 1) dX12_readImage_35 (by decide) ?_
  refine ev_isub dX12_readImage_36 ?_
  show EvG _ _ _ _ _ _ _ _ _ _ _ 37 _ _ _
  replace HF := bind_o HF
  obtain ⟨⟨z15, h14⟩, e13, HF⟩ := HF
  replace HF := bd_o (bd_o HF)
  dsimp only at HF
  refine ev_callV (As := [.int 0, .int ((hF h9 1301 t) - 1)]) (R1 := (some (.int z15), h14)) (lk_X12_read (d := 0) (Nat.le_refl _) c12 e13) ce_X12_read im_X12_read sl_X12_read ml_X12_378 cl_X12 c12 dX12_readImage_37 (by omega) (Nat.le_of_ble_eq_true rfl) rfl rfl ?_
  show EvG _ _ _ _ _ _ _ _ _ _ _ 40 [(2, .int v7), (0, .ref t), (1, .int x1)] [.int z15] h14
  refine ev_istore_n (lv' := [(3, .int z15), (2, .int v7), (0, .ref t), (1, .int x1)]) dX12_readImage_40 (by decide) (rfl) ?_
  refine ev_aload_n 2 dX12_readImage_41 rfl ?_
  refine ev_iconst (v := 0) dX12_readImage_42 (by decide) ?_
  refine ev_aload_n 2 dX12_readImage_43 rfl ?_
  replace HF := bind_ck HF
  obtain ⟨c17, HF⟩ := HF
  refine ev_gI (f := 1301) cl_X12 (k := 1) (by decide) fi_X12_1 rfl fl_X12_179 dX12_readImage_44 c17 ?_
  refine ev_iconst (v := 1) dX12_readImage_47 (by decide) ?_
  refine ev_isub dX12_readImage_48 ?_
  show EvG _ _ _ _ _ _ _ _ _ _ _ 49 _ _ _
  replace HF := bind_o HF
  obtain ⟨⟨z20, h19⟩, e18, HF⟩ := HF
  replace HF := bd_o (bd_o HF)
  dsimp only at HF
  refine ev_callV (As := [.int 0, .int ((hF h14 1301 t) - 1)]) (R1 := (some (.int z20), h19)) (lk_X12_read (d := 0) (Nat.le_refl _) c17 e18) ce_X12_read im_X12_read sl_X12_read ml_X12_378 cl_X12 c17 dX12_readImage_49 (by omega) (Nat.le_of_ble_eq_true rfl) rfl rfl ?_
  show EvG _ _ _ _ _ _ _ _ _ _ _ 52 [(3, .int z15), (2, .int v7), (0, .ref t), (1, .int x1)] [.int z20] h19
  refine ev_istore (lv' := [(4, .int z20), (3, .int z15), (2, .int v7), (0, .ref t), (1, .int x1)]) dX12_readImage_52 (by decide) (rfl) ?_
  refine ev_aload_n 3 dX12_readImage_54 rfl ?_
  replace HF := bind_ck HF
  obtain ⟨c22, HF⟩ := HF
  refine ev_gI (f := 1369) cl_X12 (k := 69) (by decide) fi_X12_69 rfl fl_X12_368 dX12_readImage_55 c22 ?_
  by_cases c23 : hF h19 1369 t = 0
  · replace HF := ite_T c23 HF
    refine ev_if_neF (tgt := 82) dX12_readImage_58 (by decide) c23 ?_
    refine ev_iload_n 1 dX12_readImage_61 rfl ?_
    refine ev_iload 0 dX12_readImage_62 rfl ?_
    by_cases c24 : z15 = z20
    · replace HF := ite_T c24 HF
      refine ev_icmp_neF (tgt := 82) dX12_readImage_64 (by decide) c24 ?_
      refine ev_aload_n 3 dX12_readImage_67 rfl ?_
      refine ev_iconst (v := 1) dX12_readImage_68 (by decide) ?_
      refine ev_pI (f := 1369) cl_X12 (k := 69) (by decide) fi_X12_69 rfl fl_X12_368 rfl rfl rfl dX12_readImage_69 c22 ?_
      replace HF := bd_n HF
      obtain ⟨h25, eh25, HF⟩ := HF
      refine ev_heap eh25 ?_
      have c26 : hK h25 t = 14 := by rw [eh25]; exact c22
      refine ev_aload_n 3 dX12_readImage_72 rfl ?_
      refine ev_dup dX12_readImage_73 rfl ?_
      refine ev_gI (f := 1365) cl_X12 (k := 65) (by decide) fi_X12_65 rfl fl_X12_372 dX12_readImage_74 c26 ?_
      refine ev_iconst (v := 1) dX12_readImage_77 (by decide) ?_
      show EvG _ _ _ _ _ _ _ _ _ _ _ 78 _ _ _
      refine ev_isub dX12_readImage_78 ?_
      refine ev_pI (f := 1365) cl_X12 (k := 65) (by decide) fi_X12_65 rfl fl_X12_372 rfl rfl rfl dX12_readImage_79 c26 ?_
      replace HF := bd_n HF
      obtain ⟨h27, eh27, HF⟩ := HF
      refine ev_heap eh27 ?_
      have c28 : hK h27 t = 14 := by rw [eh27]; exact c26
      exact Ev.sub [3, 4, 2, 1, 0] rfl (lk_X12_readImage_82 hdd  t x1 v7 z15 z20 _ HF)
    · replace HF := ite_F c24 HF
      refine ev_icmp_neT (tgt := 82) dX12_readImage_64 (by decide) c24 ?_
      exact Ev.sub [3, 4, 2, 1, 0] rfl (lk_X12_readImage_82 hdd  t x1 v7 z15 z20 _ HF)
  · replace HF := ite_F c23 HF
    refine ev_if_neT (tgt := 82) dX12_readImage_58 (by decide) c23 ?_
    exact Ev.sub [3, 4, 2, 1, 0] rfl (lk_X12_readImage_82 hdd  t x1 v7 z15 z20 _ HF)

set_option maxRecDepth 20000 in
theorem lk_X12_readFull_309 {g : aG} {l : Launch} {d : Nat} {h0 : aH} (hdd : 7 ≤ d) {r : Int32 × aH} : ∀ (n : Nat) (t : Nat) (x2 : Int32) (a3 : Nat) (x4 : Int32) (x5 : Int32) (h : aH), F_X12_readFull_309  n t x2 a3 x4 x5 h = some r → Ev g l cX12_readFull 6 yX12_readFull (some .int) d h0 (some (.int r.1), r.2) 309 [(0, .ref t), (2, .int x2), (3, .ref a3), (4, .int x4), (5, .int x5)] [] h := by
  intro n
  induction n with
  | zero => intro t x2 a3 x4 x5 h HF; cases HF
  | succ n ih =>
  intro t x2 a3 x4 x5 h HF
  unfold F_X12_readFull_309 at HF
  refine ev_iload 4 dX12_readFull_309 rfl ?_
  refine ev_sipush (v := 520) dX12_readFull_311 (by decide) ?_
  by_cases c1 : 520 ≤ x5
  · replace HF := ite_T c1 HF
    refine ev_icmp_geT (tgt := 343) dX12_readFull_314 (by decide) c1 ?_
    refine ev_iload 3 dX12_readFull_343 rfl ?_
    obtain rfl := Option.some.inj HF
    exact ev_iret dX12_readFull_345
  · replace HF := ite_F c1 HF
    refine ev_icmp_geF (tgt := 343) dX12_readFull_314 (by decide) c1 ?_
    refine ev_aload_n 0 dX12_readFull_317 rfl ?_
    replace HF := bind_ck HF
    obtain ⟨c2, HF⟩ := HF
    replace HF := bind_o HF
    obtain ⟨b3, e4, HF⟩ := HF
    refine ev_gS (f := 1310) cl_X12 (k := 10) (by decide) fi_X12_10 rfl fl_X12_32 dX12_readFull_318 c2 e4 ?_
    refine ev_sipush (v := 520) dX12_readFull_321 (by decide) ?_
    refine ev_iload_n 1 dX12_readFull_324 rfl ?_
    refine ev_imul dX12_readFull_325 ?_
    refine ev_iload 4 dX12_readFull_326 rfl ?_
    refine ev_iadd dX12_readFull_328 ?_
    show EvG _ _ _ _ _ _ _ _ _ _ _ 329 _ _ _
    refine ev_aload_n 2 dX12_readFull_329 rfl ?_
    refine ev_bipush (v := 31) dX12_readFull_330 (by decide) ?_
    refine ev_iload 4 dX12_readFull_332 rfl ?_
    refine ev_iadd dX12_readFull_334 ?_
    replace HF := bind_ck HF
    obtain ⟨c5, HF⟩ := HF
    refine ev_iald dX12_readFull_335 c5.1 c5.2 ?_
    replace HF := bind_ck HF
    obtain ⟨c6, HF⟩ := HF
    refine ev_iast dX12_readFull_336 c6.1 c6.2 ?_
    replace HF := bd_n HF
    obtain ⟨h7, eh7, HF⟩ := HF
    refine ev_heap eh7 ?_
    have c8 : hK h7 t = 14 := by rw [eh7]; exact c2
    replace HF := bd_n HF
    obtain ⟨v9, ev9, HF⟩ := HF
    refine ev_iinc (v := v9) (lv' := [(5, .int v9), (0, .ref t), (2, .int x2), (3, .ref a3), (4, .int x4)]) 4 dX12_readFull_337 rfl (by rw [ev9]; rfl) (by decide) (rfl) ?_
    refine ev_goto (tgt := 309) dX12_readFull_340 (by decide) ?_
    exact Ev.sub [1, 2, 3, 4, 0] rfl (ih t x2 a3 x4 v9 _ HF)

set_option maxRecDepth 20000 in
theorem lk_X12_readFull_276 {g : aG} {l : Launch} {d : Nat} {h0 : aH} (hdd : 7 ≤ d) {r : Int32 × aH} : ∀ (n : Nat) (t : Nat) (x2 : Int32) (a3 : Nat) (x4 : Int32) (x5 : Int32) (h : aH), F_X12_readFull_276  n t x2 a3 x4 x5 h = some r → Ev g l cX12_readFull 6 yX12_readFull (some .int) d h0 (some (.int r.1), r.2) 276 [(0, .ref t), (2, .int x2), (3, .ref a3), (4, .int x4), (5, .int x5)] [] h := by
  intro n
  induction n with
  | zero => intro t x2 a3 x4 x5 h HF; cases HF
  | succ n ih =>
  intro t x2 a3 x4 x5 h HF
  unfold F_X12_readFull_276 at HF
  refine ev_iload 4 dX12_readFull_276 rfl ?_
  refine ev_iconst (v := 4) dX12_readFull_278 (by decide) ?_
  by_cases c1 : 4 ≤ x5
  · replace HF := ite_T c1 HF
    refine ev_icmp_geT (tgt := 306) dX12_readFull_279 (by decide) c1 ?_
    refine ev_iconst (v := 0) dX12_readFull_306 (by decide) ?_
    refine ev_istore (lv' := [(5, .int 0), (0, .ref t), (2, .int x2), (3, .ref a3), (4, .int x4)]) dX12_readFull_307 (by decide) (rfl) ?_
    exact Ev.sub [1, 2, 3, 4, 0] rfl (lk_X12_readFull_309 hdd  fu t x2 a3 x4 0 _ HF)
  · replace HF := ite_F c1 HF
    refine ev_icmp_geF (tgt := 306) dX12_readFull_279 (by decide) c1 ?_
    refine ev_aload_n 0 dX12_readFull_282 rfl ?_
    replace HF := bind_ck HF
    obtain ⟨c2, HF⟩ := HF
    replace HF := bind_o HF
    obtain ⟨b3, e4, HF⟩ := HF
    refine ev_gS (f := 1309) cl_X12 (k := 9) (by decide) fi_X12_9 rfl fl_X12_28 dX12_readFull_283 c2 e4 ?_
    refine ev_iconst (v := 4) dX12_readFull_286 (by decide) ?_
    refine ev_iload_n 1 dX12_readFull_287 rfl ?_
    refine ev_imul dX12_readFull_288 ?_
    refine ev_iload 4 dX12_readFull_289 rfl ?_
    refine ev_iadd dX12_readFull_291 ?_
    show EvG _ _ _ _ _ _ _ _ _ _ _ 292 _ _ _
    refine ev_aload_n 2 dX12_readFull_292 rfl ?_
    refine ev_bipush (v := 27) dX12_readFull_293 (by decide) ?_
    refine ev_iload 4 dX12_readFull_295 rfl ?_
    refine ev_iadd dX12_readFull_297 ?_
    replace HF := bind_ck HF
    obtain ⟨c5, HF⟩ := HF
    refine ev_iald dX12_readFull_298 c5.1 c5.2 ?_
    replace HF := bind_ck HF
    obtain ⟨c6, HF⟩ := HF
    refine ev_iast dX12_readFull_299 c6.1 c6.2 ?_
    replace HF := bd_n HF
    obtain ⟨h7, eh7, HF⟩ := HF
    refine ev_heap eh7 ?_
    have c8 : hK h7 t = 14 := by rw [eh7]; exact c2
    replace HF := bd_n HF
    obtain ⟨v9, ev9, HF⟩ := HF
    refine ev_iinc (v := v9) (lv' := [(5, .int v9), (0, .ref t), (2, .int x2), (3, .ref a3), (4, .int x4)]) 4 dX12_readFull_300 rfl (by rw [ev9]; rfl) (by decide) (rfl) ?_
    refine ev_goto (tgt := 276) dX12_readFull_303 (by decide) ?_
    exact Ev.sub [1, 2, 3, 4, 0] rfl (ih t x2 a3 x4 v9 _ HF)

set_option maxRecDepth 20000 in
theorem lk_X12_readFull_242 {g : aG} {l : Launch} {d : Nat} {h0 : aH} (hdd : 7 ≤ d) {r : Int32 × aH} : ∀ (n : Nat) (t : Nat) (x2 : Int32) (a3 : Nat) (x4 : Int32) (x5 : Int32) (h : aH), F_X12_readFull_242  n t x2 a3 x4 x5 h = some r → Ev g l cX12_readFull 6 yX12_readFull (some .int) d h0 (some (.int r.1), r.2) 242 [(0, .ref t), (2, .int x2), (3, .ref a3), (4, .int x4), (5, .int x5)] [] h := by
  intro n
  induction n with
  | zero => intro t x2 a3 x4 x5 h HF; cases HF
  | succ n ih =>
  intro t x2 a3 x4 x5 h HF
  unfold F_X12_readFull_242 at HF
  refine ev_iload 4 dX12_readFull_242 rfl ?_
  refine ev_bipush (v := 22) dX12_readFull_244 (by decide) ?_
  by_cases c1 : 22 ≤ x5
  · replace HF := ite_T c1 HF
    refine ev_icmp_geT (tgt := 273) dX12_readFull_246 (by decide) c1 ?_
    refine ev_iconst (v := 0) dX12_readFull_273 (by decide) ?_
    refine ev_istore (lv' := [(5, .int 0), (0, .ref t), (2, .int x2), (3, .ref a3), (4, .int x4)]) dX12_readFull_274 (by decide) (rfl) ?_
    exact Ev.sub [1, 2, 3, 4, 0] rfl (lk_X12_readFull_276 hdd  fu t x2 a3 x4 0 _ HF)
  · replace HF := ite_F c1 HF
    refine ev_icmp_geF (tgt := 273) dX12_readFull_246 (by decide) c1 ?_
    refine ev_aload_n 0 dX12_readFull_249 rfl ?_
    replace HF := bind_ck HF
    obtain ⟨c2, HF⟩ := HF
    replace HF := bind_o HF
    obtain ⟨b3, e4, HF⟩ := HF
    refine ev_gS (f := 1307) cl_X12 (k := 7) (by decide) fi_X12_7 rfl fl_X12_22 dX12_readFull_250 c2 e4 ?_
    refine ev_bipush (v := 22) dX12_readFull_253 (by decide) ?_
    refine ev_iload_n 1 dX12_readFull_255 rfl ?_
    refine ev_imul dX12_readFull_256 ?_
    refine ev_iload 4 dX12_readFull_257 rfl ?_
    refine ev_iadd dX12_readFull_259 ?_
    show EvG _ _ _ _ _ _ _ _ _ _ _ 260 _ _ _
    refine ev_aload_n 2 dX12_readFull_260 rfl ?_
    refine ev_iconst (v := 5) dX12_readFull_261 (by decide) ?_
    refine ev_iload 4 dX12_readFull_262 rfl ?_
    refine ev_iadd dX12_readFull_264 ?_
    replace HF := bind_ck HF
    obtain ⟨c5, HF⟩ := HF
    refine ev_iald dX12_readFull_265 c5.1 c5.2 ?_
    replace HF := bind_ck HF
    obtain ⟨c6, HF⟩ := HF
    refine ev_iast dX12_readFull_266 c6.1 c6.2 ?_
    replace HF := bd_n HF
    obtain ⟨h7, eh7, HF⟩ := HF
    refine ev_heap eh7 ?_
    have c8 : hK h7 t = 14 := by rw [eh7]; exact c2
    replace HF := bd_n HF
    obtain ⟨v9, ev9, HF⟩ := HF
    refine ev_iinc (v := v9) (lv' := [(5, .int v9), (0, .ref t), (2, .int x2), (3, .ref a3), (4, .int x4)]) 4 dX12_readFull_267 rfl (by rw [ev9]; rfl) (by decide) (rfl) ?_
    refine ev_goto (tgt := 242) dX12_readFull_270 (by decide) ?_
    exact Ev.sub [1, 2, 3, 4, 0] rfl (ih t x2 a3 x4 v9 _ HF)

set_option maxRecDepth 20000 in
theorem lk_X12_readFull_130 {g : aG} {l : Launch} {d : Nat} {h0 : aH} (hdd : 7 ≤ d) {r : Int32 × aH} : ∀ (n : Nat) (t : Nat) (x1 : Int32) (x2 : Int32) (a3 : Nat) (x4 : Int32) (h : aH), F_X12_readFull_130  n t x1 x2 a3 x4 h = some r → Ev g l cX12_readFull 6 yX12_readFull (some .int) d h0 (some (.int r.1), r.2) 130 [(0, .ref t), (1, .int x1), (2, .int x2), (3, .ref a3), (4, .int x4)] [] h := by
  intro n
  induction n with
  | zero => intro t x1 x2 a3 x4 h HF; cases HF
  | succ n ih =>
  intro t x1 x2 a3 x4 h HF
  unfold F_X12_readFull_130 at HF
  refine ev_iload 4 dX12_readFull_130 rfl ?_
  refine ev_sipush (v := 520) dX12_readFull_132 (by decide) ?_
  by_cases c1 : 520 ≤ x4
  · replace HF := ite_T c1 HF
    refine ev_icmp_geT (tgt := 164) dX12_readFull_135 (by decide) c1 ?_
    refine ev_aload_n 0 dX12_readFull_164 rfl ?_
    refine ev_dup dX12_readFull_165 rfl ?_
    replace HF := bind_ck HF
    obtain ⟨c2, HF⟩ := HF
    refine ev_gI (f := 1302) cl_X12 (k := 2) (by decide) fi_X12_2 rfl fl_X12_182 dX12_readFull_166 c2 ?_
    refine ev_iconst (v := 1) dX12_readFull_169 (by decide) ?_
    refine ev_isub dX12_readFull_170 ?_
    refine ev_pI (f := 1302) cl_X12 (k := 2) (by decide) fi_X12_2 rfl fl_X12_182 rfl rfl rfl dX12_readFull_171 c2 ?_
    replace HF := bd_n HF
    obtain ⟨h3, eh3, HF⟩ := HF
    refine ev_heap eh3 ?_
    have c4 : hK h3 t = 14 := by rw [eh3]; exact c2
    refine ev_aload_n 0 dX12_readFull_174 rfl ?_
    show EvG _ _ _ _ _ _ _ _ _ _ _ 175 _ _ _
    refine ev_iload_n 1 dX12_readFull_175 rfl ?_
    replace HF := bind_o HF
    obtain ⟨⟨z7, h6⟩, e5, HF⟩ := HF
    replace HF := bd_o (bd_o HF)
    dsimp only at HF
    refine ev_callV (As := [.int x1]) (R1 := (some (.int z7), h6)) (lk_X12_readImage (d := 6) (Nat.le_refl _) c4 e5) ce_X12_readImage im_X12_readImage sl_X12_readImage ml_X12_393 cl_X12 c4 dX12_readFull_176 (by omega) (Nat.le_of_ble_eq_true rfl) rfl rfl ?_
    show EvG _ _ _ _ _ _ _ _ _ _ _ 179 [(0, .ref t), (1, .int x1), (2, .int x2), (3, .ref a3), (4, .int x4)] [.int z7] h6
    refine ev_istore (lv' := [(4, .int z7), (0, .ref t), (1, .int x1), (2, .int x2), (3, .ref a3)]) dX12_readFull_179 (by decide) (rfl) ?_
    refine ev_aload_n 1 dX12_readFull_181 rfl ?_
    refine ev_sipush (v := 400) dX12_readFull_182 (by decide) ?_
    replace HF := bind_ck HF
    obtain ⟨c9, HF⟩ := HF
    refine ev_pI (f := 1302) cl_X12 (k := 2) (by decide) fi_X12_2 rfl fl_X12_182 rfl rfl rfl dX12_readFull_185 c9 ?_
    replace HF := bd_n HF
    obtain ⟨h10, eh10, HF⟩ := HF
    refine ev_heap eh10 ?_
    have c11 : hK h10 t = 14 := by rw [eh10]; exact c9
    refine ev_aload_n 1 dX12_readFull_188 rfl ?_
    replace HF := bind_o HF
    obtain ⟨b12, e13, HF⟩ := HF
    refine ev_gS (f := 1304) cl_X12 (k := 4) (by decide) fi_X12_4 rfl fl_X12_13 dX12_readFull_189 c11 e13 ?_
    show EvG _ _ _ _ _ _ _ _ _ _ _ 192 _ _ _
    refine ev_iconst (v := 2) dX12_readFull_192 (by decide) ?_
    refine ev_iload_n 3 dX12_readFull_193 rfl ?_
    refine ev_imul dX12_readFull_194 ?_
    refine ev_aload_n 4 dX12_readFull_195 rfl ?_
    refine ev_iconst (v := 0) dX12_readFull_196 (by decide) ?_
    replace HF := bind_ck HF
    obtain ⟨c14, HF⟩ := HF
    refine ev_iald dX12_readFull_197 c14.1 c14.2 ?_
    replace HF := bind_ck HF
    obtain ⟨c15, HF⟩ := HF
    refine ev_iast dX12_readFull_198 c15.1 c15.2 ?_
    replace HF := bd_n HF
    obtain ⟨h16, eh16, HF⟩ := HF
    refine ev_heap eh16 ?_
    have c17 : hK h16 t = 14 := by rw [eh16]; exact c11
    refine ev_aload_n 1 dX12_readFull_199 rfl ?_
    show EvG _ _ _ _ _ _ _ _ _ _ _ 200 _ _ _
    replace HF := bind_o HF
    obtain ⟨b18, e19, HF⟩ := HF
    refine ev_gS (f := 1304) cl_X12 (k := 4) (by decide) fi_X12_4 rfl fl_X12_13 dX12_readFull_200 c17 e19 ?_
    refine ev_iconst (v := 2) dX12_readFull_203 (by decide) ?_
    refine ev_iload_n 3 dX12_readFull_204 rfl ?_
    refine ev_imul dX12_readFull_205 ?_
    refine ev_iconst (v := 1) dX12_readFull_206 (by decide) ?_
    refine ev_iadd dX12_readFull_207 ?_
    refine ev_aload_n 4 dX12_readFull_208 rfl ?_
    refine ev_iconst (v := 1) dX12_readFull_209 (by decide) ?_
    show EvG _ _ _ _ _ _ _ _ _ _ _ 210 _ _ _
    replace HF := bind_ck HF
    obtain ⟨c20, HF⟩ := HF
    refine ev_iald dX12_readFull_210 c20.1 c20.2 ?_
    replace HF := bind_ck HF
    obtain ⟨c21, HF⟩ := HF
    refine ev_iast dX12_readFull_211 c21.1 c21.2 ?_
    replace HF := bd_n HF
    obtain ⟨h22, eh22, HF⟩ := HF
    refine ev_heap eh22 ?_
    have c23 : hK h22 t = 14 := by rw [eh22]; exact c17
    refine ev_aload_n 1 dX12_readFull_212 rfl ?_
    replace HF := bind_o HF
    obtain ⟨b24, e25, HF⟩ := HF
    refine ev_gS (f := 1305) cl_X12 (k := 5) (by decide) fi_X12_5 rfl fl_X12_16 dX12_readFull_213 c23 e25 ?_
    refine ev_iload_n 3 dX12_readFull_216 rfl ?_
    refine ev_aload_n 4 dX12_readFull_217 rfl ?_
    refine ev_iconst (v := 2) dX12_readFull_218 (by decide) ?_
    replace HF := bind_ck HF
    obtain ⟨c26, HF⟩ := HF
    refine ev_iald dX12_readFull_219 c26.1 c26.2 ?_
    show EvG _ _ _ _ _ _ _ _ _ _ _ 220 _ _ _
    replace HF := bind_ck HF
    obtain ⟨c27, HF⟩ := HF
    refine ev_iast dX12_readFull_220 c27.1 c27.2 ?_
    replace HF := bd_n HF
    obtain ⟨h28, eh28, HF⟩ := HF
    refine ev_heap eh28 ?_
    have c29 : hK h28 t = 14 := by rw [eh28]; exact c23
    refine ev_aload_n 1 dX12_readFull_221 rfl ?_
    replace HF := bind_o HF
    obtain ⟨b30, e31, HF⟩ := HF
    refine ev_gS (f := 1306) cl_X12 (k := 6) (by decide) fi_X12_6 rfl fl_X12_19 dX12_readFull_222 c29 e31 ?_
    refine ev_iload_n 3 dX12_readFull_225 rfl ?_
    refine ev_aload_n 4 dX12_readFull_226 rfl ?_
    refine ev_iconst (v := 3) dX12_readFull_227 (by decide) ?_
    replace HF := bind_ck HF
    obtain ⟨c32, HF⟩ := HF
    refine ev_iald dX12_readFull_228 c32.1 c32.2 ?_
    replace HF := bind_ck HF
    obtain ⟨c33, HF⟩ := HF
    refine ev_iast dX12_readFull_229 c33.1 c33.2 ?_
    replace HF := bd_n HF
    obtain ⟨h34, eh34, HF⟩ := HF
    refine ev_heap eh34 ?_
    have c35 : hK h34 t = 14 := by rw [eh34]; exact c29
    show EvG _ _ _ _ _ _ _ _ _ _ _ 230 _ _ _
    refine ev_aload_n 1 dX12_readFull_230 rfl ?_
    replace HF := bind_o HF
    obtain ⟨b36, e37, HF⟩ := HF
    refine ev_gS (f := 1308) cl_X12 (k := 8) (by decide) fi_X12_8 rfl fl_X12_25 dX12_readFull_231 c35 e37 ?_
    refine ev_iload_n 3 dX12_readFull_234 rfl ?_
    refine ev_aload_n 4 dX12_readFull_235 rfl ?_
    refine ev_iconst (v := 4) dX12_readFull_236 (by decide) ?_
    replace HF := bind_ck HF
    obtain ⟨c38, HF⟩ := HF
    refine ev_iald dX12_readFull_237 c38.1 c38.2 ?_
    replace HF := bind_ck HF
    obtain ⟨c39, HF⟩ := HF
    refine ev_iast dX12_readFull_238 c39.1 c39.2 ?_
    replace HF := bd_n HF
    obtain ⟨h40, eh40, HF⟩ := HF
    refine ev_heap eh40 ?_
    have c41 : hK h40 t = 14 := by rw [eh40]; exact c35
    refine ev_iconst (v := 0) dX12_readFull_239 (by decide) ?_
    show EvG _ _ _ _ _ _ _ _ _ _ _ 240 _ _ _
    refine ev_istore (lv' := [(5, .int 0), (4, .int z7), (0, .ref t), (1, .int x1), (2, .int x2), (3, .ref a3)]) dX12_readFull_240 (by decide) (rfl) ?_
    exact Ev.sub [2, 4, 5, 1, 0] rfl (lk_X12_readFull_242 hdd  fu t x2 a3 z7 0 _ HF)
  · replace HF := ite_F c1 HF
    refine ev_icmp_geF (tgt := 164) dX12_readFull_135 (by decide) c1 ?_
    refine ev_aload_n 3 dX12_readFull_138 rfl ?_
    refine ev_bipush (v := 31) dX12_readFull_139 (by decide) ?_
    refine ev_iload 4 dX12_readFull_141 rfl ?_
    refine ev_iadd dX12_readFull_143 ?_
    refine ev_aload_n 0 dX12_readFull_144 rfl ?_
    replace HF := bind_ck HF
    obtain ⟨c42, HF⟩ := HF
    replace HF := bind_o HF
    obtain ⟨b43, e44, HF⟩ := HF
    refine ev_gS (f := 1310) cl_X12 (k := 10) (by decide) fi_X12_10 rfl fl_X12_32 dX12_readFull_145 c42 e44 ?_
    refine ev_sipush (v := 520) dX12_readFull_148 (by decide) ?_
    show EvG _ _ _ _ _ _ _ _ _ _ _ 151 _ _ _
    refine ev_iload_n 2 dX12_readFull_151 rfl ?_
    refine ev_imul dX12_readFull_152 ?_
    refine ev_iload 4 dX12_readFull_153 rfl ?_
    refine ev_iadd dX12_readFull_155 ?_
    replace HF := bind_ck HF
    obtain ⟨c45, HF⟩ := HF
    refine ev_iald dX12_readFull_156 c45.1 c45.2 ?_
    replace HF := bind_ck HF
    obtain ⟨c46, HF⟩ := HF
    refine ev_iast dX12_readFull_157 c46.1 c46.2 ?_
    replace HF := bd_n HF
    obtain ⟨h47, eh47, HF⟩ := HF
    refine ev_heap eh47 ?_
    have c48 : hK h47 t = 14 := by rw [eh47]; exact c42
    replace HF := bd_n HF
    obtain ⟨v49, ev49, HF⟩ := HF
    refine ev_iinc (v := v49) (lv' := [(4, .int v49), (0, .ref t), (1, .int x1), (2, .int x2), (3, .ref a3)]) 4 dX12_readFull_158 rfl (by rw [ev49]; rfl) (by decide) (rfl) ?_
    refine ev_goto (tgt := 130) dX12_readFull_161 (by decide) ?_
    exact Ev.sub [1, 2, 3, 4, 0] rfl (ih t x1 x2 a3 v49 _ HF)

set_option maxRecDepth 20000 in
theorem lk_X12_readFull_97 {g : aG} {l : Launch} {d : Nat} {h0 : aH} (hdd : 7 ≤ d) {r : Int32 × aH} : ∀ (n : Nat) (t : Nat) (x1 : Int32) (x2 : Int32) (a3 : Nat) (x4 : Int32) (h : aH), F_X12_readFull_97  n t x1 x2 a3 x4 h = some r → Ev g l cX12_readFull 6 yX12_readFull (some .int) d h0 (some (.int r.1), r.2) 97 [(0, .ref t), (1, .int x1), (2, .int x2), (3, .ref a3), (4, .int x4)] [] h := by
  intro n
  induction n with
  | zero => intro t x1 x2 a3 x4 h HF; cases HF
  | succ n ih =>
  intro t x1 x2 a3 x4 h HF
  unfold F_X12_readFull_97 at HF
  refine ev_iload 4 dX12_readFull_97 rfl ?_
  refine ev_iconst (v := 4) dX12_readFull_99 (by decide) ?_
  by_cases c1 : 4 ≤ x4
  · replace HF := ite_T c1 HF
    refine ev_icmp_geT (tgt := 127) dX12_readFull_100 (by decide) c1 ?_
    refine ev_iconst (v := 0) dX12_readFull_127 (by decide) ?_
    refine ev_istore (lv' := [(4, .int 0), (0, .ref t), (1, .int x1), (2, .int x2), (3, .ref a3)]) dX12_readFull_128 (by decide) (rfl) ?_
    exact Ev.sub [1, 2, 3, 4, 0] rfl (lk_X12_readFull_130 hdd  fu t x1 x2 a3 0 _ HF)
  · replace HF := ite_F c1 HF
    refine ev_icmp_geF (tgt := 127) dX12_readFull_100 (by decide) c1 ?_
    refine ev_aload_n 3 dX12_readFull_103 rfl ?_
    refine ev_bipush (v := 27) dX12_readFull_104 (by decide) ?_
    refine ev_iload 4 dX12_readFull_106 rfl ?_
    refine ev_iadd dX12_readFull_108 ?_
    refine ev_aload_n 0 dX12_readFull_109 rfl ?_
    replace HF := bind_ck HF
    obtain ⟨c2, HF⟩ := HF
    replace HF := bind_o HF
    obtain ⟨b3, e4, HF⟩ := HF
    refine ev_gS (f := 1309) cl_X12 (k := 9) (by decide) fi_X12_9 rfl fl_X12_28 dX12_readFull_110 c2 e4 ?_
    refine ev_iconst (v := 4) dX12_readFull_113 (by decide) ?_
    show EvG _ _ _ _ _ _ _ _ _ _ _ 114 _ _ _
    refine ev_iload_n 2 dX12_readFull_114 rfl ?_
    refine ev_imul dX12_readFull_115 ?_
    refine ev_iload 4 dX12_readFull_116 rfl ?_
    refine ev_iadd dX12_readFull_118 ?_
    replace HF := bind_ck HF
    obtain ⟨c5, HF⟩ := HF
    refine ev_iald dX12_readFull_119 c5.1 c5.2 ?_
    replace HF := bind_ck HF
    obtain ⟨c6, HF⟩ := HF
    refine ev_iast dX12_readFull_120 c6.1 c6.2 ?_
    replace HF := bd_n HF
    obtain ⟨h7, eh7, HF⟩ := HF
    refine ev_heap eh7 ?_
    have c8 : hK h7 t = 14 := by rw [eh7]; exact c2
    replace HF := bd_n HF
    obtain ⟨v9, ev9, HF⟩ := HF
    refine ev_iinc (v := v9) (lv' := [(4, .int v9), (0, .ref t), (1, .int x1), (2, .int x2), (3, .ref a3)]) 4 dX12_readFull_121 rfl (by rw [ev9]; rfl) (by decide) (rfl) ?_
    refine ev_goto (tgt := 97) dX12_readFull_124 (by decide) ?_
    exact Ev.sub [1, 2, 3, 4, 0] rfl (ih t x1 x2 a3 v9 _ HF)

set_option maxRecDepth 20000 in
theorem lk_X12_readFull_63 {g : aG} {l : Launch} {d : Nat} {h0 : aH} (hdd : 7 ≤ d) {r : Int32 × aH} : ∀ (n : Nat) (t : Nat) (x1 : Int32) (x2 : Int32) (a3 : Nat) (x4 : Int32) (h : aH), F_X12_readFull_63  n t x1 x2 a3 x4 h = some r → Ev g l cX12_readFull 6 yX12_readFull (some .int) d h0 (some (.int r.1), r.2) 63 [(0, .ref t), (1, .int x1), (2, .int x2), (3, .ref a3), (4, .int x4)] [] h := by
  intro n
  induction n with
  | zero => intro t x1 x2 a3 x4 h HF; cases HF
  | succ n ih =>
  intro t x1 x2 a3 x4 h HF
  unfold F_X12_readFull_63 at HF
  refine ev_iload 4 dX12_readFull_63 rfl ?_
  refine ev_bipush (v := 22) dX12_readFull_65 (by decide) ?_
  by_cases c1 : 22 ≤ x4
  · replace HF := ite_T c1 HF
    refine ev_icmp_geT (tgt := 94) dX12_readFull_67 (by decide) c1 ?_
    refine ev_iconst (v := 0) dX12_readFull_94 (by decide) ?_
    refine ev_istore (lv' := [(4, .int 0), (0, .ref t), (1, .int x1), (2, .int x2), (3, .ref a3)]) dX12_readFull_95 (by decide) (rfl) ?_
    exact Ev.sub [1, 2, 3, 4, 0] rfl (lk_X12_readFull_97 hdd  fu t x1 x2 a3 0 _ HF)
  · replace HF := ite_F c1 HF
    refine ev_icmp_geF (tgt := 94) dX12_readFull_67 (by decide) c1 ?_
    refine ev_aload_n 3 dX12_readFull_70 rfl ?_
    refine ev_iconst (v := 5) dX12_readFull_71 (by decide) ?_
    refine ev_iload 4 dX12_readFull_72 rfl ?_
    refine ev_iadd dX12_readFull_74 ?_
    refine ev_aload_n 0 dX12_readFull_75 rfl ?_
    replace HF := bind_ck HF
    obtain ⟨c2, HF⟩ := HF
    replace HF := bind_o HF
    obtain ⟨b3, e4, HF⟩ := HF
    refine ev_gS (f := 1307) cl_X12 (k := 7) (by decide) fi_X12_7 rfl fl_X12_22 dX12_readFull_76 c2 e4 ?_
    refine ev_bipush (v := 22) dX12_readFull_79 (by decide) ?_
    show EvG _ _ _ _ _ _ _ _ _ _ _ 81 _ _ _
    refine ev_iload_n 2 dX12_readFull_81 rfl ?_
    refine ev_imul dX12_readFull_82 ?_
    refine ev_iload 4 dX12_readFull_83 rfl ?_
    refine ev_iadd dX12_readFull_85 ?_
    replace HF := bind_ck HF
    obtain ⟨c5, HF⟩ := HF
    refine ev_iald dX12_readFull_86 c5.1 c5.2 ?_
    replace HF := bind_ck HF
    obtain ⟨c6, HF⟩ := HF
    refine ev_iast dX12_readFull_87 c6.1 c6.2 ?_
    replace HF := bd_n HF
    obtain ⟨h7, eh7, HF⟩ := HF
    refine ev_heap eh7 ?_
    have c8 : hK h7 t = 14 := by rw [eh7]; exact c2
    replace HF := bd_n HF
    obtain ⟨v9, ev9, HF⟩ := HF
    refine ev_iinc (v := v9) (lv' := [(4, .int v9), (0, .ref t), (1, .int x1), (2, .int x2), (3, .ref a3)]) 4 dX12_readFull_88 rfl (by rw [ev9]; rfl) (by decide) (rfl) ?_
    refine ev_goto (tgt := 63) dX12_readFull_91 (by decide) ?_
    exact Ev.sub [1, 2, 3, 4, 0] rfl (ih t x1 x2 a3 v9 _ HF)

set_option maxRecDepth 20000 in
theorem lk_X12_readFull {g : aG} {l : Launch} {d : Nat} (hdd : 7 ≤ d) {t : Nat} {x1 : Int32} {h : aH} {r : Int32 × aH} (hT : hK h t = 14) (HF : F_X12_readFull t x1 h = some r) : MA g l yX12_readFull cX12_readFull 6 (some .int) d [.ref t, .int x1] h (some (.int r.1), r.2) := by
  refine MA.of (lv0 := [(0, .ref t), (1, .int x1)]) (by decide +kernel) (rfl) (Nat.le_of_ble_eq_true rfl) ?_
  unfold F_X12_readFull at HF
  refine ev_sipush (v := 399) dX12_readFull_0 (by decide) ?_
  refine ev_istore_n (lv' := [(2, .int 399), (0, .ref t), (1, .int x1)]) dX12_readFull_3 (by decide) (rfl) ?_
  refine ev_aload_n 1 dX12_readFull_4 rfl ?_
  replace HF := bind_o HF
  obtain ⟨b1, e2, HF⟩ := HF
  refine ev_gS (f := 1371) cl_X12 (k := 71) (by decide) fi_X12_71 rfl fl_X12_172 dX12_readFull_5 hT e2 ?_
  refine ev_astore_n (lv' := [(3, .ref b1), (2, .int 399), (0, .ref t), (1, .int x1)]) dX12_readFull_8 (by decide) (rfl) ?_
  refine ev_aload_n 0 dX12_readFull_9 rfl ?_
  refine ev_iconst (v := 0) dX12_readFull_10 (by decide) ?_
  show EvG _ _ _ _ _ _ _ _ _ _ _ 11 _ _ _
  refine ev_aload_n 2 dX12_readFull_11 rfl ?_
  replace HF := bind_o HF
  obtain ⟨b3, e4, HF⟩ := HF
  refine ev_gS (f := 1304) cl_X12 (k := 4) (by decide) fi_X12_4 rfl fl_X12_13 dX12_readFull_12 hT e4 ?_
  refine ev_iconst (v := 2) dX12_readFull_15 (by decide) ?_
  refine ev_iload_n 1 dX12_readFull_16 rfl ?_
  refine ev_imul dX12_readFull_17 ?_
  replace HF := bind_ck HF
  obtain ⟨c5, HF⟩ := HF
  refine ev_iald dX12_readFull_18 c5.1 c5.2 ?_
  replace HF := bind_ck HF
  obtain ⟨c6, HF⟩ := HF
  refine ev_iast dX12_readFull_19 c6.1 c6.2 ?_
  replace HF := bd_n HF
  obtain ⟨h7, eh7, HF⟩ := HF
  refine ev_heap eh7 ?_
  have c8 : hK h7 t = 14 := by rw [eh7]; exact hT
  refine ev_aload_n 0 dX12_readFull_20 rfl ?_
  show EvG _ _ _ _ _ _ _ _ _ _ _ 21 _ _ _
  refine ev_iconst (v := 1) dX12_readFull_21 (by decide) ?_
  refine ev_aload_n 2 dX12_readFull_22 rfl ?_
  replace HF := bind_o HF
  obtain ⟨b9, e10, HF⟩ := HF
  refine ev_gS (f := 1304) cl_X12 (k := 4) (by decide) fi_X12_4 rfl fl_X12_13 dX12_readFull_23 c8 e10 ?_
  refine ev_iconst (v := 2) dX12_readFull_26 (by decide) ?_
  refine ev_iload_n 1 dX12_readFull_27 rfl ?_
  refine ev_imul dX12_readFull_28 ?_
  refine ev_iconst (v := 1) dX12_readFull_29 (by decide) ?_
  refine ev_iadd dX12_readFull_30 ?_
  show EvG _ _ _ _ _ _ _ _ _ _ _ 31 _ _ _
  replace HF := bind_ck HF
  obtain ⟨c11, HF⟩ := HF
  refine ev_iald dX12_readFull_31 c11.1 c11.2 ?_
  replace HF := bind_ck HF
  obtain ⟨c12, HF⟩ := HF
  refine ev_iast dX12_readFull_32 c12.1 c12.2 ?_
  replace HF := bd_n HF
  obtain ⟨h13, eh13, HF⟩ := HF
  refine ev_heap eh13 ?_
  have c14 : hK h13 t = 14 := by rw [eh13]; exact c8
  refine ev_aload_n 0 dX12_readFull_33 rfl ?_
  refine ev_iconst (v := 2) dX12_readFull_34 (by decide) ?_
  refine ev_aload_n 2 dX12_readFull_35 rfl ?_
  replace HF := bind_o HF
  obtain ⟨b15, e16, HF⟩ := HF
  refine ev_gS (f := 1305) cl_X12 (k := 5) (by decide) fi_X12_5 rfl fl_X12_16 dX12_readFull_36 c14 e16 ?_
  refine ev_iload_n 1 dX12_readFull_39 rfl ?_
  replace HF := bind_ck HF
  obtain ⟨c17, HF⟩ := HF
  refine ev_iald dX12_readFull_40 c17.1 c17.2 ?_
  show EvG _ _ _ _ _ _ _ _ _ _ _ 41 _ _ _
  replace HF := bind_ck HF
  obtain ⟨c18, HF⟩ := HF
  refine ev_iast dX12_readFull_41 c18.1 c18.2 ?_
  replace HF := bd_n HF
  obtain ⟨h19, eh19, HF⟩ := HF
  refine ev_heap eh19 ?_
  have c20 : hK h19 t = 14 := by rw [eh19]; exact c14
  refine ev_aload_n 0 dX12_readFull_42 rfl ?_
  refine ev_iconst (v := 3) dX12_readFull_43 (by decide) ?_
  refine ev_aload_n 2 dX12_readFull_44 rfl ?_
  replace HF := bind_o HF
  obtain ⟨b21, e22, HF⟩ := HF
  refine ev_gS (f := 1306) cl_X12 (k := 6) (by decide) fi_X12_6 rfl fl_X12_19 dX12_readFull_45 c20 e22 ?_
  refine ev_iload_n 1 dX12_readFull_48 rfl ?_
  replace HF := bind_ck HF
  obtain ⟨c23, HF⟩ := HF
  refine ev_iald dX12_readFull_49 c23.1 c23.2 ?_
  replace HF := bind_ck HF
  obtain ⟨c24, HF⟩ := HF
  refine ev_iast dX12_readFull_50 c24.1 c24.2 ?_
  replace HF := bd_n HF
  obtain ⟨h25, eh25, HF⟩ := HF
  refine ev_heap eh25 ?_
  have c26 : hK h25 t = 14 := by rw [eh25]; exact c20
  show EvG _ _ _ _ _ _ _ _ _ _ _ 51 _ _ _
  refine ev_aload_n 0 dX12_readFull_51 rfl ?_
  refine ev_iconst (v := 4) dX12_readFull_52 (by decide) ?_
  refine ev_aload_n 2 dX12_readFull_53 rfl ?_
  replace HF := bind_o HF
  obtain ⟨b27, e28, HF⟩ := HF
  refine ev_gS (f := 1308) cl_X12 (k := 8) (by decide) fi_X12_8 rfl fl_X12_25 dX12_readFull_54 c26 e28 ?_
  refine ev_iload_n 1 dX12_readFull_57 rfl ?_
  replace HF := bind_ck HF
  obtain ⟨c29, HF⟩ := HF
  refine ev_iald dX12_readFull_58 c29.1 c29.2 ?_
  replace HF := bind_ck HF
  obtain ⟨c30, HF⟩ := HF
  refine ev_iast dX12_readFull_59 c30.1 c30.2 ?_
  replace HF := bd_n HF
  obtain ⟨h31, eh31, HF⟩ := HF
  refine ev_heap eh31 ?_
  have c32 : hK h31 t = 14 := by rw [eh31]; exact c26
  refine ev_iconst (v := 0) dX12_readFull_60 (by decide) ?_
  show EvG _ _ _ _ _ _ _ _ _ _ _ 61 _ _ _
  refine ev_istore (lv' := [(4, .int 0), (3, .ref b1), (2, .int 399), (0, .ref t), (1, .int x1)]) dX12_readFull_61 (by decide) (rfl) ?_
  exact Ev.sub [3, 4, 2, 1, 0] rfl (lk_X12_readFull_63 hdd  fu t x1 399 b1 0 _ HF)

set_option maxRecDepth 20000 in
theorem lk_X12_check_52 {g : aG} {l : Launch} {d : Nat} {h0 : aH} (hdd : 8 ≤ d) {r : Int32 × aH} (t : Nat) (x2 : Int32) (y0 : Int32) (h : aH) (HF : F_X12_check_52  t x2 y0 h = some r) : Ev g l cX12_check 4 yX12_check (some .int) d h0 (some (.int r.1), r.2) 52 [(0, .ref t), (2, .int x2)] [.int y0] h := by
  unfold F_X12_check_52 at HF
  refine ev_istore_n (lv' := [(3, .int y0), (0, .ref t), (2, .int x2)]) dX12_check_52 (by decide) (rfl) ?_
  refine ev_aload_n 1 dX12_check_53 rfl ?_
  refine ev_iload_n 2 dX12_check_54 rfl ?_
  replace HF := bind_ck HF
  obtain ⟨c1, HF⟩ := HF
  refine ev_pI (f := 1311) cl_X12 (k := 11) (by decide) fi_X12_11 rfl fl_X12_294 rfl rfl rfl dX12_check_55 c1 ?_
  replace HF := bd_n HF
  obtain ⟨h2, eh2, HF⟩ := HF
  refine ev_heap eh2 ?_
  have c3 : hK h2 t = 14 := by rw [eh2]; exact c1
  refine ev_iload_n 0 dX12_check_58 rfl ?_
  obtain rfl := Option.some.inj HF
  exact ev_iret dX12_check_59

set_option maxRecDepth 20000 in
theorem lk_X12_check {g : aG} {l : Launch} {d : Nat} (hdd : 8 ≤ d) {t : Nat} {x1 : Int32} {h : aH} {r : Int32 × aH} (hT : hK h t = 14) (HF : F_X12_check t x1 h = some r) : MA g l yX12_check cX12_check 4 (some .int) d [.ref t, .int x1] h (some (.int r.1), r.2) := by
  refine MA.of (lv0 := [(0, .ref t), (1, .int x1)]) (by decide +kernel) (rfl) (Nat.le_of_ble_eq_true rfl) ?_
  unfold F_X12_check at HF
  refine ev_aload_n 0 dX12_check_0 rfl ?_
  refine ev_iconst (v := 0) dX12_check_1 (by decide) ?_
  refine ev_pI (f := 1300) cl_X12 (k := 0) (by decide) fi_X12_0 rfl fl_X12_175 rfl rfl rfl dX12_check_2 hT ?_
  replace HF := bd_n HF
  obtain ⟨h1, eh1, HF⟩ := HF
  refine ev_heap eh1 ?_
  have c2 : hK h1 t = 14 := by rw [eh1]; exact hT
  refine ev_iload_n 1 dX12_check_5 rfl ?_
  by_cases c3 : x1 < 0
  · replace HF := ite_T c3 HF
    refine ev_if_ltT (tgt := 17) dX12_check_6 (by decide) c3 ?_
    refine ev_iconst (v := (-1)) dX12_check_17 (by decide) ?_
    obtain rfl := Option.some.inj HF
    exact ev_iret dX12_check_18
  · replace HF := ite_F c3 HF
    refine ev_if_ltF (tgt := 17) dX12_check_6 (by decide) c3 ?_
    refine ev_iload_n 1 dX12_check_9 rfl ?_
    refine ev_aload_n 0 dX12_check_10 rfl ?_
    refine ev_gI (f := 1316) cl_X12 (k := 16) (by decide) fi_X12_16 rfl fl_X12_309 dX12_check_11 c2 ?_
    by_cases c4 : x1 ≤ hF h1 1316 t
    · replace HF := ite_T c4 HF
      refine ev_icmp_leT (tgt := 19) dX12_check_14 (by decide) c4 ?_
      refine ev_aload_n 0 dX12_check_19 rfl ?_
      refine ev_gI (f := 1311) cl_X12 (k := 11) (by decide) fi_X12_11 rfl fl_X12_294 dX12_check_20 c2 ?_
      replace HF := bd_n HF
      obtain ⟨v5, ev5, HF⟩ := HF
      refine ev_topI ev5 ?_
      refine ev_istore_n (lv' := [(2, .int v5), (0, .ref t), (1, .int x1)]) dX12_check_23 (by decide) (rfl) ?_
      refine ev_aload_n 1 dX12_check_24 rfl ?_
      refine ev_iconst (v := 0) dX12_check_25 (by decide) ?_
      refine ev_pI (f := 1316) cl_X12 (k := 16) (by decide) fi_X12_16 rfl fl_X12_309 rfl rfl rfl dX12_check_26 c2 ?_
      replace HF := bd_n HF
      obtain ⟨h6, eh6, HF⟩ := HF
      refine ev_heap eh6 ?_
      have c7 : hK h6 t = 14 := by rw [eh6]; exact c2
      refine ev_aload_n 1 dX12_check_29 rfl ?_
      show EvG _ _ _ _ _ _ _ _ _ _ _ 30 _ _ _
      refine ev_gI (f := 1302) cl_X12 (k := 2) (by decide) fi_X12_2 rfl fl_X12_182 dX12_check_30 c7 ?_
      refine ev_sipush (v := 400) dX12_check_33 (by decide) ?_
      by_cases c8 : hF h6 1302 t = 400
      · replace HF := ite_T c8 HF
        refine ev_icmp_neF (tgt := 47) dX12_check_36 (by decide) c8 ?_
        refine ev_aload_n 1 dX12_check_39 rfl ?_
        refine ev_iload_n 2 dX12_check_40 rfl ?_
        replace HF := bind_o HF
        obtain ⟨⟨z11, h10⟩, e9, HF⟩ := HF
        replace HF := bd_o (bd_o HF)
        dsimp only at HF
        refine ev_callV (As := [.int x1]) (R1 := (some (.int z11), h10)) (lk_X12_readFull (d := 7) (Nat.le_refl _) c7 e9) ce_X12_readFull im_X12_readFull sl_X12_readFull ml_X12_390 cl_X12 c7 dX12_check_41 (by omega) (Nat.le_of_ble_eq_true rfl) rfl rfl ?_
        show EvG _ _ _ _ _ _ _ _ _ _ _ 44 [(2, .int v5), (0, .ref t), (1, .int x1)] [.int z11] h10
        refine ev_goto (tgt := 52) dX12_check_44 (by decide) ?_
        exact Ev.sub [1, 0] rfl (lk_X12_check_52 hdd  t v5 z11 _ HF)
      · replace HF := ite_F c8 HF
        refine ev_icmp_neT (tgt := 47) dX12_check_36 (by decide) c8 ?_
        refine ev_aload_n 1 dX12_check_47 rfl ?_
        refine ev_iload_n 2 dX12_check_48 rfl ?_
        replace HF := bind_o HF
        obtain ⟨⟨z15, h14⟩, e13, HF⟩ := HF
        replace HF := bd_o (bd_o HF)
        dsimp only at HF
        refine ev_callV (As := [.int x1]) (R1 := (some (.int z15), h14)) (lk_X12_readImage (d := 6) (Nat.le_refl _) c7 e13) ce_X12_readImage im_X12_readImage sl_X12_readImage ml_X12_393 cl_X12 c7 dX12_check_49 (by omega) (Nat.le_of_ble_eq_true rfl) rfl rfl ?_
        show EvG _ _ _ _ _ _ _ _ _ _ _ 52 [(2, .int v5), (0, .ref t), (1, .int x1)] [.int z15] h14
        exact Ev.sub [1, 0] rfl (lk_X12_check_52 hdd  t v5 z15 _ HF)
    · replace HF := ite_F c4 HF
      refine ev_icmp_leF (tgt := 19) dX12_check_14 (by decide) c4 ?_
      refine ev_iconst (v := (-1)) dX12_check_17 (by decide) ?_
      obtain rfl := Option.some.inj HF
      exact ev_iret dX12_check_18

set_option maxRecDepth 20000 in
theorem lk_X12_take {g : aG} {l : Launch} {d : Nat} (hdd : 7 ≤ d) {t : Nat} {x1 : Int32} {h : aH} {r : Int32 × aH} (hT : hK h t = 14) (HF : F_X12_take t x1 h = some r) : MA g l yX12_take cX12_take 4 (some .int) d [.ref t, .int x1] h (some (.int r.1), r.2) := by
  refine MA.of (lv0 := [(0, .ref t), (1, .int x1)]) (by decide +kernel) (rfl) (Nat.le_of_ble_eq_true rfl) ?_
  unfold F_X12_take at HF
  refine ev_aload_n 0 dX12_take_0 rfl ?_
  refine ev_iconst (v := 0) dX12_take_1 (by decide) ?_
  refine ev_pI (f := 1300) cl_X12 (k := 0) (by decide) fi_X12_0 rfl fl_X12_175 rfl rfl rfl dX12_take_2 hT ?_
  replace HF := bd_n HF
  obtain ⟨h1, eh1, HF⟩ := HF
  refine ev_heap eh1 ?_
  have c2 : hK h1 t = 14 := by rw [eh1]; exact hT
  refine ev_iload_n 1 dX12_take_5 rfl ?_
  by_cases c3 : x1 < 0
  · replace HF := ite_T c3 HF
    refine ev_if_ltT (tgt := 27) dX12_take_6 (by decide) c3 ?_
    refine ev_iconst (v := (-1)) dX12_take_27 (by decide) ?_
    obtain rfl := Option.some.inj HF
    exact ev_iret dX12_take_28
  · replace HF := ite_F c3 HF
    refine ev_if_ltF (tgt := 27) dX12_take_6 (by decide) c3 ?_
    refine ev_iload_n 1 dX12_take_9 rfl ?_
    refine ev_aload_n 0 dX12_take_10 rfl ?_
    refine ev_gI (f := 1316) cl_X12 (k := 16) (by decide) fi_X12_16 rfl fl_X12_309 dX12_take_11 c2 ?_
    by_cases c4 : hF h1 1316 t < x1
    · replace HF := ite_T c4 HF
      refine ev_icmp_gtT (tgt := 27) dX12_take_14 (by decide) c4 ?_
      refine ev_iconst (v := (-1)) dX12_take_27 (by decide) ?_
      obtain rfl := Option.some.inj HF
      exact ev_iret dX12_take_28
    · replace HF := ite_F c4 HF
      refine ev_icmp_gtF (tgt := 27) dX12_take_14 (by decide) c4 ?_
      refine ev_aload_n 0 dX12_take_17 rfl ?_
      refine ev_gI (f := 1302) cl_X12 (k := 2) (by decide) fi_X12_2 rfl fl_X12_182 dX12_take_18 c2 ?_
      refine ev_sipush (v := 400) dX12_take_21 (by decide) ?_
      by_cases c5 : hF h1 1302 t = 400
      · replace HF := ite_T c5 HF
        refine ev_icmp_neF (tgt := 29) dX12_take_24 (by decide) c5 ?_
        refine ev_iconst (v := (-1)) dX12_take_27 (by decide) ?_
        obtain rfl := Option.some.inj HF
        exact ev_iret dX12_take_28
      · replace HF := ite_F c5 HF
        refine ev_icmp_neT (tgt := 29) dX12_take_24 (by decide) c5 ?_
        refine ev_aload_n 0 dX12_take_29 rfl ?_
        refine ev_gI (f := 1311) cl_X12 (k := 11) (by decide) fi_X12_11 rfl fl_X12_294 dX12_take_30 c2 ?_
        replace HF := bd_n HF
        obtain ⟨v6, ev6, HF⟩ := HF
        refine ev_topI ev6 ?_
        refine ev_istore_n (lv' := [(2, .int v6), (0, .ref t), (1, .int x1)]) dX12_take_33 (by decide) (rfl) ?_
        refine ev_aload_n 1 dX12_take_34 rfl ?_
        refine ev_iconst (v := 0) dX12_take_35 (by decide) ?_
        refine ev_pI (f := 1316) cl_X12 (k := 16) (by decide) fi_X12_16 rfl fl_X12_309 rfl rfl rfl dX12_take_36 c2 ?_
        replace HF := bd_n HF
        obtain ⟨h7, eh7, HF⟩ := HF
        refine ev_heap eh7 ?_
        have c8 : hK h7 t = 14 := by rw [eh7]; exact c2
        refine ev_aload_n 1 dX12_take_39 rfl ?_
        show EvG _ _ _ _ _ _ _ _ _ _ _ 40 _ _ _
        refine ev_iload_n 2 dX12_take_40 rfl ?_
        replace HF := bind_o HF
        obtain ⟨⟨z11, h10⟩, e9, HF⟩ := HF
        replace HF := bd_o (bd_o HF)
        dsimp only at HF
        refine ev_callV (As := [.int x1]) (R1 := (some (.int z11), h10)) (lk_X12_readImage (d := 6) (Nat.le_refl _) c8 e9) ce_X12_readImage im_X12_readImage sl_X12_readImage ml_X12_393 cl_X12 c8 dX12_take_41 (by omega) (Nat.le_of_ble_eq_true rfl) rfl rfl ?_
        show EvG _ _ _ _ _ _ _ _ _ _ _ 44 [(2, .int v6), (0, .ref t), (1, .int x1)] [.int z11] h10
        refine ev_istore_n (lv' := [(3, .int z11), (2, .int v6), (0, .ref t), (1, .int x1)]) dX12_take_44 (by decide) (rfl) ?_
        refine ev_iload_n 0 dX12_take_45 rfl ?_
        by_cases c13 : z11 = 0
        · replace HF := ite_T c13 HF
          refine ev_if_eqT (tgt := 58) dX12_take_46 (by decide) c13 ?_
          refine ev_aload_n 2 dX12_take_58 rfl ?_
          refine ev_dup dX12_take_59 rfl ?_
          replace HF := bind_ck HF
          obtain ⟨c14, HF⟩ := HF
          refine ev_gI (f := 1302) cl_X12 (k := 2) (by decide) fi_X12_2 rfl fl_X12_182 dX12_take_60 c14 ?_
          refine ev_iconst (v := 1) dX12_take_63 (by decide) ?_
          refine ev_iadd dX12_take_64 ?_
          refine ev_pI (f := 1302) cl_X12 (k := 2) (by decide) fi_X12_2 rfl fl_X12_182 rfl rfl rfl dX12_take_65 c14 ?_
          replace HF := bd_n HF
          obtain ⟨h15, eh15, HF⟩ := HF
          refine ev_heap eh15 ?_
          have c16 : hK h15 t = 14 := by rw [eh15]; exact c14
          refine ev_aload_n 2 dX12_take_68 rfl ?_
          show EvG _ _ _ _ _ _ _ _ _ _ _ 69 _ _ _
          refine ev_gI (f := 1302) cl_X12 (k := 2) (by decide) fi_X12_2 rfl fl_X12_182 dX12_take_69 c16 ?_
          refine ev_iconst (v := 1) dX12_take_72 (by decide) ?_
          refine ev_isub dX12_take_73 ?_
          obtain rfl := Option.some.inj HF
          exact ev_iret dX12_take_74
        · replace HF := ite_F c13 HF
          refine ev_if_eqF (tgt := 58) dX12_take_46 (by decide) c13 ?_
          refine ev_aload_n 2 dX12_take_49 rfl ?_
          refine ev_iload_n 1 dX12_take_50 rfl ?_
          replace HF := bind_ck HF
          obtain ⟨c17, HF⟩ := HF
          refine ev_pI (f := 1311) cl_X12 (k := 11) (by decide) fi_X12_11 rfl fl_X12_294 rfl rfl rfl dX12_take_51 c17 ?_
          replace HF := bd_n HF
          obtain ⟨h18, eh18, HF⟩ := HF
          refine ev_heap eh18 ?_
          have c19 : hK h18 t = 14 := by rw [eh18]; exact c17
          refine ev_iconst (v := (-1)) dX12_take_54 (by decide) ?_
          refine ev_iload_n 0 dX12_take_55 rfl ?_
          refine ev_isub dX12_take_56 ?_
          obtain rfl := Option.some.inj HF
          exact ev_iret dX12_take_57

set_option maxRecDepth 20000 in
theorem lk_X12_list_91 {g : aG} {l : Launch} {d : Nat} {h0 : aH} (hdd : 1 ≤ d) {r : Int32 × aH} (t : Nat) (h : aH) (HF : F_X12_list_91  t h = some r) : Ev g l cX12_list 2 yX12_list (some .int) d h0 (some (.int r.1), r.2) 91 [(0, .ref t)] [] h := by
  unfold F_X12_list_91 at HF
  refine ev_aload_n 0 dX12_list_91 rfl ?_
  replace HF := bind_ck HF
  obtain ⟨c1, HF⟩ := HF
  replace HF := bind_o HF
  obtain ⟨⟨z4, h3⟩, e2, HF⟩ := HF
  replace HF := bd_o (bd_o HF)
  dsimp only at HF
  refine ev_callV (As := []) (R1 := (some (.int z4), h3)) (lk_X12_fail (d := 0) (Nat.le_refl _) c1 e2) ce_X12_fail im_X12_fail sl_X12_fail ml_X12_332 cl_X12 c1 dX12_list_92 (by omega) (Nat.le_of_ble_eq_true rfl) rfl rfl ?_
  show EvG _ _ _ _ _ _ _ _ _ _ _ 95 [(0, .ref t)] [.int z4] h3
  obtain rfl := Option.some.inj HF
  exact ev_iret dX12_list_95

set_option maxRecDepth 20000 in
theorem lk_X12_list {g : aG} {l : Launch} {d : Nat} (hdd : 1 ≤ d) {t : Nat} {x1 : Int32} {h : aH} {r : Int32 × aH} (hT : hK h t = 14) (HF : F_X12_list t x1 h = some r) : MA g l yX12_list cX12_list 2 (some .int) d [.ref t, .int x1] h (some (.int r.1), r.2) := by
  refine MA.of (lv0 := [(0, .ref t), (1, .int x1)]) (by decide +kernel) (rfl) (Nat.le_of_ble_eq_true rfl) ?_
  unfold F_X12_list at HF
  refine ev_aload_n 0 dX12_list_0 rfl ?_
  refine ev_iconst (v := 0) dX12_list_1 (by decide) ?_
  refine ev_pI (f := 1300) cl_X12 (k := 0) (by decide) fi_X12_0 rfl fl_X12_175 rfl rfl rfl dX12_list_2 hT ?_
  replace HF := bd_n HF
  obtain ⟨h1, eh1, HF⟩ := HF
  refine ev_heap eh1 ?_
  have c2 : hK h1 t = 14 := by rw [eh1]; exact hT
  refine ev_iload_n 1 dX12_list_5 rfl ?_
  by_cases c3 : x1 = 0
  · replace HF := ite_T c3 HF
    refine ev_swT (kk := 0) (tgt := 40) dX12_list_6 c3 (by decide +kernel) (by decide +kernel) ?_
    refine ev_aload_n 0 dX12_list_40 rfl ?_
    refine ev_gI (f := 1301) cl_X12 (k := 1) (by decide) fi_X12_1 rfl fl_X12_179 dX12_list_41 c2 ?_
    obtain rfl := Option.some.inj HF
    exact ev_iret dX12_list_44
  replace HF := ite_F c3 HF
  by_cases c4 : x1 = 1
  · replace HF := ite_T c4 HF
    refine ev_swT (kk := 1) (tgt := 45) dX12_list_6 c4 (by decide +kernel) (by decide +kernel) ?_
    refine ev_aload_n 0 dX12_list_45 rfl ?_
    refine ev_gI (f := 1302) cl_X12 (k := 2) (by decide) fi_X12_2 rfl fl_X12_182 dX12_list_46 c2 ?_
    obtain rfl := Option.some.inj HF
    exact ev_iret dX12_list_49
  replace HF := ite_F c4 HF
  by_cases c5 : x1 = 2
  · replace HF := ite_T c5 HF
    refine ev_swT (kk := 2) (tgt := 50) dX12_list_6 c5 (by decide +kernel) (by decide +kernel) ?_
    refine ev_aload_n 0 dX12_list_50 rfl ?_
    refine ev_gI (f := 1316) cl_X12 (k := 16) (by decide) fi_X12_16 rfl fl_X12_309 dX12_list_51 c2 ?_
    obtain rfl := Option.some.inj HF
    exact ev_iret dX12_list_54
  replace HF := ite_F c5 HF
  by_cases c6 : x1 = 3
  · replace HF := ite_T c6 HF
    refine ev_swT (kk := 3) (tgt := 55) dX12_list_6 c6 (by decide +kernel) (by decide +kernel) ?_
    refine ev_aload_n 0 dX12_list_55 rfl ?_
    refine ev_gI (f := 1320) cl_X12 (k := 20) (by decide) fi_X12_20 rfl fl_X12_291 dX12_list_56 c2 ?_
    obtain rfl := Option.some.inj HF
    exact ev_iret dX12_list_59
  replace HF := ite_F c6 HF
  by_cases c7 : x1 = 4
  · replace HF := ite_T c7 HF
    refine ev_swT (kk := 4) (tgt := 60) dX12_list_6 c7 (by decide +kernel) (by decide +kernel) ?_
    refine ev_aload_n 0 dX12_list_60 rfl ?_
    refine ev_gI (f := 1318) cl_X12 (k := 18) (by decide) fi_X12_18 rfl fl_X12_362 dX12_list_61 c2 ?_
    obtain rfl := Option.some.inj HF
    exact ev_iret dX12_list_64
  replace HF := ite_F c7 HF
  refine ev_swTd (ks := [0, 1, 2, 3, 4]) (tgt := 65) dX12_list_6 (by simp only [List.mem_cons, List.not_mem_nil, or_false, forall_eq_or_imp, forall_eq]; exact ⟨c3, c4, c5, c6, c7⟩) (by decide +kernel) (by decide) ?_
  refine ev_iload_n 1 dX12_list_65 rfl ?_
  refine ev_iconst (v := 5) dX12_list_66 (by decide) ?_
  show EvG _ _ _ _ _ _ _ _ _ _ _ 67 _ _ _
  by_cases c8 : x1 < 5
  · replace HF := ite_T c8 HF
    refine ev_icmp_ltT (tgt := 91) dX12_list_67 (by decide) c8 ?_
    exact Ev.sub [0] rfl (lk_X12_list_91 hdd  t _ HF)
  · replace HF := ite_F c8 HF
    refine ev_icmp_ltF (tgt := 91) dX12_list_67 (by decide) c8 ?_
    refine ev_iload_n 1 dX12_list_70 rfl ?_
    refine ev_iconst (v := 5) dX12_list_71 (by decide) ?_
    refine ev_isub dX12_list_72 ?_
    refine ev_aload_n 0 dX12_list_73 rfl ?_
    refine ev_gI (f := 1301) cl_X12 (k := 1) (by decide) fi_X12_1 rfl fl_X12_179 dX12_list_74 c2 ?_
    by_cases c9 : hF h1 1301 t ≤ x1 - 5
    · replace HF := ite_T c9 HF
      refine ev_icmp_geT (tgt := 91) dX12_list_77 (by decide) c9 ?_
      exact Ev.sub [0] rfl (lk_X12_list_91 hdd  t _ HF)
    · replace HF := ite_F c9 HF
      refine ev_icmp_geF (tgt := 91) dX12_list_77 (by decide) c9 ?_
      refine ev_aload_n 0 dX12_list_80 rfl ?_
      replace HF := bind_o HF
      obtain ⟨b10, e11, HF⟩ := HF
      refine ev_gS (f := 1303) cl_X12 (k := 3) (by decide) fi_X12_3 rfl fl_X12_9 dX12_list_81 c2 e11 ?_
      refine ev_iload_n 1 dX12_list_84 rfl ?_
      refine ev_iconst (v := 5) dX12_list_85 (by decide) ?_
      refine ev_isub dX12_list_86 ?_
      replace HF := bind_ck HF
      obtain ⟨c12, HF⟩ := HF
      refine ev_iald dX12_list_87 c12.1 c12.2 ?_
      refine ev_goto (tgt := 95) dX12_list_88 (by decide) ?_
      show EvG _ _ _ _ _ _ _ _ _ _ _ 95 _ _ _
      obtain rfl := Option.some.inj HF
      exact ev_iret dX12_list_95

set_option maxRecDepth 20000 in
theorem lk_X12_sum_151 {g : aG} {l : Launch} {d : Nat} {h0 : aH} (hdd : 6 ≤ d) {r : Int64 × aH} (k60 : Nat → Int32 → Int64 → Int32 → aH → Option (Int64 × aH)) (hk60 : ∀ (t : Nat) (x1 : Int32) (x2 : Int64) (x4 : Int32) (h : aH), k60 t x1 x2 x4 h = some r → Ev g l cX12_sum 7 yX12_sum (some .long) d h0 (some (.long r.1), r.2) 60 [(0, .ref t), (1, .int x1), (2, .long x2), (4, .int x4)] [] h) (k107 : Nat → Int32 → Int64 → Int32 → Int32 → aH → Option (Int64 × aH)) (hk107 : ∀ (t : Nat) (x1 : Int32) (x2 : Int64) (x4 : Int32) (x5 : Int32) (h : aH), k107 t x1 x2 x4 x5 h = some r → Ev g l cX12_sum 7 yX12_sum (some .long) d h0 (some (.long r.1), r.2) 107 [(0, .ref t), (1, .int x1), (2, .long x2), (4, .int x4), (5, .int x5)] [] h) : ∀ (n : Nat) (t : Nat) (x1 : Int32) (x2 : Int64) (x4 : Int32) (x5 : Int32) (x6 : Int32) (h : aH), F_X12_sum_151 k60 k107 n t x1 x2 x4 x5 x6 h = some r → Ev g l cX12_sum 7 yX12_sum (some .long) d h0 (some (.long r.1), r.2) 151 [(0, .ref t), (1, .int x1), (2, .long x2), (4, .int x4), (5, .int x5), (6, .int x6)] [] h := by
  intro n
  induction n with
  | zero => intro t x1 x2 x4 x5 x6 h HF; cases HF
  | succ n ih =>
  intro t x1 x2 x4 x5 x6 h HF
  unfold F_X12_sum_151 at HF
  refine ev_iload 5 dX12_sum_151 rfl ?_
  refine ev_iconst (v := 4) dX12_sum_153 (by decide) ?_
  by_cases c1 : 4 ≤ x6
  · replace HF := ite_T c1 HF
    refine ev_icmp_geT (tgt := 182) dX12_sum_154 (by decide) c1 ?_
    replace HF := bd_n HF
    obtain ⟨v2, ev2, HF⟩ := HF
    refine ev_iinc (v := v2) (lv' := [(5, .int v2), (0, .ref t), (1, .int x1), (2, .long x2), (4, .int x4), (6, .int x6)]) 4 dX12_sum_182 rfl (by rw [ev2]; rfl) (by decide) (rfl) ?_
    refine ev_goto (tgt := 107) dX12_sum_185 (by decide) ?_
    exact Ev.sub [1, 2, 3, 4, 0] rfl (hk107 t x1 x2 x4 v2 _ HF)
  · replace HF := ite_F c1 HF
    refine ev_icmp_geF (tgt := 182) dX12_sum_154 (by decide) c1 ?_
    refine ev_ldc2 kc_X12_396 dX12_sum_157 ?_
    refine ev_lload_n 2 dX12_sum_160 rfl ?_
    refine ev_lmul dX12_sum_161 ?_
    refine ev_aload_n 0 dX12_sum_162 rfl ?_
    refine ev_iload_n 1 dX12_sum_163 rfl ?_
    refine ev_iload 3 dX12_sum_164 rfl ?_
    refine ev_iload 4 dX12_sum_166 rfl ?_
    show EvG _ _ _ _ _ _ _ _ _ _ _ 168 _ _ _
    refine ev_iload 5 dX12_sum_168 rfl ?_
    replace HF := bind_ck HF
    obtain ⟨c3, HF⟩ := HF
    replace HF := bind_o HF
    obtain ⟨⟨z6, h5⟩, e4, HF⟩ := HF
    replace HF := bd_o (bd_o HF)
    dsimp only at HF
    refine ev_callV (As := [.int x1, .int x4, .int x5, .int x6]) (R1 := (some (.int z6), h5)) (lk_X12_fieldsOf (d := 0) (Nat.le_refl _) c3 e4) ce_X12_fieldsOf im_X12_fieldsOf sl_X12_fieldsOf ml_X12_352 cl_X12 c3 dX12_sum_170 (by omega) (Nat.le_of_ble_eq_true rfl) rfl rfl ?_
    show EvG _ _ _ _ _ _ _ _ _ _ _ 173 [(0, .ref t), (1, .int x1), (2, .long x2), (4, .int x4), (5, .int x5), (6, .int x6)] [.int z6, .long (31 * x2)] h5
    refine ev_i2l dX12_sum_173 ?_
    refine ev_ladd dX12_sum_174 ?_
    replace HF := bd_n HF
    obtain ⟨v8, ev8, HF⟩ := HF
    refine ev_topJ ev8 ?_
    refine ev_lstore_n (lv' := [(2, .long v8), (0, .ref t), (1, .int x1), (4, .int x4), (5, .int x5), (6, .int x6)]) dX12_sum_175 (by decide) (rfl) ?_
    replace HF := bd_n HF
    obtain ⟨v9, ev9, HF⟩ := HF
    refine ev_iinc (v := v9) (lv' := [(6, .int v9), (2, .long v8), (0, .ref t), (1, .int x1), (4, .int x4), (5, .int x5)]) 5 dX12_sum_176 rfl (by rw [ev9]; rfl) (by decide) (rfl) ?_
    refine ev_goto (tgt := 151) dX12_sum_179 (by decide) ?_
    exact Ev.sub [2, 3, 1, 4, 5, 0] rfl (ih t x1 v8 x4 x5 v9 _ HF)

set_option maxRecDepth 20000 in
theorem lk_X12_sum_117 {g : aG} {l : Launch} {d : Nat} {h0 : aH} (hdd : 6 ≤ d) {r : Int64 × aH} (k60 : Nat → Int32 → Int64 → Int32 → aH → Option (Int64 × aH)) (hk60 : ∀ (t : Nat) (x1 : Int32) (x2 : Int64) (x4 : Int32) (h : aH), k60 t x1 x2 x4 h = some r → Ev g l cX12_sum 7 yX12_sum (some .long) d h0 (some (.long r.1), r.2) 60 [(0, .ref t), (1, .int x1), (2, .long x2), (4, .int x4)] [] h) (k107 : Nat → Int32 → Int64 → Int32 → Int32 → aH → Option (Int64 × aH)) (hk107 : ∀ (t : Nat) (x1 : Int32) (x2 : Int64) (x4 : Int32) (x5 : Int32) (h : aH), k107 t x1 x2 x4 x5 h = some r → Ev g l cX12_sum 7 yX12_sum (some .long) d h0 (some (.long r.1), r.2) 107 [(0, .ref t), (1, .int x1), (2, .long x2), (4, .int x4), (5, .int x5)] [] h) : ∀ (n : Nat) (t : Nat) (x1 : Int32) (x2 : Int64) (x4 : Int32) (x5 : Int32) (x6 : Int32) (h : aH), F_X12_sum_117 k60 k107 n t x1 x2 x4 x5 x6 h = some r → Ev g l cX12_sum 7 yX12_sum (some .long) d h0 (some (.long r.1), r.2) 117 [(0, .ref t), (1, .int x1), (2, .long x2), (4, .int x4), (5, .int x5), (6, .int x6)] [] h := by
  intro n
  induction n with
  | zero => intro t x1 x2 x4 x5 x6 h HF; cases HF
  | succ n ih =>
  intro t x1 x2 x4 x5 x6 h HF
  unfold F_X12_sum_117 at HF
  refine ev_iload 5 dX12_sum_117 rfl ?_
  refine ev_iconst (v := 4) dX12_sum_119 (by decide) ?_
  by_cases c1 : 4 ≤ x6
  · replace HF := ite_T c1 HF
    refine ev_icmp_geT (tgt := 148) dX12_sum_120 (by decide) c1 ?_
    refine ev_iconst (v := 0) dX12_sum_148 (by decide) ?_
    refine ev_istore (lv' := [(6, .int 0), (0, .ref t), (1, .int x1), (2, .long x2), (4, .int x4), (5, .int x5)]) dX12_sum_149 (by decide) (rfl) ?_
    exact Ev.sub [1, 2, 3, 4, 5, 0] rfl (lk_X12_sum_151 hdd k60 hk60 k107 hk107 fu t x1 x2 x4 x5 0 _ HF)
  · replace HF := ite_F c1 HF
    refine ev_icmp_geF (tgt := 148) dX12_sum_120 (by decide) c1 ?_
    refine ev_ldc2 kc_X12_396 dX12_sum_123 ?_
    refine ev_lload_n 2 dX12_sum_126 rfl ?_
    refine ev_lmul dX12_sum_127 ?_
    refine ev_aload_n 0 dX12_sum_128 rfl ?_
    refine ev_iload_n 1 dX12_sum_129 rfl ?_
    refine ev_iload 3 dX12_sum_130 rfl ?_
    refine ev_iload 4 dX12_sum_132 rfl ?_
    show EvG _ _ _ _ _ _ _ _ _ _ _ 134 _ _ _
    refine ev_iload 5 dX12_sum_134 rfl ?_
    replace HF := bind_ck HF
    obtain ⟨c2, HF⟩ := HF
    replace HF := bind_o HF
    obtain ⟨⟨z5, h4⟩, e3, HF⟩ := HF
    replace HF := bd_o (bd_o HF)
    dsimp only at HF
    refine ev_callV (As := [.int x1, .int x4, .int x5, .int x6]) (R1 := (some (.int z5), h4)) (lk_X12_batsOf (d := 0) (Nat.le_refl _) c2 e3) ce_X12_batsOf im_X12_batsOf sl_X12_batsOf ml_X12_348 cl_X12 c2 dX12_sum_136 (by omega) (Nat.le_of_ble_eq_true rfl) rfl rfl ?_
    show EvG _ _ _ _ _ _ _ _ _ _ _ 139 [(0, .ref t), (1, .int x1), (2, .long x2), (4, .int x4), (5, .int x5), (6, .int x6)] [.int z5, .long (31 * x2)] h4
    refine ev_i2l dX12_sum_139 ?_
    refine ev_ladd dX12_sum_140 ?_
    replace HF := bd_n HF
    obtain ⟨v7, ev7, HF⟩ := HF
    refine ev_topJ ev7 ?_
    refine ev_lstore_n (lv' := [(2, .long v7), (0, .ref t), (1, .int x1), (4, .int x4), (5, .int x5), (6, .int x6)]) dX12_sum_141 (by decide) (rfl) ?_
    replace HF := bd_n HF
    obtain ⟨v8, ev8, HF⟩ := HF
    refine ev_iinc (v := v8) (lv' := [(6, .int v8), (2, .long v7), (0, .ref t), (1, .int x1), (4, .int x4), (5, .int x5)]) 5 dX12_sum_142 rfl (by rw [ev8]; rfl) (by decide) (rfl) ?_
    refine ev_goto (tgt := 117) dX12_sum_145 (by decide) ?_
    exact Ev.sub [2, 3, 1, 4, 5, 0] rfl (ih t x1 v7 x4 x5 v8 _ HF)

set_option maxRecDepth 20000 in
theorem lk_X12_sum_107 {g : aG} {l : Launch} {d : Nat} {h0 : aH} (hdd : 6 ≤ d) {r : Int64 × aH} (k60 : Nat → Int32 → Int64 → Int32 → aH → Option (Int64 × aH)) (hk60 : ∀ (t : Nat) (x1 : Int32) (x2 : Int64) (x4 : Int32) (h : aH), k60 t x1 x2 x4 h = some r → Ev g l cX12_sum 7 yX12_sum (some .long) d h0 (some (.long r.1), r.2) 60 [(0, .ref t), (1, .int x1), (2, .long x2), (4, .int x4)] [] h) : ∀ (n : Nat) (t : Nat) (x1 : Int32) (x2 : Int64) (x4 : Int32) (x5 : Int32) (h : aH), F_X12_sum_107 k60 n t x1 x2 x4 x5 h = some r → Ev g l cX12_sum 7 yX12_sum (some .long) d h0 (some (.long r.1), r.2) 107 [(0, .ref t), (1, .int x1), (2, .long x2), (4, .int x4), (5, .int x5)] [] h := by
  intro n
  induction n with
  | zero => intro t x1 x2 x4 x5 h HF; cases HF
  | succ n ih =>
  intro t x1 x2 x4 x5 h HF
  unfold F_X12_sum_107 at HF
  refine ev_iload 4 dX12_sum_107 rfl ?_
  refine ev_bipush (v := 11) dX12_sum_109 (by decide) ?_
  by_cases c1 : 11 ≤ x5
  · replace HF := ite_T c1 HF
    refine ev_icmp_geT (tgt := 188) dX12_sum_111 (by decide) c1 ?_
    replace HF := bd_n HF
    obtain ⟨v2, ev2, HF⟩ := HF
    refine ev_iinc (v := v2) (lv' := [(4, .int v2), (0, .ref t), (1, .int x1), (2, .long x2), (5, .int x5)]) 3 dX12_sum_188 rfl (by rw [ev2]; rfl) (by decide) (rfl) ?_
    refine ev_goto (tgt := 60) dX12_sum_191 (by decide) ?_
    exact Ev.sub [1, 2, 3, 0] rfl (hk60 t x1 x2 v2 _ HF)
  · replace HF := ite_F c1 HF
    refine ev_icmp_geF (tgt := 188) dX12_sum_111 (by decide) c1 ?_
    refine ev_iconst (v := 0) dX12_sum_114 (by decide) ?_
    refine ev_istore (lv' := [(6, .int 0), (0, .ref t), (1, .int x1), (2, .long x2), (4, .int x4), (5, .int x5)]) dX12_sum_115 (by decide) (rfl) ?_
    exact Ev.sub [1, 2, 3, 4, 5, 0] rfl (lk_X12_sum_117 hdd k60 hk60 (F_X12_sum_107 k60 n) ih fu t x1 x2 x4 x5 0 _ HF)

set_option maxRecDepth 20000 in
theorem lk_X12_sum_74 {g : aG} {l : Launch} {d : Nat} {h0 : aH} (hdd : 6 ≤ d) {r : Int64 × aH} (k60 : Nat → Int32 → Int64 → Int32 → aH → Option (Int64 × aH)) (hk60 : ∀ (t : Nat) (x1 : Int32) (x2 : Int64) (x4 : Int32) (h : aH), k60 t x1 x2 x4 h = some r → Ev g l cX12_sum 7 yX12_sum (some .long) d h0 (some (.long r.1), r.2) 60 [(0, .ref t), (1, .int x1), (2, .long x2), (4, .int x4)] [] h) : ∀ (n : Nat) (t : Nat) (x1 : Int32) (x2 : Int64) (x4 : Int32) (x5 : Int32) (h : aH), F_X12_sum_74 k60 n t x1 x2 x4 x5 h = some r → Ev g l cX12_sum 7 yX12_sum (some .long) d h0 (some (.long r.1), r.2) 74 [(0, .ref t), (1, .int x1), (2, .long x2), (4, .int x4), (5, .int x5)] [] h := by
  intro n
  induction n with
  | zero => intro t x1 x2 x4 x5 h HF; cases HF
  | succ n ih =>
  intro t x1 x2 x4 x5 h HF
  unfold F_X12_sum_74 at HF
  refine ev_iload 4 dX12_sum_74 rfl ?_
  refine ev_bipush (v := 16) dX12_sum_76 (by decide) ?_
  by_cases c1 : 16 ≤ x5
  · replace HF := ite_T c1 HF
    refine ev_icmp_geT (tgt := 104) dX12_sum_78 (by decide) c1 ?_
    refine ev_iconst (v := 0) dX12_sum_104 (by decide) ?_
    refine ev_istore (lv' := [(5, .int 0), (0, .ref t), (1, .int x1), (2, .long x2), (4, .int x4)]) dX12_sum_105 (by decide) (rfl) ?_
    exact Ev.sub [1, 2, 3, 4, 0] rfl (lk_X12_sum_107 hdd k60 hk60 fu t x1 x2 x4 0 _ HF)
  · replace HF := ite_F c1 HF
    refine ev_icmp_geF (tgt := 104) dX12_sum_78 (by decide) c1 ?_
    refine ev_ldc2 kc_X12_396 dX12_sum_81 ?_
    refine ev_lload_n 2 dX12_sum_84 rfl ?_
    refine ev_lmul dX12_sum_85 ?_
    refine ev_aload_n 0 dX12_sum_86 rfl ?_
    refine ev_iload_n 1 dX12_sum_87 rfl ?_
    refine ev_iload 3 dX12_sum_88 rfl ?_
    refine ev_iload 4 dX12_sum_90 rfl ?_
    show EvG _ _ _ _ _ _ _ _ _ _ _ 92 _ _ _
    replace HF := bind_ck HF
    obtain ⟨c2, HF⟩ := HF
    replace HF := bind_o HF
    obtain ⟨⟨z5, h4⟩, e3, HF⟩ := HF
    replace HF := bd_o (bd_o HF)
    dsimp only at HF
    refine ev_callV (As := [.int x1, .int x4, .int x5]) (R1 := (some (.int z5), h4)) (lk_X12_scoreOf (d := 2) (Nat.le_refl _) c2 e3) ce_X12_scoreOf im_X12_scoreOf sl_X12_scoreOf ml_X12_345 cl_X12 c2 dX12_sum_92 (by omega) (Nat.le_of_ble_eq_true rfl) rfl rfl ?_
    show EvG _ _ _ _ _ _ _ _ _ _ _ 95 [(0, .ref t), (1, .int x1), (2, .long x2), (4, .int x4), (5, .int x5)] [.int z5, .long (31 * x2)] h4
    refine ev_i2l dX12_sum_95 ?_
    refine ev_ladd dX12_sum_96 ?_
    replace HF := bd_n HF
    obtain ⟨v7, ev7, HF⟩ := HF
    refine ev_topJ ev7 ?_
    refine ev_lstore_n (lv' := [(2, .long v7), (0, .ref t), (1, .int x1), (4, .int x4), (5, .int x5)]) dX12_sum_97 (by decide) (rfl) ?_
    replace HF := bd_n HF
    obtain ⟨v8, ev8, HF⟩ := HF
    refine ev_iinc (v := v8) (lv' := [(5, .int v8), (2, .long v7), (0, .ref t), (1, .int x1), (4, .int x4)]) 4 dX12_sum_98 rfl (by rw [ev8]; rfl) (by decide) (rfl) ?_
    refine ev_goto (tgt := 74) dX12_sum_101 (by decide) ?_
    exact Ev.sub [2, 3, 1, 4, 0] rfl (ih t x1 v7 x4 v8 _ HF)

set_option maxRecDepth 20000 in
theorem lk_X12_sum_60 {g : aG} {l : Launch} {d : Nat} {h0 : aH} (hdd : 6 ≤ d) {r : Int64 × aH} : ∀ (n : Nat) (t : Nat) (x1 : Int32) (x2 : Int64) (x4 : Int32) (h : aH), F_X12_sum_60  n t x1 x2 x4 h = some r → Ev g l cX12_sum 7 yX12_sum (some .long) d h0 (some (.long r.1), r.2) 60 [(0, .ref t), (1, .int x1), (2, .long x2), (4, .int x4)] [] h := by
  intro n
  induction n with
  | zero => intro t x1 x2 x4 h HF; cases HF
  | succ n ih =>
  intro t x1 x2 x4 h HF
  unfold F_X12_sum_60 at HF
  refine ev_iload 3 dX12_sum_60 rfl ?_
  refine ev_aload_n 0 dX12_sum_62 rfl ?_
  replace HF := bind_ck HF
  obtain ⟨c1, HF⟩ := HF
  replace HF := bind_o HF
  obtain ⟨b2, e3, HF⟩ := HF
  refine ev_gS (f := 1308) cl_X12 (k := 8) (by decide) fi_X12_8 rfl fl_X12_25 dX12_sum_63 c1 e3 ?_
  refine ev_iload_n 1 dX12_sum_66 rfl ?_
  replace HF := bind_ck HF
  obtain ⟨c4, HF⟩ := HF
  refine ev_iald dX12_sum_67 c4.1 c4.2 ?_
  by_cases c5 : hI h b2 x1.toNatClampNeg ≤ x4
  · replace HF := ite_T c5 HF
    refine ev_icmp_geT (tgt := 194) dX12_sum_68 (by decide) c5 ?_
    refine ev_lload_n 2 dX12_sum_194 rfl ?_
    obtain rfl := Option.some.inj HF
    exact ev_lret dX12_sum_195
  · replace HF := ite_F c5 HF
    refine ev_icmp_geF (tgt := 194) dX12_sum_68 (by decide) c5 ?_
    refine ev_iconst (v := 0) dX12_sum_71 (by decide) ?_
    refine ev_istore (lv' := [(5, .int 0), (0, .ref t), (1, .int x1), (2, .long x2), (4, .int x4)]) dX12_sum_72 (by decide) (rfl) ?_
    exact Ev.sub [1, 2, 3, 4, 0] rfl (lk_X12_sum_74 hdd (F_X12_sum_60 n) ih fu t x1 x2 x4 0 _ HF)

set_option maxRecDepth 20000 in
theorem lk_X12_sum_29 {g : aG} {l : Launch} {d : Nat} {h0 : aH} (hdd : 6 ≤ d) {r : Int64 × aH} : ∀ (n : Nat) (t : Nat) (x1 : Int32) (x2 : Int64) (x4 : Int32) (h : aH), F_X12_sum_29  n t x1 x2 x4 h = some r → Ev g l cX12_sum 7 yX12_sum (some .long) d h0 (some (.long r.1), r.2) 29 [(0, .ref t), (1, .int x1), (2, .long x2), (4, .int x4)] [] h := by
  intro n
  induction n with
  | zero => intro t x1 x2 x4 h HF; cases HF
  | succ n ih =>
  intro t x1 x2 x4 h HF
  unfold F_X12_sum_29 at HF
  refine ev_iload 3 dX12_sum_29 rfl ?_
  refine ev_bipush (v := 15) dX12_sum_31 (by decide) ?_
  by_cases c1 : 15 ≤ x4
  · replace HF := ite_T c1 HF
    refine ev_icmp_geT (tgt := 57) dX12_sum_33 (by decide) c1 ?_
    refine ev_iconst (v := 0) dX12_sum_57 (by decide) ?_
    refine ev_istore (lv' := [(4, .int 0), (0, .ref t), (1, .int x1), (2, .long x2)]) dX12_sum_58 (by decide) (rfl) ?_
    exact Ev.sub [1, 2, 3, 0] rfl (lk_X12_sum_60 hdd  fu t x1 x2 0 _ HF)
  · replace HF := ite_F c1 HF
    refine ev_icmp_geF (tgt := 57) dX12_sum_33 (by decide) c1 ?_
    refine ev_ldc2 kc_X12_396 dX12_sum_36 ?_
    refine ev_lload_n 2 dX12_sum_39 rfl ?_
    refine ev_lmul dX12_sum_40 ?_
    refine ev_aload_n 0 dX12_sum_41 rfl ?_
    refine ev_iload_n 1 dX12_sum_42 rfl ?_
    refine ev_iload 3 dX12_sum_43 rfl ?_
    replace HF := bind_ck HF
    obtain ⟨c2, HF⟩ := HF
    replace HF := bind_o HF
    obtain ⟨⟨z5, h4⟩, e3, HF⟩ := HF
    replace HF := bd_o (bd_o HF)
    dsimp only at HF
    refine ev_callV (As := [.int x1, .int x4]) (R1 := (some (.int z5), h4)) (lk_X12_nowOf (d := 2) (Nat.le_refl _) c2 e3) ce_X12_nowOf im_X12_nowOf sl_X12_nowOf ml_X12_336 cl_X12 c2 dX12_sum_45 (by omega) (Nat.le_of_ble_eq_true rfl) rfl rfl ?_
    show EvG _ _ _ _ _ _ _ _ _ _ _ 48 [(0, .ref t), (1, .int x1), (2, .long x2), (4, .int x4)] [.int z5, .long (31 * x2)] h4
    show EvG _ _ _ _ _ _ _ _ _ _ _ 48 _ _ _
    refine ev_i2l dX12_sum_48 ?_
    refine ev_ladd dX12_sum_49 ?_
    replace HF := bd_n HF
    obtain ⟨v7, ev7, HF⟩ := HF
    refine ev_topJ ev7 ?_
    refine ev_lstore_n (lv' := [(2, .long v7), (0, .ref t), (1, .int x1), (4, .int x4)]) dX12_sum_50 (by decide) (rfl) ?_
    replace HF := bd_n HF
    obtain ⟨v8, ev8, HF⟩ := HF
    refine ev_iinc (v := v8) (lv' := [(4, .int v8), (2, .long v7), (0, .ref t), (1, .int x1)]) 3 dX12_sum_51 rfl (by rw [ev8]; rfl) (by decide) (rfl) ?_
    refine ev_goto (tgt := 29) dX12_sum_54 (by decide) ?_
    exact Ev.sub [2, 3, 1, 0] rfl (ih t x1 v7 v8 _ HF)

set_option maxRecDepth 20000 in
theorem lk_X12_sum {g : aG} {l : Launch} {d : Nat} (hdd : 6 ≤ d) {t : Nat} {x1 : Int32} {h : aH} {r : Int64 × aH} (hT : hK h t = 14) (HF : F_X12_sum t x1 h = some r) : MA g l yX12_sum cX12_sum 7 (some .long) d [.ref t, .int x1] h (some (.long r.1), r.2) := by
  refine MA.of (lv0 := [(0, .ref t), (1, .int x1)]) (by decide +kernel) (rfl) (Nat.le_of_ble_eq_true rfl) ?_
  unfold F_X12_sum at HF
  refine ev_aload_n 0 dX12_sum_0 rfl ?_
  refine ev_iconst (v := 0) dX12_sum_1 (by decide) ?_
  refine ev_pI (f := 1300) cl_X12 (k := 0) (by decide) fi_X12_0 rfl fl_X12_175 rfl rfl rfl dX12_sum_2 hT ?_
  replace HF := bd_n HF
  obtain ⟨h1, eh1, HF⟩ := HF
  refine ev_heap eh1 ?_
  have c2 : hK h1 t = 14 := by rw [eh1]; exact hT
  refine ev_aload_n 0 dX12_sum_5 rfl ?_
  refine ev_iload_n 1 dX12_sum_6 rfl ?_
  replace HF := bind_o HF
  obtain ⟨⟨z5, h4⟩, e3, HF⟩ := HF
  replace HF := bd_o (bd_o HF)
  dsimp only at HF
  refine ev_callV (As := [.int x1]) (R1 := (some (.int z5), h4)) (lk_X12_isGame (d := 0) (Nat.le_refl _) c2 e3) ce_X12_isGame im_X12_isGame sl_X12_isGame ml_X12_193 cl_X12 c2 dX12_sum_7 (by omega) (Nat.le_of_ble_eq_true rfl) rfl rfl ?_
  show EvG _ _ _ _ _ _ _ _ _ _ _ 10 [(0, .ref t), (1, .int x1)] [.int z5] h4
  by_cases c7 : z5 = 0
  · replace HF := ite_T c7 HF
    refine ev_if_neF (tgt := 19) dX12_sum_10 (by decide) c7 ?_
    refine ev_aload_n 0 dX12_sum_13 rfl ?_
    replace HF := bind_ck HF
    obtain ⟨c8, HF⟩ := HF
    replace HF := bind_o HF
    obtain ⟨⟨z11, h10⟩, e9, HF⟩ := HF
    replace HF := bd_o (bd_o HF)
    dsimp only at HF
    refine ev_callV (As := []) (R1 := (some (.int z11), h10)) (lk_X12_fail (d := 0) (Nat.le_refl _) c8 e9) ce_X12_fail im_X12_fail sl_X12_fail ml_X12_332 cl_X12 c8 dX12_sum_14 (by omega) (Nat.le_of_ble_eq_true rfl) rfl rfl ?_
    show EvG _ _ _ _ _ _ _ _ _ _ _ 17 [(0, .ref t), (1, .int x1)] [.int z11] h10
    refine ev_i2l dX12_sum_17 ?_
    obtain rfl := Option.some.inj HF
    exact ev_lret dX12_sum_18
  · replace HF := ite_F c7 HF
    refine ev_if_neT (tgt := 19) dX12_sum_10 (by decide) c7 ?_
    refine ev_aload_n 0 dX12_sum_19 rfl ?_
    refine ev_iload_n 1 dX12_sum_20 rfl ?_
    replace HF := bind_ck HF
    obtain ⟨c13, HF⟩ := HF
    replace HF := bind_o HF
    obtain ⟨h15, e14, HF⟩ := HF
    refine ev_callV (As := [.int x1]) (R1 := (none, h15)) (lk_X12_play (d := 5) (Nat.le_refl _) c13 e14) ce_X12_play im_X12_play sl_X12_play ml_X12_300 cl_X12 c13 dX12_sum_21 (by omega) (Nat.le_of_ble_eq_true rfl) rfl rfl ?_
    show EvG _ _ _ _ _ _ _ _ _ _ _ 24 [(0, .ref t), (1, .int x1)] [] h15
    refine ev_lconst (v := 0) dX12_sum_24 (by decide) ?_
    refine ev_lstore_n (lv' := [(2, .long 0), (0, .ref t), (1, .int x1)]) dX12_sum_25 (by decide) (rfl) ?_
    refine ev_iconst (v := 0) dX12_sum_26 (by decide) ?_
    refine ev_istore (lv' := [(4, .int 0), (2, .long 0), (0, .ref t), (1, .int x1)]) dX12_sum_27 (by decide) (rfl) ?_
    exact Ev.sub [2, 3, 1, 0] rfl (lk_X12_sum_29 hdd  fu t x1 0 0 _ HF)

