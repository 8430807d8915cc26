theorem in_nse : Cond.initialized NSE ∈ lw_gd := gd_1 26 rfl rfl
def F_X11_now_20 (h : aH) : Option (Option Int32 × aH) :=
  some (none, h)

def F_X11_now (t : Nat) (x1 : Int32) (x2 : Int32) (h : aH) : Option (Option Int32 × aH) :=
  (F_X11_gameAt t x1 h).bind fun q4 =>
  bd q4.1 fun o3 =>
  bd q4.2 fun h2 =>
  match o3 with
  | none =>
    F_X11_now_20  h2
  | some b5 =>
    if x2 < 0 then
      F_X11_now_20  h2
    else
      if x2 < 15 then
        (ck (hK h2 t = 13)).bind fun _ =>
        (F_X11_playOver t x1 (some b5) h2).bind fun h10 =>
        (ck (hK h10 t = 13)).bind fun _ =>
        (hG h10 1205 t).bind fun b13 =>
        (ck (hK h10 b13 = 8)).bind fun _ =>
        (F_X6_figure b13 x2 h10).bind fun q19 =>
        bd q19.1 fun z18 =>
        bd q19.2 fun h17 =>
        some (some z18, h17)
      else
        F_X11_now_20  h2

def F_X11_score_31 (h : aH) : Option (Option Int32 × aH) :=
  some (none, h)

def F_X11_score (t : Nat) (x1 : Int32) (x2 : Int32) (x3 : Int32) (h : aH) : Option (Option Int32 × aH) :=
  (F_X11_gameAt t x1 h).bind fun q4 =>
  bd q4.1 fun o3 =>
  bd q4.2 fun h2 =>
  match o3 with
  | none =>
    F_X11_score_31  h2
  | some b5 =>
    (ck (hK h2 b5 = 5)).bind fun _ =>
    (F_X3_turnAt b5 x2 h2).bind fun q10 =>
    bd q10.1 fun o9 =>
    bd q10.2 fun h8 =>
    match o9 with
    | none =>
      F_X11_score_31  h8
    | some b11 =>
      if x3 < 0 then
        F_X11_score_31  h8
      else
        if x3 < 16 then
          (ck (hK h8 t = 13)).bind fun _ =>
          (F_X11_playOver t x1 (some b5) h8).bind fun h16 =>
          (ck (hK h16 t = 13)).bind fun _ =>
          (F_X11_scoreFigure t b5 x2 x3 h16).bind fun q22 =>
          bd q22.1 fun z21 =>
          bd q22.2 fun h20 =>
          some (some z21, h20)
        else
          F_X11_score_31  h8

def F_X11_overs_26 (h : aH) : Option (Option Int32 × aH) :=
  some (none, h)

def F_X11_overs (t : Nat) (x1 : Int32) (x2 : Int32) (x3 : Int32) (x4 : Int32) (h : aH) : Option (Option Int32 × aH) :=
  (F_X11_overOf t x1 x2 x3 h).bind fun q4 =>
  bd q4.1 fun o3 =>
  bd q4.2 fun h2 =>
  match o3 with
  | none =>
    F_X11_overs_26  h2
  | some b5 =>
    if x4 < 0 then
      F_X11_overs_26  h2
    else
      if x4 < 8 then
        (ck (hK h2 t = 13)).bind fun _ =>
        (F_X11_gameAt t x1 h2).bind fun q12 =>
        bd q12.1 fun o11 =>
        bd q12.2 fun h10 =>
        (ck (hK h10 t = 13)).bind fun _ =>
        (F_X11_playOver t x1 o11 h10).bind fun h15 =>
        if x4 = 0 then
          (ck (hK h15 b5 = 7)).bind fun _ =>
          some (some (hF h15 601 b5), h15)
        else
        if x4 = 1 then
          (ck (hK h15 b5 = 7)).bind fun _ =>
          some (some (hF h15 602 b5), h15)
        else
        (ck (hK h15 t = 13)).bind fun _ =>
        (hG h15 1205 t).bind fun b22 =>
        (ck (hK h15 b22 = 8)).bind fun _ =>
        (F_X6_tallyAt b22 x2 h15).bind fun q28 =>
        bd q28.1 fun o27 =>
        bd q28.2 fun h26 =>
        o27.bind fun b29 =>
        (ck (hK h26 b29 = 11)).bind fun _ =>
        (F_X9_overFigure b29 x3 x4 h26).bind fun q35 =>
        bd q35.1 fun z34 =>
        bd q35.2 fun h33 =>
        some (some z34, h33)
      else
        F_X11_overs_26  h2

def F_X11_entry_24 (h : aH) : Option (Option Int32 × aH) :=
  some (none, h)

def F_X11_entry (t : Nat) (x1 : Int32) (x2 : Int32) (x3 : Int32) (x4 : Int32) (h : aH) : Option (Option Int32 × aH) :=
  (F_X11_overOf t x1 x2 x3 h).bind fun q4 =>
  bd q4.1 fun o3 =>
  bd q4.2 fun h2 =>
  match o3 with
  | none =>
    F_X11_entry_24  h2
  | some b5 =>
    (ck (hK h2 b5 = 7)).bind fun _ =>
    (F_X5_has b5 x4 h2).bind fun q10 =>
    bd q10.1 fun z9 =>
    bd q10.2 fun h8 =>
    if z9 = 0 then
      F_X11_entry_24  h8
    else
      (ck (hK h8 b5 = 7)).bind fun _ =>
      (F_X5_at b5 x4 h8).bind fun q16 =>
      bd q16.1 fun z15 =>
      bd q16.2 fun h14 =>
      some (some z15, h14)

def F_X11_bats_30 (h : aH) : Option (Option Int32 × aH) :=
  some (none, h)

def F_X11_bats (t : Nat) (x1 : Int32) (x2 : Int32) (x3 : Int32) (x4 : Int32) (h : aH) : Option (Option Int32 × aH) :=
  (F_X11_gameAt t x1 h).bind fun q4 =>
  bd q4.1 fun o3 =>
  bd q4.2 fun h2 =>
  match o3 with
  | none =>
    F_X11_bats_30  h2
  | some b5 =>
    (ck (hK h2 b5 = 5)).bind fun _ =>
    (F_X3_turnAt b5 x2 h2).bind fun q10 =>
    bd q10.1 fun o9 =>
    bd q10.2 fun h8 =>
    match o9 with
    | none =>
      F_X11_bats_30  h8
    | some b11 =>
      (F_X11_isSeatFigure x3 x4 h8).bind fun q15 =>
      bd q15.1 fun z14 =>
      bd q15.2 fun h13 =>
      if z14 = 0 then
        F_X11_bats_30  h13
      else
        (ck (hK h13 t = 13)).bind fun _ =>
        (F_X11_playOver t x1 (some b5) h13).bind fun h19 =>
        (ck (hK h19 t = 13)).bind fun _ =>
        (F_X11_batsFigure t b5 x2 x3 x4 h19).bind fun q25 =>
        bd q25.1 fun z24 =>
        bd q25.2 fun h23 =>
        some (some z24, h23)

def F_X11_fields_30 (h : aH) : Option (Option Int32 × aH) :=
  some (none, h)

def F_X11_fields (t : Nat) (x1 : Int32) (x2 : Int32) (x3 : Int32) (x4 : Int32) (h : aH) : Option (Option Int32 × aH) :=
  (F_X11_gameAt t x1 h).bind fun q4 =>
  bd q4.1 fun o3 =>
  bd q4.2 fun h2 =>
  match o3 with
  | none =>
    F_X11_fields_30  h2
  | some b5 =>
    (ck (hK h2 b5 = 5)).bind fun _ =>
    (F_X3_turnAt b5 x2 h2).bind fun q10 =>
    bd q10.1 fun o9 =>
    bd q10.2 fun h8 =>
    match o9 with
    | none =>
      F_X11_fields_30  h8
    | some b11 =>
      (F_X11_isSeatFigure x3 x4 h8).bind fun q15 =>
      bd q15.1 fun z14 =>
      bd q15.2 fun h13 =>
      if z14 = 0 then
        F_X11_fields_30  h13
      else
        (ck (hK h13 t = 13)).bind fun _ =>
        (F_X11_playOver t x1 (some b5) h13).bind fun h19 =>
        (ck (hK h19 t = 13)).bind fun _ =>
        (F_X11_fieldsFigure t b5 x2 x3 x4 h19).bind fun q25 =>
        bd q25.1 fun z24 =>
        bd q25.2 fun h23 =>
        some (some z24, h23)

def F_X11_record_41 (t : Nat) (x1 : Int32) (x2 : Int32) (h : aH) : Option (Option Int32 × aH) :=
  (ck (hK h t = 13)).bind fun _ =>
  (hG h 1206 t).bind fun b2 =>
  (ck (hK h b2 = 10)).bind fun _ =>
  (hG h 900 b2).bind fun b5 =>
  (ck (hK h b5 = 6)).bind fun _ =>
  (F_X4_at b5 x1 x2 h).bind fun q11 =>
  bd q11.1 fun z10 =>
  bd q11.2 fun h9 =>
  some (some z10, h9)

def F_X11_record_19 (h : aH) : Option (Option Int32 × aH) :=
  some (none, h)

def F_X11_record (t : Nat) (x1 : Int32) (x2 : Int32) (h : aH) : Option (Option Int32 × aH) :=
  if x1 < 0 then
    F_X11_record_19  h
  else
    if 4 ≤ x1 then
      F_X11_record_19  h
    else
      if x2 < 0 then
        F_X11_record_19  h
      else
        if x2 < 6 then
          if hF h 1211 t = 0 then
            F_X11_record_41 t x1 x2 h
          else
            (F_X11_findRecords t h).bind fun h7 =>
            F_X11_record_41 t x1 x2 h7
        else
          F_X11_record_19  h

def F_X11_told_15 (h : aH) : Option (Option Int32 × aH) :=
  some (none, h)

def F_X11_told (t : Nat) (x1 : Int32) (h : aH) : Option (Option Int32 × aH) :=
  if x1 < 0 then
    F_X11_told_15  h
  else
    (hG h 1203 t).bind fun b2 =>
    (ck (hK h b2 = 2)).bind fun _ =>
    if x1 < hF h 101 b2 then
      (hG h 1203 t).bind fun b6 =>
      (ck (hK h b6 = 2)).bind fun _ =>
      (F_X0_at b6 x1 h).bind fun q12 =>
      bd q12.1 fun z11 =>
      bd q12.2 fun h10 =>
      some (some z11, h10)
    else
      F_X11_told_15  h

def F_X11_list_87 (h : aH) : Option (Option Int32 × aH) :=
  some (none, h)

def F_X11_list (t : Nat) (x1 : Int32) (h : aH) : Option (Option Int32 × aH) :=
  if x1 = 0 then
    some (some (hF h 1208 t), h)
  else
  if x1 = 1 then
    (hG h 1201 t).bind fun b3 =>
    (ck (hK h b3 = 1)).bind fun _ =>
    (F_Jx4a65c_size_8abf5 b3 h).bind fun q9 =>
    bd q9.1 fun z8 =>
    bd q9.2 fun h7 =>
    some (some z8, h7)
  else
  if x1 = 2 then
    (hG h 1202 t).bind fun b11 =>
    (ck (hK h b11 = 2)).bind fun _ =>
    some (some (hF h 101 b11), h)
  else
  if x1 = 3 then
    (hG h 1204 t).bind fun b15 =>
    (ck (hK h b15 = 4)).bind fun _ =>
    some (some (hF h 302 b15), h)
  else
  if x1 = 4 then
    (hG h 1203 t).bind fun b19 =>
    (ck (hK h b19 = 2)).bind fun _ =>
    some (some (hF h 101 b19), h)
  else
  if x1 < 0 then
    F_X11_list_87  h
  else
    (F_X11_hasSide t (x1 - 5) h).bind fun q26 =>
    bd q26.1 fun z25 =>
    bd q26.2 fun h24 =>
    if z25 = 0 then
      F_X11_list_87  h24
    else
      (ck (hK h24 t = 13)).bind fun _ =>
      (F_X11_playersOf t (x1 - 5) h24).bind fun q32 =>
      bd q32.1 fun z31 =>
      bd q32.2 fun h30 =>
      some (some z31, h30)

def F_X11_sum_65 : Nat → Nat → Nat → Int64 → Int32 → aH → Option (Option Int64 × aH)
  | 0, _, _, _, _, _ => none
  | n + 1, t, a2, x3, x5, h =>
  (ck (hK h a2 = 5)).bind fun _ =>
  (F_X3_turnCount a2 h).bind fun q5 =>
  bd q5.1 fun z4 =>
  bd q5.2 fun h3 =>
  if z4 ≤ x5 then
    some (some x3, h3)
  else
    (ck (hK h3 t = 13)).bind fun _ =>
    (F_X11_addTurnFigures t x3 a2 x5 h3).bind fun q11 =>
    bd q11.1 fun z10 =>
    bd q11.2 fun h9 =>
    bd (x5 + 1) fun v12 =>
    F_X11_sum_65 n t a2 z10 v12 h9

def F_X11_sum_32 : Nat → Nat → Nat → Int64 → Int32 → aH → Option (Option Int64 × aH)
  | 0, _, _, _, _, _ => none
  | n + 1, t, a2, x3, x5, h =>
  if 15 ≤ x5 then
    F_X11_sum_65 fu t a2 x3 0 h
  else
    (ck (hK h t = 13)).bind fun _ =>
    (hG h 1205 t).bind fun b3 =>
    (ck (hK h b3 = 8)).bind fun _ =>
    (F_X6_figure b3 x5 h).bind fun q9 =>
    bd q9.1 fun z8 =>
    bd q9.2 fun h7 =>
    bd ((31 * x3) + z8.toInt64) fun v10 =>
    bd (x5 + 1) fun v11 =>
    F_X11_sum_32 n t a2 v10 v11 h7

def F_X11_sum (t : Nat) (x1 : Int32) (h : aH) : Option (Option Int64 × aH) :=
  (F_X11_gameAt t x1 h).bind fun q4 =>
  bd q4.1 fun o3 =>
  bd q4.2 fun h2 =>
  match o3 with
  | none =>
    some (none, h2)
  | some b5 =>
    (ck (hK h2 t = 13)).bind fun _ =>
    (F_X11_playOver t x1 (some b5) h2).bind fun h8 =>
    F_X11_sum_32 fu t b5 0 0 h8

set_option maxRecDepth 20000 in
theorem lk_X11_now_20 {g : aG} {l : Launch} {d : Nat} {h0 : aH} (hdd : 7 ≤ d) {v : Int32} {h1 : aH} (h : aH) (HF : F_X11_now_20   h = some (some v, h1)) : Ev g l cX11_now 4 yX11_now (some .int) d h0 (some (.int v), h1) 20 [] [] h := by
  unfold F_X11_now_20 at HF
  cases HF

set_option maxRecDepth 20000 in
theorem lk_X11_now {g : aG} {l : Launch} {d : Nat} (hdd : 7 ≤ d) {t : Nat} {x1 : Int32} {x2 : Int32} {h : aH} {v : Int32} {h1 : aH} (hT : hK h t = 13) (HF : F_X11_now t x1 x2 h = some (some v, h1)) : MA g l yX11_now cX11_now 4 (some .int) d [.ref t, .int x1, .int x2] h (some (.int v), h1) := by
  refine MA.of (lv0 := [(0, .ref t), (1, .int x1), (2, .int x2)]) (by decide +kernel) (rfl) (Nat.le_of_ble_eq_true rfl) ?_
  unfold F_X11_now at HF
  refine ev_aload_n 0 dX11_now_0 rfl ?_
  refine ev_iload_n 1 dX11_now_1 rfl ?_
  replace HF := bind_o HF
  obtain ⟨⟨o3, h2⟩, e1, HF⟩ := HF
  replace HF := bd_o (bd_o HF)
  dsimp only at HF
  refine ev_callV (As := [.int x1]) (R1 := (some (va_rf o3), h2)) (lk_X11_gameAt (d := 3) (Nat.le_refl _) hT e1) ce_X11_gameAt im_X11_gameAt sl_X11_gameAt ml_X11_91 cl_X11 hT dX11_now_2 (by omega) (Nat.le_of_ble_eq_true rfl) rfl rfl ?_
  show EvG _ _ _ _ _ _ _ _ _ _ _ 5 [(0, .ref t), (1, .int x1), (2, .int x2)] [va_rf o3] h2
  refine ev_astore_nr (lv' := [(3, va_rf o3), (0, .ref t), (1, .int x1), (2, .int x2)]) dX11_now_5 (by decide) (rfl) ?_
  refine ev_aload_nr 0 dX11_now_6 rfl ?_
  cases o3 with
  | none =>
    refine ev_ifnullN (tgt := 20) dX11_now_7 (by decide) ?_
    exact Ev.sub [] rfl (lk_X11_now_20 hdd   _ HF)
  | some b5 =>
    refine ev_ifnullS dX11_now_7 ?_
    refine ev_iload_n 3 dX11_now_10 rfl ?_
    by_cases c6 : x2 < 0
    · replace HF := ite_T c6 HF
      refine ev_if_ltT (tgt := 20) dX11_now_11 (by decide) c6 ?_
      exact Ev.sub [] rfl (lk_X11_now_20 hdd   _ HF)
    · replace HF := ite_F c6 HF
      refine ev_if_ltF (tgt := 20) dX11_now_11 (by decide) c6 ?_
      refine ev_iload_n 3 dX11_now_14 rfl ?_
      refine ev_bipush (v := 15) dX11_now_15 (by decide) ?_
      by_cases c7 : x2 < 15
      · replace HF := ite_T c7 HF
        refine ev_icmp_ltT (tgt := 30) dX11_now_17 (by decide) c7 ?_
        refine ev_aload_n 1 dX11_now_30 rfl ?_
        refine ev_iload_n 2 dX11_now_31 rfl ?_
        refine ev_aload_n 0 dX11_now_32 rfl ?_
        replace HF := bind_ck HF
        obtain ⟨c8, HF⟩ := HF
        replace HF := bind_o HF
        obtain ⟨h10, e9, HF⟩ := HF
        refine ev_callV (As := [.int x1, va_rf (some b5)]) (R1 := (none, h10)) (lk_X11_playOver (d := 6) (Nat.le_refl _) c8 e9) ce_X11_playOver im_X11_playOver sl_X11_playOver ml_X11_115 cl_X11 c8 dX11_now_33 (by omega) (Nat.le_of_ble_eq_true rfl) rfl rfl ?_
        show EvG _ _ _ _ _ _ _ _ _ _ _ 36 [(3, .ref b5), (0, .ref t), (1, .int x1), (2, .int x2)] [] h10
        refine ev_aload_n 1 dX11_now_36 rfl ?_
        replace HF := bind_ck HF
        obtain ⟨c12, HF⟩ := HF
        replace HF := bind_o HF
        obtain ⟨b13, e14, HF⟩ := HF
        refine ev_gS (f := 1205) cl_X11 (k := 5) (by decide) fi_X11_5 rfl fl_X11_42 dX11_now_37 c12 e14 ?_
        refine ev_iload_n 3 dX11_now_40 rfl ?_
        show EvG _ _ _ _ _ _ _ _ _ _ _ 41 _ _ _
        replace HF := bind_ck HF
        obtain ⟨c15, HF⟩ := HF
        replace HF := bind_o HF
        obtain ⟨⟨z18, h17⟩, e16, HF⟩ := HF
        replace HF := bd_o (bd_o HF)
        dsimp only at HF
        refine ev_callV (As := [.int x2]) (R1 := (some (.int z18), h17)) (lk_X6_figure (d := 4) (Nat.le_refl _) c15 e16) ce_X6_figure im_X6_figure sl_X6_figure ml_X11_231 cl_X6 c15 dX11_now_41 (by omega) (Nat.le_of_ble_eq_true rfl) rfl rfl ?_
        show EvG _ _ _ _ _ _ _ _ _ _ _ 44 [(3, .ref b5), (0, .ref t), (1, .int x1), (2, .int x2)] [.int z18] h17
        cases HF
        exact ev_iret dX11_now_44
      · replace HF := ite_F c7 HF
        refine ev_icmp_ltF (tgt := 30) dX11_now_17 (by decide) c7 ?_
        exact Ev.sub [] rfl (lk_X11_now_20 hdd   _ HF)

set_option maxRecDepth 20000 in
theorem lx_X11_now_20 {g : aG} {l : Launch} {d : Nat} {h0 : aH} (hdd : 7 ≤ d) (hl : l.stackTraces = false) {h1 : aH} (h : aH) (HF : F_X11_now_20   h = some (none, h1)) : EvG g l cX11_now 4 yX11_now (some .int) d h0 (hz h1 + 1) (hs h1 + 6) (ZX g h0 h1) 20 [] [] h := by
  unfold F_X11_now_20 at HF
  cases HF
  exact ev_throw (is := 226) (text := "no such game or what") hl rfl ce_X11_now.1 (by decide +kernel) kl_X11_224 in_nse (by omega) dX11_now_20 dX11_now_23 dX11_now_24 dX11_now_26 dX11_now_29

set_option maxRecDepth 20000 in
theorem lx_X11_now {g : aG} {l : Launch} {d : Nat} (hdd : 7 ≤ d) {t : Nat} {x1 : Int32} {x2 : Int32} {h : aH} (hl : l.stackTraces = false) {h1 : aH} (hT : hK h t = 13) (HF : F_X11_now t x1 x2 h = some (none, h1)) : MX g l yX11_now cX11_now 4 (some .int) d [.ref t, .int x1, .int x2] h h1 := by
  refine MX.of (lv0 := [(0, .ref t), (1, .int x1), (2, .int x2)]) (by decide +kernel) (rfl) (Nat.le_of_ble_eq_true rfl) ?_
  unfold F_X11_now at HF
  refine ev_aload_n 0 dX11_now_0 rfl ?_
  refine ev_iload_n 1 dX11_now_1 rfl ?_
  replace HF := bind_o HF
  obtain ⟨⟨o3, h2⟩, e1, HF⟩ := HF
  replace HF := bd_o (bd_o HF)
  dsimp only at HF
  refine ev_callV (As := [.int x1]) (R1 := (some (va_rf o3), h2)) (lk_X11_gameAt (d := 3) (Nat.le_refl _) hT e1) ce_X11_gameAt im_X11_gameAt sl_X11_gameAt ml_X11_91 cl_X11 hT dX11_now_2 (by omega) (Nat.le_of_ble_eq_true rfl) rfl rfl ?_
  show EvG _ _ _ _ _ _ _ _ _ _ _ 5 [(0, .ref t), (1, .int x1), (2, .int x2)] [va_rf o3] h2
  refine ev_astore_nr (lv' := [(3, va_rf o3), (0, .ref t), (1, .int x1), (2, .int x2)]) dX11_now_5 (by decide) (rfl) ?_
  refine ev_aload_nr 0 dX11_now_6 rfl ?_
  cases o3 with
  | none =>
    refine ev_ifnullN (tgt := 20) dX11_now_7 (by decide) ?_
    exact Ev.sub [] rfl (lx_X11_now_20 hdd hl   _ HF)
  | some b5 =>
    refine ev_ifnullS dX11_now_7 ?_
    refine ev_iload_n 3 dX11_now_10 rfl ?_
    by_cases c6 : x2 < 0
    · replace HF := ite_T c6 HF
      refine ev_if_ltT (tgt := 20) dX11_now_11 (by decide) c6 ?_
      exact Ev.sub [] rfl (lx_X11_now_20 hdd hl   _ HF)
    · replace HF := ite_F c6 HF
      refine ev_if_ltF (tgt := 20) dX11_now_11 (by decide) c6 ?_
      refine ev_iload_n 3 dX11_now_14 rfl ?_
      refine ev_bipush (v := 15) dX11_now_15 (by decide) ?_
      by_cases c7 : x2 < 15
      · replace HF := ite_T c7 HF
        refine ev_icmp_ltT (tgt := 30) dX11_now_17 (by decide) c7 ?_
        refine ev_aload_n 1 dX11_now_30 rfl ?_
        refine ev_iload_n 2 dX11_now_31 rfl ?_
        refine ev_aload_n 0 dX11_now_32 rfl ?_
        replace HF := bind_ck HF
        obtain ⟨c8, HF⟩ := HF
        replace HF := bind_o HF
        obtain ⟨h10, e9, HF⟩ := HF
        refine ev_callV (As := [.int x1, va_rf (some b5)]) (R1 := (none, h10)) (lk_X11_playOver (d := 6) (Nat.le_refl _) c8 e9) ce_X11_playOver im_X11_playOver sl_X11_playOver ml_X11_115 cl_X11 c8 dX11_now_33 (by omega) (Nat.le_of_ble_eq_true rfl) rfl rfl ?_
        show EvG _ _ _ _ _ _ _ _ _ _ _ 36 [(3, .ref b5), (0, .ref t), (1, .int x1), (2, .int x2)] [] h10
        refine ev_aload_n 1 dX11_now_36 rfl ?_
        replace HF := bind_ck HF
        obtain ⟨c12, HF⟩ := HF
        replace HF := bind_o HF
        obtain ⟨b13, e14, HF⟩ := HF
        refine ev_gS (f := 1205) cl_X11 (k := 5) (by decide) fi_X11_5 rfl fl_X11_42 dX11_now_37 c12 e14 ?_
        refine ev_iload_n 3 dX11_now_40 rfl ?_
        show EvG _ _ _ _ _ _ _ _ _ _ _ 41 _ _ _
        replace HF := bind_ck HF
        obtain ⟨c15, HF⟩ := HF
        replace HF := bind_o HF
        obtain ⟨⟨z18, h17⟩, e16, HF⟩ := HF
        replace HF := bd_o (bd_o HF)
        dsimp only at HF
        refine ev_callV (As := [.int x2]) (R1 := (some (.int z18), h17)) (lk_X6_figure (d := 4) (Nat.le_refl _) c15 e16) ce_X6_figure im_X6_figure sl_X6_figure ml_X11_231 cl_X6 c15 dX11_now_41 (by omega) (Nat.le_of_ble_eq_true rfl) rfl rfl ?_
        show EvG _ _ _ _ _ _ _ _ _ _ _ 44 [(3, .ref b5), (0, .ref t), (1, .int x1), (2, .int x2)] [.int z18] h17
        cases HF
      · replace HF := ite_F c7 HF
        refine ev_icmp_ltF (tgt := 30) dX11_now_17 (by decide) c7 ?_
        exact Ev.sub [] rfl (lx_X11_now_20 hdd hl   _ HF)

set_option maxRecDepth 20000 in
theorem lk_X11_score_31 {g : aG} {l : Launch} {d : Nat} {h0 : aH} (hdd : 7 ≤ d) {v : Int32} {h1 : aH} (h : aH) (HF : F_X11_score_31   h = some (some v, h1)) : Ev g l cX11_score 5 yX11_score (some .int) d h0 (some (.int v), h1) 31 [] [] h := by
  unfold F_X11_score_31 at HF
  cases HF

set_option maxRecDepth 20000 in
theorem lk_X11_score {g : aG} {l : Launch} {d : Nat} (hdd : 7 ≤ d) {t : Nat} {x1 : Int32} {x2 : Int32} {x3 : Int32} {h : aH} {v : Int32} {h1 : aH} (hT : hK h t = 13) (HF : F_X11_score t x1 x2 x3 h = some (some v, h1)) : MA g l yX11_score cX11_score 5 (some .int) d [.ref t, .int x1, .int x2, .int x3] h (some (.int v), h1) := by
  refine MA.of (lv0 := [(0, .ref t), (1, .int x1), (2, .int x2), (3, .int x3)]) (by decide +kernel) (rfl) (Nat.le_of_ble_eq_true rfl) ?_
  unfold F_X11_score at HF
  refine ev_aload_n 0 dX11_score_0 rfl ?_
  refine ev_iload_n 1 dX11_score_1 rfl ?_
  replace HF := bind_o HF
  obtain ⟨⟨o3, h2⟩, e1, HF⟩ := HF
  replace HF := bd_o (bd_o HF)
  dsimp only at HF
  refine ev_callV (As := [.int x1]) (R1 := (some (va_rf o3), h2)) (lk_X11_gameAt (d := 3) (Nat.le_refl _) hT e1) ce_X11_gameAt im_X11_gameAt sl_X11_gameAt ml_X11_91 cl_X11 hT dX11_score_2 (by omega) (Nat.le_of_ble_eq_true rfl) rfl rfl ?_
  show EvG _ _ _ _ _ _ _ _ _ _ _ 5 [(0, .ref t), (1, .int x1), (2, .int x2), (3, .int x3)] [va_rf o3] h2
  refine ev_astorer (lv' := [(4, va_rf o3), (0, .ref t), (1, .int x1), (2, .int x2), (3, .int x3)]) dX11_score_5 (by decide) (rfl) ?_
  refine ev_aloadr 0 dX11_score_7 rfl ?_
  cases o3 with
  | none =>
    refine ev_ifnullN (tgt := 31) dX11_score_9 (by decide) ?_
    exact Ev.sub [] rfl (lk_X11_score_31 hdd   _ HF)
  | some b5 =>
    refine ev_ifnullS dX11_score_9 ?_
    refine ev_aload 0 dX11_score_12 rfl ?_
    refine ev_iload_n 3 dX11_score_14 rfl ?_
    replace HF := bind_ck HF
    obtain ⟨c6, HF⟩ := HF
    replace HF := bind_o HF
    obtain ⟨⟨o9, h8⟩, e7, HF⟩ := HF
    replace HF := bd_o (bd_o HF)
    dsimp only at HF
    refine ev_callV (As := [.int x2]) (R1 := (some (va_rf o9), h8)) (lk_X3_turnAt (d := 3) (Nat.le_refl _) c6 e7) ce_X3_turnAt im_X3_turnAt sl_X3_turnAt ml_X11_140 cl_X3 c6 dX11_score_15 (by omega) (Nat.le_of_ble_eq_true rfl) rfl rfl ?_
    show EvG _ _ _ _ _ _ _ _ _ _ _ 18 [(4, .ref b5), (0, .ref t), (1, .int x1), (2, .int x2), (3, .int x3)] [va_rf o9] h8
    cases o9 with
    | none =>
      refine ev_ifnullN (tgt := 31) dX11_score_18 (by decide) ?_
      exact Ev.sub [] rfl (lk_X11_score_31 hdd   _ HF)
    | some b11 =>
      refine ev_ifnullS dX11_score_18 ?_
      refine ev_iload_n 4 dX11_score_21 rfl ?_
      by_cases c12 : x3 < 0
      · replace HF := ite_T c12 HF
        refine ev_if_ltT (tgt := 31) dX11_score_22 (by decide) c12 ?_
        exact Ev.sub [] rfl (lk_X11_score_31 hdd   _ HF)
      · replace HF := ite_F c12 HF
        refine ev_if_ltF (tgt := 31) dX11_score_22 (by decide) c12 ?_
        refine ev_iload_n 4 dX11_score_25 rfl ?_
        refine ev_bipush (v := 16) dX11_score_26 (by decide) ?_
        by_cases c13 : x3 < 16
        · replace HF := ite_T c13 HF
          refine ev_icmp_ltT (tgt := 41) dX11_score_28 (by decide) c13 ?_
          refine ev_aload_n 1 dX11_score_41 rfl ?_
          refine ev_iload_n 2 dX11_score_42 rfl ?_
          refine ev_aload 0 dX11_score_43 rfl ?_
          replace HF := bind_ck HF
          obtain ⟨c14, HF⟩ := HF
          replace HF := bind_o HF
          obtain ⟨h16, e15, HF⟩ := HF
          refine ev_callV (As := [.int x1, va_rf (some b5)]) (R1 := (none, h16)) (lk_X11_playOver (d := 6) (Nat.le_refl _) c14 e15) ce_X11_playOver im_X11_playOver sl_X11_playOver ml_X11_115 cl_X11 c14 dX11_score_45 (by omega) (Nat.le_of_ble_eq_true rfl) rfl rfl ?_
          show EvG _ _ _ _ _ _ _ _ _ _ _ 48 [(4, .ref b5), (0, .ref t), (1, .int x1), (2, .int x2), (3, .int x3)] [] h16
          refine ev_aload_n 1 dX11_score_48 rfl ?_
          refine ev_aload 0 dX11_score_49 rfl ?_
          refine ev_iload_n 3 dX11_score_51 rfl ?_
          show EvG _ _ _ _ _ _ _ _ _ _ _ 52 _ _ _
          refine ev_iload_n 4 dX11_score_52 rfl ?_
          replace HF := bind_ck HF
          obtain ⟨c18, HF⟩ := HF
          replace HF := bind_o HF
          obtain ⟨⟨z21, h20⟩, e19, HF⟩ := HF
          replace HF := bd_o (bd_o HF)
          dsimp only at HF
          refine ev_callV (As := [.ref b5, .int x2, .int x3]) (R1 := (some (.int z21), h20)) (lk_X11_scoreFigure (d := 5) (Nat.le_refl _) c18 e19) ce_X11_scoreFigure im_X11_scoreFigure sl_X11_scoreFigure ml_X11_236 cl_X11 c18 dX11_score_53 (by omega) (Nat.le_of_ble_eq_true rfl) rfl rfl ?_
          show EvG _ _ _ _ _ _ _ _ _ _ _ 56 [(4, .ref b5), (0, .ref t), (1, .int x1), (2, .int x2), (3, .int x3)] [.int z21] h20
          cases HF
          exact ev_iret dX11_score_56
        · replace HF := ite_F c13 HF
          refine ev_icmp_ltF (tgt := 41) dX11_score_28 (by decide) c13 ?_
          exact Ev.sub [] rfl (lk_X11_score_31 hdd   _ HF)

set_option maxRecDepth 20000 in
theorem lx_X11_score_31 {g : aG} {l : Launch} {d : Nat} {h0 : aH} (hdd : 7 ≤ d) (hl : l.stackTraces = false) {h1 : aH} (h : aH) (HF : F_X11_score_31   h = some (none, h1)) : EvG g l cX11_score 5 yX11_score (some .int) d h0 (hz h1 + 1) (hs h1 + 6) (ZX g h0 h1) 31 [] [] h := by
  unfold F_X11_score_31 at HF
  cases HF
  exact ev_throw (is := 234) (text := "no such game, turn or what") hl rfl ce_X11_score.1 (by decide +kernel) kl_X11_224 in_nse (by omega) dX11_score_31 dX11_score_34 dX11_score_35 dX11_score_37 dX11_score_40

set_option maxRecDepth 20000 in
theorem lx_X11_score {g : aG} {l : Launch} {d : Nat} (hdd : 7 ≤ d) {t : Nat} {x1 : Int32} {x2 : Int32} {x3 : Int32} {h : aH} (hl : l.stackTraces = false) {h1 : aH} (hT : hK h t = 13) (HF : F_X11_score t x1 x2 x3 h = some (none, h1)) : MX g l yX11_score cX11_score 5 (some .int) d [.ref t, .int x1, .int x2, .int x3] h h1 := by
  refine MX.of (lv0 := [(0, .ref t), (1, .int x1), (2, .int x2), (3, .int x3)]) (by decide +kernel) (rfl) (Nat.le_of_ble_eq_true rfl) ?_
  unfold F_X11_score at HF
  refine ev_aload_n 0 dX11_score_0 rfl ?_
  refine ev_iload_n 1 dX11_score_1 rfl ?_
  replace HF := bind_o HF
  obtain ⟨⟨o3, h2⟩, e1, HF⟩ := HF
  replace HF := bd_o (bd_o HF)
  dsimp only at HF
  refine ev_callV (As := [.int x1]) (R1 := (some (va_rf o3), h2)) (lk_X11_gameAt (d := 3) (Nat.le_refl _) hT e1) ce_X11_gameAt im_X11_gameAt sl_X11_gameAt ml_X11_91 cl_X11 hT dX11_score_2 (by omega) (Nat.le_of_ble_eq_true rfl) rfl rfl ?_
  show EvG _ _ _ _ _ _ _ _ _ _ _ 5 [(0, .ref t), (1, .int x1), (2, .int x2), (3, .int x3)] [va_rf o3] h2
  refine ev_astorer (lv' := [(4, va_rf o3), (0, .ref t), (1, .int x1), (2, .int x2), (3, .int x3)]) dX11_score_5 (by decide) (rfl) ?_
  refine ev_aloadr 0 dX11_score_7 rfl ?_
  cases o3 with
  | none =>
    refine ev_ifnullN (tgt := 31) dX11_score_9 (by decide) ?_
    exact Ev.sub [] rfl (lx_X11_score_31 hdd hl   _ HF)
  | some b5 =>
    refine ev_ifnullS dX11_score_9 ?_
    refine ev_aload 0 dX11_score_12 rfl ?_
    refine ev_iload_n 3 dX11_score_14 rfl ?_
    replace HF := bind_ck HF
    obtain ⟨c6, HF⟩ := HF
    replace HF := bind_o HF
    obtain ⟨⟨o9, h8⟩, e7, HF⟩ := HF
    replace HF := bd_o (bd_o HF)
    dsimp only at HF
    refine ev_callV (As := [.int x2]) (R1 := (some (va_rf o9), h8)) (lk_X3_turnAt (d := 3) (Nat.le_refl _) c6 e7) ce_X3_turnAt im_X3_turnAt sl_X3_turnAt ml_X11_140 cl_X3 c6 dX11_score_15 (by omega) (Nat.le_of_ble_eq_true rfl) rfl rfl ?_
    show EvG _ _ _ _ _ _ _ _ _ _ _ 18 [(4, .ref b5), (0, .ref t), (1, .int x1), (2, .int x2), (3, .int x3)] [va_rf o9] h8
    cases o9 with
    | none =>
      refine ev_ifnullN (tgt := 31) dX11_score_18 (by decide) ?_
      exact Ev.sub [] rfl (lx_X11_score_31 hdd hl   _ HF)
    | some b11 =>
      refine ev_ifnullS dX11_score_18 ?_
      refine ev_iload_n 4 dX11_score_21 rfl ?_
      by_cases c12 : x3 < 0
      · replace HF := ite_T c12 HF
        refine ev_if_ltT (tgt := 31) dX11_score_22 (by decide) c12 ?_
        exact Ev.sub [] rfl (lx_X11_score_31 hdd hl   _ HF)
      · replace HF := ite_F c12 HF
        refine ev_if_ltF (tgt := 31) dX11_score_22 (by decide) c12 ?_
        refine ev_iload_n 4 dX11_score_25 rfl ?_
        refine ev_bipush (v := 16) dX11_score_26 (by decide) ?_
        by_cases c13 : x3 < 16
        · replace HF := ite_T c13 HF
          refine ev_icmp_ltT (tgt := 41) dX11_score_28 (by decide) c13 ?_
          refine ev_aload_n 1 dX11_score_41 rfl ?_
          refine ev_iload_n 2 dX11_score_42 rfl ?_
          refine ev_aload 0 dX11_score_43 rfl ?_
          replace HF := bind_ck HF
          obtain ⟨c14, HF⟩ := HF
          replace HF := bind_o HF
          obtain ⟨h16, e15, HF⟩ := HF
          refine ev_callV (As := [.int x1, va_rf (some b5)]) (R1 := (none, h16)) (lk_X11_playOver (d := 6) (Nat.le_refl _) c14 e15) ce_X11_playOver im_X11_playOver sl_X11_playOver ml_X11_115 cl_X11 c14 dX11_score_45 (by omega) (Nat.le_of_ble_eq_true rfl) rfl rfl ?_
          show EvG _ _ _ _ _ _ _ _ _ _ _ 48 [(4, .ref b5), (0, .ref t), (1, .int x1), (2, .int x2), (3, .int x3)] [] h16
          refine ev_aload_n 1 dX11_score_48 rfl ?_
          refine ev_aload 0 dX11_score_49 rfl ?_
          refine ev_iload_n 3 dX11_score_51 rfl ?_
          show EvG _ _ _ _ _ _ _ _ _ _ _ 52 _ _ _
          refine ev_iload_n 4 dX11_score_52 rfl ?_
          replace HF := bind_ck HF
          obtain ⟨c18, HF⟩ := HF
          replace HF := bind_o HF
          obtain ⟨⟨z21, h20⟩, e19, HF⟩ := HF
          replace HF := bd_o (bd_o HF)
          dsimp only at HF
          refine ev_callV (As := [.ref b5, .int x2, .int x3]) (R1 := (some (.int z21), h20)) (lk_X11_scoreFigure (d := 5) (Nat.le_refl _) c18 e19) ce_X11_scoreFigure im_X11_scoreFigure sl_X11_scoreFigure ml_X11_236 cl_X11 c18 dX11_score_53 (by omega) (Nat.le_of_ble_eq_true rfl) rfl rfl ?_
          show EvG _ _ _ _ _ _ _ _ _ _ _ 56 [(4, .ref b5), (0, .ref t), (1, .int x1), (2, .int x2), (3, .int x3)] [.int z21] h20
          cases HF
        · replace HF := ite_F c13 HF
          refine ev_icmp_ltF (tgt := 41) dX11_score_28 (by decide) c13 ?_
          exact Ev.sub [] rfl (lx_X11_score_31 hdd hl   _ HF)

set_option maxRecDepth 20000 in
theorem lk_X11_overs_26 {g : aG} {l : Launch} {d : Nat} {h0 : aH} (hdd : 7 ≤ d) {v : Int32} {h1 : aH} (h : aH) (HF : F_X11_overs_26   h = some (some v, h1)) : Ev g l cX11_overs 6 yX11_overs (some .int) d h0 (some (.int v), h1) 26 [] [] h := by
  unfold F_X11_overs_26 at HF
  cases HF

set_option maxRecDepth 20000 in
theorem lk_X11_overs {g : aG} {l : Launch} {d : Nat} (hdd : 7 ≤ d) {t : Nat} {x1 : Int32} {x2 : Int32} {x3 : Int32} {x4 : Int32} {h : aH} {v : Int32} {h1 : aH} (hT : hK h t = 13) (HF : F_X11_overs t x1 x2 x3 x4 h = some (some v, h1)) : MA g l yX11_overs cX11_overs 6 (some .int) d [.ref t, .int x1, .int x2, .int x3, .int x4] h (some (.int v), h1) := by
  refine MA.of (lv0 := [(0, .ref t), (1, .int x1), (2, .int x2), (3, .int x3), (4, .int x4)]) (by decide +kernel) (rfl) (Nat.le_of_ble_eq_true rfl) ?_
  unfold F_X11_overs at HF
  refine ev_aload_n 0 dX11_overs_0 rfl ?_
  refine ev_iload_n 1 dX11_overs_1 rfl ?_
  refine ev_iload_n 2 dX11_overs_2 rfl ?_
  refine ev_iload_n 3 dX11_overs_3 rfl ?_
  replace HF := bind_o HF
  obtain ⟨⟨o3, h2⟩, e1, HF⟩ := HF
  replace HF := bd_o (bd_o HF)
  dsimp only at HF
  refine ev_callV (As := [.int x1, .int x2, .int x3]) (R1 := (some (va_rf o3), h2)) (lk_X11_overOf (d := 5) (Nat.le_refl _) hT e1) ce_X11_overOf im_X11_overOf sl_X11_overOf ml_X11_188 cl_X11 hT dX11_overs_4 (by omega) (Nat.le_of_ble_eq_true rfl) rfl rfl ?_
  show EvG _ _ _ _ _ _ _ _ _ _ _ 7 [(0, .ref t), (1, .int x1), (2, .int x2), (3, .int x3), (4, .int x4)] [va_rf o3] h2
  refine ev_astorer (lv' := [(5, va_rf o3), (0, .ref t), (1, .int x1), (2, .int x2), (3, .int x3), (4, .int x4)]) dX11_overs_7 (by decide) (rfl) ?_
  refine ev_aloadr 0 dX11_overs_9 rfl ?_
  show EvG _ _ _ _ _ _ _ _ _ _ _ 11 _ _ _
  cases o3 with
  | none =>
    refine ev_ifnullN (tgt := 26) dX11_overs_11 (by decide) ?_
    exact Ev.sub [] rfl (lk_X11_overs_26 hdd   _ HF)
  | some b5 =>
    refine ev_ifnullS dX11_overs_11 ?_
    refine ev_iload 5 dX11_overs_14 rfl ?_
    by_cases c6 : x4 < 0
    · replace HF := ite_T c6 HF
      refine ev_if_ltT (tgt := 26) dX11_overs_16 (by decide) c6 ?_
      exact Ev.sub [] rfl (lk_X11_overs_26 hdd   _ HF)
    · replace HF := ite_F c6 HF
      refine ev_if_ltF (tgt := 26) dX11_overs_16 (by decide) c6 ?_
      refine ev_iload 5 dX11_overs_19 rfl ?_
      refine ev_bipush (v := 8) dX11_overs_21 (by decide) ?_
      by_cases c7 : x4 < 8
      · replace HF := ite_T c7 HF
        refine ev_icmp_ltT (tgt := 36) dX11_overs_23 (by decide) c7 ?_
        refine ev_aload_n 1 dX11_overs_36 rfl ?_
        refine ev_iload_n 2 dX11_overs_37 rfl ?_
        refine ev_aload_n 1 dX11_overs_38 rfl ?_
        refine ev_iload_n 2 dX11_overs_39 rfl ?_
        replace HF := bind_ck HF
        obtain ⟨c8, HF⟩ := HF
        replace HF := bind_o HF
        obtain ⟨⟨o11, h10⟩, e9, HF⟩ := HF
        replace HF := bd_o (bd_o HF)
        dsimp only at HF
        refine ev_callV (As := [.int x1]) (R1 := (some (va_rf o11), h10)) (lk_X11_gameAt (d := 3) (Nat.le_refl _) c8 e9) ce_X11_gameAt im_X11_gameAt sl_X11_gameAt ml_X11_91 cl_X11 c8 dX11_overs_40 (by omega) (Nat.le_of_ble_eq_true rfl) rfl rfl ?_
        show EvG _ _ _ _ _ _ _ _ _ _ _ 43 [(5, .ref b5), (0, .ref t), (1, .int x1), (2, .int x2), (3, .int x3), (4, .int x4)] [va_rf o11, .int x1, .ref t] h10
        replace HF := bind_ck HF
        obtain ⟨c13, HF⟩ := HF
        replace HF := bind_o HF
        obtain ⟨h15, e14, HF⟩ := HF
        refine ev_callV (As := [.int x1, va_rf o11]) (R1 := (none, h15)) (lk_X11_playOver (d := 6) (Nat.le_refl _) c13 e14) ce_X11_playOver im_X11_playOver sl_X11_playOver ml_X11_115 cl_X11 c13 dX11_overs_43 (by omega) (Nat.le_of_ble_eq_true rfl) rfl rfl ?_
        show EvG _ _ _ _ _ _ _ _ _ _ _ 46 [(5, .ref b5), (0, .ref t), (1, .int x1), (2, .int x2), (3, .int x3), (4, .int x4)] [] h15
        refine ev_iload 5 dX11_overs_46 rfl ?_
        show EvG _ _ _ _ _ _ _ _ _ _ _ 48 _ _ _
        by_cases c17 : x4 = 0
        · replace HF := ite_T c17 HF
          refine ev_swL (kk := 0) (tgt := 76) dX11_overs_48 c17 (by decide +kernel) (by decide +kernel) ?_
          refine ev_aload 0 dX11_overs_76 rfl ?_
          replace HF := bind_ck HF
          obtain ⟨c18, HF⟩ := HF
          refine ev_gIN (f := 601) cl_X5 (k := 1) (by decide) fi_X5_1 rfl fl_X11_208 dX11_overs_78 c18 ?_
          cases HF
          exact ev_iret dX11_overs_81
        replace HF := ite_F c17 HF
        by_cases c19 : x4 = 1
        · replace HF := ite_T c19 HF
          refine ev_swL (kk := 1) (tgt := 82) dX11_overs_48 c19 (by decide +kernel) (by decide +kernel) ?_
          refine ev_aload 0 dX11_overs_82 rfl ?_
          replace HF := bind_ck HF
          obtain ⟨c20, HF⟩ := HF
          refine ev_gIN (f := 602) cl_X5 (k := 2) (by decide) fi_X5_2 rfl fl_X11_179 dX11_overs_84 c20 ?_
          cases HF
          exact ev_iret dX11_overs_87
        replace HF := ite_F c19 HF
        refine ev_swLd (ks := [0, 1]) (tgt := 88) dX11_overs_48 (by simp only [List.mem_cons, List.not_mem_nil, or_false, forall_eq_or_imp, forall_eq]; exact ⟨c17, c19⟩) (by decide +kernel) (by decide) ?_
        refine ev_aload_n 1 dX11_overs_88 rfl ?_
        replace HF := bind_ck HF
        obtain ⟨c21, HF⟩ := HF
        replace HF := bind_o HF
        obtain ⟨b22, e23, HF⟩ := HF
        refine ev_gS (f := 1205) cl_X11 (k := 5) (by decide) fi_X11_5 rfl fl_X11_42 dX11_overs_89 c21 e23 ?_
        refine ev_iload_n 3 dX11_overs_92 rfl ?_
        replace HF := bind_ck HF
        obtain ⟨c24, HF⟩ := HF
        replace HF := bind_o HF
        obtain ⟨⟨o27, h26⟩, e25, HF⟩ := HF
        replace HF := bd_o (bd_o HF)
        dsimp only at HF
        refine ev_callV (As := [.int x2]) (R1 := (some (va_rf o27), h26)) (lk_X6_tallyAt (d := 0) (Nat.le_refl _) c24 e25) ce_X6_tallyAt im_X6_tallyAt sl_X6_tallyAt ml_X11_242 cl_X6 c24 dX11_overs_93 (by omega) (Nat.le_of_ble_eq_true rfl) rfl rfl ?_
        show EvG _ _ _ _ _ _ _ _ _ _ _ 96 [(5, .ref b5), (0, .ref t), (1, .int x1), (2, .int x2), (3, .int x3), (4, .int x4)] [va_rf o27] h26
        refine ev_iload_n 4 dX11_overs_96 rfl ?_
        refine ev_iload 5 dX11_overs_97 rfl ?_
        replace HF := bind_o HF
        obtain ⟨b29, e30, HF⟩ := HF
        subst e30
        replace HF := bind_ck HF
        obtain ⟨c31, HF⟩ := HF
        replace HF := bind_o HF
        obtain ⟨⟨z34, h33⟩, e32, HF⟩ := HF
        replace HF := bd_o (bd_o HF)
        dsimp only at HF
        refine ev_callV (As := [.int x3, .int x4]) (R1 := (some (.int z34), h33)) (lk_X9_overFigure (d := 2) (Nat.le_refl _) c31 e32) ce_X9_overFigure im_X9_overFigure sl_X9_overFigure ml_X11_246 cl_X9 c31 dX11_overs_99 (by omega) (Nat.le_of_ble_eq_true rfl) rfl rfl ?_
        show EvG _ _ _ _ _ _ _ _ _ _ _ 102 [(5, .ref b5), (0, .ref t), (1, .int x1), (2, .int x2), (3, .int x3), (4, .int x4)] [.int z34] h33
        show EvG _ _ _ _ _ _ _ _ _ _ _ 102 _ _ _
        cases HF
        exact ev_iret dX11_overs_102
      · replace HF := ite_F c7 HF
        refine ev_icmp_ltF (tgt := 36) dX11_overs_23 (by decide) c7 ?_
        exact Ev.sub [] rfl (lk_X11_overs_26 hdd   _ HF)

set_option maxRecDepth 20000 in
theorem lx_X11_overs_26 {g : aG} {l : Launch} {d : Nat} {h0 : aH} (hdd : 7 ≤ d) (hl : l.stackTraces = false) {h1 : aH} (h : aH) (HF : F_X11_overs_26   h = some (none, h1)) : EvG g l cX11_overs 6 yX11_overs (some .int) d h0 (hz h1 + 1) (hs h1 + 6) (ZX g h0 h1) 26 [] [] h := by
  unfold F_X11_overs_26 at HF
  cases HF
  exact ev_throw (is := 240) (text := "no such game, turn, over or what") hl rfl ce_X11_overs.1 (by decide +kernel) kl_X11_224 in_nse (by omega) dX11_overs_26 dX11_overs_29 dX11_overs_30 dX11_overs_32 dX11_overs_35

set_option maxRecDepth 20000 in
theorem lx_X11_overs {g : aG} {l : Launch} {d : Nat} (hdd : 7 ≤ d) {t : Nat} {x1 : Int32} {x2 : Int32} {x3 : Int32} {x4 : Int32} {h : aH} (hl : l.stackTraces = false) {h1 : aH} (hT : hK h t = 13) (HF : F_X11_overs t x1 x2 x3 x4 h = some (none, h1)) : MX g l yX11_overs cX11_overs 6 (some .int) d [.ref t, .int x1, .int x2, .int x3, .int x4] h h1 := by
  refine MX.of (lv0 := [(0, .ref t), (1, .int x1), (2, .int x2), (3, .int x3), (4, .int x4)]) (by decide +kernel) (rfl) (Nat.le_of_ble_eq_true rfl) ?_
  unfold F_X11_overs at HF
  refine ev_aload_n 0 dX11_overs_0 rfl ?_
  refine ev_iload_n 1 dX11_overs_1 rfl ?_
  refine ev_iload_n 2 dX11_overs_2 rfl ?_
  refine ev_iload_n 3 dX11_overs_3 rfl ?_
  replace HF := bind_o HF
  obtain ⟨⟨o3, h2⟩, e1, HF⟩ := HF
  replace HF := bd_o (bd_o HF)
  dsimp only at HF
  refine ev_callV (As := [.int x1, .int x2, .int x3]) (R1 := (some (va_rf o3), h2)) (lk_X11_overOf (d := 5) (Nat.le_refl _) hT e1) ce_X11_overOf im_X11_overOf sl_X11_overOf ml_X11_188 cl_X11 hT dX11_overs_4 (by omega) (Nat.le_of_ble_eq_true rfl) rfl rfl ?_
  show EvG _ _ _ _ _ _ _ _ _ _ _ 7 [(0, .ref t), (1, .int x1), (2, .int x2), (3, .int x3), (4, .int x4)] [va_rf o3] h2
  refine ev_astorer (lv' := [(5, va_rf o3), (0, .ref t), (1, .int x1), (2, .int x2), (3, .int x3), (4, .int x4)]) dX11_overs_7 (by decide) (rfl) ?_
  refine ev_aloadr 0 dX11_overs_9 rfl ?_
  show EvG _ _ _ _ _ _ _ _ _ _ _ 11 _ _ _
  cases o3 with
  | none =>
    refine ev_ifnullN (tgt := 26) dX11_overs_11 (by decide) ?_
    exact Ev.sub [] rfl (lx_X11_overs_26 hdd hl   _ HF)
  | some b5 =>
    refine ev_ifnullS dX11_overs_11 ?_
    refine ev_iload 5 dX11_overs_14 rfl ?_
    by_cases c6 : x4 < 0
    · replace HF := ite_T c6 HF
      refine ev_if_ltT (tgt := 26) dX11_overs_16 (by decide) c6 ?_
      exact Ev.sub [] rfl (lx_X11_overs_26 hdd hl   _ HF)
    · replace HF := ite_F c6 HF
      refine ev_if_ltF (tgt := 26) dX11_overs_16 (by decide) c6 ?_
      refine ev_iload 5 dX11_overs_19 rfl ?_
      refine ev_bipush (v := 8) dX11_overs_21 (by decide) ?_
      by_cases c7 : x4 < 8
      · replace HF := ite_T c7 HF
        refine ev_icmp_ltT (tgt := 36) dX11_overs_23 (by decide) c7 ?_
        refine ev_aload_n 1 dX11_overs_36 rfl ?_
        refine ev_iload_n 2 dX11_overs_37 rfl ?_
        refine ev_aload_n 1 dX11_overs_38 rfl ?_
        refine ev_iload_n 2 dX11_overs_39 rfl ?_
        replace HF := bind_ck HF
        obtain ⟨c8, HF⟩ := HF
        replace HF := bind_o HF
        obtain ⟨⟨o11, h10⟩, e9, HF⟩ := HF
        replace HF := bd_o (bd_o HF)
        dsimp only at HF
        refine ev_callV (As := [.int x1]) (R1 := (some (va_rf o11), h10)) (lk_X11_gameAt (d := 3) (Nat.le_refl _) c8 e9) ce_X11_gameAt im_X11_gameAt sl_X11_gameAt ml_X11_91 cl_X11 c8 dX11_overs_40 (by omega) (Nat.le_of_ble_eq_true rfl) rfl rfl ?_
        show EvG _ _ _ _ _ _ _ _ _ _ _ 43 [(5, .ref b5), (0, .ref t), (1, .int x1), (2, .int x2), (3, .int x3), (4, .int x4)] [va_rf o11, .int x1, .ref t] h10
        replace HF := bind_ck HF
        obtain ⟨c13, HF⟩ := HF
        replace HF := bind_o HF
        obtain ⟨h15, e14, HF⟩ := HF
        refine ev_callV (As := [.int x1, va_rf o11]) (R1 := (none, h15)) (lk_X11_playOver (d := 6) (Nat.le_refl _) c13 e14) ce_X11_playOver im_X11_playOver sl_X11_playOver ml_X11_115 cl_X11 c13 dX11_overs_43 (by omega) (Nat.le_of_ble_eq_true rfl) rfl rfl ?_
        show EvG _ _ _ _ _ _ _ _ _ _ _ 46 [(5, .ref b5), (0, .ref t), (1, .int x1), (2, .int x2), (3, .int x3), (4, .int x4)] [] h15
        refine ev_iload 5 dX11_overs_46 rfl ?_
        show EvG _ _ _ _ _ _ _ _ _ _ _ 48 _ _ _
        by_cases c17 : x4 = 0
        · replace HF := ite_T c17 HF
          refine ev_swL (kk := 0) (tgt := 76) dX11_overs_48 c17 (by decide +kernel) (by decide +kernel) ?_
          refine ev_aload 0 dX11_overs_76 rfl ?_
          replace HF := bind_ck HF
          obtain ⟨c18, HF⟩ := HF
          refine ev_gIN (f := 601) cl_X5 (k := 1) (by decide) fi_X5_1 rfl fl_X11_208 dX11_overs_78 c18 ?_
          cases HF
        replace HF := ite_F c17 HF
        by_cases c19 : x4 = 1
        · replace HF := ite_T c19 HF
          refine ev_swL (kk := 1) (tgt := 82) dX11_overs_48 c19 (by decide +kernel) (by decide +kernel) ?_
          refine ev_aload 0 dX11_overs_82 rfl ?_
          replace HF := bind_ck HF
          obtain ⟨c20, HF⟩ := HF
          refine ev_gIN (f := 602) cl_X5 (k := 2) (by decide) fi_X5_2 rfl fl_X11_179 dX11_overs_84 c20 ?_
          cases HF
        replace HF := ite_F c19 HF
        refine ev_swLd (ks := [0, 1]) (tgt := 88) dX11_overs_48 (by simp only [List.mem_cons, List.not_mem_nil, or_false, forall_eq_or_imp, forall_eq]; exact ⟨c17, c19⟩) (by decide +kernel) (by decide) ?_
        refine ev_aload_n 1 dX11_overs_88 rfl ?_
        replace HF := bind_ck HF
        obtain ⟨c21, HF⟩ := HF
        replace HF := bind_o HF
        obtain ⟨b22, e23, HF⟩ := HF
        refine ev_gS (f := 1205) cl_X11 (k := 5) (by decide) fi_X11_5 rfl fl_X11_42 dX11_overs_89 c21 e23 ?_
        refine ev_iload_n 3 dX11_overs_92 rfl ?_
        replace HF := bind_ck HF
        obtain ⟨c24, HF⟩ := HF
        replace HF := bind_o HF
        obtain ⟨⟨o27, h26⟩, e25, HF⟩ := HF
        replace HF := bd_o (bd_o HF)
        dsimp only at HF
        refine ev_callV (As := [.int x2]) (R1 := (some (va_rf o27), h26)) (lk_X6_tallyAt (d := 0) (Nat.le_refl _) c24 e25) ce_X6_tallyAt im_X6_tallyAt sl_X6_tallyAt ml_X11_242 cl_X6 c24 dX11_overs_93 (by omega) (Nat.le_of_ble_eq_true rfl) rfl rfl ?_
        show EvG _ _ _ _ _ _ _ _ _ _ _ 96 [(5, .ref b5), (0, .ref t), (1, .int x1), (2, .int x2), (3, .int x3), (4, .int x4)] [va_rf o27] h26
        refine ev_iload_n 4 dX11_overs_96 rfl ?_
        refine ev_iload 5 dX11_overs_97 rfl ?_
        replace HF := bind_o HF
        obtain ⟨b29, e30, HF⟩ := HF
        subst e30
        replace HF := bind_ck HF
        obtain ⟨c31, HF⟩ := HF
        replace HF := bind_o HF
        obtain ⟨⟨z34, h33⟩, e32, HF⟩ := HF
        replace HF := bd_o (bd_o HF)
        dsimp only at HF
        refine ev_callV (As := [.int x3, .int x4]) (R1 := (some (.int z34), h33)) (lk_X9_overFigure (d := 2) (Nat.le_refl _) c31 e32) ce_X9_overFigure im_X9_overFigure sl_X9_overFigure ml_X11_246 cl_X9 c31 dX11_overs_99 (by omega) (Nat.le_of_ble_eq_true rfl) rfl rfl ?_
        show EvG _ _ _ _ _ _ _ _ _ _ _ 102 [(5, .ref b5), (0, .ref t), (1, .int x1), (2, .int x2), (3, .int x3), (4, .int x4)] [.int z34] h33
        show EvG _ _ _ _ _ _ _ _ _ _ _ 102 _ _ _
        cases HF
      · replace HF := ite_F c7 HF
        refine ev_icmp_ltF (tgt := 36) dX11_overs_23 (by decide) c7 ?_
        exact Ev.sub [] rfl (lx_X11_overs_26 hdd hl   _ HF)

set_option maxRecDepth 20000 in
theorem lk_X11_entry_24 {g : aG} {l : Launch} {d : Nat} {h0 : aH} (hdd : 6 ≤ d) {v : Int32} {h1 : aH} (h : aH) (HF : F_X11_entry_24   h = some (some v, h1)) : Ev g l cX11_entry 6 yX11_entry (some .int) d h0 (some (.int v), h1) 24 [] [] h := by
  unfold F_X11_entry_24 at HF
  cases HF

set_option maxRecDepth 20000 in
theorem lk_X11_entry {g : aG} {l : Launch} {d : Nat} (hdd : 6 ≤ d) {t : Nat} {x1 : Int32} {x2 : Int32} {x3 : Int32} {x4 : Int32} {h : aH} {v : Int32} {h1 : aH} (hT : hK h t = 13) (HF : F_X11_entry t x1 x2 x3 x4 h = some (some v, h1)) : MA g l yX11_entry cX11_entry 6 (some .int) d [.ref t, .int x1, .int x2, .int x3, .int x4] h (some (.int v), h1) := by
  refine MA.of (lv0 := [(0, .ref t), (1, .int x1), (2, .int x2), (3, .int x3), (4, .int x4)]) (by decide +kernel) (rfl) (Nat.le_of_ble_eq_true rfl) ?_
  unfold F_X11_entry at HF
  refine ev_aload_n 0 dX11_entry_0 rfl ?_
  refine ev_iload_n 1 dX11_entry_1 rfl ?_
  refine ev_iload_n 2 dX11_entry_2 rfl ?_
  refine ev_iload_n 3 dX11_entry_3 rfl ?_
  replace HF := bind_o HF
  obtain ⟨⟨o3, h2⟩, e1, HF⟩ := HF
  replace HF := bd_o (bd_o HF)
  dsimp only at HF
  refine ev_callV (As := [.int x1, .int x2, .int x3]) (R1 := (some (va_rf o3), h2)) (lk_X11_overOf (d := 5) (Nat.le_refl _) hT e1) ce_X11_overOf im_X11_overOf sl_X11_overOf ml_X11_188 cl_X11 hT dX11_entry_4 (by omega) (Nat.le_of_ble_eq_true rfl) rfl rfl ?_
  show EvG _ _ _ _ _ _ _ _ _ _ _ 7 [(0, .ref t), (1, .int x1), (2, .int x2), (3, .int x3), (4, .int x4)] [va_rf o3] h2
  refine ev_astorer (lv' := [(5, va_rf o3), (0, .ref t), (1, .int x1), (2, .int x2), (3, .int x3), (4, .int x4)]) dX11_entry_7 (by decide) (rfl) ?_
  refine ev_aloadr 0 dX11_entry_9 rfl ?_
  show EvG _ _ _ _ _ _ _ _ _ _ _ 11 _ _ _
  cases o3 with
  | none =>
    refine ev_ifnullN (tgt := 24) dX11_entry_11 (by decide) ?_
    exact Ev.sub [] rfl (lk_X11_entry_24 hdd   _ HF)
  | some b5 =>
    refine ev_ifnullS dX11_entry_11 ?_
    refine ev_aload 0 dX11_entry_14 rfl ?_
    refine ev_iload 5 dX11_entry_16 rfl ?_
    replace HF := bind_ck HF
    obtain ⟨c6, HF⟩ := HF
    replace HF := bind_o HF
    obtain ⟨⟨z9, h8⟩, e7, HF⟩ := HF
    replace HF := bd_o (bd_o HF)
    dsimp only at HF
    refine ev_callV (As := [.int x4]) (R1 := (some (.int z9), h8)) (lk_X5_has (d := 0) (Nat.le_refl _) c6 e7) ce_X5_has im_X5_has sl_X5_has ml_X11_198 cl_X5 c6 dX11_entry_18 (by omega) (Nat.le_of_ble_eq_true rfl) rfl rfl ?_
    show EvG _ _ _ _ _ _ _ _ _ _ _ 21 [(5, .ref b5), (0, .ref t), (1, .int x1), (2, .int x2), (3, .int x3), (4, .int x4)] [.int z9] h8
    by_cases c11 : z9 = 0
    · replace HF := ite_T c11 HF
      refine ev_if_neF (tgt := 34) dX11_entry_21 (by decide) c11 ?_
      exact Ev.sub [] rfl (lk_X11_entry_24 hdd   _ HF)
    · replace HF := ite_F c11 HF
      refine ev_if_neT (tgt := 34) dX11_entry_21 (by decide) c11 ?_
      refine ev_aload 0 dX11_entry_34 rfl ?_
      refine ev_iload 5 dX11_entry_36 rfl ?_
      replace HF := bind_ck HF
      obtain ⟨c12, HF⟩ := HF
      replace HF := bind_o HF
      obtain ⟨⟨z15, h14⟩, e13, HF⟩ := HF
      replace HF := bd_o (bd_o HF)
      dsimp only at HF
      refine ev_callV (As := [.int x4]) (R1 := (some (.int z15), h14)) (lk_X5_at (d := 1) (Nat.le_refl _) c12 e13) ce_X5_at im_X5_at sl_X5_at ml_X11_201 cl_X5 c12 dX11_entry_38 (by omega) (Nat.le_of_ble_eq_true rfl) rfl rfl ?_
      show EvG _ _ _ _ _ _ _ _ _ _ _ 41 [(5, .ref b5), (0, .ref t), (1, .int x1), (2, .int x2), (3, .int x3), (4, .int x4)] [.int z15] h14
      cases HF
      exact ev_iret dX11_entry_41

set_option maxRecDepth 20000 in
theorem lx_X11_entry_24 {g : aG} {l : Launch} {d : Nat} {h0 : aH} (hdd : 6 ≤ d) (hl : l.stackTraces = false) {h1 : aH} (h : aH) (HF : F_X11_entry_24   h = some (none, h1)) : EvG g l cX11_entry 6 yX11_entry (some .int) d h0 (hz h1 + 1) (hs h1 + 6) (ZX g h0 h1) 24 [] [] h := by
  unfold F_X11_entry_24 at HF
  cases HF
  exact ev_throw (is := 252) (text := "no such entry") hl rfl ce_X11_entry.1 (by decide +kernel) kl_X11_224 in_nse (by omega) dX11_entry_24 dX11_entry_27 dX11_entry_28 dX11_entry_30 dX11_entry_33

set_option maxRecDepth 20000 in
theorem lx_X11_entry {g : aG} {l : Launch} {d : Nat} (hdd : 6 ≤ d) {t : Nat} {x1 : Int32} {x2 : Int32} {x3 : Int32} {x4 : Int32} {h : aH} (hl : l.stackTraces = false) {h1 : aH} (hT : hK h t = 13) (HF : F_X11_entry t x1 x2 x3 x4 h = some (none, h1)) : MX g l yX11_entry cX11_entry 6 (some .int) d [.ref t, .int x1, .int x2, .int x3, .int x4] h h1 := by
  refine MX.of (lv0 := [(0, .ref t), (1, .int x1), (2, .int x2), (3, .int x3), (4, .int x4)]) (by decide +kernel) (rfl) (Nat.le_of_ble_eq_true rfl) ?_
  unfold F_X11_entry at HF
  refine ev_aload_n 0 dX11_entry_0 rfl ?_
  refine ev_iload_n 1 dX11_entry_1 rfl ?_
  refine ev_iload_n 2 dX11_entry_2 rfl ?_
  refine ev_iload_n 3 dX11_entry_3 rfl ?_
  replace HF := bind_o HF
  obtain ⟨⟨o3, h2⟩, e1, HF⟩ := HF
  replace HF := bd_o (bd_o HF)
  dsimp only at HF
  refine ev_callV (As := [.int x1, .int x2, .int x3]) (R1 := (some (va_rf o3), h2)) (lk_X11_overOf (d := 5) (Nat.le_refl _) hT e1) ce_X11_overOf im_X11_overOf sl_X11_overOf ml_X11_188 cl_X11 hT dX11_entry_4 (by omega) (Nat.le_of_ble_eq_true rfl) rfl rfl ?_
  show EvG _ _ _ _ _ _ _ _ _ _ _ 7 [(0, .ref t), (1, .int x1), (2, .int x2), (3, .int x3), (4, .int x4)] [va_rf o3] h2
  refine ev_astorer (lv' := [(5, va_rf o3), (0, .ref t), (1, .int x1), (2, .int x2), (3, .int x3), (4, .int x4)]) dX11_entry_7 (by decide) (rfl) ?_
  refine ev_aloadr 0 dX11_entry_9 rfl ?_
  show EvG _ _ _ _ _ _ _ _ _ _ _ 11 _ _ _
  cases o3 with
  | none =>
    refine ev_ifnullN (tgt := 24) dX11_entry_11 (by decide) ?_
    exact Ev.sub [] rfl (lx_X11_entry_24 hdd hl   _ HF)
  | some b5 =>
    refine ev_ifnullS dX11_entry_11 ?_
    refine ev_aload 0 dX11_entry_14 rfl ?_
    refine ev_iload 5 dX11_entry_16 rfl ?_
    replace HF := bind_ck HF
    obtain ⟨c6, HF⟩ := HF
    replace HF := bind_o HF
    obtain ⟨⟨z9, h8⟩, e7, HF⟩ := HF
    replace HF := bd_o (bd_o HF)
    dsimp only at HF
    refine ev_callV (As := [.int x4]) (R1 := (some (.int z9), h8)) (lk_X5_has (d := 0) (Nat.le_refl _) c6 e7) ce_X5_has im_X5_has sl_X5_has ml_X11_198 cl_X5 c6 dX11_entry_18 (by omega) (Nat.le_of_ble_eq_true rfl) rfl rfl ?_
    show EvG _ _ _ _ _ _ _ _ _ _ _ 21 [(5, .ref b5), (0, .ref t), (1, .int x1), (2, .int x2), (3, .int x3), (4, .int x4)] [.int z9] h8
    by_cases c11 : z9 = 0
    · replace HF := ite_T c11 HF
      refine ev_if_neF (tgt := 34) dX11_entry_21 (by decide) c11 ?_
      exact Ev.sub [] rfl (lx_X11_entry_24 hdd hl   _ HF)
    · replace HF := ite_F c11 HF
      refine ev_if_neT (tgt := 34) dX11_entry_21 (by decide) c11 ?_
      refine ev_aload 0 dX11_entry_34 rfl ?_
      refine ev_iload 5 dX11_entry_36 rfl ?_
      replace HF := bind_ck HF
      obtain ⟨c12, HF⟩ := HF
      replace HF := bind_o HF
      obtain ⟨⟨z15, h14⟩, e13, HF⟩ := HF
      replace HF := bd_o (bd_o HF)
      dsimp only at HF
      refine ev_callV (As := [.int x4]) (R1 := (some (.int z15), h14)) (lk_X5_at (d := 1) (Nat.le_refl _) c12 e13) ce_X5_at im_X5_at sl_X5_at ml_X11_201 cl_X5 c12 dX11_entry_38 (by omega) (Nat.le_of_ble_eq_true rfl) rfl rfl ?_
      show EvG _ _ _ _ _ _ _ _ _ _ _ 41 [(5, .ref b5), (0, .ref t), (1, .int x1), (2, .int x2), (3, .int x3), (4, .int x4)] [.int z15] h14
      cases HF

set_option maxRecDepth 20000 in
theorem lk_X11_bats_30 {g : aG} {l : Launch} {d : Nat} {h0 : aH} (hdd : 7 ≤ d) {v : Int32} {h1 : aH} (h : aH) (HF : F_X11_bats_30   h = some (some v, h1)) : Ev g l cX11_bats 6 yX11_bats (some .int) d h0 (some (.int v), h1) 30 [] [] h := by
  unfold F_X11_bats_30 at HF
  cases HF

set_option maxRecDepth 20000 in
theorem lk_X11_bats {g : aG} {l : Launch} {d : Nat} (hdd : 7 ≤ d) {t : Nat} {x1 : Int32} {x2 : Int32} {x3 : Int32} {x4 : Int32} {h : aH} {v : Int32} {h1 : aH} (hT : hK h t = 13) (HF : F_X11_bats t x1 x2 x3 x4 h = some (some v, h1)) : MA g l yX11_bats cX11_bats 6 (some .int) d [.ref t, .int x1, .int x2, .int x3, .int x4] h (some (.int v), h1) := by
  refine MA.of (lv0 := [(0, .ref t), (1, .int x1), (2, .int x2), (3, .int x3), (4, .int x4)]) (by decide +kernel) (rfl) (Nat.le_of_ble_eq_true rfl) ?_
  unfold F_X11_bats at HF
  refine ev_aload_n 0 dX11_bats_0 rfl ?_
  refine ev_iload_n 1 dX11_bats_1 rfl ?_
  replace HF := bind_o HF
  obtain ⟨⟨o3, h2⟩, e1, HF⟩ := HF
  replace HF := bd_o (bd_o HF)
  dsimp only at HF
  refine ev_callV (As := [.int x1]) (R1 := (some (va_rf o3), h2)) (lk_X11_gameAt (d := 3) (Nat.le_refl _) hT e1) ce_X11_gameAt im_X11_gameAt sl_X11_gameAt ml_X11_91 cl_X11 hT dX11_bats_2 (by omega) (Nat.le_of_ble_eq_true rfl) rfl rfl ?_
  show EvG _ _ _ _ _ _ _ _ _ _ _ 5 [(0, .ref t), (1, .int x1), (2, .int x2), (3, .int x3), (4, .int x4)] [va_rf o3] h2
  refine ev_astorer (lv' := [(5, va_rf o3), (0, .ref t), (1, .int x1), (2, .int x2), (3, .int x3), (4, .int x4)]) dX11_bats_5 (by decide) (rfl) ?_
  refine ev_aloadr 0 dX11_bats_7 rfl ?_
  cases o3 with
  | none =>
    refine ev_ifnullN (tgt := 30) dX11_bats_9 (by decide) ?_
    exact Ev.sub [] rfl (lk_X11_bats_30 hdd   _ HF)
  | some b5 =>
    refine ev_ifnullS dX11_bats_9 ?_
    refine ev_aload 0 dX11_bats_12 rfl ?_
    refine ev_iload_n 3 dX11_bats_14 rfl ?_
    replace HF := bind_ck HF
    obtain ⟨c6, HF⟩ := HF
    replace HF := bind_o HF
    obtain ⟨⟨o9, h8⟩, e7, HF⟩ := HF
    replace HF := bd_o (bd_o HF)
    dsimp only at HF
    refine ev_callV (As := [.int x2]) (R1 := (some (va_rf o9), h8)) (lk_X3_turnAt (d := 3) (Nat.le_refl _) c6 e7) ce_X3_turnAt im_X3_turnAt sl_X3_turnAt ml_X11_140 cl_X3 c6 dX11_bats_15 (by omega) (Nat.le_of_ble_eq_true rfl) rfl rfl ?_
    show EvG _ _ _ _ _ _ _ _ _ _ _ 18 [(5, .ref b5), (0, .ref t), (1, .int x1), (2, .int x2), (3, .int x3), (4, .int x4)] [va_rf o9] h8
    cases o9 with
    | none =>
      refine ev_ifnullN (tgt := 30) dX11_bats_18 (by decide) ?_
      exact Ev.sub [] rfl (lk_X11_bats_30 hdd   _ HF)
    | some b11 =>
      refine ev_ifnullS dX11_bats_18 ?_
      refine ev_iload_n 4 dX11_bats_21 rfl ?_
      refine ev_iload 5 dX11_bats_22 rfl ?_
      replace HF := bind_o HF
      obtain ⟨⟨z14, h13⟩, e12, HF⟩ := HF
      replace HF := bd_o (bd_o HF)
      dsimp only at HF
      refine ev_callS (As := [.int x3, .int x4]) (R1 := (some (.int z14), h13)) (lk_X11_isSeatFigure (d := 0) (Nat.le_refl _) e12) ce_X11_isSeatFigure st_X11_isSeatFigure ml_X11_254 dX11_bats_24 (by omega) (Nat.le_of_ble_eq_true rfl) rfl rfl ?_
      show EvG _ _ _ _ _ _ _ _ _ _ _ 27 [(5, .ref b5), (0, .ref t), (1, .int x1), (2, .int x2), (3, .int x3), (4, .int x4)] [.int z14] h13
      by_cases c16 : z14 = 0
      · replace HF := ite_T c16 HF
        refine ev_if_neF (tgt := 41) dX11_bats_27 (by decide) c16 ?_
        exact Ev.sub [] rfl (lk_X11_bats_30 hdd   _ HF)
      · replace HF := ite_F c16 HF
        refine ev_if_neT (tgt := 41) dX11_bats_27 (by decide) c16 ?_
        refine ev_aload_n 1 dX11_bats_41 rfl ?_
        refine ev_iload_n 2 dX11_bats_42 rfl ?_
        refine ev_aload 0 dX11_bats_43 rfl ?_
        replace HF := bind_ck HF
        obtain ⟨c17, HF⟩ := HF
        replace HF := bind_o HF
        obtain ⟨h19, e18, HF⟩ := HF
        refine ev_callV (As := [.int x1, va_rf (some b5)]) (R1 := (none, h19)) (lk_X11_playOver (d := 6) (Nat.le_refl _) c17 e18) ce_X11_playOver im_X11_playOver sl_X11_playOver ml_X11_115 cl_X11 c17 dX11_bats_45 (by omega) (Nat.le_of_ble_eq_true rfl) rfl rfl ?_
        show EvG _ _ _ _ _ _ _ _ _ _ _ 48 [(5, .ref b5), (0, .ref t), (1, .int x1), (2, .int x2), (3, .int x3), (4, .int x4)] [] h19
        refine ev_aload_n 1 dX11_bats_48 rfl ?_
        refine ev_aload 0 dX11_bats_49 rfl ?_
        refine ev_iload_n 3 dX11_bats_51 rfl ?_
        show EvG _ _ _ _ _ _ _ _ _ _ _ 52 _ _ _
        refine ev_iload_n 4 dX11_bats_52 rfl ?_
        refine ev_iload 5 dX11_bats_53 rfl ?_
        replace HF := bind_ck HF
        obtain ⟨c21, HF⟩ := HF
        replace HF := bind_o HF
        obtain ⟨⟨z24, h23⟩, e22, HF⟩ := HF
        replace HF := bd_o (bd_o HF)
        dsimp only at HF
        refine ev_callV (As := [.ref b5, .int x2, .int x3, .int x4]) (R1 := (some (.int z24), h23)) (lk_X11_batsFigure (d := 3) (Nat.le_refl _) c21 e22) ce_X11_batsFigure im_X11_batsFigure sl_X11_batsFigure ml_X11_260 cl_X11 c21 dX11_bats_55 (by omega) (Nat.le_of_ble_eq_true rfl) rfl rfl ?_
        show EvG _ _ _ _ _ _ _ _ _ _ _ 58 [(5, .ref b5), (0, .ref t), (1, .int x1), (2, .int x2), (3, .int x3), (4, .int x4)] [.int z24] h23
        cases HF
        exact ev_iret dX11_bats_58

set_option maxRecDepth 20000 in
theorem lx_X11_bats_30 {g : aG} {l : Launch} {d : Nat} {h0 : aH} (hdd : 7 ≤ d) (hl : l.stackTraces = false) {h1 : aH} (h : aH) (HF : F_X11_bats_30   h = some (none, h1)) : EvG g l cX11_bats 6 yX11_bats (some .int) d h0 (hz h1 + 1) (hs h1 + 6) (ZX g h0 h1) 30 [] [] h := by
  unfold F_X11_bats_30 at HF
  cases HF
  exact ev_throwW (is := 258) (text := "no such game, turn, seat or what") hl rfl ce_X11_bats.1 (by decide +kernel) kl_X11_224 in_nse (by omega) dX11_bats_30 dX11_bats_33 dX11_bats_34 dX11_bats_37 dX11_bats_40

set_option maxRecDepth 20000 in
theorem lx_X11_bats {g : aG} {l : Launch} {d : Nat} (hdd : 7 ≤ d) {t : Nat} {x1 : Int32} {x2 : Int32} {x3 : Int32} {x4 : Int32} {h : aH} (hl : l.stackTraces = false) {h1 : aH} (hT : hK h t = 13) (HF : F_X11_bats t x1 x2 x3 x4 h = some (none, h1)) : MX g l yX11_bats cX11_bats 6 (some .int) d [.ref t, .int x1, .int x2, .int x3, .int x4] h h1 := by
  refine MX.of (lv0 := [(0, .ref t), (1, .int x1), (2, .int x2), (3, .int x3), (4, .int x4)]) (by decide +kernel) (rfl) (Nat.le_of_ble_eq_true rfl) ?_
  unfold F_X11_bats at HF
  refine ev_aload_n 0 dX11_bats_0 rfl ?_
  refine ev_iload_n 1 dX11_bats_1 rfl ?_
  replace HF := bind_o HF
  obtain ⟨⟨o3, h2⟩, e1, HF⟩ := HF
  replace HF := bd_o (bd_o HF)
  dsimp only at HF
  refine ev_callV (As := [.int x1]) (R1 := (some (va_rf o3), h2)) (lk_X11_gameAt (d := 3) (Nat.le_refl _) hT e1) ce_X11_gameAt im_X11_gameAt sl_X11_gameAt ml_X11_91 cl_X11 hT dX11_bats_2 (by omega) (Nat.le_of_ble_eq_true rfl) rfl rfl ?_
  show EvG _ _ _ _ _ _ _ _ _ _ _ 5 [(0, .ref t), (1, .int x1), (2, .int x2), (3, .int x3), (4, .int x4)] [va_rf o3] h2
  refine ev_astorer (lv' := [(5, va_rf o3), (0, .ref t), (1, .int x1), (2, .int x2), (3, .int x3), (4, .int x4)]) dX11_bats_5 (by decide) (rfl) ?_
  refine ev_aloadr 0 dX11_bats_7 rfl ?_
  cases o3 with
  | none =>
    refine ev_ifnullN (tgt := 30) dX11_bats_9 (by decide) ?_
    exact Ev.sub [] rfl (lx_X11_bats_30 hdd hl   _ HF)
  | some b5 =>
    refine ev_ifnullS dX11_bats_9 ?_
    refine ev_aload 0 dX11_bats_12 rfl ?_
    refine ev_iload_n 3 dX11_bats_14 rfl ?_
    replace HF := bind_ck HF
    obtain ⟨c6, HF⟩ := HF
    replace HF := bind_o HF
    obtain ⟨⟨o9, h8⟩, e7, HF⟩ := HF
    replace HF := bd_o (bd_o HF)
    dsimp only at HF
    refine ev_callV (As := [.int x2]) (R1 := (some (va_rf o9), h8)) (lk_X3_turnAt (d := 3) (Nat.le_refl _) c6 e7) ce_X3_turnAt im_X3_turnAt sl_X3_turnAt ml_X11_140 cl_X3 c6 dX11_bats_15 (by omega) (Nat.le_of_ble_eq_true rfl) rfl rfl ?_
    show EvG _ _ _ _ _ _ _ _ _ _ _ 18 [(5, .ref b5), (0, .ref t), (1, .int x1), (2, .int x2), (3, .int x3), (4, .int x4)] [va_rf o9] h8
    cases o9 with
    | none =>
      refine ev_ifnullN (tgt := 30) dX11_bats_18 (by decide) ?_
      exact Ev.sub [] rfl (lx_X11_bats_30 hdd hl   _ HF)
    | some b11 =>
      refine ev_ifnullS dX11_bats_18 ?_
      refine ev_iload_n 4 dX11_bats_21 rfl ?_
      refine ev_iload 5 dX11_bats_22 rfl ?_
      replace HF := bind_o HF
      obtain ⟨⟨z14, h13⟩, e12, HF⟩ := HF
      replace HF := bd_o (bd_o HF)
      dsimp only at HF
      refine ev_callS (As := [.int x3, .int x4]) (R1 := (some (.int z14), h13)) (lk_X11_isSeatFigure (d := 0) (Nat.le_refl _) e12) ce_X11_isSeatFigure st_X11_isSeatFigure ml_X11_254 dX11_bats_24 (by omega) (Nat.le_of_ble_eq_true rfl) rfl rfl ?_
      show EvG _ _ _ _ _ _ _ _ _ _ _ 27 [(5, .ref b5), (0, .ref t), (1, .int x1), (2, .int x2), (3, .int x3), (4, .int x4)] [.int z14] h13
      by_cases c16 : z14 = 0
      · replace HF := ite_T c16 HF
        refine ev_if_neF (tgt := 41) dX11_bats_27 (by decide) c16 ?_
        exact Ev.sub [] rfl (lx_X11_bats_30 hdd hl   _ HF)
      · replace HF := ite_F c16 HF
        refine ev_if_neT (tgt := 41) dX11_bats_27 (by decide) c16 ?_
        refine ev_aload_n 1 dX11_bats_41 rfl ?_
        refine ev_iload_n 2 dX11_bats_42 rfl ?_
        refine ev_aload 0 dX11_bats_43 rfl ?_
        replace HF := bind_ck HF
        obtain ⟨c17, HF⟩ := HF
        replace HF := bind_o HF
        obtain ⟨h19, e18, HF⟩ := HF
        refine ev_callV (As := [.int x1, va_rf (some b5)]) (R1 := (none, h19)) (lk_X11_playOver (d := 6) (Nat.le_refl _) c17 e18) ce_X11_playOver im_X11_playOver sl_X11_playOver ml_X11_115 cl_X11 c17 dX11_bats_45 (by omega) (Nat.le_of_ble_eq_true rfl) rfl rfl ?_
        show EvG _ _ _ _ _ _ _ _ _ _ _ 48 [(5, .ref b5), (0, .ref t), (1, .int x1), (2, .int x2), (3, .int x3), (4, .int x4)] [] h19
        refine ev_aload_n 1 dX11_bats_48 rfl ?_
        refine ev_aload 0 dX11_bats_49 rfl ?_
        refine ev_iload_n 3 dX11_bats_51 rfl ?_
        show EvG _ _ _ _ _ _ _ _ _ _ _ 52 _ _ _
        refine ev_iload_n 4 dX11_bats_52 rfl ?_
        refine ev_iload 5 dX11_bats_53 rfl ?_
        replace HF := bind_ck HF
        obtain ⟨c21, HF⟩ := HF
        replace HF := bind_o HF
        obtain ⟨⟨z24, h23⟩, e22, HF⟩ := HF
        replace HF := bd_o (bd_o HF)
        dsimp only at HF
        refine ev_callV (As := [.ref b5, .int x2, .int x3, .int x4]) (R1 := (some (.int z24), h23)) (lk_X11_batsFigure (d := 3) (Nat.le_refl _) c21 e22) ce_X11_batsFigure im_X11_batsFigure sl_X11_batsFigure ml_X11_260 cl_X11 c21 dX11_bats_55 (by omega) (Nat.le_of_ble_eq_true rfl) rfl rfl ?_
        show EvG _ _ _ _ _ _ _ _ _ _ _ 58 [(5, .ref b5), (0, .ref t), (1, .int x1), (2, .int x2), (3, .int x3), (4, .int x4)] [.int z24] h23
        cases HF

set_option maxRecDepth 20000 in
theorem lk_X11_fields_30 {g : aG} {l : Launch} {d : Nat} {h0 : aH} (hdd : 7 ≤ d) {v : Int32} {h1 : aH} (h : aH) (HF : F_X11_fields_30   h = some (some v, h1)) : Ev g l cX11_fields 6 yX11_fields (some .int) d h0 (some (.int v), h1) 30 [] [] h := by
  unfold F_X11_fields_30 at HF
  cases HF

set_option maxRecDepth 20000 in
theorem lk_X11_fields {g : aG} {l : Launch} {d : Nat} (hdd : 7 ≤ d) {t : Nat} {x1 : Int32} {x2 : Int32} {x3 : Int32} {x4 : Int32} {h : aH} {v : Int32} {h1 : aH} (hT : hK h t = 13) (HF : F_X11_fields t x1 x2 x3 x4 h = some (some v, h1)) : MA g l yX11_fields cX11_fields 6 (some .int) d [.ref t, .int x1, .int x2, .int x3, .int x4] h (some (.int v), h1) := by
  refine MA.of (lv0 := [(0, .ref t), (1, .int x1), (2, .int x2), (3, .int x3), (4, .int x4)]) (by decide +kernel) (rfl) (Nat.le_of_ble_eq_true rfl) ?_
  unfold F_X11_fields at HF
  refine ev_aload_n 0 dX11_fields_0 rfl ?_
  refine ev_iload_n 1 dX11_fields_1 rfl ?_
  replace HF := bind_o HF
  obtain ⟨⟨o3, h2⟩, e1, HF⟩ := HF
  replace HF := bd_o (bd_o HF)
  dsimp only at HF
  refine ev_callV (As := [.int x1]) (R1 := (some (va_rf o3), h2)) (lk_X11_gameAt (d := 3) (Nat.le_refl _) hT e1) ce_X11_gameAt im_X11_gameAt sl_X11_gameAt ml_X11_91 cl_X11 hT dX11_fields_2 (by omega) (Nat.le_of_ble_eq_true rfl) rfl rfl ?_
  show EvG _ _ _ _ _ _ _ _ _ _ _ 5 [(0, .ref t), (1, .int x1), (2, .int x2), (3, .int x3), (4, .int x4)] [va_rf o3] h2
  refine ev_astorer (lv' := [(5, va_rf o3), (0, .ref t), (1, .int x1), (2, .int x2), (3, .int x3), (4, .int x4)]) dX11_fields_5 (by decide) (rfl) ?_
  refine ev_aloadr 0 dX11_fields_7 rfl ?_
  cases o3 with
  | none =>
    refine ev_ifnullN (tgt := 30) dX11_fields_9 (by decide) ?_
    exact Ev.sub [] rfl (lk_X11_fields_30 hdd   _ HF)
  | some b5 =>
    refine ev_ifnullS dX11_fields_9 ?_
    refine ev_aload 0 dX11_fields_12 rfl ?_
    refine ev_iload_n 3 dX11_fields_14 rfl ?_
    replace HF := bind_ck HF
    obtain ⟨c6, HF⟩ := HF
    replace HF := bind_o HF
    obtain ⟨⟨o9, h8⟩, e7, HF⟩ := HF
    replace HF := bd_o (bd_o HF)
    dsimp only at HF
    refine ev_callV (As := [.int x2]) (R1 := (some (va_rf o9), h8)) (lk_X3_turnAt (d := 3) (Nat.le_refl _) c6 e7) ce_X3_turnAt im_X3_turnAt sl_X3_turnAt ml_X11_140 cl_X3 c6 dX11_fields_15 (by omega) (Nat.le_of_ble_eq_true rfl) rfl rfl ?_
    show EvG _ _ _ _ _ _ _ _ _ _ _ 18 [(5, .ref b5), (0, .ref t), (1, .int x1), (2, .int x2), (3, .int x3), (4, .int x4)] [va_rf o9] h8
    cases o9 with
    | none =>
      refine ev_ifnullN (tgt := 30) dX11_fields_18 (by decide) ?_
      exact Ev.sub [] rfl (lk_X11_fields_30 hdd   _ HF)
    | some b11 =>
      refine ev_ifnullS dX11_fields_18 ?_
      refine ev_iload_n 4 dX11_fields_21 rfl ?_
      refine ev_iload 5 dX11_fields_22 rfl ?_
      replace HF := bind_o HF
      obtain ⟨⟨z14, h13⟩, e12, HF⟩ := HF
      replace HF := bd_o (bd_o HF)
      dsimp only at HF
      refine ev_callS (As := [.int x3, .int x4]) (R1 := (some (.int z14), h13)) (lk_X11_isSeatFigure (d := 0) (Nat.le_refl _) e12) ce_X11_isSeatFigure st_X11_isSeatFigure ml_X11_254 dX11_fields_24 (by omega) (Nat.le_of_ble_eq_true rfl) rfl rfl ?_
      show EvG _ _ _ _ _ _ _ _ _ _ _ 27 [(5, .ref b5), (0, .ref t), (1, .int x1), (2, .int x2), (3, .int x3), (4, .int x4)] [.int z14] h13
      by_cases c16 : z14 = 0
      · replace HF := ite_T c16 HF
        refine ev_if_neF (tgt := 41) dX11_fields_27 (by decide) c16 ?_
        exact Ev.sub [] rfl (lk_X11_fields_30 hdd   _ HF)
      · replace HF := ite_F c16 HF
        refine ev_if_neT (tgt := 41) dX11_fields_27 (by decide) c16 ?_
        refine ev_aload_n 1 dX11_fields_41 rfl ?_
        refine ev_iload_n 2 dX11_fields_42 rfl ?_
        refine ev_aload 0 dX11_fields_43 rfl ?_
        replace HF := bind_ck HF
        obtain ⟨c17, HF⟩ := HF
        replace HF := bind_o HF
        obtain ⟨h19, e18, HF⟩ := HF
        refine ev_callV (As := [.int x1, va_rf (some b5)]) (R1 := (none, h19)) (lk_X11_playOver (d := 6) (Nat.le_refl _) c17 e18) ce_X11_playOver im_X11_playOver sl_X11_playOver ml_X11_115 cl_X11 c17 dX11_fields_45 (by omega) (Nat.le_of_ble_eq_true rfl) rfl rfl ?_
        show EvG _ _ _ _ _ _ _ _ _ _ _ 48 [(5, .ref b5), (0, .ref t), (1, .int x1), (2, .int x2), (3, .int x3), (4, .int x4)] [] h19
        refine ev_aload_n 1 dX11_fields_48 rfl ?_
        refine ev_aload 0 dX11_fields_49 rfl ?_
        refine ev_iload_n 3 dX11_fields_51 rfl ?_
        show EvG _ _ _ _ _ _ _ _ _ _ _ 52 _ _ _
        refine ev_iload_n 4 dX11_fields_52 rfl ?_
        refine ev_iload 5 dX11_fields_53 rfl ?_
        replace HF := bind_ck HF
        obtain ⟨c21, HF⟩ := HF
        replace HF := bind_o HF
        obtain ⟨⟨z24, h23⟩, e22, HF⟩ := HF
        replace HF := bd_o (bd_o HF)
        dsimp only at HF
        refine ev_callV (As := [.ref b5, .int x2, .int x3, .int x4]) (R1 := (some (.int z24), h23)) (lk_X11_fieldsFigure (d := 3) (Nat.le_refl _) c21 e22) ce_X11_fieldsFigure im_X11_fieldsFigure sl_X11_fieldsFigure ml_X11_264 cl_X11 c21 dX11_fields_55 (by omega) (Nat.le_of_ble_eq_true rfl) rfl rfl ?_
        show EvG _ _ _ _ _ _ _ _ _ _ _ 58 [(5, .ref b5), (0, .ref t), (1, .int x1), (2, .int x2), (3, .int x3), (4, .int x4)] [.int z24] h23
        cases HF
        exact ev_iret dX11_fields_58

set_option maxRecDepth 20000 in
theorem lx_X11_fields_30 {g : aG} {l : Launch} {d : Nat} {h0 : aH} (hdd : 7 ≤ d) (hl : l.stackTraces = false) {h1 : aH} (h : aH) (HF : F_X11_fields_30   h = some (none, h1)) : EvG g l cX11_fields 6 yX11_fields (some .int) d h0 (hz h1 + 1) (hs h1 + 6) (ZX g h0 h1) 30 [] [] h := by
  unfold F_X11_fields_30 at HF
  cases HF
  exact ev_throwW (is := 258) (text := "no such game, turn, seat or what") hl rfl ce_X11_fields.1 (by decide +kernel) kl_X11_224 in_nse (by omega) dX11_fields_30 dX11_fields_33 dX11_fields_34 dX11_fields_37 dX11_fields_40

set_option maxRecDepth 20000 in
theorem lx_X11_fields {g : aG} {l : Launch} {d : Nat} (hdd : 7 ≤ d) {t : Nat} {x1 : Int32} {x2 : Int32} {x3 : Int32} {x4 : Int32} {h : aH} (hl : l.stackTraces = false) {h1 : aH} (hT : hK h t = 13) (HF : F_X11_fields t x1 x2 x3 x4 h = some (none, h1)) : MX g l yX11_fields cX11_fields 6 (some .int) d [.ref t, .int x1, .int x2, .int x3, .int x4] h h1 := by
  refine MX.of (lv0 := [(0, .ref t), (1, .int x1), (2, .int x2), (3, .int x3), (4, .int x4)]) (by decide +kernel) (rfl) (Nat.le_of_ble_eq_true rfl) ?_
  unfold F_X11_fields at HF
  refine ev_aload_n 0 dX11_fields_0 rfl ?_
  refine ev_iload_n 1 dX11_fields_1 rfl ?_
  replace HF := bind_o HF
  obtain ⟨⟨o3, h2⟩, e1, HF⟩ := HF
  replace HF := bd_o (bd_o HF)
  dsimp only at HF
  refine ev_callV (As := [.int x1]) (R1 := (some (va_rf o3), h2)) (lk_X11_gameAt (d := 3) (Nat.le_refl _) hT e1) ce_X11_gameAt im_X11_gameAt sl_X11_gameAt ml_X11_91 cl_X11 hT dX11_fields_2 (by omega) (Nat.le_of_ble_eq_true rfl) rfl rfl ?_
  show EvG _ _ _ _ _ _ _ _ _ _ _ 5 [(0, .ref t), (1, .int x1), (2, .int x2), (3, .int x3), (4, .int x4)] [va_rf o3] h2
  refine ev_astorer (lv' := [(5, va_rf o3), (0, .ref t), (1, .int x1), (2, .int x2), (3, .int x3), (4, .int x4)]) dX11_fields_5 (by decide) (rfl) ?_
  refine ev_aloadr 0 dX11_fields_7 rfl ?_
  cases o3 with
  | none =>
    refine ev_ifnullN (tgt := 30) dX11_fields_9 (by decide) ?_
    exact Ev.sub [] rfl (lx_X11_fields_30 hdd hl   _ HF)
  | some b5 =>
    refine ev_ifnullS dX11_fields_9 ?_
    refine ev_aload 0 dX11_fields_12 rfl ?_
    refine ev_iload_n 3 dX11_fields_14 rfl ?_
    replace HF := bind_ck HF
    obtain ⟨c6, HF⟩ := HF
    replace HF := bind_o HF
    obtain ⟨⟨o9, h8⟩, e7, HF⟩ := HF
    replace HF := bd_o (bd_o HF)
    dsimp only at HF
    refine ev_callV (As := [.int x2]) (R1 := (some (va_rf o9), h8)) (lk_X3_turnAt (d := 3) (Nat.le_refl _) c6 e7) ce_X3_turnAt im_X3_turnAt sl_X3_turnAt ml_X11_140 cl_X3 c6 dX11_fields_15 (by omega) (Nat.le_of_ble_eq_true rfl) rfl rfl ?_
    show EvG _ _ _ _ _ _ _ _ _ _ _ 18 [(5, .ref b5), (0, .ref t), (1, .int x1), (2, .int x2), (3, .int x3), (4, .int x4)] [va_rf o9] h8
    cases o9 with
    | none =>
      refine ev_ifnullN (tgt := 30) dX11_fields_18 (by decide) ?_
      exact Ev.sub [] rfl (lx_X11_fields_30 hdd hl   _ HF)
    | some b11 =>
      refine ev_ifnullS dX11_fields_18 ?_
      refine ev_iload_n 4 dX11_fields_21 rfl ?_
      refine ev_iload 5 dX11_fields_22 rfl ?_
      replace HF := bind_o HF
      obtain ⟨⟨z14, h13⟩, e12, HF⟩ := HF
      replace HF := bd_o (bd_o HF)
      dsimp only at HF
      refine ev_callS (As := [.int x3, .int x4]) (R1 := (some (.int z14), h13)) (lk_X11_isSeatFigure (d := 0) (Nat.le_refl _) e12) ce_X11_isSeatFigure st_X11_isSeatFigure ml_X11_254 dX11_fields_24 (by omega) (Nat.le_of_ble_eq_true rfl) rfl rfl ?_
      show EvG _ _ _ _ _ _ _ _ _ _ _ 27 [(5, .ref b5), (0, .ref t), (1, .int x1), (2, .int x2), (3, .int x3), (4, .int x4)] [.int z14] h13
      by_cases c16 : z14 = 0
      · replace HF := ite_T c16 HF
        refine ev_if_neF (tgt := 41) dX11_fields_27 (by decide) c16 ?_
        exact Ev.sub [] rfl (lx_X11_fields_30 hdd hl   _ HF)
      · replace HF := ite_F c16 HF
        refine ev_if_neT (tgt := 41) dX11_fields_27 (by decide) c16 ?_
        refine ev_aload_n 1 dX11_fields_41 rfl ?_
        refine ev_iload_n 2 dX11_fields_42 rfl ?_
        refine ev_aload 0 dX11_fields_43 rfl ?_
        replace HF := bind_ck HF
        obtain ⟨c17, HF⟩ := HF
        replace HF := bind_o HF
        obtain ⟨h19, e18, HF⟩ := HF
        refine ev_callV (As := [.int x1, va_rf (some b5)]) (R1 := (none, h19)) (lk_X11_playOver (d := 6) (Nat.le_refl _) c17 e18) ce_X11_playOver im_X11_playOver sl_X11_playOver ml_X11_115 cl_X11 c17 dX11_fields_45 (by omega) (Nat.le_of_ble_eq_true rfl) rfl rfl ?_
        show EvG _ _ _ _ _ _ _ _ _ _ _ 48 [(5, .ref b5), (0, .ref t), (1, .int x1), (2, .int x2), (3, .int x3), (4, .int x4)] [] h19
        refine ev_aload_n 1 dX11_fields_48 rfl ?_
        refine ev_aload 0 dX11_fields_49 rfl ?_
        refine ev_iload_n 3 dX11_fields_51 rfl ?_
        show EvG _ _ _ _ _ _ _ _ _ _ _ 52 _ _ _
        refine ev_iload_n 4 dX11_fields_52 rfl ?_
        refine ev_iload 5 dX11_fields_53 rfl ?_
        replace HF := bind_ck HF
        obtain ⟨c21, HF⟩ := HF
        replace HF := bind_o HF
        obtain ⟨⟨z24, h23⟩, e22, HF⟩ := HF
        replace HF := bd_o (bd_o HF)
        dsimp only at HF
        refine ev_callV (As := [.ref b5, .int x2, .int x3, .int x4]) (R1 := (some (.int z24), h23)) (lk_X11_fieldsFigure (d := 3) (Nat.le_refl _) c21 e22) ce_X11_fieldsFigure im_X11_fieldsFigure sl_X11_fieldsFigure ml_X11_264 cl_X11 c21 dX11_fields_55 (by omega) (Nat.le_of_ble_eq_true rfl) rfl rfl ?_
        show EvG _ _ _ _ _ _ _ _ _ _ _ 58 [(5, .ref b5), (0, .ref t), (1, .int x1), (2, .int x2), (3, .int x3), (4, .int x4)] [.int z24] h23
        cases HF

set_option maxRecDepth 20000 in
theorem lk_X11_record_41 {g : aG} {l : Launch} {d : Nat} {h0 : aH} (hdd : 7 ≤ d) {v : Int32} {h1 : aH} (t : Nat) (x1 : Int32) (x2 : Int32) (h : aH) (HF : F_X11_record_41  t x1 x2 h = some (some v, h1)) : Ev g l cX11_record 3 yX11_record (some .int) d h0 (some (.int v), h1) 41 [(0, .ref t), (1, .int x1), (2, .int x2)] [] h := by
  unfold F_X11_record_41 at HF
  refine ev_aload_n 0 dX11_record_41 rfl ?_
  replace HF := bind_ck HF
  obtain ⟨c1, HF⟩ := HF
  replace HF := bind_o HF
  obtain ⟨b2, e3, HF⟩ := HF
  refine ev_gS (f := 1206) cl_X11 (k := 6) (by decide) fi_X11_6 rfl fl_X11_49 dX11_record_42 c1 e3 ?_
  replace HF := bind_ck HF
  obtain ⟨c4, HF⟩ := HF
  replace HF := bind_o HF
  obtain ⟨b5, e6, HF⟩ := HF
  refine ev_gSN (f := 900) cl_X8 (k := 0) (by decide) fi_X8_0 rfl fl_X11_272 dX11_record_45 c4 e6 ?_
  refine ev_iload_n 1 dX11_record_48 rfl ?_
  refine ev_iload_n 2 dX11_record_49 rfl ?_
  replace HF := bind_ck HF
  obtain ⟨c7, HF⟩ := HF
  replace HF := bind_o HF
  obtain ⟨⟨z10, h9⟩, e8, HF⟩ := HF
  replace HF := bd_o (bd_o HF)
  dsimp only at HF
  refine ev_callV (As := [.int x1, .int x2]) (R1 := (some (.int z10), h9)) (lk_X4_at (d := 1) (Nat.le_refl _) c7 e8) ce_X4_at im_X4_at sl_X4_at ml_X11_276 cl_X4 c7 dX11_record_50 (by omega) (Nat.le_of_ble_eq_true rfl) rfl rfl ?_
  show EvG _ _ _ _ _ _ _ _ _ _ _ 53 [(0, .ref t), (1, .int x1), (2, .int x2)] [.int z10] h9
  cases HF
  exact ev_iret dX11_record_53

set_option maxRecDepth 20000 in
theorem lk_X11_record_19 {g : aG} {l : Launch} {d : Nat} {h0 : aH} (hdd : 7 ≤ d) {v : Int32} {h1 : aH} (h : aH) (HF : F_X11_record_19   h = some (some v, h1)) : Ev g l cX11_record 3 yX11_record (some .int) d h0 (some (.int v), h1) 19 [] [] h := by
  unfold F_X11_record_19 at HF
  cases HF

set_option maxRecDepth 20000 in
theorem lk_X11_record {g : aG} {l : Launch} {d : Nat} (hdd : 7 ≤ d) {t : Nat} {x1 : Int32} {x2 : Int32} {h : aH} {v : Int32} {h1 : aH} (hT : hK h t = 13) (HF : F_X11_record t x1 x2 h = some (some v, h1)) : MA g l yX11_record cX11_record 3 (some .int) d [.ref t, .int x1, .int x2] h (some (.int v), h1) := by
  refine MA.of (lv0 := [(0, .ref t), (1, .int x1), (2, .int x2)]) (by decide +kernel) (rfl) (Nat.le_of_ble_eq_true rfl) ?_
  unfold F_X11_record at HF
  refine ev_iload_n 1 dX11_record_0 rfl ?_
  by_cases c1 : x1 < 0
  · replace HF := ite_T c1 HF
    refine ev_if_ltT (tgt := 19) dX11_record_1 (by decide) c1 ?_
    exact Ev.sub [] rfl (lk_X11_record_19 hdd   _ HF)
  · replace HF := ite_F c1 HF
    refine ev_if_ltF (tgt := 19) dX11_record_1 (by decide) c1 ?_
    refine ev_iload_n 1 dX11_record_4 rfl ?_
    refine ev_iconst (v := 4) dX11_record_5 (by decide) ?_
    by_cases c2 : 4 ≤ x1
    · replace HF := ite_T c2 HF
      refine ev_icmp_geT (tgt := 19) dX11_record_6 (by decide) c2 ?_
      exact Ev.sub [] rfl (lk_X11_record_19 hdd   _ HF)
    · replace HF := ite_F c2 HF
      refine ev_icmp_geF (tgt := 19) dX11_record_6 (by decide) c2 ?_
      refine ev_iload_n 2 dX11_record_9 rfl ?_
      by_cases c3 : x2 < 0
      · replace HF := ite_T c3 HF
        refine ev_if_ltT (tgt := 19) dX11_record_10 (by decide) c3 ?_
        exact Ev.sub [] rfl (lk_X11_record_19 hdd   _ HF)
      · replace HF := ite_F c3 HF
        refine ev_if_ltF (tgt := 19) dX11_record_10 (by decide) c3 ?_
        refine ev_iload_n 2 dX11_record_13 rfl ?_
        refine ev_bipush (v := 6) dX11_record_14 (by decide) ?_
        by_cases c4 : x2 < 6
        · replace HF := ite_T c4 HF
          refine ev_icmp_ltT (tgt := 30) dX11_record_16 (by decide) c4 ?_
          refine ev_aload_n 0 dX11_record_30 rfl ?_
          refine ev_gI (f := 1211) cl_X11 (k := 11) (by decide) fi_X11_11 rfl fl_X11_70 dX11_record_31 hT ?_
          by_cases c5 : hF h 1211 t = 0
          · replace HF := ite_T c5 HF
            refine ev_if_eqT (tgt := 41) dX11_record_34 (by decide) c5 ?_
            exact Ev.sub [0, 1, 2] rfl (lk_X11_record_41 hdd  t x1 x2 _ HF)
          · replace HF := ite_F c5 HF
            refine ev_if_eqF (tgt := 41) dX11_record_34 (by decide) c5 ?_
            refine ev_aload_n 0 dX11_record_37 rfl ?_
            replace HF := bind_o HF
            obtain ⟨h7, e6, HF⟩ := HF
            refine ev_callV (As := []) (R1 := (none, h7)) (lk_X11_findRecords (d := 6) (Nat.le_refl _) hT e6) ce_X11_findRecords im_X11_findRecords sl_X11_findRecords ml_X11_269 cl_X11 hT dX11_record_38 (by omega) (Nat.le_of_ble_eq_true rfl) rfl rfl ?_
            show EvG _ _ _ _ _ _ _ _ _ _ _ 41 [(0, .ref t), (1, .int x1), (2, .int x2)] [] h7
            exact Ev.sub [0, 1, 2] rfl (lk_X11_record_41 hdd  t x1 x2 _ HF)
        · replace HF := ite_F c4 HF
          refine ev_icmp_ltF (tgt := 30) dX11_record_16 (by decide) c4 ?_
          exact Ev.sub [] rfl (lk_X11_record_19 hdd   _ HF)

set_option maxRecDepth 20000 in
theorem lx_X11_record_41 {g : aG} {l : Launch} {d : Nat} {h0 : aH} (hdd : 7 ≤ d) (hl : l.stackTraces = false) {h1 : aH} (t : Nat) (x1 : Int32) (x2 : Int32) (h : aH) (HF : F_X11_record_41  t x1 x2 h = some (none, h1)) : EvG g l cX11_record 3 yX11_record (some .int) d h0 (hz h1 + 1) (hs h1 + 6) (ZX g h0 h1) 41 [(0, .ref t), (1, .int x1), (2, .int x2)] [] h := by
  unfold F_X11_record_41 at HF
  refine ev_aload_n 0 dX11_record_41 rfl ?_
  replace HF := bind_ck HF
  obtain ⟨c1, HF⟩ := HF
  replace HF := bind_o HF
  obtain ⟨b2, e3, HF⟩ := HF
  refine ev_gS (f := 1206) cl_X11 (k := 6) (by decide) fi_X11_6 rfl fl_X11_49 dX11_record_42 c1 e3 ?_
  replace HF := bind_ck HF
  obtain ⟨c4, HF⟩ := HF
  replace HF := bind_o HF
  obtain ⟨b5, e6, HF⟩ := HF
  refine ev_gSN (f := 900) cl_X8 (k := 0) (by decide) fi_X8_0 rfl fl_X11_272 dX11_record_45 c4 e6 ?_
  refine ev_iload_n 1 dX11_record_48 rfl ?_
  refine ev_iload_n 2 dX11_record_49 rfl ?_
  replace HF := bind_ck HF
  obtain ⟨c7, HF⟩ := HF
  replace HF := bind_o HF
  obtain ⟨⟨z10, h9⟩, e8, HF⟩ := HF
  replace HF := bd_o (bd_o HF)
  dsimp only at HF
  refine ev_callV (As := [.int x1, .int x2]) (R1 := (some (.int z10), h9)) (lk_X4_at (d := 1) (Nat.le_refl _) c7 e8) ce_X4_at im_X4_at sl_X4_at ml_X11_276 cl_X4 c7 dX11_record_50 (by omega) (Nat.le_of_ble_eq_true rfl) rfl rfl ?_
  show EvG _ _ _ _ _ _ _ _ _ _ _ 53 [(0, .ref t), (1, .int x1), (2, .int x2)] [.int z10] h9
  cases HF

set_option maxRecDepth 20000 in
theorem lx_X11_record_19 {g : aG} {l : Launch} {d : Nat} {h0 : aH} (hdd : 7 ≤ d) (hl : l.stackTraces = false) {h1 : aH} (h : aH) (HF : F_X11_record_19   h = some (none, h1)) : EvG g l cX11_record 3 yX11_record (some .int) d h0 (hz h1 + 1) (hs h1 + 6) (ZX g h0 h1) 19 [] [] h := by
  unfold F_X11_record_19 at HF
  cases HF
  exact ev_throwW (is := 267) (text := "no such sort or what") hl rfl ce_X11_record.1 (by decide +kernel) kl_X11_224 in_nse (by omega) dX11_record_19 dX11_record_22 dX11_record_23 dX11_record_26 dX11_record_29

set_option maxRecDepth 20000 in
theorem lx_X11_record {g : aG} {l : Launch} {d : Nat} (hdd : 7 ≤ d) {t : Nat} {x1 : Int32} {x2 : Int32} {h : aH} (hl : l.stackTraces = false) {h1 : aH} (hT : hK h t = 13) (HF : F_X11_record t x1 x2 h = some (none, h1)) : MX g l yX11_record cX11_record 3 (some .int) d [.ref t, .int x1, .int x2] h h1 := by
  refine MX.of (lv0 := [(0, .ref t), (1, .int x1), (2, .int x2)]) (by decide +kernel) (rfl) (Nat.le_of_ble_eq_true rfl) ?_
  unfold F_X11_record at HF
  refine ev_iload_n 1 dX11_record_0 rfl ?_
  by_cases c1 : x1 < 0
  · replace HF := ite_T c1 HF
    refine ev_if_ltT (tgt := 19) dX11_record_1 (by decide) c1 ?_
    exact Ev.sub [] rfl (lx_X11_record_19 hdd hl   _ HF)
  · replace HF := ite_F c1 HF
    refine ev_if_ltF (tgt := 19) dX11_record_1 (by decide) c1 ?_
    refine ev_iload_n 1 dX11_record_4 rfl ?_
    refine ev_iconst (v := 4) dX11_record_5 (by decide) ?_
    by_cases c2 : 4 ≤ x1
    · replace HF := ite_T c2 HF
      refine ev_icmp_geT (tgt := 19) dX11_record_6 (by decide) c2 ?_
      exact Ev.sub [] rfl (lx_X11_record_19 hdd hl   _ HF)
    · replace HF := ite_F c2 HF
      refine ev_icmp_geF (tgt := 19) dX11_record_6 (by decide) c2 ?_
      refine ev_iload_n 2 dX11_record_9 rfl ?_
      by_cases c3 : x2 < 0
      · replace HF := ite_T c3 HF
        refine ev_if_ltT (tgt := 19) dX11_record_10 (by decide) c3 ?_
        exact Ev.sub [] rfl (lx_X11_record_19 hdd hl   _ HF)
      · replace HF := ite_F c3 HF
        refine ev_if_ltF (tgt := 19) dX11_record_10 (by decide) c3 ?_
        refine ev_iload_n 2 dX11_record_13 rfl ?_
        refine ev_bipush (v := 6) dX11_record_14 (by decide) ?_
        by_cases c4 : x2 < 6
        · replace HF := ite_T c4 HF
          refine ev_icmp_ltT (tgt := 30) dX11_record_16 (by decide) c4 ?_
          refine ev_aload_n 0 dX11_record_30 rfl ?_
          refine ev_gI (f := 1211) cl_X11 (k := 11) (by decide) fi_X11_11 rfl fl_X11_70 dX11_record_31 hT ?_
          by_cases c5 : hF h 1211 t = 0
          · replace HF := ite_T c5 HF
            refine ev_if_eqT (tgt := 41) dX11_record_34 (by decide) c5 ?_
            exact Ev.sub [0, 1, 2] rfl (lx_X11_record_41 hdd hl  t x1 x2 _ HF)
          · replace HF := ite_F c5 HF
            refine ev_if_eqF (tgt := 41) dX11_record_34 (by decide) c5 ?_
            refine ev_aload_n 0 dX11_record_37 rfl ?_
            replace HF := bind_o HF
            obtain ⟨h7, e6, HF⟩ := HF
            refine ev_callV (As := []) (R1 := (none, h7)) (lk_X11_findRecords (d := 6) (Nat.le_refl _) hT e6) ce_X11_findRecords im_X11_findRecords sl_X11_findRecords ml_X11_269 cl_X11 hT dX11_record_38 (by omega) (Nat.le_of_ble_eq_true rfl) rfl rfl ?_
            show EvG _ _ _ _ _ _ _ _ _ _ _ 41 [(0, .ref t), (1, .int x1), (2, .int x2)] [] h7
            exact Ev.sub [0, 1, 2] rfl (lx_X11_record_41 hdd hl  t x1 x2 _ HF)
        · replace HF := ite_F c4 HF
          refine ev_icmp_ltF (tgt := 30) dX11_record_16 (by decide) c4 ?_
          exact Ev.sub [] rfl (lx_X11_record_19 hdd hl   _ HF)

set_option maxRecDepth 20000 in
theorem lk_X11_told_15 {g : aG} {l : Launch} {d : Nat} {h0 : aH} (hdd : 1 ≤ d) {v : Int32} {h1 : aH} (h : aH) (HF : F_X11_told_15   h = some (some v, h1)) : Ev g l cX11_told 2 yX11_told (some .int) d h0 (some (.int v), h1) 15 [] [] h := by
  unfold F_X11_told_15 at HF
  cases HF

set_option maxRecDepth 20000 in
theorem lk_X11_told {g : aG} {l : Launch} {d : Nat} (hdd : 1 ≤ d) {t : Nat} {x1 : Int32} {h : aH} {v : Int32} {h1 : aH} (hT : hK h t = 13) (HF : F_X11_told t x1 h = some (some v, h1)) : MA g l yX11_told cX11_told 2 (some .int) d [.ref t, .int x1] h (some (.int v), h1) := by
  refine MA.of (lv0 := [(0, .ref t), (1, .int x1)]) (by decide +kernel) (rfl) (Nat.le_of_ble_eq_true rfl) ?_
  unfold F_X11_told at HF
  refine ev_iload_n 1 dX11_told_0 rfl ?_
  by_cases c1 : x1 < 0
  · replace HF := ite_T c1 HF
    refine ev_if_ltT (tgt := 15) dX11_told_1 (by decide) c1 ?_
    exact Ev.sub [] rfl (lk_X11_told_15 hdd   _ HF)
  · replace HF := ite_F c1 HF
    refine ev_if_ltF (tgt := 15) dX11_told_1 (by decide) c1 ?_
    refine ev_iload_n 1 dX11_told_4 rfl ?_
    refine ev_aload_n 0 dX11_told_5 rfl ?_
    replace HF := bind_o HF
    obtain ⟨b2, e3, HF⟩ := HF
    refine ev_gS (f := 1203) cl_X11 (k := 3) (by decide) fi_X11_3 rfl fl_X11_29 dX11_told_6 hT e3 ?_
    replace HF := bind_ck HF
    obtain ⟨c4, HF⟩ := HF
    refine ev_gIN (f := 101) cl_X0 (k := 1) (by decide) fi_X0_1 rfl fl_X11_184 dX11_told_9 c4 ?_
    by_cases c5 : x1 < hF h 101 b2
    · replace HF := ite_T c5 HF
      refine ev_icmp_ltT (tgt := 26) dX11_told_12 (by decide) c5 ?_
      refine ev_aload_n 0 dX11_told_26 rfl ?_
      replace HF := bind_o HF
      obtain ⟨b6, e7, HF⟩ := HF
      refine ev_gS (f := 1203) cl_X11 (k := 3) (by decide) fi_X11_3 rfl fl_X11_29 dX11_told_27 hT e7 ?_
      refine ev_iload_n 1 dX11_told_30 rfl ?_
      replace HF := bind_ck HF
      obtain ⟨c8, HF⟩ := HF
      replace HF := bind_o HF
      obtain ⟨⟨z11, h10⟩, e9, HF⟩ := HF
      replace HF := bd_o (bd_o HF)
      dsimp only at HF
      refine ev_callV (As := [.int x1]) (R1 := (some (.int z11), h10)) (lk_X0_at (d := 0) (Nat.le_refl _) c8 e9) ce_X0_at im_X0_at sl_X0_at ml_X11_192 cl_X0 c8 dX11_told_31 (by omega) (Nat.le_of_ble_eq_true rfl) rfl rfl ?_
      show EvG _ _ _ _ _ _ _ _ _ _ _ 34 [(0, .ref t), (1, .int x1)] [.int z11] h10
      cases HF
      exact ev_iret dX11_told_34
    · replace HF := ite_F c5 HF
      refine ev_icmp_ltF (tgt := 26) dX11_told_12 (by decide) c5 ?_
      exact Ev.sub [] rfl (lk_X11_told_15 hdd   _ HF)

set_option maxRecDepth 20000 in
theorem lx_X11_told_15 {g : aG} {l : Launch} {d : Nat} {h0 : aH} (hdd : 6 ≤ d) (hl : l.stackTraces = false) {h1 : aH} (h : aH) (HF : F_X11_told_15   h = some (none, h1)) : EvG g l cX11_told 2 yX11_told (some .int) d h0 (hz h1 + 1) (hs h1 + 6) (ZX g h0 h1) 15 [] [] h := by
  unfold F_X11_told_15 at HF
  cases HF
  exact ev_throwW (is := 291) (text := "no such byte") hl rfl ce_X11_told.1 (by decide +kernel) kl_X11_224 in_nse (by omega) dX11_told_15 dX11_told_18 dX11_told_19 dX11_told_22 dX11_told_25

set_option maxRecDepth 20000 in
theorem lx_X11_told {g : aG} {l : Launch} {d : Nat} (hdd : 6 ≤ d) {t : Nat} {x1 : Int32} {h : aH} (hl : l.stackTraces = false) {h1 : aH} (hT : hK h t = 13) (HF : F_X11_told t x1 h = some (none, h1)) : MX g l yX11_told cX11_told 2 (some .int) d [.ref t, .int x1] h h1 := by
  refine MX.of (lv0 := [(0, .ref t), (1, .int x1)]) (by decide +kernel) (rfl) (Nat.le_of_ble_eq_true rfl) ?_
  unfold F_X11_told at HF
  refine ev_iload_n 1 dX11_told_0 rfl ?_
  by_cases c1 : x1 < 0
  · replace HF := ite_T c1 HF
    refine ev_if_ltT (tgt := 15) dX11_told_1 (by decide) c1 ?_
    exact Ev.sub [] rfl (lx_X11_told_15 hdd hl   _ HF)
  · replace HF := ite_F c1 HF
    refine ev_if_ltF (tgt := 15) dX11_told_1 (by decide) c1 ?_
    refine ev_iload_n 1 dX11_told_4 rfl ?_
    refine ev_aload_n 0 dX11_told_5 rfl ?_
    replace HF := bind_o HF
    obtain ⟨b2, e3, HF⟩ := HF
    refine ev_gS (f := 1203) cl_X11 (k := 3) (by decide) fi_X11_3 rfl fl_X11_29 dX11_told_6 hT e3 ?_
    replace HF := bind_ck HF
    obtain ⟨c4, HF⟩ := HF
    refine ev_gIN (f := 101) cl_X0 (k := 1) (by decide) fi_X0_1 rfl fl_X11_184 dX11_told_9 c4 ?_
    by_cases c5 : x1 < hF h 101 b2
    · replace HF := ite_T c5 HF
      refine ev_icmp_ltT (tgt := 26) dX11_told_12 (by decide) c5 ?_
      refine ev_aload_n 0 dX11_told_26 rfl ?_
      replace HF := bind_o HF
      obtain ⟨b6, e7, HF⟩ := HF
      refine ev_gS (f := 1203) cl_X11 (k := 3) (by decide) fi_X11_3 rfl fl_X11_29 dX11_told_27 hT e7 ?_
      refine ev_iload_n 1 dX11_told_30 rfl ?_
      replace HF := bind_ck HF
      obtain ⟨c8, HF⟩ := HF
      replace HF := bind_o HF
      obtain ⟨⟨z11, h10⟩, e9, HF⟩ := HF
      replace HF := bd_o (bd_o HF)
      dsimp only at HF
      refine ev_callV (As := [.int x1]) (R1 := (some (.int z11), h10)) (lk_X0_at (d := 0) (Nat.le_refl _) c8 e9) ce_X0_at im_X0_at sl_X0_at ml_X11_192 cl_X0 c8 dX11_told_31 (by omega) (Nat.le_of_ble_eq_true rfl) rfl rfl ?_
      show EvG _ _ _ _ _ _ _ _ _ _ _ 34 [(0, .ref t), (1, .int x1)] [.int z11] h10
      cases HF
    · replace HF := ite_F c5 HF
      refine ev_icmp_ltF (tgt := 26) dX11_told_12 (by decide) c5 ?_
      exact Ev.sub [] rfl (lx_X11_told_15 hdd hl   _ HF)

set_option maxRecDepth 20000 in
theorem lk_X11_list_87 {g : aG} {l : Launch} {d : Nat} {h0 : aH} (hdd : 2 ≤ d) {v : Int32} {h1 : aH} (h : aH) (HF : F_X11_list_87   h = some (some v, h1)) : Ev g l cX11_list 2 yX11_list (some .int) d h0 (some (.int v), h1) 87 [] [] h := by
  unfold F_X11_list_87 at HF
  cases HF

set_option maxRecDepth 20000 in
theorem lk_X11_list {g : aG} {l : Launch} {d : Nat} (hdd : 2 ≤ d) {t : Nat} {x1 : Int32} {h : aH} {v : Int32} {h1 : aH} (hT : hK h t = 13) (HF : F_X11_list t x1 h = some (some v, h1)) : MA g l yX11_list cX11_list 2 (some .int) d [.ref t, .int x1] h (some (.int v), h1) := by
  refine MA.of (lv0 := [(0, .ref t), (1, .int x1)]) (by decide +kernel) (rfl) (Nat.le_of_ble_eq_true rfl) ?_
  unfold F_X11_list at HF
  refine ev_iload_n 1 dX11_list_0 rfl ?_
  by_cases c1 : x1 = 0
  · replace HF := ite_T c1 HF
    refine ev_swT (kk := 0) (tgt := 36) dX11_list_1 c1 (by decide +kernel) (by decide +kernel) ?_
    refine ev_aload_n 0 dX11_list_36 rfl ?_
    refine ev_gI (f := 1208) cl_X11 (k := 8) (by decide) fi_X11_8 rfl fl_X11_60 dX11_list_37 hT ?_
    cases HF
    exact ev_iret dX11_list_40
  replace HF := ite_F c1 HF
  by_cases c2 : x1 = 1
  · replace HF := ite_T c2 HF
    refine ev_swT (kk := 1) (tgt := 41) dX11_list_1 c2 (by decide +kernel) (by decide +kernel) ?_
    refine ev_aload_n 0 dX11_list_41 rfl ?_
    replace HF := bind_o HF
    obtain ⟨b3, e4, HF⟩ := HF
    refine ev_gS (f := 1201) cl_X11 (k := 1) (by decide) fi_X11_1 rfl fl_X11_16 dX11_list_42 hT e4 ?_
    replace HF := bind_ck HF
    obtain ⟨c5, HF⟩ := HF
    replace HF := bind_o HF
    obtain ⟨⟨z8, h7⟩, e6, HF⟩ := HF
    replace HF := bd_o (bd_o HF)
    dsimp only at HF
    refine ev_callV (As := []) (R1 := (some (.int z8), h7)) (lk_Jx4a65c_size_8abf5 (d := 0) (Nat.le_refl _) c5 e6) ce_Jx4a65c_size_8abf5 im_Jx4a65c_size_8abf5 sl_Jx4a65c_size_8abf5 ml_X11_78 cl_Jx4a65c c5 dX11_list_45 (by omega) (Nat.le_of_ble_eq_true rfl) rfl rfl ?_
    show EvG _ _ _ _ _ _ _ _ _ _ _ 48 [(0, .ref t), (1, .int x1)] [.int z8] h7
    cases HF
    exact ev_iret dX11_list_48
  replace HF := ite_F c2 HF
  by_cases c10 : x1 = 2
  · replace HF := ite_T c10 HF
    refine ev_swT (kk := 2) (tgt := 49) dX11_list_1 c10 (by decide +kernel) (by decide +kernel) ?_
    refine ev_aload_n 0 dX11_list_49 rfl ?_
    replace HF := bind_o HF
    obtain ⟨b11, e12, HF⟩ := HF
    refine ev_gS (f := 1202) cl_X11 (k := 2) (by decide) fi_X11_2 rfl fl_X11_25 dX11_list_50 hT e12 ?_
    replace HF := bind_ck HF
    obtain ⟨c13, HF⟩ := HF
    refine ev_gIN (f := 101) cl_X0 (k := 1) (by decide) fi_X0_1 rfl fl_X11_184 dX11_list_53 c13 ?_
    cases HF
    exact ev_iret dX11_list_56
  replace HF := ite_F c10 HF
  by_cases c14 : x1 = 3
  · replace HF := ite_T c14 HF
    refine ev_swT (kk := 3) (tgt := 57) dX11_list_1 c14 (by decide +kernel) (by decide +kernel) ?_
    refine ev_aload_n 0 dX11_list_57 rfl ?_
    replace HF := bind_o HF
    obtain ⟨b15, e16, HF⟩ := HF
    refine ev_gS (f := 1204) cl_X11 (k := 4) (by decide) fi_X11_4 rfl fl_X11_35 dX11_list_58 hT e16 ?_
    replace HF := bind_ck HF
    obtain ⟨c17, HF⟩ := HF
    refine ev_gIN (f := 302) cl_X2 (k := 2) (by decide) fi_X2_2 rfl fl_X11_302 dX11_list_61 c17 ?_
    cases HF
    exact ev_iret dX11_list_64
  replace HF := ite_F c14 HF
  by_cases c18 : x1 = 4
  · replace HF := ite_T c18 HF
    refine ev_swT (kk := 4) (tgt := 65) dX11_list_1 c18 (by decide +kernel) (by decide +kernel) ?_
    refine ev_aload_n 0 dX11_list_65 rfl ?_
    replace HF := bind_o HF
    obtain ⟨b19, e20, HF⟩ := HF
    refine ev_gS (f := 1203) cl_X11 (k := 3) (by decide) fi_X11_3 rfl fl_X11_29 dX11_list_66 hT e20 ?_
    replace HF := bind_ck HF
    obtain ⟨c21, HF⟩ := HF
    refine ev_gIN (f := 101) cl_X0 (k := 1) (by decide) fi_X0_1 rfl fl_X11_184 dX11_list_69 c21 ?_
    cases HF
    exact ev_iret dX11_list_72
  replace HF := ite_F c18 HF
  refine ev_swTd (ks := [0, 1, 2, 3, 4]) (tgt := 73) dX11_list_1 (by simp only [List.mem_cons, List.not_mem_nil, or_false, forall_eq_or_imp, forall_eq]; exact ⟨c1, c2, c10, c14, c18⟩) (by decide +kernel) (by decide) ?_
  refine ev_iload_n 1 dX11_list_73 rfl ?_
  by_cases c22 : x1 < 0
  · replace HF := ite_T c22 HF
    refine ev_if_ltT (tgt := 87) dX11_list_74 (by decide) c22 ?_
    exact Ev.sub [] rfl (lk_X11_list_87 hdd   _ HF)
  · replace HF := ite_F c22 HF
    refine ev_if_ltF (tgt := 87) dX11_list_74 (by decide) c22 ?_
    refine ev_aload_n 0 dX11_list_77 rfl ?_
    refine ev_iload_n 1 dX11_list_78 rfl ?_
    refine ev_iconst (v := 5) dX11_list_79 (by decide) ?_
    refine ev_isub dX11_list_80 ?_
    replace HF := bind_o HF
    obtain ⟨⟨z25, h24⟩, e23, HF⟩ := HF
    replace HF := bd_o (bd_o HF)
    dsimp only at HF
    refine ev_callV (As := [.int (x1 - 5)]) (R1 := (some (.int z25), h24)) (lk_X11_hasSide (d := 0) (Nat.le_refl _) hT e23) ce_X11_hasSide im_X11_hasSide sl_X11_hasSide ml_X11_74 cl_X11 hT dX11_list_81 (by omega) (Nat.le_of_ble_eq_true rfl) rfl rfl ?_
    show EvG _ _ _ _ _ _ _ _ _ _ _ 84 [(0, .ref t), (1, .int x1)] [.int z25] h24
    by_cases c27 : z25 = 0
    · replace HF := ite_T c27 HF
      refine ev_if_neF (tgt := 98) dX11_list_84 (by decide) c27 ?_
      exact Ev.sub [] rfl (lk_X11_list_87 hdd   _ HF)
    · replace HF := ite_F c27 HF
      refine ev_if_neT (tgt := 98) dX11_list_84 (by decide) c27 ?_
      refine ev_aload_n 0 dX11_list_98 rfl ?_
      refine ev_iload_n 1 dX11_list_99 rfl ?_
      refine ev_iconst (v := 5) dX11_list_100 (by decide) ?_
      refine ev_isub dX11_list_101 ?_
      replace HF := bind_ck HF
      obtain ⟨c28, HF⟩ := HF
      replace HF := bind_o HF
      obtain ⟨⟨z31, h30⟩, e29, HF⟩ := HF
      replace HF := bd_o (bd_o HF)
      dsimp only at HF
      refine ev_callV (As := [.int (x1 - 5)]) (R1 := (some (.int z31), h30)) (lk_X11_playersOf (d := 1) (Nat.le_refl _) c28 e29) ce_X11_playersOf im_X11_playersOf sl_X11_playersOf ml_X11_99 cl_X11 c28 dX11_list_102 (by omega) (Nat.le_of_ble_eq_true rfl) rfl rfl ?_
      show EvG _ _ _ _ _ _ _ _ _ _ _ 105 [(0, .ref t), (1, .int x1)] [.int z31] h30
      cases HF
      exact ev_iret dX11_list_105

set_option maxRecDepth 20000 in
theorem lx_X11_list_87 {g : aG} {l : Launch} {d : Nat} {h0 : aH} (hdd : 6 ≤ d) (hl : l.stackTraces = false) {h1 : aH} (h : aH) (HF : F_X11_list_87   h = some (none, h1)) : EvG g l cX11_list 2 yX11_list (some .int) d h0 (hz h1 + 1) (hs h1 + 6) (ZX g h0 h1) 87 [] [] h := by
  unfold F_X11_list_87 at HF
  cases HF
  exact ev_throwW (is := 305) (text := "no such what") hl rfl ce_X11_list.1 (by decide +kernel) kl_X11_224 in_nse (by omega) dX11_list_87 dX11_list_90 dX11_list_91 dX11_list_94 dX11_list_97

set_option maxRecDepth 20000 in
theorem lx_X11_list {g : aG} {l : Launch} {d : Nat} (hdd : 6 ≤ d) {t : Nat} {x1 : Int32} {h : aH} (hl : l.stackTraces = false) {h1 : aH} (hT : hK h t = 13) (HF : F_X11_list t x1 h = some (none, h1)) : MX g l yX11_list cX11_list 2 (some .int) d [.ref t, .int x1] h h1 := by
  refine MX.of (lv0 := [(0, .ref t), (1, .int x1)]) (by decide +kernel) (rfl) (Nat.le_of_ble_eq_true rfl) ?_
  unfold F_X11_list at HF
  refine ev_iload_n 1 dX11_list_0 rfl ?_
  by_cases c1 : x1 = 0
  · replace HF := ite_T c1 HF
    refine ev_swT (kk := 0) (tgt := 36) dX11_list_1 c1 (by decide +kernel) (by decide +kernel) ?_
    refine ev_aload_n 0 dX11_list_36 rfl ?_
    refine ev_gI (f := 1208) cl_X11 (k := 8) (by decide) fi_X11_8 rfl fl_X11_60 dX11_list_37 hT ?_
    cases HF
  replace HF := ite_F c1 HF
  by_cases c2 : x1 = 1
  · replace HF := ite_T c2 HF
    refine ev_swT (kk := 1) (tgt := 41) dX11_list_1 c2 (by decide +kernel) (by decide +kernel) ?_
    refine ev_aload_n 0 dX11_list_41 rfl ?_
    replace HF := bind_o HF
    obtain ⟨b3, e4, HF⟩ := HF
    refine ev_gS (f := 1201) cl_X11 (k := 1) (by decide) fi_X11_1 rfl fl_X11_16 dX11_list_42 hT e4 ?_
    replace HF := bind_ck HF
    obtain ⟨c5, HF⟩ := HF
    replace HF := bind_o HF
    obtain ⟨⟨z8, h7⟩, e6, HF⟩ := HF
    replace HF := bd_o (bd_o HF)
    dsimp only at HF
    refine ev_callV (As := []) (R1 := (some (.int z8), h7)) (lk_Jx4a65c_size_8abf5 (d := 0) (Nat.le_refl _) c5 e6) ce_Jx4a65c_size_8abf5 im_Jx4a65c_size_8abf5 sl_Jx4a65c_size_8abf5 ml_X11_78 cl_Jx4a65c c5 dX11_list_45 (by omega) (Nat.le_of_ble_eq_true rfl) rfl rfl ?_
    show EvG _ _ _ _ _ _ _ _ _ _ _ 48 [(0, .ref t), (1, .int x1)] [.int z8] h7
    cases HF
  replace HF := ite_F c2 HF
  by_cases c10 : x1 = 2
  · replace HF := ite_T c10 HF
    refine ev_swT (kk := 2) (tgt := 49) dX11_list_1 c10 (by decide +kernel) (by decide +kernel) ?_
    refine ev_aload_n 0 dX11_list_49 rfl ?_
    replace HF := bind_o HF
    obtain ⟨b11, e12, HF⟩ := HF
    refine ev_gS (f := 1202) cl_X11 (k := 2) (by decide) fi_X11_2 rfl fl_X11_25 dX11_list_50 hT e12 ?_
    replace HF := bind_ck HF
    obtain ⟨c13, HF⟩ := HF
    refine ev_gIN (f := 101) cl_X0 (k := 1) (by decide) fi_X0_1 rfl fl_X11_184 dX11_list_53 c13 ?_
    cases HF
  replace HF := ite_F c10 HF
  by_cases c14 : x1 = 3
  · replace HF := ite_T c14 HF
    refine ev_swT (kk := 3) (tgt := 57) dX11_list_1 c14 (by decide +kernel) (by decide +kernel) ?_
    refine ev_aload_n 0 dX11_list_57 rfl ?_
    replace HF := bind_o HF
    obtain ⟨b15, e16, HF⟩ := HF
    refine ev_gS (f := 1204) cl_X11 (k := 4) (by decide) fi_X11_4 rfl fl_X11_35 dX11_list_58 hT e16 ?_
    replace HF := bind_ck HF
    obtain ⟨c17, HF⟩ := HF
    refine ev_gIN (f := 302) cl_X2 (k := 2) (by decide) fi_X2_2 rfl fl_X11_302 dX11_list_61 c17 ?_
    cases HF
  replace HF := ite_F c14 HF
  by_cases c18 : x1 = 4
  · replace HF := ite_T c18 HF
    refine ev_swT (kk := 4) (tgt := 65) dX11_list_1 c18 (by decide +kernel) (by decide +kernel) ?_
    refine ev_aload_n 0 dX11_list_65 rfl ?_
    replace HF := bind_o HF
    obtain ⟨b19, e20, HF⟩ := HF
    refine ev_gS (f := 1203) cl_X11 (k := 3) (by decide) fi_X11_3 rfl fl_X11_29 dX11_list_66 hT e20 ?_
    replace HF := bind_ck HF
    obtain ⟨c21, HF⟩ := HF
    refine ev_gIN (f := 101) cl_X0 (k := 1) (by decide) fi_X0_1 rfl fl_X11_184 dX11_list_69 c21 ?_
    cases HF
  replace HF := ite_F c18 HF
  refine ev_swTd (ks := [0, 1, 2, 3, 4]) (tgt := 73) dX11_list_1 (by simp only [List.mem_cons, List.not_mem_nil, or_false, forall_eq_or_imp, forall_eq]; exact ⟨c1, c2, c10, c14, c18⟩) (by decide +kernel) (by decide) ?_
  refine ev_iload_n 1 dX11_list_73 rfl ?_
  by_cases c22 : x1 < 0
  · replace HF := ite_T c22 HF
    refine ev_if_ltT (tgt := 87) dX11_list_74 (by decide) c22 ?_
    exact Ev.sub [] rfl (lx_X11_list_87 hdd hl   _ HF)
  · replace HF := ite_F c22 HF
    refine ev_if_ltF (tgt := 87) dX11_list_74 (by decide) c22 ?_
    refine ev_aload_n 0 dX11_list_77 rfl ?_
    refine ev_iload_n 1 dX11_list_78 rfl ?_
    refine ev_iconst (v := 5) dX11_list_79 (by decide) ?_
    refine ev_isub dX11_list_80 ?_
    replace HF := bind_o HF
    obtain ⟨⟨z25, h24⟩, e23, HF⟩ := HF
    replace HF := bd_o (bd_o HF)
    dsimp only at HF
    refine ev_callV (As := [.int (x1 - 5)]) (R1 := (some (.int z25), h24)) (lk_X11_hasSide (d := 0) (Nat.le_refl _) hT e23) ce_X11_hasSide im_X11_hasSide sl_X11_hasSide ml_X11_74 cl_X11 hT dX11_list_81 (by omega) (Nat.le_of_ble_eq_true rfl) rfl rfl ?_
    show EvG _ _ _ _ _ _ _ _ _ _ _ 84 [(0, .ref t), (1, .int x1)] [.int z25] h24
    by_cases c27 : z25 = 0
    · replace HF := ite_T c27 HF
      refine ev_if_neF (tgt := 98) dX11_list_84 (by decide) c27 ?_
      exact Ev.sub [] rfl (lx_X11_list_87 hdd hl   _ HF)
    · replace HF := ite_F c27 HF
      refine ev_if_neT (tgt := 98) dX11_list_84 (by decide) c27 ?_
      refine ev_aload_n 0 dX11_list_98 rfl ?_
      refine ev_iload_n 1 dX11_list_99 rfl ?_
      refine ev_iconst (v := 5) dX11_list_100 (by decide) ?_
      refine ev_isub dX11_list_101 ?_
      replace HF := bind_ck HF
      obtain ⟨c28, HF⟩ := HF
      replace HF := bind_o HF
      obtain ⟨⟨z31, h30⟩, e29, HF⟩ := HF
      replace HF := bd_o (bd_o HF)
      dsimp only at HF
      refine ev_callV (As := [.int (x1 - 5)]) (R1 := (some (.int z31), h30)) (lk_X11_playersOf (d := 1) (Nat.le_refl _) c28 e29) ce_X11_playersOf im_X11_playersOf sl_X11_playersOf ml_X11_99 cl_X11 c28 dX11_list_102 (by omega) (Nat.le_of_ble_eq_true rfl) rfl rfl ?_
      show EvG _ _ _ _ _ _ _ _ _ _ _ 105 [(0, .ref t), (1, .int x1)] [.int z31] h30
      cases HF

set_option maxRecDepth 20000 in
theorem lk_X11_sum_65 {g : aG} {l : Launch} {d : Nat} {h0 : aH} (hdd : 7 ≤ d) {v : Int64} {h1 : aH} : ∀ (n : Nat) (t : Nat) (a2 : Nat) (x3 : Int64) (x5 : Int32) (h : aH), F_X11_sum_65  n t a2 x3 x5 h = some (some v, h1) → Ev g l cX11_sum 6 yX11_sum (some .long) d h0 (some (.long v), h1) 65 [(0, .ref t), (2, .ref a2), (3, .long x3), (5, .int x5)] [] h := by
  intro n
  induction n with
  | zero => intro t a2 x3 x5 h HF; cases HF
  | succ n ih =>
  intro t a2 x3 x5 h HF
  unfold F_X11_sum_65 at HF
  refine ev_iload 3 dX11_sum_65 rfl ?_
  refine ev_aload_n 1 dX11_sum_67 rfl ?_
  replace HF := bind_ck HF
  obtain ⟨c1, HF⟩ := HF
  replace HF := bind_o HF
  obtain ⟨⟨z4, h3⟩, e2, HF⟩ := HF
  replace HF := bd_o (bd_o HF)
  dsimp only at HF
  refine ev_callV (As := []) (R1 := (some (.int z4), h3)) (lk_X3_turnCount (d := 1) (Nat.le_refl _) c1 e2) ce_X3_turnCount im_X3_turnCount sl_X3_turnCount ml_X11_102 cl_X3 c1 dX11_sum_68 (by omega) (Nat.le_of_ble_eq_true rfl) rfl rfl ?_
  show EvG _ _ _ _ _ _ _ _ _ _ _ 71 [(0, .ref t), (2, .ref a2), (3, .long x3), (5, .int x5)] [.int z4, .int x5] h3
  by_cases c6 : z4 ≤ x5
  · replace HF := ite_T c6 HF
    refine ev_icmp_geT (tgt := 89) dX11_sum_71 (by decide) c6 ?_
    refine ev_lload_n 2 dX11_sum_89 rfl ?_
    cases HF
    exact ev_lret dX11_sum_90
  · replace HF := ite_F c6 HF
    refine ev_icmp_geF (tgt := 89) dX11_sum_71 (by decide) c6 ?_
    refine ev_aload_n 0 dX11_sum_74 rfl ?_
    refine ev_lload_n 2 dX11_sum_75 rfl ?_
    refine ev_aload_n 1 dX11_sum_76 rfl ?_
    refine ev_iload 3 dX11_sum_77 rfl ?_
    replace HF := bind_ck HF
    obtain ⟨c7, HF⟩ := HF
    replace HF := bind_o HF
    obtain ⟨⟨z10, h9⟩, e8, HF⟩ := HF
    replace HF := bd_o (bd_o HF)
    dsimp only at HF
    refine ev_callV (As := [.long x3, .ref a2, .int x5]) (R1 := (some (.long z10), h9)) (lk_X11_addTurnFigures (d := 6) (Nat.le_refl _) c7 e8) ce_X11_addTurnFigures im_X11_addTurnFigures sl_X11_addTurnFigures ml_X11_311 cl_X11 c7 dX11_sum_79 (by omega) (Nat.le_of_ble_eq_true rfl) rfl rfl ?_
    show EvG _ _ _ _ _ _ _ _ _ _ _ 82 [(0, .ref t), (2, .ref a2), (3, .long x3), (5, .int x5)] [.long z10] h9
    refine ev_lstore_n (lv' := [(3, .long z10), (0, .ref t), (2, .ref a2), (5, .int x5)]) dX11_sum_82 (by decide) (rfl) ?_
    replace HF := bd_n HF
    obtain ⟨v12, ev12, HF⟩ := HF
    refine ev_iinc (v := v12) (lv' := [(5, .int v12), (3, .long z10), (0, .ref t), (2, .ref a2)]) 3 dX11_sum_83 rfl (by rw [ev12]; rfl) (by decide) (rfl) ?_
    show EvG _ _ _ _ _ _ _ _ _ _ _ 86 _ _ _
    refine ev_goto (tgt := 65) dX11_sum_86 (by decide) ?_
    exact Ev.sub [2, 3, 1, 0] rfl (ih t a2 z10 v12 _ HF)

set_option maxRecDepth 20000 in
theorem lk_X11_sum_32 {g : aG} {l : Launch} {d : Nat} {h0 : aH} (hdd : 7 ≤ d) {v : Int64} {h1 : aH} : ∀ (n : Nat) (t : Nat) (a2 : Nat) (x3 : Int64) (x5 : Int32) (h : aH), F_X11_sum_32  n t a2 x3 x5 h = some (some v, h1) → Ev g l cX11_sum 6 yX11_sum (some .long) d h0 (some (.long v), h1) 32 [(0, .ref t), (2, .ref a2), (3, .long x3), (5, .int x5)] [] h := by
  intro n
  induction n with
  | zero => intro t a2 x3 x5 h HF; cases HF
  | succ n ih =>
  intro t a2 x3 x5 h HF
  unfold F_X11_sum_32 at HF
  refine ev_iload 3 dX11_sum_32 rfl ?_
  refine ev_bipush (v := 15) dX11_sum_34 (by decide) ?_
  by_cases c1 : 15 ≤ x5
  · replace HF := ite_T c1 HF
    refine ev_icmp_geT (tgt := 62) dX11_sum_36 (by decide) c1 ?_
    refine ev_iconst (v := 0) dX11_sum_62 (by decide) ?_
    refine ev_istore (lv' := [(5, .int 0), (0, .ref t), (2, .ref a2), (3, .long x3)]) dX11_sum_63 (by decide) (rfl) ?_
    exact Ev.sub [1, 2, 3, 0] rfl (lk_X11_sum_65 hdd  fu t a2 x3 0 _ HF)
  · replace HF := ite_F c1 HF
    refine ev_icmp_geF (tgt := 62) dX11_sum_36 (by decide) c1 ?_
    refine ev_ldc2 kc_X11_309 dX11_sum_39 ?_
    refine ev_lload_n 2 dX11_sum_42 rfl ?_
    refine ev_lmul dX11_sum_43 ?_
    refine ev_aload_n 0 dX11_sum_44 rfl ?_
    replace HF := bind_ck HF
    obtain ⟨c2, HF⟩ := HF
    replace HF := bind_o HF
    obtain ⟨b3, e4, HF⟩ := HF
    refine ev_gS (f := 1205) cl_X11 (k := 5) (by decide) fi_X11_5 rfl fl_X11_42 dX11_sum_45 c2 e4 ?_
    refine ev_iload 3 dX11_sum_48 rfl ?_
    replace HF := bind_ck HF
    obtain ⟨c5, HF⟩ := HF
    replace HF := bind_o HF
    obtain ⟨⟨z8, h7⟩, e6, HF⟩ := HF
    replace HF := bd_o (bd_o HF)
    dsimp only at HF
    refine ev_callV (As := [.int x5]) (R1 := (some (.int z8), h7)) (lk_X6_figure (d := 4) (Nat.le_refl _) c5 e6) ce_X6_figure im_X6_figure sl_X6_figure ml_X11_231 cl_X6 c5 dX11_sum_50 (by omega) (Nat.le_of_ble_eq_true rfl) rfl rfl ?_
    show EvG _ _ _ _ _ _ _ _ _ _ _ 53 [(0, .ref t), (2, .ref a2), (3, .long x3), (5, .int x5)] [.int z8, .long (31 * x3)] h7
    show EvG _ _ _ _ _ _ _ _ _ _ _ 53 _ _ _
    refine ev_i2l dX11_sum_53 ?_
    refine ev_ladd dX11_sum_54 ?_
    replace HF := bd_n HF
    obtain ⟨v10, ev10, HF⟩ := HF
    refine ev_topJ ev10 ?_
    refine ev_lstore_n (lv' := [(3, .long v10), (0, .ref t), (2, .ref a2), (5, .int x5)]) dX11_sum_55 (by decide) (rfl) ?_
    replace HF := bd_n HF
    obtain ⟨v11, ev11, HF⟩ := HF
    refine ev_iinc (v := v11) (lv' := [(5, .int v11), (3, .long v10), (0, .ref t), (2, .ref a2)]) 3 dX11_sum_56 rfl (by rw [ev11]; rfl) (by decide) (rfl) ?_
    refine ev_goto (tgt := 32) dX11_sum_59 (by decide) ?_
    exact Ev.sub [2, 3, 1, 0] rfl (ih t a2 v10 v11 _ HF)

set_option maxRecDepth 20000 in
theorem lk_X11_sum {g : aG} {l : Launch} {d : Nat} (hdd : 7 ≤ d) {t : Nat} {x1 : Int32} {h : aH} {v : Int64} {h1 : aH} (hT : hK h t = 13) (HF : F_X11_sum t x1 h = some (some v, h1)) : MA g l yX11_sum cX11_sum 6 (some .long) d [.ref t, .int x1] h (some (.long v), h1) := by
  refine MA.of (lv0 := [(0, .ref t), (1, .int x1)]) (by decide +kernel) (rfl) (Nat.le_of_ble_eq_true rfl) ?_
  unfold F_X11_sum at HF
  refine ev_aload_n 0 dX11_sum_0 rfl ?_
  refine ev_iload_n 1 dX11_sum_1 rfl ?_
  replace HF := bind_o HF
  obtain ⟨⟨o3, h2⟩, e1, HF⟩ := HF
  replace HF := bd_o (bd_o HF)
  dsimp only at HF
  refine ev_callV (As := [.int x1]) (R1 := (some (va_rf o3), h2)) (lk_X11_gameAt (d := 3) (Nat.le_refl _) hT e1) ce_X11_gameAt im_X11_gameAt sl_X11_gameAt ml_X11_91 cl_X11 hT dX11_sum_2 (by omega) (Nat.le_of_ble_eq_true rfl) rfl rfl ?_
  show EvG _ _ _ _ _ _ _ _ _ _ _ 5 [(0, .ref t), (1, .int x1)] [va_rf o3] h2
  refine ev_astore_nr (lv' := [(2, va_rf o3), (0, .ref t), (1, .int x1)]) dX11_sum_5 (by decide) (rfl) ?_
  refine ev_aload_nr 0 dX11_sum_6 rfl ?_
  cases o3 with
  | none =>
    refine ev_ifnonnullN dX11_sum_7 ?_
    cases HF
  | some b5 =>
    refine ev_ifnonnullS (tgt := 21) dX11_sum_7 (by decide) ?_
    refine ev_aload_n 1 dX11_sum_21 rfl ?_
    refine ev_iload_n 2 dX11_sum_22 rfl ?_
    refine ev_aload_n 0 dX11_sum_23 rfl ?_
    replace HF := bind_ck HF
    obtain ⟨c6, HF⟩ := HF
    replace HF := bind_o HF
    obtain ⟨h8, e7, HF⟩ := HF
    refine ev_callV (As := [.int x1, va_rf (some b5)]) (R1 := (none, h8)) (lk_X11_playOver (d := 6) (Nat.le_refl _) c6 e7) ce_X11_playOver im_X11_playOver sl_X11_playOver ml_X11_115 cl_X11 c6 dX11_sum_24 (by omega) (Nat.le_of_ble_eq_true rfl) rfl rfl ?_
    show EvG _ _ _ _ _ _ _ _ _ _ _ 27 [(2, .ref b5), (0, .ref t), (1, .int x1)] [] h8
    refine ev_lconst (v := 0) dX11_sum_27 (by decide) ?_
    refine ev_lstore_n (lv' := [(3, .long 0), (2, .ref b5), (0, .ref t), (1, .int x1)]) dX11_sum_28 (by decide) (rfl) ?_
    refine ev_iconst (v := 0) dX11_sum_29 (by decide) ?_
    show EvG _ _ _ _ _ _ _ _ _ _ _ 30 _ _ _
    refine ev_istore (lv' := [(5, .int 0), (3, .long 0), (2, .ref b5), (0, .ref t), (1, .int x1)]) dX11_sum_30 (by decide) (rfl) ?_
    exact Ev.sub [3, 2, 1, 0] rfl (lk_X11_sum_32 hdd  fu t b5 0 0 _ HF)

set_option maxRecDepth 20000 in
theorem lx_X11_sum_65 {g : aG} {l : Launch} {d : Nat} {h0 : aH} (hdd : 7 ≤ d) (hl : l.stackTraces = false) {h1 : aH} : ∀ (n : Nat) (t : Nat) (a2 : Nat) (x3 : Int64) (x5 : Int32) (h : aH), F_X11_sum_65  n t a2 x3 x5 h = some (none, h1) → EvG g l cX11_sum 6 yX11_sum (some .long) d h0 (hz h1 + 1) (hs h1 + 6) (ZX g h0 h1) 65 [(0, .ref t), (2, .ref a2), (3, .long x3), (5, .int x5)] [] h := by
  intro n
  induction n with
  | zero => intro t a2 x3 x5 h HF; cases HF
  | succ n ih =>
  intro t a2 x3 x5 h HF
  unfold F_X11_sum_65 at HF
  refine ev_iload 3 dX11_sum_65 rfl ?_
  refine ev_aload_n 1 dX11_sum_67 rfl ?_
  replace HF := bind_ck HF
  obtain ⟨c1, HF⟩ := HF
  replace HF := bind_o HF
  obtain ⟨⟨z4, h3⟩, e2, HF⟩ := HF
  replace HF := bd_o (bd_o HF)
  dsimp only at HF
  refine ev_callV (As := []) (R1 := (some (.int z4), h3)) (lk_X3_turnCount (d := 1) (Nat.le_refl _) c1 e2) ce_X3_turnCount im_X3_turnCount sl_X3_turnCount ml_X11_102 cl_X3 c1 dX11_sum_68 (by omega) (Nat.le_of_ble_eq_true rfl) rfl rfl ?_
  show EvG _ _ _ _ _ _ _ _ _ _ _ 71 [(0, .ref t), (2, .ref a2), (3, .long x3), (5, .int x5)] [.int z4, .int x5] h3
  by_cases c6 : z4 ≤ x5
  · replace HF := ite_T c6 HF
    refine ev_icmp_geT (tgt := 89) dX11_sum_71 (by decide) c6 ?_
    refine ev_lload_n 2 dX11_sum_89 rfl ?_
    cases HF
  · replace HF := ite_F c6 HF
    refine ev_icmp_geF (tgt := 89) dX11_sum_71 (by decide) c6 ?_
    refine ev_aload_n 0 dX11_sum_74 rfl ?_
    refine ev_lload_n 2 dX11_sum_75 rfl ?_
    refine ev_aload_n 1 dX11_sum_76 rfl ?_
    refine ev_iload 3 dX11_sum_77 rfl ?_
    replace HF := bind_ck HF
    obtain ⟨c7, HF⟩ := HF
    replace HF := bind_o HF
    obtain ⟨⟨z10, h9⟩, e8, HF⟩ := HF
    replace HF := bd_o (bd_o HF)
    dsimp only at HF
    refine ev_callV (As := [.long x3, .ref a2, .int x5]) (R1 := (some (.long z10), h9)) (lk_X11_addTurnFigures (d := 6) (Nat.le_refl _) c7 e8) ce_X11_addTurnFigures im_X11_addTurnFigures sl_X11_addTurnFigures ml_X11_311 cl_X11 c7 dX11_sum_79 (by omega) (Nat.le_of_ble_eq_true rfl) rfl rfl ?_
    show EvG _ _ _ _ _ _ _ _ _ _ _ 82 [(0, .ref t), (2, .ref a2), (3, .long x3), (5, .int x5)] [.long z10] h9
    refine ev_lstore_n (lv' := [(3, .long z10), (0, .ref t), (2, .ref a2), (5, .int x5)]) dX11_sum_82 (by decide) (rfl) ?_
    replace HF := bd_n HF
    obtain ⟨v12, ev12, HF⟩ := HF
    refine ev_iinc (v := v12) (lv' := [(5, .int v12), (3, .long z10), (0, .ref t), (2, .ref a2)]) 3 dX11_sum_83 rfl (by rw [ev12]; rfl) (by decide) (rfl) ?_
    show EvG _ _ _ _ _ _ _ _ _ _ _ 86 _ _ _
    refine ev_goto (tgt := 65) dX11_sum_86 (by decide) ?_
    exact Ev.sub [2, 3, 1, 0] rfl (ih t a2 z10 v12 _ HF)

set_option maxRecDepth 20000 in
theorem lx_X11_sum_32 {g : aG} {l : Launch} {d : Nat} {h0 : aH} (hdd : 7 ≤ d) (hl : l.stackTraces = false) {h1 : aH} : ∀ (n : Nat) (t : Nat) (a2 : Nat) (x3 : Int64) (x5 : Int32) (h : aH), F_X11_sum_32  n t a2 x3 x5 h = some (none, h1) → EvG g l cX11_sum 6 yX11_sum (some .long) d h0 (hz h1 + 1) (hs h1 + 6) (ZX g h0 h1) 32 [(0, .ref t), (2, .ref a2), (3, .long x3), (5, .int x5)] [] h := by
  intro n
  induction n with
  | zero => intro t a2 x3 x5 h HF; cases HF
  | succ n ih =>
  intro t a2 x3 x5 h HF
  unfold F_X11_sum_32 at HF
  refine ev_iload 3 dX11_sum_32 rfl ?_
  refine ev_bipush (v := 15) dX11_sum_34 (by decide) ?_
  by_cases c1 : 15 ≤ x5
  · replace HF := ite_T c1 HF
    refine ev_icmp_geT (tgt := 62) dX11_sum_36 (by decide) c1 ?_
    refine ev_iconst (v := 0) dX11_sum_62 (by decide) ?_
    refine ev_istore (lv' := [(5, .int 0), (0, .ref t), (2, .ref a2), (3, .long x3)]) dX11_sum_63 (by decide) (rfl) ?_
    exact Ev.sub [1, 2, 3, 0] rfl (lx_X11_sum_65 hdd hl  fu t a2 x3 0 _ HF)
  · replace HF := ite_F c1 HF
    refine ev_icmp_geF (tgt := 62) dX11_sum_36 (by decide) c1 ?_
    refine ev_ldc2 kc_X11_309 dX11_sum_39 ?_
    refine ev_lload_n 2 dX11_sum_42 rfl ?_
    refine ev_lmul dX11_sum_43 ?_
    refine ev_aload_n 0 dX11_sum_44 rfl ?_
    replace HF := bind_ck HF
    obtain ⟨c2, HF⟩ := HF
    replace HF := bind_o HF
    obtain ⟨b3, e4, HF⟩ := HF
    refine ev_gS (f := 1205) cl_X11 (k := 5) (by decide) fi_X11_5 rfl fl_X11_42 dX11_sum_45 c2 e4 ?_
    refine ev_iload 3 dX11_sum_48 rfl ?_
    replace HF := bind_ck HF
    obtain ⟨c5, HF⟩ := HF
    replace HF := bind_o HF
    obtain ⟨⟨z8, h7⟩, e6, HF⟩ := HF
    replace HF := bd_o (bd_o HF)
    dsimp only at HF
    refine ev_callV (As := [.int x5]) (R1 := (some (.int z8), h7)) (lk_X6_figure (d := 4) (Nat.le_refl _) c5 e6) ce_X6_figure im_X6_figure sl_X6_figure ml_X11_231 cl_X6 c5 dX11_sum_50 (by omega) (Nat.le_of_ble_eq_true rfl) rfl rfl ?_
    show EvG _ _ _ _ _ _ _ _ _ _ _ 53 [(0, .ref t), (2, .ref a2), (3, .long x3), (5, .int x5)] [.int z8, .long (31 * x3)] h7
    show EvG _ _ _ _ _ _ _ _ _ _ _ 53 _ _ _
    refine ev_i2l dX11_sum_53 ?_
    refine ev_ladd dX11_sum_54 ?_
    replace HF := bd_n HF
    obtain ⟨v10, ev10, HF⟩ := HF
    refine ev_topJ ev10 ?_
    refine ev_lstore_n (lv' := [(3, .long v10), (0, .ref t), (2, .ref a2), (5, .int x5)]) dX11_sum_55 (by decide) (rfl) ?_
    replace HF := bd_n HF
    obtain ⟨v11, ev11, HF⟩ := HF
    refine ev_iinc (v := v11) (lv' := [(5, .int v11), (3, .long v10), (0, .ref t), (2, .ref a2)]) 3 dX11_sum_56 rfl (by rw [ev11]; rfl) (by decide) (rfl) ?_
    refine ev_goto (tgt := 32) dX11_sum_59 (by decide) ?_
    exact Ev.sub [2, 3, 1, 0] rfl (ih t a2 v10 v11 _ HF)

set_option maxRecDepth 20000 in
theorem lx_X11_sum {g : aG} {l : Launch} {d : Nat} (hdd : 7 ≤ d) {t : Nat} {x1 : Int32} {h : aH} (hl : l.stackTraces = false) {h1 : aH} (hT : hK h t = 13) (HF : F_X11_sum t x1 h = some (none, h1)) : MX g l yX11_sum cX11_sum 6 (some .long) d [.ref t, .int x1] h h1 := by
  refine MX.of (lv0 := [(0, .ref t), (1, .int x1)]) (by decide +kernel) (rfl) (Nat.le_of_ble_eq_true rfl) ?_
  unfold F_X11_sum at HF
  refine ev_aload_n 0 dX11_sum_0 rfl ?_
  refine ev_iload_n 1 dX11_sum_1 rfl ?_
  replace HF := bind_o HF
  obtain ⟨⟨o3, h2⟩, e1, HF⟩ := HF
  replace HF := bd_o (bd_o HF)
  dsimp only at HF
  refine ev_callV (As := [.int x1]) (R1 := (some (va_rf o3), h2)) (lk_X11_gameAt (d := 3) (Nat.le_refl _) hT e1) ce_X11_gameAt im_X11_gameAt sl_X11_gameAt ml_X11_91 cl_X11 hT dX11_sum_2 (by omega) (Nat.le_of_ble_eq_true rfl) rfl rfl ?_
  show EvG _ _ _ _ _ _ _ _ _ _ _ 5 [(0, .ref t), (1, .int x1)] [va_rf o3] h2
  refine ev_astore_nr (lv' := [(2, va_rf o3), (0, .ref t), (1, .int x1)]) dX11_sum_5 (by decide) (rfl) ?_
  refine ev_aload_nr 0 dX11_sum_6 rfl ?_
  cases o3 with
  | none =>
    refine ev_ifnonnullN dX11_sum_7 ?_
    cases HF
    exact ev_throwW (is := 307) (text := "no such game") hl rfl ce_X11_sum.1 (by decide +kernel) kl_X11_224 in_nse (by omega) dX11_sum_10 dX11_sum_13 dX11_sum_14 dX11_sum_17 dX11_sum_20
  | some b5 =>
    refine ev_ifnonnullS (tgt := 21) dX11_sum_7 (by decide) ?_
    refine ev_aload_n 1 dX11_sum_21 rfl ?_
    refine ev_iload_n 2 dX11_sum_22 rfl ?_
    refine ev_aload_n 0 dX11_sum_23 rfl ?_
    replace HF := bind_ck HF
    obtain ⟨c6, HF⟩ := HF
    replace HF := bind_o HF
    obtain ⟨h8, e7, HF⟩ := HF
    refine ev_callV (As := [.int x1, va_rf (some b5)]) (R1 := (none, h8)) (lk_X11_playOver (d := 6) (Nat.le_refl _) c6 e7) ce_X11_playOver im_X11_playOver sl_X11_playOver ml_X11_115 cl_X11 c6 dX11_sum_24 (by omega) (Nat.le_of_ble_eq_true rfl) rfl rfl ?_
    show EvG _ _ _ _ _ _ _ _ _ _ _ 27 [(2, .ref b5), (0, .ref t), (1, .int x1)] [] h8
    refine ev_lconst (v := 0) dX11_sum_27 (by decide) ?_
    refine ev_lstore_n (lv' := [(3, .long 0), (2, .ref b5), (0, .ref t), (1, .int x1)]) dX11_sum_28 (by decide) (rfl) ?_
    refine ev_iconst (v := 0) dX11_sum_29 (by decide) ?_
    show EvG _ _ _ _ _ _ _ _ _ _ _ 30 _ _ _
    refine ev_istore (lv' := [(5, .int 0), (3, .long 0), (2, .ref b5), (0, .ref t), (1, .int x1)]) dX11_sum_30 (by decide) (rfl) ?_
    exact Ev.sub [3, 2, 1, 0] rfl (lx_X11_sum_32 hdd hl  fu t b5 0 0 _ HF)

