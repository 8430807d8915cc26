def F_X4_has (t : Nat) (x1 : Int32) (x2 : Int32) (h : aH) : Option (Int32 × aH) :=
  if x1 < 0 then
    some (0, h)
  else
    if hF h 500 t ≤ x1 then
      some (0, h)
    else
      if x2 < 0 then
        some (0, h)
      else
        if hF h 501 t ≤ x2 then
          some (0, h)
        else
          some (1, h)

def F_X4_at (t : Nat) (x1 : Int32) (x2 : Int32) (h : aH) : Option (Int32 × aH) :=
  (F_X4_has t x1 x2 h).bind fun q4 =>
  bd q4.1 fun z3 =>
  bd q4.2 fun h2 =>
  if z3 = 0 then
    some (0, h2)
  else
    (ck (hK h2 t = 6)).bind fun _ =>
    (hG h2 502 t).bind fun b7 =>
    (ck (hK h2 b7 = 21 ∧ inR ((x1 * (hF h2 501 t)) + x2) (hN h2 b7))).bind fun _ =>
    some (hI h2 b7 ((x1 * (hF h2 501 t)) + x2).toNatClampNeg, h2)

def F_X4_set (t : Nat) (x1 : Int32) (x2 : Int32) (x3 : Int32) (h : aH) : Option (aH) :=
  (F_X4_has t x1 x2 h).bind fun q4 =>
  bd q4.1 fun z3 =>
  bd q4.2 fun h2 =>
  if z3 = 0 then
    some h2
  else
    (ck (hK h2 t = 6)).bind fun _ =>
    (hG h2 502 t).bind fun b7 =>
    (ck (hK h2 b7 = 21 ∧ inR ((x1 * (hF h2 501 t)) + x2) (hN h2 b7))).bind fun _ =>
    bd (sI h2 b7 ((x1 * (hF h2 501 t)) + x2).toNatClampNeg x3) fun h10 =>
    some h10

def F_X4_add (t : Nat) (x1 : Int32) (x2 : Int32) (x3 : Int32) (h : aH) : Option (aH) :=
  (F_X4_has t x1 x2 h).bind fun q4 =>
  bd q4.1 fun z3 =>
  bd q4.2 fun h2 =>
  if z3 = 0 then
    some h2
  else
    (ck (hK h2 t = 6)).bind fun _ =>
    (hG h2 502 t).bind fun b7 =>
    (ck (hK h2 b7 = 21 ∧ inR ((x1 * (hF h2 501 t)) + x2) (hN h2 b7))).bind fun _ =>
    bd (sI h2 b7 ((x1 * (hF h2 501 t)) + x2).toNatClampNeg ((hI h2 b7 ((x1 * (hF h2 501 t)) + x2).toNatClampNeg) + x3)) fun h10 =>
    some h10

def F_X4_fill_2 : Nat → Nat → Int32 → Int32 → aH → Option (aH)
  | 0, _, _, _, _ => none
  | n + 1, t, x1, x2, h =>
  (ck (hK h t = 6)).bind fun _ =>
  (hG h 502 t).bind fun b2 =>
  (ck (hK h b2 = 21)).bind fun _ =>
  if Int32.ofNat (hN h b2) ≤ x2 then
    some h
  else
    (hG h 502 t).bind fun b6 =>
    (ck (hK h b6 = 21 ∧ inR x2 (hN h b6))).bind fun _ =>
    bd (sI h b6 x2.toNatClampNeg x1) fun h9 =>
    bd (x2 + 1) fun v12 =>
    F_X4_fill_2 n t x1 v12 h9

def F_X4_fill (t : Nat) (x1 : Int32) (h : aH) : Option (aH) :=
  F_X4_fill_2 fu t x1 0 h

def F_X4_fillRow_2 : Nat → Nat → Int32 → Int32 → Int32 → aH → Option (aH)
  | 0, _, _, _, _, _ => none
  | n + 1, t, x1, x2, x3, h =>
  (ck (hK h t = 6)).bind fun _ =>
  if hF h 501 t ≤ x3 then
    some h
  else
    (F_X4_set t x1 x3 x2 h).bind fun h4 =>
    bd (x3 + 1) fun v6 =>
    F_X4_fillRow_2 n t x1 x2 v6 h4

def F_X4_fillRow (t : Nat) (x1 : Int32) (x2 : Int32) (h : aH) : Option (aH) :=
  F_X4_fillRow_2 fu t x1 x2 0 h

def F_X4_sumOf_5 : Nat → Nat → Int32 → Int32 → Int32 → Int32 → aH → Option (Int32 × aH)
  | 0, _, _, _, _, _, _ => none
  | n + 1, t, x1, x2, x3, x4, h =>
  if x2 ≤ x4 then
    some (x3, h)
  else
    (ck (hK h t = 6)).bind fun _ =>
    if hF h 500 t ≤ x4 then
      some (x3, h)
    else
      (F_X4_at t x4 x1 h).bind fun q7 =>
      bd q7.1 fun z6 =>
      bd q7.2 fun h5 =>
      bd (x3 + z6) fun v8 =>
      bd (x4 + 1) fun v9 =>
      F_X4_sumOf_5 n t x1 x2 v8 v9 h5

def F_X4_sumOf (t : Nat) (x1 : Int32) (x2 : Int32) (h : aH) : Option (Int32 × aH) :=
  F_X4_sumOf_5 fu t x1 x2 0 0 h

def F_X4_howMany_31 (k5 : Nat → Int32 → Int32 → Int32 → Int32 → aH → Option (Int32 × aH)) (t : Nat) (x1 : Int32) (x2 : Int32) (x4 : Int32) (y0 : Int32) (y1 : Int32) (h : aH) : Option (Int32 × aH) :=
  bd (y0 + y1) fun v1 =>
  bd (x4 + 1) fun v2 =>
  k5 t x1 x2 v1 v2 h

def F_X4_howMany_5 : Nat → Nat → Int32 → Int32 → Int32 → Int32 → aH → Option (Int32 × aH)
  | 0, _, _, _, _, _, _ => none
  | n + 1, t, x1, x2, x3, x4, h =>
  (ck (hK h t = 6)).bind fun _ =>
  if hF h 500 t ≤ x4 then
    some (x3, h)
  else
    (F_X4_at t x4 x1 h).bind fun q6 =>
    bd q6.1 fun z5 =>
    bd q6.2 fun h4 =>
    if z5 = x2 then
      F_X4_howMany_31 (F_X4_howMany_5 n) t x1 x2 x4 x3 1 h4
    else
      F_X4_howMany_31 (F_X4_howMany_5 n) t x1 x2 x4 x3 0 h4

def F_X4_howMany (t : Nat) (x1 : Int32) (x2 : Int32) (h : aH) : Option (Int32 × aH) :=
  F_X4_howMany_5 fu t x1 x2 0 0 h

def F_X0_add (t : Nat) (x1 : Int32) (h : aH) : Option (aH) :=
  (hG h 100 t).bind fun b1 =>
  (ck (hK h b1 = 21)).bind fun _ =>
  if Int32.ofNat (hN h b1) ≤ hF h 101 t then
    some h
  else
    (hG h 100 t).bind fun b5 =>
    (ck (hK h b5 = 21 ∧ inR (hF h 101 t) (hN h b5))).bind fun _ =>
    bd (sI h b5 (hF h 101 t).toNatClampNeg (x1 &&& 255)) fun h8 =>
    bd (sF h8 101 t ((hF h8 101 t) + 1)) fun h11 =>
    some h11

def F_X0_addNumber (t : Nat) (x1 : Int32) (h : aH) : Option (aH) :=
  (F_X0_add t (x1 >>> (24 &&& 31)) h).bind fun h2 =>
  (ck (hK h2 t = 2)).bind fun _ =>
  (F_X0_add t (x1 >>> (16 &&& 31)) h2).bind fun h6 =>
  (ck (hK h6 t = 2)).bind fun _ =>
  (F_X0_add t (x1 >>> (8 &&& 31)) h6).bind fun h10 =>
  (ck (hK h10 t = 2)).bind fun _ =>
  (F_X0_add t x1 h10).bind fun h14 =>
  some h14

def F_X0_at (t : Nat) (x1 : Int32) (h : aH) : Option (Int32 × aH) :=
  if x1 < 0 then
    some ((-1), h)
  else
    if hF h 101 t ≤ x1 then
      some ((-1), h)
    else
      (hG h 100 t).bind fun b3 =>
      (ck (hK h b3 = 21 ∧ inR x1 (hN h b3))).bind fun _ =>
      some (hI h b3 x1.toNatClampNeg, h)

def F_X0_clear (t : Nat) (h : aH) : Option (aH) :=
  bd (sF h 101 t 0) fun h1 =>
  some h1

theorem lk_X4_has {g : aG} {l : Launch} {d : Nat} (hdd : 0 ≤ d) {t : Nat} {x1 : Int32} {x2 : Int32} {h : aH} {r : Int32 × aH} (hT : hK h t = 6) (HF : F_X4_has t x1 x2 h = some r) : MA g l yX4_has cX4_has 3 (some .boolean) d [.ref t, .int x1, .int x2] h (some (.int r.1), r.2) := by
  refine MA.of (lv0 := [(0, .ref t), (1, .int x1), (2, .int x2)]) (by decide +kernel) (rfl) (Nat.le_of_ble_eq_true rfl) ?_
  unfold F_X4_has at HF
  refine ev_iload_n 1 dX4_has_0 rfl ?_
  by_cases c1 : x1 < 0
  · replace HF := ite_T c1 HF
    refine ev_if_ltT (tgt := 28) dX4_has_1 (by decide) c1 ?_
    refine ev_iconst (v := 0) dX4_has_28 (by decide) ?_
    obtain rfl := Option.some.inj HF
    exact ev_zret (v := 0) narrow_b0 dX4_has_29
  · replace HF := ite_F c1 HF
    refine ev_if_ltF (tgt := 28) dX4_has_1 (by decide) c1 ?_
    refine ev_iload_n 1 dX4_has_4 rfl ?_
    refine ev_aload_n 0 dX4_has_5 rfl ?_
    refine ev_gI (f := 500) cl_X4 (k := 0) (by decide) fi_X4_0 rfl fl_X4_13 dX4_has_6 hT ?_
    by_cases c2 : hF h 500 t ≤ x1
    · replace HF := ite_T c2 HF
      refine ev_icmp_geT (tgt := 28) dX4_has_9 (by decide) c2 ?_
      refine ev_iconst (v := 0) dX4_has_28 (by decide) ?_
      obtain rfl := Option.some.inj HF
      exact ev_zret (v := 0) narrow_b0 dX4_has_29
    · replace HF := ite_F c2 HF
      refine ev_icmp_geF (tgt := 28) dX4_has_9 (by decide) c2 ?_
      refine ev_iload_n 2 dX4_has_12 rfl ?_
      by_cases c3 : x2 < 0
      · replace HF := ite_T c3 HF
        refine ev_if_ltT (tgt := 28) dX4_has_13 (by decide) c3 ?_
        refine ev_iconst (v := 0) dX4_has_28 (by decide) ?_
        obtain rfl := Option.some.inj HF
        exact ev_zret (v := 0) narrow_b0 dX4_has_29
      · replace HF := ite_F c3 HF
        refine ev_if_ltF (tgt := 28) dX4_has_13 (by decide) c3 ?_
        refine ev_iload_n 2 dX4_has_16 rfl ?_
        refine ev_aload_n 0 dX4_has_17 rfl ?_
        refine ev_gI (f := 501) cl_X4 (k := 1) (by decide) fi_X4_1 rfl fl_X4_19 dX4_has_18 hT ?_
        by_cases c4 : hF h 501 t ≤ x2
        · replace HF := ite_T c4 HF
          refine ev_icmp_geT (tgt := 28) dX4_has_21 (by decide) c4 ?_
          refine ev_iconst (v := 0) dX4_has_28 (by decide) ?_
          obtain rfl := Option.some.inj HF
          exact ev_zret (v := 0) narrow_b0 dX4_has_29
        · replace HF := ite_F c4 HF
          refine ev_icmp_geF (tgt := 28) dX4_has_21 (by decide) c4 ?_
          refine ev_iconst (v := 1) dX4_has_24 (by decide) ?_
          refine ev_goto (tgt := 29) dX4_has_25 (by decide) ?_
          obtain rfl := Option.some.inj HF
          exact ev_zret (v := 1) narrow_b1 dX4_has_29

theorem lk_X4_at {g : aG} {l : Launch} {d : Nat} (hdd : 1 ≤ d) {t : Nat} {x1 : Int32} {x2 : Int32} {h : aH} {r : Int32 × aH} (hT : hK h t = 6) (HF : F_X4_at t x1 x2 h = some r) : MA g l yX4_at cX4_at 3 (some .int) d [.ref t, .int x1, .int x2] h (some (.int r.1), r.2) := by
  refine MA.of (lv0 := [(0, .ref t), (1, .int x1), (2, .int x2)]) (by decide +kernel) (rfl) (Nat.le_of_ble_eq_true rfl) ?_
  unfold F_X4_at at HF
  refine ev_aload_n 0 dX4_at_0 rfl ?_
  refine ev_iload_n 1 dX4_at_1 rfl ?_
  refine ev_iload_n 2 dX4_at_2 rfl ?_
  replace HF := bind_o HF
  obtain ⟨⟨z3, h2⟩, e1, HF⟩ := HF
  replace HF := bd_o (bd_o HF)
  dsimp only at HF
  refine ev_callV (As := [.int x1, .int x2]) (R1 := (some (.int z3), h2)) (lk_X4_has (d := 0) (Nat.le_refl _) hT e1) ce_X4_has im_X4_has sl_X4_has ml_X4_26 cl_X4 hT dX4_at_3 (by omega) (Nat.le_of_ble_eq_true rfl) rfl rfl ?_
  show Ev _ _ _ _ _ _ _ _ _ 6 [(0, .ref t), (1, .int x1), (2, .int x2)] [.int z3] h2
  by_cases c5 : z3 = 0
  · replace HF := ite_T c5 HF
    refine ev_if_eqT (tgt := 25) dX4_at_6 (by decide) c5 ?_
    refine ev_iconst (v := 0) dX4_at_25 (by decide) ?_
    obtain rfl := Option.some.inj HF
    exact ev_iret dX4_at_26
  · replace HF := ite_F c5 HF
    refine ev_if_eqF (tgt := 25) dX4_at_6 (by decide) c5 ?_
    refine ev_aload_n 0 dX4_at_9 rfl ?_
    replace HF := bind_ck HF
    obtain ⟨c6, HF⟩ := HF
    replace HF := bind_o HF
    obtain ⟨b7, e8, HF⟩ := HF
    refine ev_gS (f := 502) cl_X4 (k := 2) (by decide) fi_X4_2 rfl fl_X4_22 dX4_at_10 c6 e8 ?_
    refine ev_iload_n 1 dX4_at_13 rfl ?_
    refine ev_aload_n 0 dX4_at_14 rfl ?_
    refine ev_gI (f := 501) cl_X4 (k := 1) (by decide) fi_X4_1 rfl fl_X4_19 dX4_at_15 c6 ?_
    refine ev_imul dX4_at_18 ?_
    refine ev_iload_n 2 dX4_at_19 rfl ?_
    show Ev _ _ _ _ _ _ _ _ _ 20 _ _ _
    refine ev_iadd dX4_at_20 ?_
    replace HF := bind_ck HF
    obtain ⟨c9, HF⟩ := HF
    refine ev_iald dX4_at_21 c9.1 c9.2 ?_
    refine ev_goto (tgt := 26) dX4_at_22 (by decide) ?_
    obtain rfl := Option.some.inj HF
    exact ev_iret dX4_at_26

theorem lk_X4_set {g : aG} {l : Launch} {d : Nat} (hdd : 1 ≤ d) {t : Nat} {x1 : Int32} {x2 : Int32} {x3 : Int32} {h : aH} {r : aH} (hT : hK h t = 6) (HF : F_X4_set t x1 x2 x3 h = some r) : MA g l yX4_set cX4_set 4 (none) d [.ref t, .int x1, .int x2, .int x3] h (none, r) := by
  refine MA.of (lv0 := [(0, .ref t), (1, .int x1), (2, .int x2), (3, .int x3)]) (by decide +kernel) (rfl) (Nat.le_of_ble_eq_true rfl) ?_
  unfold F_X4_set at HF
  refine ev_aload_n 0 dX4_set_0 rfl ?_
  refine ev_iload_n 1 dX4_set_1 rfl ?_
  refine ev_iload_n 2 dX4_set_2 rfl ?_
  replace HF := bind_o HF
  obtain ⟨⟨z3, h2⟩, e1, HF⟩ := HF
  replace HF := bd_o (bd_o HF)
  dsimp only at HF
  refine ev_callV (As := [.int x1, .int x2]) (R1 := (some (.int z3), h2)) (lk_X4_has (d := 0) (Nat.le_refl _) hT e1) ce_X4_has im_X4_has sl_X4_has ml_X4_26 cl_X4 hT dX4_set_3 (by omega) (Nat.le_of_ble_eq_true rfl) rfl rfl ?_
  show Ev _ _ _ _ _ _ _ _ _ 6 [(0, .ref t), (1, .int x1), (2, .int x2), (3, .int x3)] [.int z3] h2
  by_cases c5 : z3 = 0
  · replace HF := ite_T c5 HF
    refine ev_if_eqT (tgt := 23) dX4_set_6 (by decide) c5 ?_
    obtain rfl := Option.some.inj HF
    exact ev_vret dX4_set_23
  · replace HF := ite_F c5 HF
    refine ev_if_eqF (tgt := 23) dX4_set_6 (by decide) c5 ?_
    refine ev_aload_n 0 dX4_set_9 rfl ?_
    replace HF := bind_ck HF
    obtain ⟨c6, HF⟩ := HF
    replace HF := bind_o HF
    obtain ⟨b7, e8, HF⟩ := HF
    refine ev_gS (f := 502) cl_X4 (k := 2) (by decide) fi_X4_2 rfl fl_X4_22 dX4_set_10 c6 e8 ?_
    refine ev_iload_n 1 dX4_set_13 rfl ?_
    refine ev_aload_n 0 dX4_set_14 rfl ?_
    refine ev_gI (f := 501) cl_X4 (k := 1) (by decide) fi_X4_1 rfl fl_X4_19 dX4_set_15 c6 ?_
    refine ev_imul dX4_set_18 ?_
    refine ev_iload_n 2 dX4_set_19 rfl ?_
    show Ev _ _ _ _ _ _ _ _ _ 20 _ _ _
    refine ev_iadd dX4_set_20 ?_
    refine ev_iload_n 3 dX4_set_21 rfl ?_
    replace HF := bind_ck HF
    obtain ⟨c9, HF⟩ := HF
    refine ev_iast dX4_set_22 c9.1 c9.2 ?_
    have c11 : hK (sI h2 b7 ((x1 * (hF h2 501 t)) + x2).toNatClampNeg x3) t = 6 := c6
    replace HF := bd_o HF
    revert c11 HF
    generalize sI h2 b7 ((x1 * (hF h2 501 t)) + x2).toNatClampNeg x3 = h10
    intro c11 HF
    obtain rfl := Option.some.inj HF
    exact ev_vret dX4_set_23

theorem lk_X4_add {g : aG} {l : Launch} {d : Nat} (hdd : 1 ≤ d) {t : Nat} {x1 : Int32} {x2 : Int32} {x3 : Int32} {h : aH} {r : aH} (hT : hK h t = 6) (HF : F_X4_add t x1 x2 x3 h = some r) : MA g l yX4_add cX4_add 4 (none) d [.ref t, .int x1, .int x2, .int x3] h (none, r) := by
  refine MA.of (lv0 := [(0, .ref t), (1, .int x1), (2, .int x2), (3, .int x3)]) (by decide +kernel) (rfl) (Nat.le_of_ble_eq_true rfl) ?_
  unfold F_X4_add at HF
  refine ev_aload_n 0 dX4_add_0 rfl ?_
  refine ev_iload_n 1 dX4_add_1 rfl ?_
  refine ev_iload_n 2 dX4_add_2 rfl ?_
  replace HF := bind_o HF
  obtain ⟨⟨z3, h2⟩, e1, HF⟩ := HF
  replace HF := bd_o (bd_o HF)
  dsimp only at HF
  refine ev_callV (As := [.int x1, .int x2]) (R1 := (some (.int z3), h2)) (lk_X4_has (d := 0) (Nat.le_refl _) hT e1) ce_X4_has im_X4_has sl_X4_has ml_X4_26 cl_X4 hT dX4_add_3 (by omega) (Nat.le_of_ble_eq_true rfl) rfl rfl ?_
  show Ev _ _ _ _ _ _ _ _ _ 6 [(0, .ref t), (1, .int x1), (2, .int x2), (3, .int x3)] [.int z3] h2
  by_cases c5 : z3 = 0
  · replace HF := ite_T c5 HF
    refine ev_if_eqT (tgt := 26) dX4_add_6 (by decide) c5 ?_
    obtain rfl := Option.some.inj HF
    exact ev_vret dX4_add_26
  · replace HF := ite_F c5 HF
    refine ev_if_eqF (tgt := 26) dX4_add_6 (by decide) c5 ?_
    refine ev_aload_n 0 dX4_add_9 rfl ?_
    replace HF := bind_ck HF
    obtain ⟨c6, HF⟩ := HF
    replace HF := bind_o HF
    obtain ⟨b7, e8, HF⟩ := HF
    refine ev_gS (f := 502) cl_X4 (k := 2) (by decide) fi_X4_2 rfl fl_X4_22 dX4_add_10 c6 e8 ?_
    refine ev_iload_n 1 dX4_add_13 rfl ?_
    refine ev_aload_n 0 dX4_add_14 rfl ?_
    refine ev_gI (f := 501) cl_X4 (k := 1) (by decide) fi_X4_1 rfl fl_X4_19 dX4_add_15 c6 ?_
    refine ev_imul dX4_add_18 ?_
    refine ev_iload_n 2 dX4_add_19 rfl ?_
    show Ev _ _ _ _ _ _ _ _ _ 20 _ _ _
    refine ev_iadd dX4_add_20 ?_
    refine ev_dup2 dX4_add_21 rfl rfl ?_
    replace HF := bind_ck HF
    obtain ⟨c9, HF⟩ := HF
    refine ev_iald dX4_add_22 c9.1 c9.2 ?_
    refine ev_iload_n 3 dX4_add_23 rfl ?_
    refine ev_iadd dX4_add_24 ?_
    refine ev_iast dX4_add_25 c9.1 c9.2 ?_
    have c11 : hK (sI h2 b7 ((x1 * (hF h2 501 t)) + x2).toNatClampNeg ((hI h2 b7 ((x1 * (hF h2 501 t)) + x2).toNatClampNeg) + x3)) t = 6 := c6
    replace HF := bd_o HF
    revert c11 HF
    generalize sI h2 b7 ((x1 * (hF h2 501 t)) + x2).toNatClampNeg ((hI h2 b7 ((x1 * (hF h2 501 t)) + x2).toNatClampNeg) + x3) = h10
    intro c11 HF
    obtain rfl := Option.some.inj HF
    exact ev_vret dX4_add_26

theorem lk_X4_fill_2 {g : aG} {l : Launch} {d : Nat} {h0 : aH} (hdd : 0 ≤ d) {r : aH} : ∀ (n : Nat) (t : Nat) (x1 : Int32) (x2 : Int32) (h : aH), F_X4_fill_2  n t x1 x2 h = some r → Ev g l cX4_fill 3 yX4_fill (none) d h0 (none, r) 2 [(0, .ref t), (1, .int x1), (2, .int x2)] [] h := by
  intro n
  induction n with
  | zero => intro t x1 x2 h HF; cases HF
  | succ n ih =>
  intro t x1 x2 h HF
  unfold F_X4_fill_2 at HF
  refine ev_iload_n 2 dX4_fill_2 rfl ?_
  refine ev_aload_n 0 dX4_fill_3 rfl ?_
  replace HF := bind_ck HF
  obtain ⟨c1, HF⟩ := HF
  replace HF := bind_o HF
  obtain ⟨b2, e3, HF⟩ := HF
  refine ev_gS (f := 502) cl_X4 (k := 2) (by decide) fi_X4_2 rfl fl_X4_22 dX4_fill_4 c1 e3 ?_
  replace HF := bind_ck HF
  obtain ⟨c4, HF⟩ := HF
  refine ev_alen dX4_fill_7 (by decide) (by decide) c4 rfl ?_
  by_cases c5 : Int32.ofNat (hN h b2) ≤ x2
  · replace HF := ite_T c5 HF
    refine ev_icmp_geT (tgt := 24) dX4_fill_8 (by decide) c5 ?_
    obtain rfl := Option.some.inj HF
    exact ev_vret dX4_fill_24
  · replace HF := ite_F c5 HF
    refine ev_icmp_geF (tgt := 24) dX4_fill_8 (by decide) c5 ?_
    refine ev_aload_n 0 dX4_fill_11 rfl ?_
    replace HF := bind_o HF
    obtain ⟨b6, e7, HF⟩ := HF
    refine ev_gS (f := 502) cl_X4 (k := 2) (by decide) fi_X4_2 rfl fl_X4_22 dX4_fill_12 c1 e7 ?_
    refine ev_iload_n 2 dX4_fill_15 rfl ?_
    refine ev_iload_n 1 dX4_fill_16 rfl ?_
    replace HF := bind_ck HF
    obtain ⟨c8, HF⟩ := HF
    refine ev_iast dX4_fill_17 c8.1 c8.2 ?_
    have c10 : hK (sI h b6 x2.toNatClampNeg x1) t = 6 := c1
    have c11 : hK (sI h b6 x2.toNatClampNeg x1) b2 = 21 := c4
    replace HF := bd_o HF
    revert c10 c11 HF
    generalize sI h b6 x2.toNatClampNeg x1 = h9
    intro c10 c11 HF
    replace HF := bd_o HF
    obtain ⟨v12, ev12⟩ : ∃ z : Int32, z = x2 + 1 := ⟨_, rfl⟩
    rw [← ev12] at HF
    refine ev_iinc (v := v12) (lv' := [(2, .int v12), (0, .ref t), (1, .int x1)]) 2 dX4_fill_18 rfl (by rw [ev12]; rfl) (by decide) (rfl) ?_
    refine ev_goto (tgt := 2) dX4_fill_21 (by decide) ?_
    exact Ev.sub [1, 2, 0] rfl (ih t x1 v12 _ HF)

theorem lk_X4_fill {g : aG} {l : Launch} {d : Nat} (hdd : 0 ≤ d) {t : Nat} {x1 : Int32} {h : aH} {r : aH} (hT : hK h t = 6) (HF : F_X4_fill t x1 h = some r) : MA g l yX4_fill cX4_fill 3 (none) d [.ref t, .int x1] h (none, r) := by
  refine MA.of (lv0 := [(0, .ref t), (1, .int x1)]) (by decide +kernel) (rfl) (Nat.le_of_ble_eq_true rfl) ?_
  unfold F_X4_fill at HF
  refine ev_iconst (v := 0) dX4_fill_0 (by decide) ?_
  refine ev_istore_n (lv' := [(2, .int 0), (0, .ref t), (1, .int x1)]) dX4_fill_1 (by decide) (rfl) ?_
  exact Ev.sub [1, 2, 0] rfl (lk_X4_fill_2 hdd  fu t x1 0 _ HF)

theorem lk_X4_fillRow_2 {g : aG} {l : Launch} {d : Nat} {h0 : aH} (hdd : 2 ≤ d) {r : aH} : ∀ (n : Nat) (t : Nat) (x1 : Int32) (x2 : Int32) (x3 : Int32) (h : aH), F_X4_fillRow_2  n t x1 x2 x3 h = some r → Ev g l cX4_fillRow 4 yX4_fillRow (none) d h0 (none, r) 2 [(0, .ref t), (1, .int x1), (2, .int x2), (3, .int x3)] [] h := by
  intro n
  induction n with
  | zero => intro t x1 x2 x3 h HF; cases HF
  | succ n ih =>
  intro t x1 x2 x3 h HF
  unfold F_X4_fillRow_2 at HF
  refine ev_iload_n 3 dX4_fillRow_2 rfl ?_
  refine ev_aload_n 0 dX4_fillRow_3 rfl ?_
  replace HF := bind_ck HF
  obtain ⟨c1, HF⟩ := HF
  refine ev_gI (f := 501) cl_X4 (k := 1) (by decide) fi_X4_1 rfl fl_X4_19 dX4_fillRow_4 c1 ?_
  by_cases c2 : hF h 501 t ≤ x3
  · replace HF := ite_T c2 HF
    refine ev_icmp_geT (tgt := 23) dX4_fillRow_7 (by decide) c2 ?_
    obtain rfl := Option.some.inj HF
    exact ev_vret dX4_fillRow_23
  · replace HF := ite_F c2 HF
    refine ev_icmp_geF (tgt := 23) dX4_fillRow_7 (by decide) c2 ?_
    refine ev_aload_n 0 dX4_fillRow_10 rfl ?_
    refine ev_iload_n 1 dX4_fillRow_11 rfl ?_
    refine ev_iload_n 3 dX4_fillRow_12 rfl ?_
    refine ev_iload_n 2 dX4_fillRow_13 rfl ?_
    replace HF := bind_o HF
    obtain ⟨h4, e3, HF⟩ := HF
    refine ev_callV (As := [.int x1, .int x3, .int x2]) (R1 := (none, h4)) (lk_X4_set (d := 1) (Nat.le_refl _) c1 e3) ce_X4_set im_X4_set sl_X4_set ml_X4_30 cl_X4 c1 dX4_fillRow_14 (by omega) (Nat.le_of_ble_eq_true rfl) rfl rfl ?_
    show Ev _ _ _ _ _ _ _ _ _ 17 [(0, .ref t), (1, .int x1), (2, .int x2), (3, .int x3)] [] h4
    replace HF := bd_o HF
    obtain ⟨v6, ev6⟩ : ∃ z : Int32, z = x3 + 1 := ⟨_, rfl⟩
    rw [← ev6] at HF
    refine ev_iinc (v := v6) (lv' := [(3, .int v6), (0, .ref t), (1, .int x1), (2, .int x2)]) 3 dX4_fillRow_17 rfl (by rw [ev6]; rfl) (by decide) (rfl) ?_
    refine ev_goto (tgt := 2) dX4_fillRow_20 (by decide) ?_
    exact Ev.sub [1, 2, 3, 0] rfl (ih t x1 x2 v6 _ HF)

theorem lk_X4_fillRow {g : aG} {l : Launch} {d : Nat} (hdd : 2 ≤ d) {t : Nat} {x1 : Int32} {x2 : Int32} {h : aH} {r : aH} (hT : hK h t = 6) (HF : F_X4_fillRow t x1 x2 h = some r) : MA g l yX4_fillRow cX4_fillRow 4 (none) d [.ref t, .int x1, .int x2] h (none, r) := by
  refine MA.of (lv0 := [(0, .ref t), (1, .int x1), (2, .int x2)]) (by decide +kernel) (rfl) (Nat.le_of_ble_eq_true rfl) ?_
  unfold F_X4_fillRow at HF
  refine ev_iconst (v := 0) dX4_fillRow_0 (by decide) ?_
  refine ev_istore_n (lv' := [(3, .int 0), (0, .ref t), (1, .int x1), (2, .int x2)]) dX4_fillRow_1 (by decide) (rfl) ?_
  exact Ev.sub [1, 2, 3, 0] rfl (lk_X4_fillRow_2 hdd  fu t x1 x2 0 _ HF)

theorem lk_X4_sumOf_5 {g : aG} {l : Launch} {d : Nat} {h0 : aH} (hdd : 2 ≤ d) {r : Int32 × aH} : ∀ (n : Nat) (t : Nat) (x1 : Int32) (x2 : Int32) (x3 : Int32) (x4 : Int32) (h : aH), F_X4_sumOf_5  n t x1 x2 x3 x4 h = some r → Ev g l cX4_sumOf 5 yX4_sumOf (some .int) d h0 (some (.int r.1), r.2) 5 [(0, .ref t), (1, .int x1), (2, .int x2), (3, .int x3), (4, .int x4)] [] h := by
  intro n
  induction n with
  | zero => intro t x1 x2 x3 x4 h HF; cases HF
  | succ n ih =>
  intro t x1 x2 x3 x4 h HF
  unfold F_X4_sumOf_5 at HF
  refine ev_iload 4 dX4_sumOf_5 rfl ?_
  refine ev_iload_n 2 dX4_sumOf_7 rfl ?_
  by_cases c1 : x2 ≤ x4
  · replace HF := ite_T c1 HF
    refine ev_icmp_geT (tgt := 36) dX4_sumOf_8 (by decide) c1 ?_
    refine ev_iload_n 3 dX4_sumOf_36 rfl ?_
    obtain rfl := Option.some.inj HF
    exact ev_iret dX4_sumOf_37
  · replace HF := ite_F c1 HF
    refine ev_icmp_geF (tgt := 36) dX4_sumOf_8 (by decide) c1 ?_
    refine ev_iload 4 dX4_sumOf_11 rfl ?_
    refine ev_aload_n 0 dX4_sumOf_13 rfl ?_
    replace HF := bind_ck HF
    obtain ⟨c2, HF⟩ := HF
    refine ev_gI (f := 500) cl_X4 (k := 0) (by decide) fi_X4_0 rfl fl_X4_13 dX4_sumOf_14 c2 ?_
    by_cases c3 : hF h 500 t ≤ x4
    · replace HF := ite_T c3 HF
      refine ev_icmp_geT (tgt := 36) dX4_sumOf_17 (by decide) c3 ?_
      refine ev_iload_n 3 dX4_sumOf_36 rfl ?_
      obtain rfl := Option.some.inj HF
      exact ev_iret dX4_sumOf_37
    · replace HF := ite_F c3 HF
      refine ev_icmp_geF (tgt := 36) dX4_sumOf_17 (by decide) c3 ?_
      refine ev_iload_n 3 dX4_sumOf_20 rfl ?_
      refine ev_aload_n 0 dX4_sumOf_21 rfl ?_
      refine ev_iload 4 dX4_sumOf_22 rfl ?_
      refine ev_iload_n 1 dX4_sumOf_24 rfl ?_
      replace HF := bind_o HF
      obtain ⟨⟨z6, h5⟩, e4, HF⟩ := HF
      replace HF := bd_o (bd_o HF)
      dsimp only at HF
      refine ev_callV (As := [.int x4, .int x1]) (R1 := (some (.int z6), h5)) (lk_X4_at (d := 1) (Nat.le_refl _) c2 e4) ce_X4_at im_X4_at sl_X4_at ml_X4_34 cl_X4 c2 dX4_sumOf_25 (by omega) (Nat.le_of_ble_eq_true rfl) rfl rfl ?_
      show Ev _ _ _ _ _ _ _ _ _ 28 [(0, .ref t), (1, .int x1), (2, .int x2), (3, .int x3), (4, .int x4)] [.int z6, .int x3] h5
      refine ev_iadd dX4_sumOf_28 ?_
      replace HF := bd_o HF
      revert HF
      generalize (x3 + z6) = v8
      intro HF
      refine ev_istore_n (lv' := [(3, .int v8), (0, .ref t), (1, .int x1), (2, .int x2), (4, .int x4)]) dX4_sumOf_29 (by decide) (rfl) ?_
      show Ev _ _ _ _ _ _ _ _ _ 30 _ _ _
      replace HF := bd_o HF
      obtain ⟨v9, ev9⟩ : ∃ z : Int32, z = x4 + 1 := ⟨_, rfl⟩
      rw [← ev9] at HF
      refine ev_iinc (v := v9) (lv' := [(4, .int v9), (3, .int v8), (0, .ref t), (1, .int x1), (2, .int x2)]) 4 dX4_sumOf_30 rfl (by rw [ev9]; rfl) (by decide) (rfl) ?_
      refine ev_goto (tgt := 5) dX4_sumOf_33 (by decide) ?_
      exact Ev.sub [2, 3, 4, 1, 0] rfl (ih t x1 x2 v8 v9 _ HF)

theorem lk_X4_sumOf {g : aG} {l : Launch} {d : Nat} (hdd : 2 ≤ d) {t : Nat} {x1 : Int32} {x2 : Int32} {h : aH} {r : Int32 × aH} (hT : hK h t = 6) (HF : F_X4_sumOf t x1 x2 h = some r) : MA g l yX4_sumOf cX4_sumOf 5 (some .int) d [.ref t, .int x1, .int x2] h (some (.int r.1), r.2) := by
  refine MA.of (lv0 := [(0, .ref t), (1, .int x1), (2, .int x2)]) (by decide +kernel) (rfl) (Nat.le_of_ble_eq_true rfl) ?_
  unfold F_X4_sumOf at HF
  refine ev_iconst (v := 0) dX4_sumOf_0 (by decide) ?_
  refine ev_istore_n (lv' := [(3, .int 0), (0, .ref t), (1, .int x1), (2, .int x2)]) dX4_sumOf_1 (by decide) (rfl) ?_
  refine ev_iconst (v := 0) dX4_sumOf_2 (by decide) ?_
  refine ev_istore (lv' := [(4, .int 0), (3, .int 0), (0, .ref t), (1, .int x1), (2, .int x2)]) dX4_sumOf_3 (by decide) (rfl) ?_
  exact Ev.sub [2, 3, 4, 1, 0] rfl (lk_X4_sumOf_5 hdd  fu t x1 x2 0 0 _ HF)

theorem lk_X4_howMany_31 {g : aG} {l : Launch} {d : Nat} {h0 : aH} (hdd : 2 ≤ d) {r : Int32 × aH} (k5 : Nat → Int32 → Int32 → Int32 → Int32 → aH → Option (Int32 × aH)) (hk5 : ∀ (t : Nat) (x1 : Int32) (x2 : Int32) (x3 : Int32) (x4 : Int32) (h : aH), k5 t x1 x2 x3 x4 h = some r → Ev g l cX4_howMany 5 yX4_howMany (some .int) d h0 (some (.int r.1), r.2) 5 [(0, .ref t), (1, .int x1), (2, .int x2), (3, .int x3), (4, .int x4)] [] h) (t : Nat) (x1 : Int32) (x2 : Int32) (x4 : Int32) (y0 : Int32) (y1 : Int32) (h : aH) (HF : F_X4_howMany_31 k5 t x1 x2 x4 y0 y1 h = some r) : Ev g l cX4_howMany 5 yX4_howMany (some .int) d h0 (some (.int r.1), r.2) 31 [(0, .ref t), (1, .int x1), (2, .int x2), (4, .int x4)] [.int y1, .int y0] h := by
  unfold F_X4_howMany_31 at HF
  refine ev_iadd dX4_howMany_31 ?_
  replace HF := bd_o HF
  revert HF
  generalize (y0 + y1) = v1
  intro HF
  refine ev_istore_n (lv' := [(3, .int v1), (0, .ref t), (1, .int x1), (2, .int x2), (4, .int x4)]) dX4_howMany_32 (by decide) (rfl) ?_
  replace HF := bd_o HF
  obtain ⟨v2, ev2⟩ : ∃ z : Int32, z = x4 + 1 := ⟨_, rfl⟩
  rw [← ev2] at HF
  refine ev_iinc (v := v2) (lv' := [(4, .int v2), (3, .int v1), (0, .ref t), (1, .int x1), (2, .int x2)]) 4 dX4_howMany_33 rfl (by rw [ev2]; rfl) (by decide) (rfl) ?_
  refine ev_goto (tgt := 5) dX4_howMany_36 (by decide) ?_
  exact Ev.sub [2, 3, 4, 1, 0] rfl (hk5 t x1 x2 v1 v2 _ HF)

theorem lk_X4_howMany_5 {g : aG} {l : Launch} {d : Nat} {h0 : aH} (hdd : 2 ≤ d) {r : Int32 × aH} : ∀ (n : Nat) (t : Nat) (x1 : Int32) (x2 : Int32) (x3 : Int32) (x4 : Int32) (h : aH), F_X4_howMany_5  n t x1 x2 x3 x4 h = some r → Ev g l cX4_howMany 5 yX4_howMany (some .int) d h0 (some (.int r.1), r.2) 5 [(0, .ref t), (1, .int x1), (2, .int x2), (3, .int x3), (4, .int x4)] [] h := by
  intro n
  induction n with
  | zero => intro t x1 x2 x3 x4 h HF; cases HF
  | succ n ih =>
  intro t x1 x2 x3 x4 h HF
  unfold F_X4_howMany_5 at HF
  refine ev_iload 4 dX4_howMany_5 rfl ?_
  refine ev_aload_n 0 dX4_howMany_7 rfl ?_
  replace HF := bind_ck HF
  obtain ⟨c1, HF⟩ := HF
  refine ev_gI (f := 500) cl_X4 (k := 0) (by decide) fi_X4_0 rfl fl_X4_13 dX4_howMany_8 c1 ?_
  by_cases c2 : hF h 500 t ≤ x4
  · replace HF := ite_T c2 HF
    refine ev_icmp_geT (tgt := 39) dX4_howMany_11 (by decide) c2 ?_
    refine ev_iload_n 3 dX4_howMany_39 rfl ?_
    obtain rfl := Option.some.inj HF
    exact ev_iret dX4_howMany_40
  · replace HF := ite_F c2 HF
    refine ev_icmp_geF (tgt := 39) dX4_howMany_11 (by decide) c2 ?_
    refine ev_iload_n 3 dX4_howMany_14 rfl ?_
    refine ev_aload_n 0 dX4_howMany_15 rfl ?_
    refine ev_iload 4 dX4_howMany_16 rfl ?_
    refine ev_iload_n 1 dX4_howMany_18 rfl ?_
    replace HF := bind_o HF
    obtain ⟨⟨z5, h4⟩, e3, HF⟩ := HF
    replace HF := bd_o (bd_o HF)
    dsimp only at HF
    refine ev_callV (As := [.int x4, .int x1]) (R1 := (some (.int z5), h4)) (lk_X4_at (d := 1) (Nat.le_refl _) c1 e3) ce_X4_at im_X4_at sl_X4_at ml_X4_34 cl_X4 c1 dX4_howMany_19 (by omega) (Nat.le_of_ble_eq_true rfl) rfl rfl ?_
    show Ev _ _ _ _ _ _ _ _ _ 22 [(0, .ref t), (1, .int x1), (2, .int x2), (3, .int x3), (4, .int x4)] [.int z5, .int x3] h4
    refine ev_iload_n 2 dX4_howMany_22 rfl ?_
    by_cases c7 : z5 = x2
    · replace HF := ite_T c7 HF
      refine ev_icmp_neF (tgt := 30) dX4_howMany_23 (by decide) c7 ?_
      refine ev_iconst (v := 1) dX4_howMany_26 (by decide) ?_
      refine ev_goto (tgt := 31) dX4_howMany_27 (by decide) ?_
      exact Ev.sub [0, 1, 2, 4] rfl (lk_X4_howMany_31 hdd (F_X4_howMany_5 n) ih t x1 x2 x4 x3 1 _ HF)
    · replace HF := ite_F c7 HF
      refine ev_icmp_neT (tgt := 30) dX4_howMany_23 (by decide) c7 ?_
      refine ev_iconst (v := 0) dX4_howMany_30 (by decide) ?_
      exact Ev.sub [0, 1, 2, 4] rfl (lk_X4_howMany_31 hdd (F_X4_howMany_5 n) ih t x1 x2 x4 x3 0 _ HF)

theorem lk_X4_howMany {g : aG} {l : Launch} {d : Nat} (hdd : 2 ≤ d) {t : Nat} {x1 : Int32} {x2 : Int32} {h : aH} {r : Int32 × aH} (hT : hK h t = 6) (HF : F_X4_howMany t x1 x2 h = some r) : MA g l yX4_howMany cX4_howMany 5 (some .int) d [.ref t, .int x1, .int x2] h (some (.int r.1), r.2) := by
  refine MA.of (lv0 := [(0, .ref t), (1, .int x1), (2, .int x2)]) (by decide +kernel) (rfl) (Nat.le_of_ble_eq_true rfl) ?_
  unfold F_X4_howMany at HF
  refine ev_iconst (v := 0) dX4_howMany_0 (by decide) ?_
  refine ev_istore_n (lv' := [(3, .int 0), (0, .ref t), (1, .int x1), (2, .int x2)]) dX4_howMany_1 (by decide) (rfl) ?_
  refine ev_iconst (v := 0) dX4_howMany_2 (by decide) ?_
  refine ev_istore (lv' := [(4, .int 0), (3, .int 0), (0, .ref t), (1, .int x1), (2, .int x2)]) dX4_howMany_3 (by decide) (rfl) ?_
  exact Ev.sub [2, 3, 4, 1, 0] rfl (lk_X4_howMany_5 hdd  fu t x1 x2 0 0 _ HF)

theorem lk_X0_add {g : aG} {l : Launch} {d : Nat} (hdd : 0 ≤ d) {t : Nat} {x1 : Int32} {h : aH} {r : aH} (hT : hK h t = 2) (HF : F_X0_add t x1 h = some r) : MA g l yX0_add cX0_add 2 (none) d [.ref t, .int x1] h (none, r) := by
  refine MA.of (lv0 := [(0, .ref t), (1, .int x1)]) (by decide +kernel) (rfl) (Nat.le_of_ble_eq_true rfl) ?_
  unfold F_X0_add at HF
  refine ev_aload_n 0 dX0_add_0 rfl ?_
  refine ev_gI (f := 101) cl_X0 (k := 1) (by decide) fi_X0_1 rfl fl_X0_21 dX0_add_1 hT ?_
  refine ev_aload_n 0 dX0_add_4 rfl ?_
  replace HF := bind_o HF
  obtain ⟨b1, e2, HF⟩ := HF
  refine ev_gS (f := 100) cl_X0 (k := 0) (by decide) fi_X0_0 rfl fl_X0_15 dX0_add_5 hT e2 ?_
  replace HF := bind_ck HF
  obtain ⟨c3, HF⟩ := HF
  refine ev_alen dX0_add_8 (by decide) (by decide) c3 rfl ?_
  by_cases c4 : Int32.ofNat (hN h b1) ≤ hF h 101 t
  · replace HF := ite_T c4 HF
    refine ev_icmp_geT (tgt := 36) dX0_add_9 (by decide) c4 ?_
    obtain rfl := Option.some.inj HF
    exact ev_vret dX0_add_36
  · replace HF := ite_F c4 HF
    refine ev_icmp_geF (tgt := 36) dX0_add_9 (by decide) c4 ?_
    refine ev_aload_n 0 dX0_add_12 rfl ?_
    replace HF := bind_o HF
    obtain ⟨b5, e6, HF⟩ := HF
    refine ev_gS (f := 100) cl_X0 (k := 0) (by decide) fi_X0_0 rfl fl_X0_15 dX0_add_13 hT e6 ?_
    refine ev_aload_n 0 dX0_add_16 rfl ?_
    refine ev_gI (f := 101) cl_X0 (k := 1) (by decide) fi_X0_1 rfl fl_X0_21 dX0_add_17 hT ?_
    refine ev_iload_n 1 dX0_add_20 rfl ?_
    refine ev_sipush (v := 255) dX0_add_21 (by decide) ?_
    refine ev_iand dX0_add_24 ?_
    show Ev _ _ _ _ _ _ _ _ _ 25 _ _ _
    replace HF := bind_ck HF
    obtain ⟨c7, HF⟩ := HF
    refine ev_iast dX0_add_25 c7.1 c7.2 ?_
    have c9 : hK (sI h b5 (hF h 101 t).toNatClampNeg (x1 &&& 255)) t = 2 := hT
    have c10 : hK (sI h b5 (hF h 101 t).toNatClampNeg (x1 &&& 255)) b1 = 21 := c3
    replace HF := bd_o HF
    revert c9 c10 HF
    generalize sI h b5 (hF h 101 t).toNatClampNeg (x1 &&& 255) = h8
    intro c9 c10 HF
    refine ev_aload_n 0 dX0_add_26 rfl ?_
    refine ev_dup dX0_add_27 rfl ?_
    refine ev_gI (f := 101) cl_X0 (k := 1) (by decide) fi_X0_1 rfl fl_X0_21 dX0_add_28 c9 ?_
    refine ev_iconst (v := 1) dX0_add_31 (by decide) ?_
    refine ev_iadd dX0_add_32 ?_
    refine ev_pI (f := 101) cl_X0 (k := 1) (by decide) fi_X0_1 rfl fl_X0_21 rfl rfl rfl dX0_add_33 c9 ?_
    have c12 : hK (sF h8 101 t ((hF h8 101 t) + 1)) t = 2 := c9
    have c13 : hK (sF h8 101 t ((hF h8 101 t) + 1)) b1 = 21 := c10
    replace HF := bd_o HF
    revert c12 c13 HF
    generalize sF h8 101 t ((hF h8 101 t) + 1) = h11
    intro c12 c13 HF
    obtain rfl := Option.some.inj HF
    exact ev_vret dX0_add_36

theorem lk_X0_addNumber {g : aG} {l : Launch} {d : Nat} (hdd : 1 ≤ d) {t : Nat} {x1 : Int32} {h : aH} {r : aH} (hT : hK h t = 2) (HF : F_X0_addNumber t x1 h = some r) : MA g l yX0_addNumber cX0_addNumber 2 (none) d [.ref t, .int x1] h (none, r) := by
  refine MA.of (lv0 := [(0, .ref t), (1, .int x1)]) (by decide +kernel) (rfl) (Nat.le_of_ble_eq_true rfl) ?_
  unfold F_X0_addNumber at HF
  refine ev_aload_n 0 dX0_addNumber_0 rfl ?_
  refine ev_iload_n 1 dX0_addNumber_1 rfl ?_
  refine ev_bipush (v := 24) dX0_addNumber_2 (by decide) ?_
  refine ev_ishr dX0_addNumber_4 ?_
  replace HF := bind_o HF
  obtain ⟨h2, e1, HF⟩ := HF
  refine ev_callV (As := [.int (x1 >>> (24 &&& 31))]) (R1 := (none, h2)) (lk_X0_add (d := 0) (Nat.le_refl _) hT e1) ce_X0_add im_X0_add sl_X0_add ml_X0_25 cl_X0 hT dX0_addNumber_5 (by omega) (Nat.le_of_ble_eq_true rfl) rfl rfl ?_
  show Ev _ _ _ _ _ _ _ _ _ 8 [(0, .ref t), (1, .int x1)] [] h2
  refine ev_aload_n 0 dX0_addNumber_8 rfl ?_
  refine ev_iload_n 1 dX0_addNumber_9 rfl ?_
  show Ev _ _ _ _ _ _ _ _ _ 10 _ _ _
  refine ev_bipush (v := 16) dX0_addNumber_10 (by decide) ?_
  refine ev_ishr dX0_addNumber_12 ?_
  replace HF := bind_ck HF
  obtain ⟨c4, HF⟩ := HF
  replace HF := bind_o HF
  obtain ⟨h6, e5, HF⟩ := HF
  refine ev_callV (As := [.int (x1 >>> (16 &&& 31))]) (R1 := (none, h6)) (lk_X0_add (d := 0) (Nat.le_refl _) c4 e5) ce_X0_add im_X0_add sl_X0_add ml_X0_25 cl_X0 c4 dX0_addNumber_13 (by omega) (Nat.le_of_ble_eq_true rfl) rfl rfl ?_
  show Ev _ _ _ _ _ _ _ _ _ 16 [(0, .ref t), (1, .int x1)] [] h6
  refine ev_aload_n 0 dX0_addNumber_16 rfl ?_
  refine ev_iload_n 1 dX0_addNumber_17 rfl ?_
  refine ev_bipush (v := 8) dX0_addNumber_18 (by decide) ?_
  refine ev_ishr dX0_addNumber_20 ?_
  replace HF := bind_ck HF
  obtain ⟨c8, HF⟩ := HF
  replace HF := bind_o HF
  obtain ⟨h10, e9, HF⟩ := HF
  refine ev_callV (As := [.int (x1 >>> (8 &&& 31))]) (R1 := (none, h10)) (lk_X0_add (d := 0) (Nat.le_refl _) c8 e9) ce_X0_add im_X0_add sl_X0_add ml_X0_25 cl_X0 c8 dX0_addNumber_21 (by omega) (Nat.le_of_ble_eq_true rfl) rfl rfl ?_
  show Ev _ _ _ _ _ _ _ _ _ 24 [(0, .ref t), (1, .int x1)] [] h10
  show Ev _ _ _ _ _ _ _ _ _ 24 _ _ _
  refine ev_aload_n 0 dX0_addNumber_24 rfl ?_
  refine ev_iload_n 1 dX0_addNumber_25 rfl ?_
  replace HF := bind_ck HF
  obtain ⟨c12, HF⟩ := HF
  replace HF := bind_o HF
  obtain ⟨h14, e13, HF⟩ := HF
  refine ev_callV (As := [.int x1]) (R1 := (none, h14)) (lk_X0_add (d := 0) (Nat.le_refl _) c12 e13) ce_X0_add im_X0_add sl_X0_add ml_X0_25 cl_X0 c12 dX0_addNumber_26 (by omega) (Nat.le_of_ble_eq_true rfl) rfl rfl ?_
  show Ev _ _ _ _ _ _ _ _ _ 29 [(0, .ref t), (1, .int x1)] [] h14
  obtain rfl := Option.some.inj HF
  exact ev_vret dX0_addNumber_29

theorem lk_X0_at {g : aG} {l : Launch} {d : Nat} (hdd : 0 ≤ d) {t : Nat} {x1 : Int32} {h : aH} {r : Int32 × aH} (hT : hK h t = 2) (HF : F_X0_at t x1 h = some r) : MA g l yX0_at cX0_at 2 (some .int) d [.ref t, .int x1] h (some (.int r.1), r.2) := by
  refine MA.of (lv0 := [(0, .ref t), (1, .int x1)]) (by decide +kernel) (rfl) (Nat.le_of_ble_eq_true rfl) ?_
  unfold F_X0_at at HF
  refine ev_iload_n 1 dX0_at_0 rfl ?_
  by_cases c1 : x1 < 0
  · replace HF := ite_T c1 HF
    refine ev_if_ltT (tgt := 21) dX0_at_1 (by decide) c1 ?_
    refine ev_iconst (v := (-1)) dX0_at_21 (by decide) ?_
    obtain rfl := Option.some.inj HF
    exact ev_iret dX0_at_22
  · replace HF := ite_F c1 HF
    refine ev_if_ltF (tgt := 21) dX0_at_1 (by decide) c1 ?_
    refine ev_iload_n 1 dX0_at_4 rfl ?_
    refine ev_aload_n 0 dX0_at_5 rfl ?_
    refine ev_gI (f := 101) cl_X0 (k := 1) (by decide) fi_X0_1 rfl fl_X0_21 dX0_at_6 hT ?_
    by_cases c2 : hF h 101 t ≤ x1
    · replace HF := ite_T c2 HF
      refine ev_icmp_geT (tgt := 21) dX0_at_9 (by decide) c2 ?_
      refine ev_iconst (v := (-1)) dX0_at_21 (by decide) ?_
      obtain rfl := Option.some.inj HF
      exact ev_iret dX0_at_22
    · replace HF := ite_F c2 HF
      refine ev_icmp_geF (tgt := 21) dX0_at_9 (by decide) c2 ?_
      refine ev_aload_n 0 dX0_at_12 rfl ?_
      replace HF := bind_o HF
      obtain ⟨b3, e4, HF⟩ := HF
      refine ev_gS (f := 100) cl_X0 (k := 0) (by decide) fi_X0_0 rfl fl_X0_15 dX0_at_13 hT e4 ?_
      refine ev_iload_n 1 dX0_at_16 rfl ?_
      replace HF := bind_ck HF
      obtain ⟨c5, HF⟩ := HF
      refine ev_iald dX0_at_17 c5.1 c5.2 ?_
      refine ev_goto (tgt := 22) dX0_at_18 (by decide) ?_
      obtain rfl := Option.some.inj HF
      exact ev_iret dX0_at_22

theorem lk_X0_clear {g : aG} {l : Launch} {d : Nat} (hdd : 0 ≤ d) {t : Nat} {h : aH} {r : aH} (hT : hK h t = 2) (HF : F_X0_clear t h = some r) : MA g l yX0_clear cX0_clear 1 (none) d [.ref t] h (none, r) := by
  refine MA.of (lv0 := [(0, .ref t)]) (by decide +kernel) (rfl) (Nat.le_of_ble_eq_true rfl) ?_
  unfold F_X0_clear at HF
  refine ev_aload_n 0 dX0_clear_0 rfl ?_
  refine ev_iconst (v := 0) dX0_clear_1 (by decide) ?_
  refine ev_pI (f := 101) cl_X0 (k := 1) (by decide) fi_X0_1 rfl fl_X0_21 rfl rfl rfl dX0_clear_2 hT ?_
  have c2 : hK (sF h 101 t 0) t = 2 := hT
  replace HF := bd_o HF
  revert c2 HF
  generalize sF h 101 t 0 = h1
  intro c2 HF
  obtain rfl := Option.some.inj HF
  exact ev_vret dX0_clear_5

