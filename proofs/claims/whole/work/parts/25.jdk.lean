def F_Jxa1e45_init_da8c8 (t : Nat) (h : aH) : Option (aH) :=
  some h

def F_Jxc12de_init_da8c8 (t : Nat) (h : aH) : Option (aH) :=
  (F_Jxa1e45_init_da8c8 t h).bind fun h2 =>
  (ck (hK h2 t = 1)).bind fun _ =>
  bd (sF h2 0 t 0) fun h5 =>
  some h5

def F_Jx4a65c_init_da8c8 (t : Nat) (h : aH) : Option (aH) :=
  (F_Jxc12de_init_da8c8 t h).bind fun h2 =>
  (ck (hK h2 t = 1)).bind fun _ =>
  bd (sG h2 1 t (some ((hE h2)))) fun h5 =>
  some h5

def F_J3_checkIndex_8e157_9 (x0 : Int32) (x1 : Int32) (x2 : Option Nat) (h : aH) : Option (Int32 × aH) :=
  none

def F_J3_checkIndex_8e157 (x0 : Int32) (x1 : Int32) (x2 : Option Nat) (h : aH) : Option (Int32 × aH) :=
  if x0 < 0 then
    F_J3_checkIndex_8e157_9 x0 x1 x2 h
  else
    if x0 < x1 then
      some (x0, h)
    else
      F_J3_checkIndex_8e157_9 x0 x1 x2 h

def F_J15_checkIndex_7cf53 (x0 : Int32) (x1 : Int32) (h : aH) : Option (Int32 × aH) :=
  (F_J3_checkIndex_8e157 x0 x1 none h).bind fun q4 =>
  bd q4.1 fun z3 =>
  bd q4.2 fun h2 =>
  some (z3, h2)

def F_Jx4a65c_elementData_915e3 (t : Nat) (x1 : Int32) (h : aH) : Option (Option Nat × aH) :=
  (hG h 1 t).bind fun b1 =>
  (ck (hK h b1 = 26 ∧ inR x1 (hN h b1))).bind fun _ =>
  (hO h b1 x1.toNatClampNeg).bind fun b4 =>
  some (some b4, h)

def F_Jx4a65c_get_915e3 (t : Nat) (x1 : Int32) (h : aH) : Option (Option Nat × aH) :=
  (F_J15_checkIndex_7cf53 x1 (hF h 2 t) h).bind fun q4 =>
  bd q4.1 fun z3 =>
  bd q4.2 fun h2 =>
  (ck (hK h2 t = 1)).bind fun _ =>
  (F_Jx4a65c_elementData_915e3 t x1 h2).bind fun q9 =>
  bd q9.1 fun o8 =>
  bd q9.2 fun h7 =>
  some (o8, h7)

def F_Jx4a65c_size_8abf5 (t : Nat) (h : aH) : Option (Int32 × aH) :=
  some (hF h 2 t, h)

def F_Jx4a65c_isEmpty_aae02 (t : Nat) (h : aH) : Option (Int32 × aH) :=
  if hF h 2 t = 0 then
    some (1, h)
  else
    some (0, h)

def F_J8_newLength_cabcc_21 (x0 : Int32) (x1 : Int32) (h : aH) : Option (Int32 × aH) :=
  none

def F_J8_newLength_cabcc (x0 : Int32) (x1 : Int32) (x2 : Int32) (h : aH) : Option (Int32 × aH) :=
  bd (if x1 < x2 then x2 else x1) fun z1 =>
  bd (x0 + z1) fun v2 =>
  if v2 ≤ 0 then
    F_J8_newLength_cabcc_21 x0 x1 h
  else
    if 2147483639 < v2 then
      F_J8_newLength_cabcc_21 x0 x1 h
    else
      some (v2, h)

set_option maxRecDepth 20000 in
theorem lk_Jxa1e45_init_da8c8 {g : aG} {l : Launch} {d : Nat} (hdd : 1 ≤ d) {t : Nat} {h : aH} {r : aH} (hT : hK h t = 1) (HF : F_Jxa1e45_init_da8c8 t h = some r) : MA g l yJxa1e45_init_da8c8 cJxa1e45_init_da8c8 1 (none) d [.ref t] h (none, r) := by
  refine MA.of (lv0 := [(0, .ref t)]) (by decide +kernel) (rfl) (Nat.le_of_ble_eq_true rfl) ?_
  unfold F_Jxa1e45_init_da8c8 at HF
  refine ev_aload_n 0 dJxa1e45_init_da8c8_0 rfl ?_
  refine ev_obj ml_Jxa1e45_1 im_obj cd_obj dJxa1e45_init_da8c8_1 (by omega) (Nat.le_of_ble_eq_true rfl) ?_
  obtain rfl := Option.some.inj HF
  exact ev_vret dJxa1e45_init_da8c8_4

set_option maxRecDepth 20000 in
theorem lk_Jxc12de_init_da8c8 {g : aG} {l : Launch} {d : Nat} (hdd : 2 ≤ d) {t : Nat} {h : aH} {r : aH} (hT : hK h t = 1) (HF : F_Jxc12de_init_da8c8 t h = some r) : MA g l yJxc12de_init_da8c8 cJxc12de_init_da8c8 1 (none) d [.ref t] h (none, r) := by
  refine MA.of (lv0 := [(0, .ref t)]) (by decide +kernel) (rfl) (Nat.le_of_ble_eq_true rfl) ?_
  unfold F_Jxc12de_init_da8c8 at HF
  refine ev_aload_n 0 dJxc12de_init_da8c8_0 rfl ?_
  replace HF := bind_o HF
  obtain ⟨h2, e1, HF⟩ := HF
  refine ev_callI (As := []) (R1 := (none, h2)) (lk_Jxa1e45_init_da8c8 (d := 1) (Nat.le_refl _) hT e1) ce_Jxa1e45_init_da8c8 rfl im_Jxa1e45_init_da8c8 ml_Jxc12de_1 dJxc12de_init_da8c8_1 (by omega) (Nat.le_of_ble_eq_true rfl) rfl rfl ?_
  show EvG _ _ _ _ _ _ _ _ _ _ _ 4 [(0, .ref t)] [] h2
  refine ev_aload_n 0 dJxc12de_init_da8c8_4 rfl ?_
  refine ev_iconst (v := 0) dJxc12de_init_da8c8_5 (by decide) ?_
  replace HF := bind_ck HF
  obtain ⟨c4, HF⟩ := HF
  refine ev_pI (f := 0) cl_Jx4a65c (k := 0) (by decide) fi_Jx4a65c_0 rfl fl_Jxc12de_7 rfl rfl rfl dJxc12de_init_da8c8_6 c4 ?_
  replace HF := bd_n HF
  obtain ⟨h5, eh5, HF⟩ := HF
  refine ev_heap eh5 ?_
  have c6 : hK h5 t = 1 := by rw [eh5]; exact c4
  obtain rfl := Option.some.inj HF
  exact ev_vret dJxc12de_init_da8c8_9

set_option maxRecDepth 20000 in
theorem lk_Jx4a65c_init_da8c8 {g : aG} {l : Launch} {d : Nat} (hdd : 3 ≤ d) {t : Nat} {h : aH} {r : aH} (hT : hK h t = 1) (HF : F_Jx4a65c_init_da8c8 t h = some r) : MA g l yJx4a65c_init_da8c8 cJx4a65c_init_da8c8 1 (none) d [.ref t] h (none, r) := by
  refine MA.of (lv0 := [(0, .ref t)]) (by decide +kernel) (rfl) (Nat.le_of_ble_eq_true rfl) ?_
  unfold F_Jx4a65c_init_da8c8 at HF
  refine ev_aload_n 0 dJx4a65c_init_da8c8_0 rfl ?_
  replace HF := bind_o HF
  obtain ⟨h2, e1, HF⟩ := HF
  refine ev_callI (As := []) (R1 := (none, h2)) (lk_Jxc12de_init_da8c8 (d := 2) (Nat.le_refl _) hT e1) ce_Jxc12de_init_da8c8 rfl im_Jxc12de_init_da8c8 ml_Jx4a65c_1 dJx4a65c_init_da8c8_1 (by omega) (Nat.le_of_ble_eq_true rfl) rfl rfl ?_
  show EvG _ _ _ _ _ _ _ _ _ _ _ 4 [(0, .ref t)] [] h2
  refine ev_aload_n 0 dJx4a65c_init_da8c8_4 rfl ?_
  refine ev_gstE gs_Jx4a65c_39 dJx4a65c_init_da8c8_5 ?_
  replace HF := bind_ck HF
  obtain ⟨c4, HF⟩ := HF
  refine ev_pS (f := 1) cl_Jx4a65c (k := 1) (by decide) fi_Jx4a65c_1 rfl fl_Jx4a65c_9 rfl rfl dJx4a65c_init_da8c8_8 c4 ?_
  replace HF := bd_n HF
  obtain ⟨h5, eh5, HF⟩ := HF
  refine ev_heap eh5 ?_
  have c6 : hK h5 t = 1 := by rw [eh5]; exact c4
  obtain rfl := Option.some.inj HF
  exact ev_vret dJx4a65c_init_da8c8_11

set_option maxRecDepth 20000 in
theorem lk_J3_checkIndex_8e157_9 {g : aG} {l : Launch} {d : Nat} {h0 : aH} (hdd : 0 ≤ d) {r : Int32 × aH} (x0 : Int32) (x1 : Int32) (x2 : Option Nat) (h : aH) (HF : F_J3_checkIndex_8e157_9  x0 x1 x2 h = some r) : Ev g l cJ3_checkIndex_8e157 3 yJ3_checkIndex_8e157 (some .int) d h0 (some (.int r.1), r.2) 9 [(0, .int x0), (1, .int x1), (2, va_rf x2)] [] h := by
  unfold F_J3_checkIndex_8e157_9 at HF
  refine ev_aload_nr 2 dJ3_checkIndex_8e157_9 rfl ?_
  refine ev_iload_n 0 dJ3_checkIndex_8e157_10 rfl ?_
  refine ev_iload_n 1 dJ3_checkIndex_8e157_11 rfl ?_
  cases HF

set_option maxRecDepth 20000 in
theorem lk_J3_checkIndex_8e157 {g : aG} {l : Launch} {d : Nat} (hdd : 0 ≤ d) {x0 : Int32} {x1 : Int32} {x2 : Option Nat} {h : aH} {r : Int32 × aH} (HF : F_J3_checkIndex_8e157 x0 x1 x2 h = some r) : MA g l yJ3_checkIndex_8e157 cJ3_checkIndex_8e157 3 (some .int) d [.int x0, .int x1, va_rf x2] h (some (.int r.1), r.2) := by
  refine MA.of (lv0 := [(0, .int x0), (1, .int x1), (2, va_rf x2)]) (by decide +kernel) (by cases x2 <;> rfl) (by cases x2 <;> exact Nat.le_of_ble_eq_true rfl) ?_
  unfold F_J3_checkIndex_8e157 at HF
  refine ev_iload_n 0 dJ3_checkIndex_8e157_0 rfl ?_
  by_cases c1 : x0 < 0
  · replace HF := ite_T c1 HF
    refine ev_if_ltT (tgt := 9) dJ3_checkIndex_8e157_1 (by decide) c1 ?_
    exact Ev.sub [0, 1, 2] rfl (lk_J3_checkIndex_8e157_9 hdd  x0 x1 x2 _ HF)
  · replace HF := ite_F c1 HF
    refine ev_if_ltF (tgt := 9) dJ3_checkIndex_8e157_1 (by decide) c1 ?_
    refine ev_iload_n 0 dJ3_checkIndex_8e157_4 rfl ?_
    refine ev_iload_n 1 dJ3_checkIndex_8e157_5 rfl ?_
    by_cases c2 : x0 < x1
    · replace HF := ite_T c2 HF
      refine ev_icmp_ltT (tgt := 16) dJ3_checkIndex_8e157_6 (by decide) c2 ?_
      refine ev_iload_n 0 dJ3_checkIndex_8e157_16 rfl ?_
      obtain rfl := Option.some.inj HF
      exact ev_iret dJ3_checkIndex_8e157_17
    · replace HF := ite_F c2 HF
      refine ev_icmp_ltF (tgt := 16) dJ3_checkIndex_8e157_6 (by decide) c2 ?_
      exact Ev.sub [0, 1, 2] rfl (lk_J3_checkIndex_8e157_9 hdd  x0 x1 x2 _ HF)

set_option maxRecDepth 20000 in
theorem lk_J15_checkIndex_7cf53 {g : aG} {l : Launch} {d : Nat} (hdd : 1 ≤ d) {x0 : Int32} {x1 : Int32} {h : aH} {r : Int32 × aH} (HF : F_J15_checkIndex_7cf53 x0 x1 h = some r) : MA g l yJ15_checkIndex_7cf53 cJ15_checkIndex_7cf53 2 (some .int) d [.int x0, .int x1] h (some (.int r.1), r.2) := by
  refine MA.of (lv0 := [(0, .int x0), (1, .int x1)]) (by decide +kernel) (rfl) (Nat.le_of_ble_eq_true rfl) ?_
  unfold F_J15_checkIndex_7cf53 at HF
  refine ev_iload_n 0 dJ15_checkIndex_7cf53_0 rfl ?_
  refine ev_iload_n 1 dJ15_checkIndex_7cf53_1 rfl ?_
  refine ev_null dJ15_checkIndex_7cf53_2 ?_
  replace HF := bind_o HF
  obtain ⟨⟨z3, h2⟩, e1, HF⟩ := HF
  replace HF := bd_o (bd_o HF)
  dsimp only at HF
  refine ev_callS (As := [.int x0, .int x1, va_rf none]) (R1 := (some (.int z3), h2)) (lk_J3_checkIndex_8e157 (d := 0) (Nat.le_refl _) e1) ce_J3_checkIndex_8e157 st_J3_checkIndex_8e157 ml_J15_105 dJ15_checkIndex_7cf53_3 (by omega) (Nat.le_of_ble_eq_true rfl) rfl rfl ?_
  show EvG _ _ _ _ _ _ _ _ _ _ _ 6 [(0, .int x0), (1, .int x1)] [.int z3] h2
  obtain rfl := Option.some.inj HF
  exact ev_iret dJ15_checkIndex_7cf53_6

set_option maxRecDepth 20000 in
theorem lk_Jx4a65c_elementData_915e3 {g : aG} {l : Launch} {d : Nat} (hdd : 0 ≤ d) {t : Nat} {x1 : Int32} {h : aH} {r : Option Nat × aH} (hT : hK h t = 1) (HF : F_Jx4a65c_elementData_915e3 t x1 h = some r) : MA g l yJx4a65c_elementData_915e3 cJx4a65c_elementData_915e3 2 (some (.object "java/lang/Object")) d [.ref t, .int x1] h (some (va_rf r.1), r.2) := by
  refine MA.of (lv0 := [(0, .ref t), (1, .int x1)]) (by decide +kernel) (rfl) (Nat.le_of_ble_eq_true rfl) ?_
  unfold F_Jx4a65c_elementData_915e3 at HF
  refine ev_aload_n 0 dJx4a65c_elementData_915e3_0 rfl ?_
  replace HF := bind_o HF
  obtain ⟨b1, e2, HF⟩ := HF
  refine ev_gS (f := 1) cl_Jx4a65c (k := 1) (by decide) fi_Jx4a65c_1 rfl fl_Jx4a65c_9 dJx4a65c_elementData_915e3_1 hT e2 ?_
  refine ev_iload_n 1 dJx4a65c_elementData_915e3_4 rfl ?_
  replace HF := bind_ck HF
  obtain ⟨c3, HF⟩ := HF
  replace HF := bind_o HF
  obtain ⟨b4, e5, HF⟩ := HF
  refine ev_aald 26 dJx4a65c_elementData_915e3_5 (by decide) (by decide) c3.1 c3.2 ?_
  rw [e5]
  obtain rfl := Option.some.inj HF
  exact ev_aret (r := some b4) (Or.inl ⟨_, rfl⟩) dJx4a65c_elementData_915e3_6

set_option maxRecDepth 20000 in
theorem lk_Jx4a65c_get_915e3 {g : aG} {l : Launch} {d : Nat} (hdd : 2 ≤ d) {t : Nat} {x1 : Int32} {h : aH} {r : Option Nat × aH} (hT : hK h t = 1) (HF : F_Jx4a65c_get_915e3 t x1 h = some r) : MA g l yJx4a65c_get_915e3 cJx4a65c_get_915e3 2 (some (.object "java/lang/Object")) d [.ref t, .int x1] h (some (va_rf r.1), r.2) := by
  refine MA.of (lv0 := [(0, .ref t), (1, .int x1)]) (by decide +kernel) (rfl) (Nat.le_of_ble_eq_true rfl) ?_
  unfold F_Jx4a65c_get_915e3 at HF
  refine ev_iload_n 1 dJx4a65c_get_915e3_0 rfl ?_
  refine ev_aload_n 0 dJx4a65c_get_915e3_1 rfl ?_
  refine ev_gI (f := 2) cl_Jx4a65c (k := 2) (by decide) fi_Jx4a65c_2 rfl fl_Jx4a65c_48 dJx4a65c_get_915e3_2 hT ?_
  replace HF := bind_o HF
  obtain ⟨⟨z3, h2⟩, e1, HF⟩ := HF
  replace HF := bd_o (bd_o HF)
  dsimp only at HF
  refine ev_callS (As := [.int x1, .int (hF h 2 t)]) (R1 := (some (.int z3), h2)) (lk_J15_checkIndex_7cf53 (d := 1) (Nat.le_refl _) e1) ce_J15_checkIndex_7cf53 st_J15_checkIndex_7cf53 ml_Jx4a65c_118 dJx4a65c_get_915e3_5 (by omega) (Nat.le_of_ble_eq_true rfl) rfl rfl ?_
  show EvG _ _ _ _ _ _ _ _ _ _ _ 8 [(0, .ref t), (1, .int x1)] [.int z3] h2
  refine ev_pop dJx4a65c_get_915e3_8 (by first | rfl | exact va_cat _) ?_
  refine ev_aload_n 0 dJx4a65c_get_915e3_9 rfl ?_
  refine ev_iload_n 1 dJx4a65c_get_915e3_10 rfl ?_
  show EvG _ _ _ _ _ _ _ _ _ _ _ 11 _ _ _
  replace HF := bind_ck HF
  obtain ⟨c5, HF⟩ := HF
  replace HF := bind_o HF
  obtain ⟨⟨o8, h7⟩, e6, HF⟩ := HF
  replace HF := bd_o (bd_o HF)
  dsimp only at HF
  refine ev_callV (As := [.int x1]) (R1 := (some (va_rf o8), h7)) (lk_Jx4a65c_elementData_915e3 (d := 0) (Nat.le_refl _) c5 e6) ce_Jx4a65c_elementData_915e3 im_Jx4a65c_elementData_915e3 sl_Jx4a65c_elementData_915e3 ml_Jx4a65c_123 cl_Jx4a65c c5 dJx4a65c_get_915e3_11 (by omega) (Nat.le_of_ble_eq_true rfl) rfl rfl ?_
  show EvG _ _ _ _ _ _ _ _ _ _ _ 14 [(0, .ref t), (1, .int x1)] [va_rf o8] h7
  obtain rfl := Option.some.inj HF
  exact ev_aret (r := o8) (Or.inl ⟨_, rfl⟩) dJx4a65c_get_915e3_14

set_option maxRecDepth 20000 in
theorem lk_Jx4a65c_size_8abf5 {g : aG} {l : Launch} {d : Nat} (hdd : 0 ≤ d) {t : Nat} {h : aH} {r : Int32 × aH} (hT : hK h t = 1) (HF : F_Jx4a65c_size_8abf5 t h = some r) : MA g l yJx4a65c_size_8abf5 cJx4a65c_size_8abf5 1 (some .int) d [.ref t] h (some (.int r.1), r.2) := by
  refine MA.of (lv0 := [(0, .ref t)]) (by decide +kernel) (rfl) (Nat.le_of_ble_eq_true rfl) ?_
  unfold F_Jx4a65c_size_8abf5 at HF
  refine ev_aload_n 0 dJx4a65c_size_8abf5_0 rfl ?_
  refine ev_gI (f := 2) cl_Jx4a65c (k := 2) (by decide) fi_Jx4a65c_2 rfl fl_Jx4a65c_48 dJx4a65c_size_8abf5_1 hT ?_
  obtain rfl := Option.some.inj HF
  exact ev_iret dJx4a65c_size_8abf5_4

set_option maxRecDepth 20000 in
theorem lk_Jx4a65c_isEmpty_aae02 {g : aG} {l : Launch} {d : Nat} (hdd : 0 ≤ d) {t : Nat} {h : aH} {r : Int32 × aH} (hT : hK h t = 1) (HF : F_Jx4a65c_isEmpty_aae02 t h = some r) : MA g l yJx4a65c_isEmpty_aae02 cJx4a65c_isEmpty_aae02 1 (some .boolean) d [.ref t] h (some (.int r.1), r.2) := by
  refine MA.of (lv0 := [(0, .ref t)]) (by decide +kernel) (rfl) (Nat.le_of_ble_eq_true rfl) ?_
  unfold F_Jx4a65c_isEmpty_aae02 at HF
  refine ev_aload_n 0 dJx4a65c_isEmpty_aae02_0 rfl ?_
  refine ev_gI (f := 2) cl_Jx4a65c (k := 2) (by decide) fi_Jx4a65c_2 rfl fl_Jx4a65c_48 dJx4a65c_isEmpty_aae02_1 hT ?_
  by_cases c1 : hF h 2 t = 0
  · replace HF := ite_T c1 HF
    refine ev_if_neF (tgt := 11) dJx4a65c_isEmpty_aae02_4 (by decide) c1 ?_
    refine ev_iconst (v := 1) dJx4a65c_isEmpty_aae02_7 (by decide) ?_
    refine ev_goto (tgt := 12) dJx4a65c_isEmpty_aae02_8 (by decide) ?_
    obtain rfl := Option.some.inj HF
    exact ev_zret (v := 1) narrow_b1 dJx4a65c_isEmpty_aae02_12
  · replace HF := ite_F c1 HF
    refine ev_if_neT (tgt := 11) dJx4a65c_isEmpty_aae02_4 (by decide) c1 ?_
    refine ev_iconst (v := 0) dJx4a65c_isEmpty_aae02_11 (by decide) ?_
    obtain rfl := Option.some.inj HF
    exact ev_zret (v := 0) narrow_b0 dJx4a65c_isEmpty_aae02_12

set_option maxRecDepth 20000 in
theorem lk_J8_newLength_cabcc_21 {g : aG} {l : Launch} {d : Nat} {h0 : aH} (hdd : 1 ≤ d) {r : Int32 × aH} (x0 : Int32) (x1 : Int32) (h : aH) (HF : F_J8_newLength_cabcc_21  x0 x1 h = some r) : Ev g l cJ8_newLength_cabcc 4 yJ8_newLength_cabcc (some .int) d h0 (some (.int r.1), r.2) 21 [(0, .int x0), (1, .int x1)] [] h := by
  unfold F_J8_newLength_cabcc_21 at HF
  refine ev_iload_n 0 dJ8_newLength_cabcc_21 rfl ?_
  refine ev_iload_n 1 dJ8_newLength_cabcc_22 rfl ?_
  cases HF

set_option maxRecDepth 20000 in
theorem lk_J8_newLength_cabcc {g : aG} {l : Launch} {d : Nat} (hdd : 1 ≤ d) {x0 : Int32} {x1 : Int32} {x2 : Int32} {h : aH} {r : Int32 × aH} (HF : F_J8_newLength_cabcc x0 x1 x2 h = some r) : MA g l yJ8_newLength_cabcc cJ8_newLength_cabcc 4 (some .int) d [.int x0, .int x1, .int x2] h (some (.int r.1), r.2) := by
  refine MA.of (lv0 := [(0, .int x0), (1, .int x1), (2, .int x2)]) (by decide +kernel) (rfl) (Nat.le_of_ble_eq_true rfl) ?_
  unfold F_J8_newLength_cabcc at HF
  refine ev_iload_n 0 dJ8_newLength_cabcc_0 rfl ?_
  refine ev_iload_n 1 dJ8_newLength_cabcc_1 rfl ?_
  refine ev_iload_n 2 dJ8_newLength_cabcc_2 rfl ?_
  refine ev_max ml_J8_194 dJ8_newLength_cabcc_3 (by omega) (Nat.le_of_ble_eq_true rfl) ?_
  replace HF := bd_n HF
  obtain ⟨z1, ez1, HF⟩ := HF
  refine ev_topI ez1 ?_
  refine ev_iadd dJ8_newLength_cabcc_6 ?_
  replace HF := bd_n HF
  obtain ⟨v2, ev2, HF⟩ := HF
  refine ev_topI ev2 ?_
  refine ev_istore_n (lv' := [(3, .int v2), (0, .int x0), (1, .int x1), (2, .int x2)]) dJ8_newLength_cabcc_7 (by decide) (rfl) ?_
  refine ev_iconst (v := 0) dJ8_newLength_cabcc_8 (by decide) ?_
  show EvG _ _ _ _ _ _ _ _ _ _ _ 9 _ _ _
  refine ev_iload_n 0 dJ8_newLength_cabcc_9 rfl ?_
  by_cases c3 : v2 ≤ 0
  · replace HF := ite_T c3 HF
    refine ev_icmp_geT (tgt := 21) dJ8_newLength_cabcc_10 (by decide) c3 ?_
    exact Ev.sub [1, 2] rfl (lk_J8_newLength_cabcc_21 hdd  x0 x1 _ HF)
  · replace HF := ite_F c3 HF
    refine ev_icmp_geF (tgt := 21) dJ8_newLength_cabcc_10 (by decide) c3 ?_
    refine ev_iload_n 0 dJ8_newLength_cabcc_13 rfl ?_
    refine ev_ldc kc_J8_200 dJ8_newLength_cabcc_14 ?_
    by_cases c4 : 2147483639 < v2
    · replace HF := ite_T c4 HF
      refine ev_icmp_gtT (tgt := 21) dJ8_newLength_cabcc_16 (by decide) c4 ?_
      exact Ev.sub [1, 2] rfl (lk_J8_newLength_cabcc_21 hdd  x0 x1 _ HF)
    · replace HF := ite_F c4 HF
      refine ev_icmp_gtF (tgt := 21) dJ8_newLength_cabcc_16 (by decide) c4 ?_
      refine ev_iload_n 0 dJ8_newLength_cabcc_19 rfl ?_
      obtain rfl := Option.some.inj HF
      exact ev_iret dJ8_newLength_cabcc_20

section CopyOf
theorem ev_ldcM {g : aG} {l : Launch} {cc : ByteArray} {nL : Nat} {y : MethodName} {ret : Option FieldType} {d : Nat} {h0 : aH} {zc zs : Nat} {Z : List Frame → Array Value → State → State → Prop} {pc idx : Nat} {lv : List (Nat × Value)} {st : List Value} {h : aH} (hw : Cond.classLink y.cls idx "[Ljava/lang/Object;" ∈ lw_gd) (hd : decode cc pc = .ok (.ldc idx, 2)) (kk : EvG g l cc nL y ret d h0 zc zs Z (pc + 2) lv (.ref (gM g) :: st) h) : EvG g l cc nL y ret d h0 zc zs Z pc lv st h := by
  refine Ev.up kk fun C _ w => ?_
  obtain ⟨hx, hb, hml, hown, hts, hr, hlk, hnm, hKs, hro, hnw, hao, hnd⟩ := C
  exact va_ldcM hx hb hown (hts _ hw) hro.2.2.2.2.2.2.1 hd w
theorem ev_getC {g : aG} {l : Launch} {cc : ByteArray} {nL : Nat} {y : MethodName} {ret : Option FieldType} {d : Nat} {h0 : aH} {zc zs : Nat} {Z : List Frame → Array Value → State → State → Prop} {pc idx a : Nat} {lv : List (Nat × Value)} {st : List Value} {h : aH} (hw : Cond.methodLink y.cls idx ⟨"java/lang/Object", "getClass", "()Ljava/lang/Class;"⟩ ∈ lw_gd) (hKa : hK h a = 26) (hd : decode cc pc = .ok (.invokevirtual idx, 3)) (hdd : 1 ≤ d) (hst : (st.map fun v => v.category).sum ≤ 8) (kk : EvG g l cc nL y ret d h0 zc zs Z (pc + 3) lv (.ref (gM g) :: st) h) : EvG g l cc nL y ret d h0 zc zs Z pc lv (.ref a :: st) h := by
  refine ⟨kk.1, kk.2.1, fun p e s m args below meth c X H locs ls hl hH hS hsz h1 h2 => ?_⟩
  have w := kk.2.2 p e s m args below meth c X H locs ls hl hH hS hsz h1 h2
  obtain ⟨hx, hb, hml, hown, hts, hr, hlk, hnm, hKs, hro, hnw, hao, hnd⟩ := X
  obtain ⟨L, hP, hD, hL, hzz, hB, hL2⟩ := hH
  obtain ⟨q0, he⟩ := HW.at (g := g) (H := H) hL (a := a) (by omega)
  rw [cf_O hKa (by decide)] at he
  have hnm2 : s.vm.findClass "[Ljava/lang/Object;" = some (gC g 26) := va_nmO (hKs.2 5 _ (okd_t g (k := 26) (by decide) (by decide))).2 (by decide +kernel)
  exact va_getC hx hb (hml.trans hl.1.symm) hown (hts _ hw) (va_Nw.use rfl (hnw.1 _ dc_gc)) (hts _ sl_gc) (hts _ im_gc) (hts _ nt_gc) hro.2.2.2.2.2.2.1 ⟨_, hP q0 _ he, rfl, hnm2⟩ hdd (by show _ ≤ 38 * d + 12; omega) hd w
def F_J7_copyOf_6403c (a0 : Nat) (x1 : Int32) (h : aH) : Option (Option Nat × aH) :=
  (ck (¬ x1 < 0 ∧ x1.toNatClampNeg ≤ 10000000)).bind fun _ =>
  bd (hz h) fun b =>
  bd (nA h 26 x1.toNatClampNeg) fun h1 =>
  (ck (a0 = hE h1 ∨ hK h1 a0 = 26)).bind fun _ =>
  bd (if x1 < alen h1 a0 then x1 else alen h1 a0) fun z =>
  (ck (hK h1 a0 = 26 ∧ hK h1 b = 26 ∧ ¬ z < 0 ∧ z.toNatClampNeg ≤ hN h1 a0 ∧ z.toNatClampNeg ≤ hN h1 b ∧ ownR h1 a0 z.toNatClampNeg = true)).bind fun _ =>
  bd (sR h1 b (va_cpy (hO h1 a0) (hO h1 b) 0 0 z.toNatClampNeg)) fun h3 =>
  some (some b, h3)
theorem lk_J7_copyOf_6403c {g : aG} {l : Launch} {d : Nat} (hdd : 1 ≤ d) {a0 : Nat} {x1 : Int32} {h : aH} {r : Option Nat × aH} (HF : F_J7_copyOf_6403c a0 x1 h = some r) : MA g l yJ7_copyOf_6403c cJ7_copyOf_6403c 4 (some (.array (.object "java/lang/Object"))) d [.ref a0, .int x1, .ref (gM g)] h (some (va_rf r.1), r.2) := by
  refine MA.of (lv0 := [(0, .ref a0), (1, .int x1), (2, .ref (gM g))]) (by decide +kernel) rfl (Nat.le_of_ble_eq_true rfl) ?_
  unfold F_J7_copyOf_6403c at HF
  refine ev_aload_n 2 dJ7_copyOf_6403c_0 rfl ?_
  refine ev_ldcM kl_J7_110 dJ7_copyOf_6403c_1 ?_
  refine ev_acmp_neF (tgt := 13) dJ7_copyOf_6403c_3 (by decide) rfl ?_
  refine ev_iload_n 1 dJ7_copyOf_6403c_6 rfl ?_
  replace HF := bind_ck HF
  obtain ⟨c1, HF⟩ := HF
  refine ev_anew (k := 26) (by decide) (by decide) kl_J7_2 dJ7_copyOf_6403c_7 c1.1 rfl (Nat.le_trans c1.2 (by decide)) ?_
  replace HF := bd_o HF
  revert HF
  generalize hz h = b
  intro HF
  replace HF := bd_o HF
  revert HF
  generalize nA h 26 x1.toNatClampNeg = h1
  intro HF
  refine ev_goto (tgt := 24) dJ7_copyOf_6403c_10 (by decide) ?_
  refine ev_astore_n (lv' := [(3, .ref b), (0, .ref a0), (1, .int x1), (2, .ref (gM g))]) dJ7_copyOf_6403c_24 (by decide) rfl ?_
  refine ev_aload_n 1 dJ7_copyOf_6403c_25 rfl ?_
  refine ev_iconst (v := 0) dJ7_copyOf_6403c_26 (by decide) ?_
  refine ev_aload_n 0 dJ7_copyOf_6403c_27 rfl ?_
  refine ev_iconst (v := 0) dJ7_copyOf_6403c_28 (by decide) ?_
  refine ev_aload_n 1 dJ7_copyOf_6403c_29 rfl ?_
  replace HF := bind_ck HF
  obtain ⟨c2, HF⟩ := HF
  refine ev_alenE dJ7_copyOf_6403c_30 c2 ?_
  refine ev_iload_n 2 dJ7_copyOf_6403c_31 rfl ?_
  refine ev_min ml_J7_304 dJ7_copyOf_6403c_32 (by omega) (Nat.le_of_ble_eq_true rfl) ?_
  replace HF := bd_o HF
  revert HF
  generalize (if x1 < alen h1 a0 then x1 else alen h1 a0) = z
  intro HF
  show EvG _ _ _ _ _ _ _ _ _ _ _ 35 _ [.int z, .int 0, .ref b, .int 0, .ref a0] h1
  replace HF := bind_ck HF
  obtain ⟨⟨c3, c4, c5, c6, c7, c8⟩, HF⟩ := HF
  refine ev_copy ma_J7_150 nt_ac st_ac in_sys dJ7_copyOf_6403c_35 c3 c4 c5 c6 c7 c8 hdd (Nat.le_of_ble_eq_true rfl) ?_
  replace HF := bd_o HF
  revert HF
  generalize sR h1 b (va_cpy (hO h1 a0) (hO h1 b) 0 0 z.toNatClampNeg) = h3
  intro HF
  refine ev_aload_n 0 dJ7_copyOf_6403c_38 rfl ?_
  obtain rfl := Option.some.inj HF
  exact ev_aret (r := some b) (Or.inr ⟨_, rfl⟩) dJ7_copyOf_6403c_39
def F_J7_copyOf_1904c (a0 : Nat) (x1 : Int32) (h : aH) : Option (Option Nat × aH) :=
  (ck (hK h a0 = 26)).bind fun _ =>
  (F_J7_copyOf_6403c a0 x1 h).bind fun q =>
  bd q.1 fun o =>
  bd q.2 fun h1 =>
  some (o, h1)
theorem lk_J7_copyOf_1904c {g : aG} {l : Launch} {d : Nat} (hdd : 2 ≤ d) {a0 : Nat} {x1 : Int32} {h : aH} {r : Option Nat × aH} (HF : F_J7_copyOf_1904c a0 x1 h = some r) : MA g l yJ7_copyOf_1904c cJ7_copyOf_1904c 2 (some (.array (.object "java/lang/Object"))) d [.ref a0, .int x1] h (some (va_rf r.1), r.2) := by
  refine MA.of (lv0 := [(0, .ref a0), (1, .int x1)]) (by decide +kernel) rfl (Nat.le_of_ble_eq_true rfl) ?_
  unfold F_J7_copyOf_1904c at HF
  refine ev_aload_n 0 dJ7_copyOf_1904c_0 rfl ?_
  refine ev_iload_n 1 dJ7_copyOf_1904c_1 rfl ?_
  refine ev_aload_n 0 dJ7_copyOf_1904c_2 rfl ?_
  replace HF := bind_ck HF
  obtain ⟨c1, HF⟩ := HF
  refine ev_getC mg_J7_86 c1 dJ7_copyOf_1904c_3 (by omega) (Nat.le_of_ble_eq_true rfl) ?_
  replace HF := bind_o HF
  obtain ⟨⟨o, h1⟩, e1, HF⟩ := HF
  replace HF := bd_o (bd_o HF)
  dsimp only at HF
  refine ev_callS (As := [.ref a0, .int x1, .ref (gM g)]) (R1 := (some (va_rf o), h1)) (lk_J7_copyOf_6403c (d := 1) (Nat.le_refl _) e1) ce_J7_copyOf_6403c st_J7_copyOf_6403c ml_J7_300 dJ7_copyOf_1904c_6 (by omega) (Nat.le_of_ble_eq_true rfl) rfl rfl ?_
  show EvG _ _ _ _ _ _ _ _ _ _ _ 9 _ [va_rf o] h1
  obtain rfl := Option.some.inj HF
  exact ev_aret (r := o) (Or.inr ⟨_, rfl⟩) dJ7_copyOf_1904c_9
end CopyOf
def F_Jx4a65c_grow_92f84_20 (t : Nat) (x1 : Int32) (x2 : Int32) (h : aH) : Option (Option Nat × aH) :=
  (F_J8_newLength_cabcc x2 (x1 - x2) (x2 >>> (1 &&& 31)) h).bind fun q4 =>
  bd q4.1 fun z3 =>
  bd q4.2 fun h2 =>
  (ck (hK h2 t = 1)).bind fun _ =>
  (hG h2 1 t).bind fun b6 =>
  (F_J7_copyOf_1904c b6 z3 h2).bind fun q11 =>
  bd q11.1 fun o10 =>
  bd q11.2 fun h9 =>
  (ck (hK h9 t = 1)).bind fun _ =>
  bd (sG h9 1 t o10) fun h13 =>
  some (o10, h13)

def F_Jx4a65c_grow_92f84 (t : Nat) (x1 : Int32) (h : aH) : Option (Option Nat × aH) :=
  (hG h 1 t).bind fun b1 =>
  (ck (b1 = hE h ∨ hK h b1 = 26)).bind fun _ =>
  bd (alen h b1) fun v4 =>
  if 0 < v4 then
    F_Jx4a65c_grow_92f84_20 t x1 v4 h
  else
    (hG h 1 t).bind fun b6 =>
    if b6 = (hE h) then
      bd (if 10 < x1 then x1 else 10) fun z9 =>
      (ck (¬ z9 < 0 ∧ z9.toNatClampNeg ≤ 10000000)).bind fun _ =>
      bd (hz h) fun b11 =>
      bd (nA h 26 z9.toNatClampNeg) fun h12 =>
      (ck (hK h12 t = 1)).bind fun _ =>
      bd (sG h12 1 t (some b11)) fun h14 =>
      some (some b11, h14)
    else
      F_Jx4a65c_grow_92f84_20 t x1 v4 h

def F_Jx4a65c_grow_d5877 (t : Nat) (h : aH) : Option (Option Nat × aH) :=
  (F_Jx4a65c_grow_92f84 t ((hF h 2 t) + 1) h).bind fun q4 =>
  bd q4.1 fun o3 =>
  bd q4.2 fun h2 =>
  some (o3, h2)

def F_Jx4a65c_add_72be8_11 (t : Nat) (a1 : Nat) (x2 : Option Nat) (x3 : Int32) (h : aH) : Option (aH) :=
  x2.bind fun b1 =>
  (ck (hK h b1 = 26 ∧ inR x3 (hN h b1))).bind fun _ =>
  (ck (ownK h a1)).bind fun _ =>
  bd (sO h b1 x3.toNatClampNeg (some a1)) fun h5 =>
  (ck (hK h5 t = 1)).bind fun _ =>
  bd (sF h5 2 t (x3 + 1)) fun h7 =>
  some h7

def F_Jx4a65c_add_72be8 (t : Nat) (a1 : Nat) (a2 : Nat) (x3 : Int32) (h : aH) : Option (aH) :=
  (ck (a2 = hE h ∨ hK h a2 = 26)).bind fun _ =>
  if x3 = alen h a2 then
    (F_Jx4a65c_grow_d5877 t h).bind fun q6 =>
    bd q6.1 fun o5 =>
    bd q6.2 fun h4 =>
    F_Jx4a65c_add_72be8_11 t a1 o5 x3 h4
  else
    F_Jx4a65c_add_72be8_11 t a1 (some a2) x3 h

def F_Jx4a65c_add_9ea2d (t : Nat) (a1 : Nat) (h : aH) : Option (Int32 × aH) :=
  bd (sF h 0 t ((hF h 0 t) + 1)) fun h1 =>
  (hG h1 1 t).bind fun b3 =>
  (F_Jx4a65c_add_72be8 t a1 b3 (hF h1 2 t) h1).bind fun h6 =>
  some (1, h6)

def F_Jx4a65c_fastRemove_b59b0_34 (t : Nat) (a1 : Nat) (x3 : Int32) (h : aH) : Option (aH) :=
  (ck (hK h t = 1)).bind fun _ =>
  bd (sF h 2 t x3) fun h2 =>
  (ck (hK h2 a1 = 26 ∧ inR x3 (hN h2 a1))).bind fun _ =>
  bd (sO h2 a1 x3.toNatClampNeg none) fun h5 =>
  some h5

def F_Jx4a65c_fastRemove_b59b0 (t : Nat) (a1 : Nat) (x2 : Int32) (h : aH) : Option (aH) :=
  bd (sF h 0 t ((hF h 0 t) + 1)) fun h1 =>
  bd ((hF h1 2 t) - 1) fun v3 =>
  if (hF h1 2 t) - 1 ≤ x2 then
    F_Jx4a65c_fastRemove_b59b0_34 t a1 v3 h1
  else
    none

def F_Jx4a65c_remove_915e3 (t : Nat) (x1 : Int32) (h : aH) : Option (Option Nat × aH) :=
  (F_J15_checkIndex_7cf53 x1 (hF h 2 t) h).bind fun q4 =>
  bd q4.1 fun z3 =>
  bd q4.2 fun h2 =>
  (ck (hK h2 t = 1)).bind fun _ =>
  (hG h2 1 t).bind fun b6 =>
  (ck (hK h2 b6 = 26 ∧ inR x1 (hN h2 b6))).bind fun _ =>
  (hO h2 b6 x1.toNatClampNeg).bind fun b9 =>
  (F_Jx4a65c_fastRemove_b59b0 t b6 x1 h2).bind fun h12 =>
  some (some b9, h12)

set_option maxRecDepth 20000 in
theorem lk_Jx4a65c_grow_92f84_20 {g : aG} {l : Launch} {d : Nat} {h0 : aH} (hdd : 3 ≤ d) {r : Option Nat × aH} (t : Nat) (x1 : Int32) (x2 : Int32) (h : aH) (HF : F_Jx4a65c_grow_92f84_20  t x1 x2 h = some r) : Ev g l cJx4a65c_grow_92f84 4 yJx4a65c_grow_92f84 (some (.array (.object "java/lang/Object"))) d h0 (some (va_rf r.1), r.2) 20 [(0, .ref t), (1, .int x1), (2, .int x2)] [] h := by
  unfold F_Jx4a65c_grow_92f84_20 at HF
  refine ev_iload_n 2 dJx4a65c_grow_92f84_20 rfl ?_
  refine ev_iload_n 1 dJx4a65c_grow_92f84_21 rfl ?_
  refine ev_iload_n 2 dJx4a65c_grow_92f84_22 rfl ?_
  refine ev_isub dJx4a65c_grow_92f84_23 ?_
  refine ev_iload_n 2 dJx4a65c_grow_92f84_24 rfl ?_
  refine ev_iconst (v := 1) dJx4a65c_grow_92f84_25 (by decide) ?_
  refine ev_ishr dJx4a65c_grow_92f84_26 ?_
  show EvG _ _ _ _ _ _ _ _ _ _ _ 27 _ _ _
  replace HF := bind_o HF
  obtain ⟨⟨z3, h2⟩, e1, HF⟩ := HF
  replace HF := bd_o (bd_o HF)
  dsimp only at HF
  refine ev_callS (As := [.int x2, .int (x1 - x2), .int (x2 >>> (1 &&& 31))]) (R1 := (some (.int z3), h2)) (lk_J8_newLength_cabcc (d := 1) (Nat.le_refl _) e1) ce_J8_newLength_cabcc st_J8_newLength_cabcc ml_Jx4a65c_73 dJx4a65c_grow_92f84_27 (by omega) (Nat.le_of_ble_eq_true rfl) rfl rfl ?_
  show EvG _ _ _ _ _ _ _ _ _ _ _ 30 [(0, .ref t), (1, .int x1), (2, .int x2)] [.int z3] h2
  refine ev_istore_n (lv' := [(3, .int z3), (0, .ref t), (1, .int x1), (2, .int x2)]) dJx4a65c_grow_92f84_30 (by decide) (rfl) ?_
  refine ev_aload_n 1 dJx4a65c_grow_92f84_31 rfl ?_
  refine ev_aload_n 1 dJx4a65c_grow_92f84_32 rfl ?_
  replace HF := bind_ck HF
  obtain ⟨c5, HF⟩ := HF
  replace HF := bind_o HF
  obtain ⟨b6, e7, HF⟩ := HF
  refine ev_gS (f := 1) cl_Jx4a65c (k := 1) (by decide) fi_Jx4a65c_1 rfl fl_Jx4a65c_9 dJx4a65c_grow_92f84_33 c5 e7 ?_
  refine ev_iload_n 0 dJx4a65c_grow_92f84_36 rfl ?_
  replace HF := bind_o HF
  obtain ⟨⟨o10, h9⟩, e8, HF⟩ := HF
  replace HF := bd_o (bd_o HF)
  dsimp only at HF
  refine ev_callS (As := [.ref b6, .int z3]) (R1 := (some (va_rf o10), h9)) (lk_J7_copyOf_1904c (d := 2) (Nat.le_refl _) e8) ce_J7_copyOf_1904c st_J7_copyOf_1904c ml_Jx4a65c_66 dJx4a65c_grow_92f84_37 (by omega) (Nat.le_of_ble_eq_true rfl) rfl rfl ?_
  show EvG _ _ _ _ _ _ _ _ _ _ _ 40 [(3, .int z3), (0, .ref t), (1, .int x1), (2, .int x2)] [va_rf o10, .ref t] h9
  refine ev_dup_x1 dJx4a65c_grow_92f84_40 (by first | rfl | exact va_cat _) (by first | rfl | exact va_cat _) ?_
  show EvG _ _ _ _ _ _ _ _ _ _ _ 41 _ _ _
  replace HF := bind_ck HF
  obtain ⟨c12, HF⟩ := HF
  refine ev_pG (f := 1) cl_Jx4a65c (k := 1) (by decide) fi_Jx4a65c_1 rfl fl_Jx4a65c_9 rfl rfl dJx4a65c_grow_92f84_41 c12 ?_
  replace HF := bd_n HF
  obtain ⟨h13, eh13, HF⟩ := HF
  refine ev_heap eh13 ?_
  have c14 : hK h13 t = 1 := by rw [eh13]; exact c12
  obtain rfl := Option.some.inj HF
  exact ev_aret (r := o10) (Or.inr ⟨_, rfl⟩) dJx4a65c_grow_92f84_44

set_option maxRecDepth 20000 in
theorem lk_Jx4a65c_grow_92f84 {g : aG} {l : Launch} {d : Nat} (hdd : 3 ≤ d) {t : Nat} {x1 : Int32} {h : aH} {r : Option Nat × aH} (hT : hK h t = 1) (HF : F_Jx4a65c_grow_92f84 t x1 h = some r) : MA g l yJx4a65c_grow_92f84 cJx4a65c_grow_92f84 4 (some (.array (.object "java/lang/Object"))) d [.ref t, .int x1] h (some (va_rf r.1), r.2) := by
  refine MA.of (lv0 := [(0, .ref t), (1, .int x1)]) (by decide +kernel) (rfl) (Nat.le_of_ble_eq_true rfl) ?_
  unfold F_Jx4a65c_grow_92f84 at HF
  refine ev_aload_n 0 dJx4a65c_grow_92f84_0 rfl ?_
  replace HF := bind_o HF
  obtain ⟨b1, e2, HF⟩ := HF
  refine ev_gS (f := 1) cl_Jx4a65c (k := 1) (by decide) fi_Jx4a65c_1 rfl fl_Jx4a65c_9 dJx4a65c_grow_92f84_1 hT e2 ?_
  replace HF := bind_ck HF
  obtain ⟨c3, HF⟩ := HF
  refine ev_alenE dJx4a65c_grow_92f84_4 c3 ?_
  replace HF := bd_n HF
  obtain ⟨v4, ev4, HF⟩ := HF
  refine ev_topI ev4 ?_
  refine ev_istore_n (lv' := [(2, .int v4), (0, .ref t), (1, .int x1)]) dJx4a65c_grow_92f84_5 (by decide) (rfl) ?_
  refine ev_iload_n 0 dJx4a65c_grow_92f84_6 rfl ?_
  by_cases c5 : 0 < v4
  · replace HF := ite_T c5 HF
    refine ev_if_gtT (tgt := 20) dJx4a65c_grow_92f84_7 (by decide) c5 ?_
    exact Ev.sub [1, 2, 0] rfl (lk_Jx4a65c_grow_92f84_20 hdd  t x1 v4 _ HF)
  · replace HF := ite_F c5 HF
    refine ev_if_gtF (tgt := 20) dJx4a65c_grow_92f84_7 (by decide) c5 ?_
    refine ev_aload_n 1 dJx4a65c_grow_92f84_10 rfl ?_
    replace HF := bind_o HF
    obtain ⟨b6, e7, HF⟩ := HF
    refine ev_gS (f := 1) cl_Jx4a65c (k := 1) (by decide) fi_Jx4a65c_1 rfl fl_Jx4a65c_9 dJx4a65c_grow_92f84_11 hT e7 ?_
    refine ev_gstE gs_Jx4a65c_39 dJx4a65c_grow_92f84_14 ?_
    by_cases c8 : b6 = (hE h)
    · replace HF := ite_T c8 HF
      refine ev_acmp_eqT (tgt := 45) dJx4a65c_grow_92f84_17 (by decide) c8 ?_
      refine ev_aload_n 1 dJx4a65c_grow_92f84_45 rfl ?_
      refine ev_bipush (v := 10) dJx4a65c_grow_92f84_46 (by decide) ?_
      refine ev_iload_n 2 dJx4a65c_grow_92f84_48 rfl ?_
      refine ev_max ml_Jx4a65c_79 dJx4a65c_grow_92f84_49 (by omega) (Nat.le_of_ble_eq_true rfl) ?_
      replace HF := bd_n HF
      obtain ⟨z9, ez9, HF⟩ := HF
      refine ev_topI ez9 ?_
      replace HF := bind_ck HF
      obtain ⟨c10, HF⟩ := HF
      refine ev_anew (k := 26)  (by decide) (by decide) kl_Jx4a65c_7 dJx4a65c_grow_92f84_52 c10.1 rfl (Nat.le_trans c10.2 (by decide)) ?_
      replace HF := bd_n HF
      obtain ⟨b11, eb11, HF⟩ := HF
      refine ev_topR eb11 ?_
      replace HF := bd_n HF
      obtain ⟨h12, eh12, HF⟩ := HF
      refine ev_heap eh12 ?_
      refine ev_dup_x1 dJx4a65c_grow_92f84_55 (by first | rfl | exact va_cat _) (by first | rfl | exact va_cat _) ?_
      replace HF := bind_ck HF
      obtain ⟨c13, HF⟩ := HF
      refine ev_pS (f := 1) cl_Jx4a65c (k := 1) (by decide) fi_Jx4a65c_1 rfl fl_Jx4a65c_9 rfl rfl dJx4a65c_grow_92f84_56 c13 ?_
      replace HF := bd_n HF
      obtain ⟨h14, eh14, HF⟩ := HF
      refine ev_heap eh14 ?_
      have c15 : hK h14 t = 1 := by rw [eh14]; exact c13
      show EvG _ _ _ _ _ _ _ _ _ _ _ 59 _ _ _
      obtain rfl := Option.some.inj HF
      exact ev_aret (r := some b11) (Or.inr ⟨_, rfl⟩) dJx4a65c_grow_92f84_59
    · replace HF := ite_F c8 HF
      refine ev_acmp_eqF (tgt := 45) dJx4a65c_grow_92f84_17 (by decide) c8 ?_
      exact Ev.sub [1, 2, 0] rfl (lk_Jx4a65c_grow_92f84_20 hdd  t x1 v4 _ HF)

set_option maxRecDepth 20000 in
theorem lk_Jx4a65c_grow_d5877 {g : aG} {l : Launch} {d : Nat} (hdd : 4 ≤ d) {t : Nat} {h : aH} {r : Option Nat × aH} (hT : hK h t = 1) (HF : F_Jx4a65c_grow_d5877 t h = some r) : MA g l yJx4a65c_grow_d5877 cJx4a65c_grow_d5877 1 (some (.array (.object "java/lang/Object"))) d [.ref t] h (some (va_rf r.1), r.2) := by
  refine MA.of (lv0 := [(0, .ref t)]) (by decide +kernel) (rfl) (Nat.le_of_ble_eq_true rfl) ?_
  unfold F_Jx4a65c_grow_d5877 at HF
  refine ev_aload_n 0 dJx4a65c_grow_d5877_0 rfl ?_
  refine ev_aload_n 0 dJx4a65c_grow_d5877_1 rfl ?_
  refine ev_gI (f := 2) cl_Jx4a65c (k := 2) (by decide) fi_Jx4a65c_2 rfl fl_Jx4a65c_48 dJx4a65c_grow_d5877_2 hT ?_
  refine ev_iconst (v := 1) dJx4a65c_grow_d5877_5 (by decide) ?_
  refine ev_iadd dJx4a65c_grow_d5877_6 ?_
  replace HF := bind_o HF
  obtain ⟨⟨o3, h2⟩, e1, HF⟩ := HF
  replace HF := bd_o (bd_o HF)
  dsimp only at HF
  refine ev_callV (As := [.int ((hF h 2 t) + 1)]) (R1 := (some (va_rf o3), h2)) (lk_Jx4a65c_grow_92f84 (d := 3) (Nat.le_refl _) hT e1) ce_Jx4a65c_grow_92f84 im_Jx4a65c_grow_92f84 sl_Jx4a65c_grow_92f84 ml_Jx4a65c_69 cl_Jx4a65c hT dJx4a65c_grow_d5877_7 (by omega) (Nat.le_of_ble_eq_true rfl) rfl rfl ?_
  show EvG _ _ _ _ _ _ _ _ _ _ _ 10 [(0, .ref t)] [va_rf o3] h2
  obtain rfl := Option.some.inj HF
  exact ev_aret (r := o3) (Or.inr ⟨_, rfl⟩) dJx4a65c_grow_d5877_10

set_option maxRecDepth 20000 in
theorem lk_Jx4a65c_add_72be8_11 {g : aG} {l : Launch} {d : Nat} {h0 : aH} (hdd : 5 ≤ d) {r : aH} (t : Nat) (a1 : Nat) (x2 : Option Nat) (x3 : Int32) (h : aH) (HF : F_Jx4a65c_add_72be8_11  t a1 x2 x3 h = some r) : Ev g l cJx4a65c_add_72be8 4 yJx4a65c_add_72be8 (none) d h0 (none, r) 11 [(0, .ref t), (1, .ref a1), (2, va_rf x2), (3, .int x3)] [] h := by
  unfold F_Jx4a65c_add_72be8_11 at HF
  refine ev_aload_nr 2 dJx4a65c_add_72be8_11 rfl ?_
  refine ev_iload_n 3 dJx4a65c_add_72be8_12 rfl ?_
  refine ev_aload_n 1 dJx4a65c_add_72be8_13 rfl ?_
  replace HF := bind_o HF
  obtain ⟨b1, e2, HF⟩ := HF
  subst e2
  replace HF := bind_ck HF
  obtain ⟨c3, HF⟩ := HF
  replace HF := bind_ck HF
  obtain ⟨c4, HF⟩ := HF
  refine ev_aastO dJx4a65c_add_72be8_14 c3.1 c4 c3.2 ?_
  replace HF := bd_n HF
  obtain ⟨h5, eh5, HF⟩ := HF
  refine ev_heap eh5 ?_
  refine ev_aload_n 0 dJx4a65c_add_72be8_15 rfl ?_
  refine ev_iload_n 3 dJx4a65c_add_72be8_16 rfl ?_
  refine ev_iconst (v := 1) dJx4a65c_add_72be8_17 (by decide) ?_
  show EvG _ _ _ _ _ _ _ _ _ _ _ 18 _ _ _
  refine ev_iadd dJx4a65c_add_72be8_18 ?_
  replace HF := bind_ck HF
  obtain ⟨c6, HF⟩ := HF
  refine ev_pI (f := 2) cl_Jx4a65c (k := 2) (by decide) fi_Jx4a65c_2 rfl fl_Jx4a65c_48 rfl rfl rfl dJx4a65c_add_72be8_19 c6 ?_
  replace HF := bd_n HF
  obtain ⟨h7, eh7, HF⟩ := HF
  refine ev_heap eh7 ?_
  have c8 : hK h7 t = 1 := by rw [eh7]; exact c6
  obtain rfl := Option.some.inj HF
  exact ev_vret dJx4a65c_add_72be8_22

set_option maxRecDepth 20000 in
theorem lk_Jx4a65c_add_72be8 {g : aG} {l : Launch} {d : Nat} (hdd : 5 ≤ d) {t : Nat} {a1 : Nat} {a2 : Nat} {x3 : Int32} {h : aH} {r : aH} (hT : hK h t = 1) (HF : F_Jx4a65c_add_72be8 t a1 a2 x3 h = some r) : MA g l yJx4a65c_add_72be8 cJx4a65c_add_72be8 4 (none) d [.ref t, .ref a1, .ref a2, .int x3] h (none, r) := by
  refine MA.of (lv0 := [(0, .ref t), (1, .ref a1), (2, .ref a2), (3, .int x3)]) (by decide +kernel) (rfl) (Nat.le_of_ble_eq_true rfl) ?_
  unfold F_Jx4a65c_add_72be8 at HF
  refine ev_iload_n 3 dJx4a65c_add_72be8_0 rfl ?_
  refine ev_aload_n 2 dJx4a65c_add_72be8_1 rfl ?_
  replace HF := bind_ck HF
  obtain ⟨c1, HF⟩ := HF
  refine ev_alenE dJx4a65c_add_72be8_2 c1 ?_
  by_cases c2 : x3 = alen h a2
  · replace HF := ite_T c2 HF
    refine ev_icmp_neF (tgt := 11) dJx4a65c_add_72be8_3 (by decide) c2 ?_
    refine ev_aload_n 0 dJx4a65c_add_72be8_6 rfl ?_
    replace HF := bind_o HF
    obtain ⟨⟨o5, h4⟩, e3, HF⟩ := HF
    replace HF := bd_o (bd_o HF)
    dsimp only at HF
    refine ev_callV (As := []) (R1 := (some (va_rf o5), h4)) (lk_Jx4a65c_grow_d5877 (d := 4) (Nat.le_refl _) hT e3) ce_Jx4a65c_grow_d5877 im_Jx4a65c_grow_d5877 sl_Jx4a65c_grow_d5877 ml_Jx4a65c_129 cl_Jx4a65c hT dJx4a65c_add_72be8_7 (by omega) (Nat.le_of_ble_eq_true rfl) rfl rfl ?_
    show EvG _ _ _ _ _ _ _ _ _ _ _ 10 [(0, .ref t), (1, .ref a1), (2, .ref a2), (3, .int x3)] [va_rf o5] h4
    refine ev_astore_nr (lv' := [(2, va_rf o5), (0, .ref t), (1, .ref a1), (3, .int x3)]) dJx4a65c_add_72be8_10 (by decide) (rfl) ?_
    exact Ev.sub [1, 2, 0, 3] rfl (lk_Jx4a65c_add_72be8_11 hdd  t a1 o5 x3 _ HF)
  · replace HF := ite_F c2 HF
    refine ev_icmp_neT (tgt := 11) dJx4a65c_add_72be8_3 (by decide) c2 ?_
    exact Ev.sub [0, 1, 2, 3] rfl (lk_Jx4a65c_add_72be8_11 hdd  t a1 (some a2) x3 _ HF)

set_option maxRecDepth 20000 in
theorem lk_Jx4a65c_add_9ea2d {g : aG} {l : Launch} {d : Nat} (hdd : 6 ≤ d) {t : Nat} {a1 : Nat} {h : aH} {r : Int32 × aH} (hT : hK h t = 1) (HF : F_Jx4a65c_add_9ea2d t a1 h = some r) : MA g l yJx4a65c_add_9ea2d cJx4a65c_add_9ea2d 2 (some .boolean) d [.ref t, .ref a1] h (some (.int r.1), r.2) := by
  refine MA.of (lv0 := [(0, .ref t), (1, .ref a1)]) (by decide +kernel) (rfl) (Nat.le_of_ble_eq_true rfl) ?_
  unfold F_Jx4a65c_add_9ea2d at HF
  refine ev_aload_n 0 dJx4a65c_add_9ea2d_0 rfl ?_
  refine ev_dup dJx4a65c_add_9ea2d_1 rfl ?_
  refine ev_gIM gs_Jx4a65c_63 dJx4a65c_add_9ea2d_2 hT ?_
  refine ev_iconst (v := 1) dJx4a65c_add_9ea2d_5 (by decide) ?_
  refine ev_iadd dJx4a65c_add_9ea2d_6 ?_
  refine ev_pIM gs_Jx4a65c_63 dJx4a65c_add_9ea2d_7 hT ?_
  replace HF := bd_n HF
  obtain ⟨h1, eh1, HF⟩ := HF
  refine ev_heap eh1 ?_
  have c2 : hK h1 t = 1 := by rw [eh1]; exact hT
  refine ev_aload_n 0 dJx4a65c_add_9ea2d_10 rfl ?_
  show EvG _ _ _ _ _ _ _ _ _ _ _ 11 _ _ _
  refine ev_aload_n 1 dJx4a65c_add_9ea2d_11 rfl ?_
  refine ev_aload_n 0 dJx4a65c_add_9ea2d_12 rfl ?_
  replace HF := bind_o HF
  obtain ⟨b3, e4, HF⟩ := HF
  refine ev_gS (f := 1) cl_Jx4a65c (k := 1) (by decide) fi_Jx4a65c_1 rfl fl_Jx4a65c_9 dJx4a65c_add_9ea2d_13 c2 e4 ?_
  refine ev_aload_n 0 dJx4a65c_add_9ea2d_16 rfl ?_
  refine ev_gI (f := 2) cl_Jx4a65c (k := 2) (by decide) fi_Jx4a65c_2 rfl fl_Jx4a65c_48 dJx4a65c_add_9ea2d_17 c2 ?_
  replace HF := bind_o HF
  obtain ⟨h6, e5, HF⟩ := HF
  refine ev_callV (As := [.ref a1, .ref b3, .int (hF h1 2 t)]) (R1 := (none, h6)) (lk_Jx4a65c_add_72be8 (d := 5) (Nat.le_refl _) c2 e5) ce_Jx4a65c_add_72be8 im_Jx4a65c_add_72be8 sl_Jx4a65c_add_72be8 ml_Jx4a65c_131 cl_Jx4a65c c2 dJx4a65c_add_9ea2d_20 (by omega) (Nat.le_of_ble_eq_true rfl) rfl rfl ?_
  show EvG _ _ _ _ _ _ _ _ _ _ _ 23 [(0, .ref t), (1, .ref a1)] [] h6
  refine ev_iconst (v := 1) dJx4a65c_add_9ea2d_23 (by decide) ?_
  obtain rfl := Option.some.inj HF
  exact ev_zret (v := 1) narrow_b1 dJx4a65c_add_9ea2d_24

set_option maxRecDepth 20000 in
theorem lk_Jx4a65c_fastRemove_b59b0_34 {g : aG} {l : Launch} {d : Nat} {h0 : aH} (hdd : 0 ≤ d) {r : aH} (t : Nat) (a1 : Nat) (x3 : Int32) (h : aH) (HF : F_Jx4a65c_fastRemove_b59b0_34  t a1 x3 h = some r) : Ev g l cJx4a65c_fastRemove_b59b0 4 yJx4a65c_fastRemove_b59b0 (none) d h0 (none, r) 34 [(0, .ref t), (1, .ref a1), (3, .int x3)] [] h := by
  unfold F_Jx4a65c_fastRemove_b59b0_34 at HF
  refine ev_aload_n 1 dJx4a65c_fastRemove_b59b0_34 rfl ?_
  refine ev_aload_n 0 dJx4a65c_fastRemove_b59b0_35 rfl ?_
  refine ev_iload_n 2 dJx4a65c_fastRemove_b59b0_36 rfl ?_
  refine ev_dup_x1 dJx4a65c_fastRemove_b59b0_37 (by first | rfl | exact va_cat _) (by first | rfl | exact va_cat _) ?_
  replace HF := bind_ck HF
  obtain ⟨c1, HF⟩ := HF
  refine ev_pI (f := 2) cl_Jx4a65c (k := 2) (by decide) fi_Jx4a65c_2 rfl fl_Jx4a65c_48 rfl rfl rfl dJx4a65c_fastRemove_b59b0_38 c1 ?_
  replace HF := bd_n HF
  obtain ⟨h2, eh2, HF⟩ := HF
  refine ev_heap eh2 ?_
  have c3 : hK h2 t = 1 := by rw [eh2]; exact c1
  refine ev_null dJx4a65c_fastRemove_b59b0_41 ?_
  replace HF := bind_ck HF
  obtain ⟨c4, HF⟩ := HF
  refine ev_aastN dJx4a65c_fastRemove_b59b0_42 c4.1 c4.2 ?_
  replace HF := bd_n HF
  obtain ⟨h5, eh5, HF⟩ := HF
  refine ev_heap eh5 ?_
  have c6 : hK h5 t = 1 := by rw [eh5]; exact c3
  show EvG _ _ _ _ _ _ _ _ _ _ _ 43 _ _ _
  obtain rfl := Option.some.inj HF
  exact ev_vret dJx4a65c_fastRemove_b59b0_43

set_option maxRecDepth 20000 in
theorem lk_Jx4a65c_fastRemove_b59b0 {g : aG} {l : Launch} {d : Nat} (hdd : 0 ≤ d) {t : Nat} {a1 : Nat} {x2 : Int32} {h : aH} {r : aH} (hT : hK h t = 1) (HF : F_Jx4a65c_fastRemove_b59b0 t a1 x2 h = some r) : MA g l yJx4a65c_fastRemove_b59b0 cJx4a65c_fastRemove_b59b0 4 (none) d [.ref t, .ref a1, .int x2] h (none, r) := by
  refine MA.of (lv0 := [(0, .ref t), (1, .ref a1), (2, .int x2)]) (by decide +kernel) (rfl) (Nat.le_of_ble_eq_true rfl) ?_
  unfold F_Jx4a65c_fastRemove_b59b0 at HF
  refine ev_aload_n 0 dJx4a65c_fastRemove_b59b0_0 rfl ?_
  refine ev_dup dJx4a65c_fastRemove_b59b0_1 rfl ?_
  refine ev_gIM gs_Jx4a65c_63 dJx4a65c_fastRemove_b59b0_2 hT ?_
  refine ev_iconst (v := 1) dJx4a65c_fastRemove_b59b0_5 (by decide) ?_
  refine ev_iadd dJx4a65c_fastRemove_b59b0_6 ?_
  refine ev_pIM gs_Jx4a65c_63 dJx4a65c_fastRemove_b59b0_7 hT ?_
  replace HF := bd_n HF
  obtain ⟨h1, eh1, HF⟩ := HF
  refine ev_heap eh1 ?_
  have c2 : hK h1 t = 1 := by rw [eh1]; exact hT
  refine ev_aload_n 0 dJx4a65c_fastRemove_b59b0_10 rfl ?_
  show EvG _ _ _ _ _ _ _ _ _ _ _ 11 _ _ _
  refine ev_gI (f := 2) cl_Jx4a65c (k := 2) (by decide) fi_Jx4a65c_2 rfl fl_Jx4a65c_48 dJx4a65c_fastRemove_b59b0_11 c2 ?_
  refine ev_iconst (v := 1) dJx4a65c_fastRemove_b59b0_14 (by decide) ?_
  refine ev_isub dJx4a65c_fastRemove_b59b0_15 ?_
  refine ev_dup dJx4a65c_fastRemove_b59b0_16 rfl ?_
  replace HF := bd_n HF
  obtain ⟨v3, ev3, HF⟩ := HF
  refine ev_topI ev3 ?_
  refine ev_istore_n (lv' := [(3, .int v3), (0, .ref t), (1, .ref a1), (2, .int x2)]) dJx4a65c_fastRemove_b59b0_17 (by decide) (rfl) ?_
  refine ev_iload_n 3 dJx4a65c_fastRemove_b59b0_18 rfl ?_
  by_cases c4 : (hF h1 2 t) - 1 ≤ x2
  · replace HF := ite_T c4 HF
    refine ev_icmp_leT (tgt := 34) dJx4a65c_fastRemove_b59b0_19 (by decide) c4 ?_
    exact Ev.sub [1, 2, 0] rfl (lk_Jx4a65c_fastRemove_b59b0_34 hdd  t a1 v3 _ HF)
  · replace HF := ite_F c4 HF
    refine ev_icmp_leF (tgt := 34) dJx4a65c_fastRemove_b59b0_19 (by decide) c4 ?_
    refine ev_aload_n 2 dJx4a65c_fastRemove_b59b0_22 rfl ?_
    refine ev_iload_n 3 dJx4a65c_fastRemove_b59b0_23 rfl ?_
    refine ev_iconst (v := 1) dJx4a65c_fastRemove_b59b0_24 (by decide) ?_
    refine ev_iadd dJx4a65c_fastRemove_b59b0_25 ?_
    refine ev_aload_n 2 dJx4a65c_fastRemove_b59b0_26 rfl ?_
    refine ev_iload_n 3 dJx4a65c_fastRemove_b59b0_27 rfl ?_
    refine ev_iload_n 0 dJx4a65c_fastRemove_b59b0_28 rfl ?_
    show EvG _ _ _ _ _ _ _ _ _ _ _ 29 _ _ _
    refine ev_iload_n 3 dJx4a65c_fastRemove_b59b0_29 rfl ?_
    refine ev_isub dJx4a65c_fastRemove_b59b0_30 ?_
    cases HF

set_option maxRecDepth 20000 in
theorem lk_Jx4a65c_remove_915e3 {g : aG} {l : Launch} {d : Nat} (hdd : 2 ≤ d) {t : Nat} {x1 : Int32} {h : aH} {r : Option Nat × aH} (hT : hK h t = 1) (HF : F_Jx4a65c_remove_915e3 t x1 h = some r) : MA g l yJx4a65c_remove_915e3 cJx4a65c_remove_915e3 4 (some (.object "java/lang/Object")) d [.ref t, .int x1] h (some (va_rf r.1), r.2) := by
  refine MA.of (lv0 := [(0, .ref t), (1, .int x1)]) (by decide +kernel) (rfl) (Nat.le_of_ble_eq_true rfl) ?_
  unfold F_Jx4a65c_remove_915e3 at HF
  refine ev_iload_n 1 dJx4a65c_remove_915e3_0 rfl ?_
  refine ev_aload_n 0 dJx4a65c_remove_915e3_1 rfl ?_
  refine ev_gI (f := 2) cl_Jx4a65c (k := 2) (by decide) fi_Jx4a65c_2 rfl fl_Jx4a65c_48 dJx4a65c_remove_915e3_2 hT ?_
  replace HF := bind_o HF
  obtain ⟨⟨z3, h2⟩, e1, HF⟩ := HF
  replace HF := bd_o (bd_o HF)
  dsimp only at HF
  refine ev_callS (As := [.int x1, .int (hF h 2 t)]) (R1 := (some (.int z3), h2)) (lk_J15_checkIndex_7cf53 (d := 1) (Nat.le_refl _) e1) ce_J15_checkIndex_7cf53 st_J15_checkIndex_7cf53 ml_Jx4a65c_118 dJx4a65c_remove_915e3_5 (by omega) (Nat.le_of_ble_eq_true rfl) rfl rfl ?_
  show EvG _ _ _ _ _ _ _ _ _ _ _ 8 [(0, .ref t), (1, .int x1)] [.int z3] h2
  refine ev_pop dJx4a65c_remove_915e3_8 (by first | rfl | exact va_cat _) ?_
  refine ev_aload_n 0 dJx4a65c_remove_915e3_9 rfl ?_
  replace HF := bind_ck HF
  obtain ⟨c5, HF⟩ := HF
  replace HF := bind_o HF
  obtain ⟨b6, e7, HF⟩ := HF
  refine ev_gS (f := 1) cl_Jx4a65c (k := 1) (by decide) fi_Jx4a65c_1 rfl fl_Jx4a65c_9 dJx4a65c_remove_915e3_10 c5 e7 ?_
  show EvG _ _ _ _ _ _ _ _ _ _ _ 13 _ _ _
  refine ev_astore_n (lv' := [(2, .ref b6), (0, .ref t), (1, .int x1)]) dJx4a65c_remove_915e3_13 (by decide) (rfl) ?_
  refine ev_aload_n 0 dJx4a65c_remove_915e3_14 rfl ?_
  refine ev_iload_n 2 dJx4a65c_remove_915e3_15 rfl ?_
  replace HF := bind_ck HF
  obtain ⟨c8, HF⟩ := HF
  replace HF := bind_o HF
  obtain ⟨b9, e10, HF⟩ := HF
  refine ev_aald 26 dJx4a65c_remove_915e3_16 (by decide) (by decide) c8.1 c8.2 ?_
  rw [e10]
  refine ev_astore_n (lv' := [(3, .ref b9), (2, .ref b6), (0, .ref t), (1, .int x1)]) dJx4a65c_remove_915e3_17 (by decide) (rfl) ?_
  refine ev_aload_n 2 dJx4a65c_remove_915e3_18 rfl ?_
  refine ev_aload_n 1 dJx4a65c_remove_915e3_19 rfl ?_
  refine ev_iload_n 3 dJx4a65c_remove_915e3_20 rfl ?_
  show EvG _ _ _ _ _ _ _ _ _ _ _ 21 _ _ _
  replace HF := bind_o HF
  obtain ⟨h12, e11, HF⟩ := HF
  refine ev_callV (As := [.ref b6, .int x1]) (R1 := (none, h12)) (lk_Jx4a65c_fastRemove_b59b0 (d := 0) (Nat.le_refl _) c5 e11) ce_Jx4a65c_fastRemove_b59b0 im_Jx4a65c_fastRemove_b59b0 sl_Jx4a65c_fastRemove_b59b0 ml_Jx4a65c_144 cl_Jx4a65c c5 dJx4a65c_remove_915e3_21 (by omega) (Nat.le_of_ble_eq_true rfl) rfl rfl ?_
  show EvG _ _ _ _ _ _ _ _ _ _ _ 24 [(3, .ref b9), (2, .ref b6), (0, .ref t), (1, .int x1)] [] h12
  refine ev_aload_n 0 dJx4a65c_remove_915e3_24 rfl ?_
  obtain rfl := Option.some.inj HF
  exact ev_aret (r := some b9) (Or.inl ⟨_, rfl⟩) dJx4a65c_remove_915e3_25

