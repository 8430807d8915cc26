/-! the law's helpers: a call whose throw is caught (wip/tools/law.py) -/
theorem in_law : Cond.initialized RL ∈ lw_gd := gd_1 0 rfl rfl
theorem ca_nse : Cond.castable NSE NSE ∈ lw_nw := nw_5 41 rfl rfl
theorem cw_L_now : Cond.codeWith yL_now cL_now 5 (some .int) [(0, 10, 13, 13)] ∈ lw_gd := gd_5 33 rfl rfl
theorem nn_L_now : (yL_now.cls ≠ "java/lang/invoke/MethodHandle" ∧ yL_now.cls ≠ "java/lang/invoke/VarHandle" ∧ (parseMethodDescriptor yL_now.desc).map (fun d => d.parameters.length) = some 4) ∧ 5 ≤ 19 := ⟨⟨by decide +kernel, by decide +kernel, by decide +kernel⟩, by decide⟩
def F_L_now (a0 : Nat) (x1 x2 : Int32) (a3 : Nat) (h : aH) : Option (Int32 × aH) :=
  (ck (hK h a0 = 13)).bind fun _ =>
  (F_X11_now a0 x1 x2 h).bind fun q =>
  match q.1 with
  | some v => (ck (hK q.2 a3 = 23 ∧ inR 0 (hN q.2 a3))).bind fun _ => some (0, sJ q.2 a3 (0 : Int32).toNatClampNeg (v.toInt64))
  | none => some (1, nX q.2)

set_option maxRecDepth 20000 in
theorem lk_L_now {g : aG} {l : Launch} {d : Nat} (hl : l.stackTraces = false) (hdd : 8 ≤ d) {a0 : Nat} {x1 x2 : Int32} {a3 : Nat} {h : aH} {r : Int32 × aH} (HF : F_L_now a0 x1 x2 a3 h = some r) : MW g l yL_now cL_now 5 (some .int) [(0, 10, 13, 13)] d [.ref a0, .int x1, .int x2, .ref a3] h (some (.int r.1), r.2) := by
  refine MW.of (lv0 := [(0, .ref a0), (1, .int x1), (2, .int x2), (3, .ref a3)]) (by decide +kernel) rfl (Nat.le_of_ble_eq_true rfl) ?_
  unfold F_L_now at HF
  replace HF := bind_ck HF
  obtain ⟨hT, HF⟩ := HF
  replace HF := bind_o HF
  obtain ⟨⟨o, h1⟩, e1, HF⟩ := HF
  refine ev_aload_n 3 dL_now_0 rfl ?_
  refine ev_iconst (v := 0) dL_now_1 (by decide) ?_
  refine ev_aload_n 0 dL_now_2 rfl ?_
  refine ev_iload_n 1 dL_now_3 rfl ?_
  refine ev_iload_n 2 dL_now_4 rfl ?_
  cases o with
  | some v =>
    replace HF := bind_ck HF
    obtain ⟨c1, HF⟩ := HF
    obtain rfl := Option.some.inj HF
    refine ev_callV (As := [.int x1, .int x2]) (R1 := (some (.int v), h1)) (lk_X11_now (d := 7) (by omega) hT e1) ce_X11_now im_X11_now sl_X11_now ml_L_7 cl_X11 hT dL_now_5 (by omega) (Nat.le_of_ble_eq_true rfl) rfl rfl ?_
    show EvG _ _ _ _ _ _ _ _ _ _ _ 8 [(0, .ref a0), (1, .int x1), (2, .int x2), (3, .ref a3)] [.int v, .int 0, .ref a3] h1
    refine ev_i2l dL_now_8 ?_
    refine ev_last dL_now_9 c1.1 c1.2 ?_
    refine ev_goto (tgt := 17) dL_now_10 (by decide) ?_
    refine ev_iconst (v := 0) dL_now_17 (by decide) ?_
    exact ev_iret dL_now_18
  | none =>
    obtain rfl := Option.some.inj HF
    refine ev_callX (lx_X11_now (d := 7) (by omega) hl hT e1) ce_X11_now im_X11_now sl_X11_now ml_L_7 cl_X11 hT cw_L_now (by decide) (by decide) kl_L_13 ca_nse dL_now_5 (by omega) (Nat.le_of_ble_eq_true rfl) rfl rfl (fun q => ?_)
    refine ev_astore (lv' := [(4, .ref q), (0, .ref a0), (1, .int x1), (2, .int x2), (3, .ref a3)]) dL_now_13 (by decide) rfl ?_
    refine ev_iconst (v := 1) dL_now_15 (by decide) ?_
    exact ev_iret dL_now_16

theorem cw_L_score : Cond.codeWith yL_score cL_score 6 (some .int) [(0, 12, 15, 13)] ∈ lw_gd := gd_5 125 rfl rfl
theorem nn_L_score : (yL_score.cls ≠ "java/lang/invoke/MethodHandle" ∧ yL_score.cls ≠ "java/lang/invoke/VarHandle" ∧ (parseMethodDescriptor yL_score.desc).map (fun d => d.parameters.length) = some 5) ∧ 6 ≤ 19 := ⟨⟨by decide +kernel, by decide +kernel, by decide +kernel⟩, by decide⟩
def F_L_score (a0 : Nat) (x1 x2 x3 : Int32) (a4 : Nat) (h : aH) : Option (Int32 × aH) :=
  (ck (hK h a0 = 13)).bind fun _ =>
  (F_X11_score a0 x1 x2 x3 h).bind fun q =>
  match q.1 with
  | some v => (ck (hK q.2 a4 = 23 ∧ inR 0 (hN q.2 a4))).bind fun _ => some (0, sJ q.2 a4 (0 : Int32).toNatClampNeg (v.toInt64))
  | none => some (1, nX q.2)

set_option maxRecDepth 20000 in
theorem lk_L_score {g : aG} {l : Launch} {d : Nat} (hl : l.stackTraces = false) (hdd : 8 ≤ d) {a0 : Nat} {x1 x2 x3 : Int32} {a4 : Nat} {h : aH} {r : Int32 × aH} (HF : F_L_score a0 x1 x2 x3 a4 h = some r) : MW g l yL_score cL_score 6 (some .int) [(0, 12, 15, 13)] d [.ref a0, .int x1, .int x2, .int x3, .ref a4] h (some (.int r.1), r.2) := by
  refine MW.of (lv0 := [(0, .ref a0), (1, .int x1), (2, .int x2), (3, .int x3), (4, .ref a4)]) (by decide +kernel) rfl (Nat.le_of_ble_eq_true rfl) ?_
  unfold F_L_score at HF
  replace HF := bind_ck HF
  obtain ⟨hT, HF⟩ := HF
  replace HF := bind_o HF
  obtain ⟨⟨o, h1⟩, e1, HF⟩ := HF
  refine ev_aload 4 dL_score_0 rfl ?_
  refine ev_iconst (v := 0) dL_score_2 (by decide) ?_
  refine ev_aload_n 0 dL_score_3 rfl ?_
  refine ev_iload_n 1 dL_score_4 rfl ?_
  refine ev_iload_n 2 dL_score_5 rfl ?_
  refine ev_iload_n 3 dL_score_6 rfl ?_
  cases o with
  | some v =>
    replace HF := bind_ck HF
    obtain ⟨c1, HF⟩ := HF
    obtain rfl := Option.some.inj HF
    refine ev_callV (As := [.int x1, .int x2, .int x3]) (R1 := (some (.int v), h1)) (lk_X11_score (d := 7) (by omega) hT e1) ce_X11_score im_X11_score sl_X11_score ml_L_15 cl_X11 hT dL_score_7 (by omega) (Nat.le_of_ble_eq_true rfl) rfl rfl ?_
    show EvG _ _ _ _ _ _ _ _ _ _ _ 10 [(0, .ref a0), (1, .int x1), (2, .int x2), (3, .int x3), (4, .ref a4)] [.int v, .int 0, .ref a4] h1
    refine ev_i2l dL_score_10 ?_
    refine ev_last dL_score_11 c1.1 c1.2 ?_
    refine ev_goto (tgt := 19) dL_score_12 (by decide) ?_
    refine ev_iconst (v := 0) dL_score_19 (by decide) ?_
    exact ev_iret dL_score_20
  | none =>
    obtain rfl := Option.some.inj HF
    refine ev_callX (lx_X11_score (d := 7) (by omega) hl hT e1) ce_X11_score im_X11_score sl_X11_score ml_L_15 cl_X11 hT cw_L_score (by decide) (by decide) kl_L_13 ca_nse dL_score_7 (by omega) (Nat.le_of_ble_eq_true rfl) rfl rfl (fun q => ?_)
    refine ev_astore (lv' := [(5, .ref q), (0, .ref a0), (1, .int x1), (2, .int x2), (3, .int x3), (4, .ref a4)]) dL_score_15 (by decide) rfl ?_
    refine ev_iconst (v := 1) dL_score_17 (by decide) ?_
    exact ev_iret dL_score_18

theorem cw_L_overs : Cond.codeWith yL_overs cL_overs 7 (some .int) [(0, 14, 17, 13)] ∈ lw_gd := gd_5 154 rfl rfl
theorem nn_L_overs : (yL_overs.cls ≠ "java/lang/invoke/MethodHandle" ∧ yL_overs.cls ≠ "java/lang/invoke/VarHandle" ∧ (parseMethodDescriptor yL_overs.desc).map (fun d => d.parameters.length) = some 6) ∧ 7 ≤ 19 := ⟨⟨by decide +kernel, by decide +kernel, by decide +kernel⟩, by decide⟩
def F_L_overs (a0 : Nat) (x1 x2 x3 x4 : Int32) (a5 : Nat) (h : aH) : Option (Int32 × aH) :=
  (ck (hK h a0 = 13)).bind fun _ =>
  (F_X11_overs a0 x1 x2 x3 x4 h).bind fun q =>
  match q.1 with
  | some v => (ck (hK q.2 a5 = 23 ∧ inR 0 (hN q.2 a5))).bind fun _ => some (0, sJ q.2 a5 (0 : Int32).toNatClampNeg (v.toInt64))
  | none => some (1, nX q.2)

set_option maxRecDepth 20000 in
theorem lk_L_overs {g : aG} {l : Launch} {d : Nat} (hl : l.stackTraces = false) (hdd : 8 ≤ d) {a0 : Nat} {x1 x2 x3 x4 : Int32} {a5 : Nat} {h : aH} {r : Int32 × aH} (HF : F_L_overs a0 x1 x2 x3 x4 a5 h = some r) : MW g l yL_overs cL_overs 7 (some .int) [(0, 14, 17, 13)] d [.ref a0, .int x1, .int x2, .int x3, .int x4, .ref a5] h (some (.int r.1), r.2) := by
  refine MW.of (lv0 := [(0, .ref a0), (1, .int x1), (2, .int x2), (3, .int x3), (4, .int x4), (5, .ref a5)]) (by decide +kernel) rfl (Nat.le_of_ble_eq_true rfl) ?_
  unfold F_L_overs at HF
  replace HF := bind_ck HF
  obtain ⟨hT, HF⟩ := HF
  replace HF := bind_o HF
  obtain ⟨⟨o, h1⟩, e1, HF⟩ := HF
  refine ev_aload 5 dL_overs_0 rfl ?_
  refine ev_iconst (v := 0) dL_overs_2 (by decide) ?_
  refine ev_aload_n 0 dL_overs_3 rfl ?_
  refine ev_iload_n 1 dL_overs_4 rfl ?_
  refine ev_iload_n 2 dL_overs_5 rfl ?_
  refine ev_iload_n 3 dL_overs_6 rfl ?_
  refine ev_iload 4 dL_overs_7 rfl ?_
  cases o with
  | some v =>
    replace HF := bind_ck HF
    obtain ⟨c1, HF⟩ := HF
    obtain rfl := Option.some.inj HF
    refine ev_callV (As := [.int x1, .int x2, .int x3, .int x4]) (R1 := (some (.int v), h1)) (lk_X11_overs (d := 7) (by omega) hT e1) ce_X11_overs im_X11_overs sl_X11_overs ml_L_19 cl_X11 hT dL_overs_9 (by omega) (Nat.le_of_ble_eq_true rfl) rfl rfl ?_
    show EvG _ _ _ _ _ _ _ _ _ _ _ 12 [(0, .ref a0), (1, .int x1), (2, .int x2), (3, .int x3), (4, .int x4), (5, .ref a5)] [.int v, .int 0, .ref a5] h1
    refine ev_i2l dL_overs_12 ?_
    refine ev_last dL_overs_13 c1.1 c1.2 ?_
    refine ev_goto (tgt := 21) dL_overs_14 (by decide) ?_
    refine ev_iconst (v := 0) dL_overs_21 (by decide) ?_
    exact ev_iret dL_overs_22
  | none =>
    obtain rfl := Option.some.inj HF
    refine ev_callX (lx_X11_overs (d := 7) (by omega) hl hT e1) ce_X11_overs im_X11_overs sl_X11_overs ml_L_19 cl_X11 hT cw_L_overs (by decide) (by decide) kl_L_13 ca_nse dL_overs_9 (by omega) (Nat.le_of_ble_eq_true rfl) rfl rfl (fun q => ?_)
    refine ev_astore (lv' := [(6, .ref q), (0, .ref a0), (1, .int x1), (2, .int x2), (3, .int x3), (4, .int x4), (5, .ref a5)]) dL_overs_17 (by decide) rfl ?_
    refine ev_iconst (v := 1) dL_overs_19 (by decide) ?_
    exact ev_iret dL_overs_20

theorem cw_L_entry : Cond.codeWith yL_entry cL_entry 7 (some .int) [(0, 14, 17, 13)] ∈ lw_gd := gd_5 166 rfl rfl
theorem nn_L_entry : (yL_entry.cls ≠ "java/lang/invoke/MethodHandle" ∧ yL_entry.cls ≠ "java/lang/invoke/VarHandle" ∧ (parseMethodDescriptor yL_entry.desc).map (fun d => d.parameters.length) = some 6) ∧ 7 ≤ 19 := ⟨⟨by decide +kernel, by decide +kernel, by decide +kernel⟩, by decide⟩
def F_L_entry (a0 : Nat) (x1 x2 x3 x4 : Int32) (a5 : Nat) (h : aH) : Option (Int32 × aH) :=
  (ck (hK h a0 = 13)).bind fun _ =>
  (F_X11_entry a0 x1 x2 x3 x4 h).bind fun q =>
  match q.1 with
  | some v => (ck (hK q.2 a5 = 23 ∧ inR 0 (hN q.2 a5))).bind fun _ => some (0, sJ q.2 a5 (0 : Int32).toNatClampNeg (v.toInt64))
  | none => some (1, nX q.2)

set_option maxRecDepth 20000 in
theorem lk_L_entry {g : aG} {l : Launch} {d : Nat} (hl : l.stackTraces = false) (hdd : 7 ≤ d) {a0 : Nat} {x1 x2 x3 x4 : Int32} {a5 : Nat} {h : aH} {r : Int32 × aH} (HF : F_L_entry a0 x1 x2 x3 x4 a5 h = some r) : MW g l yL_entry cL_entry 7 (some .int) [(0, 14, 17, 13)] d [.ref a0, .int x1, .int x2, .int x3, .int x4, .ref a5] h (some (.int r.1), r.2) := by
  refine MW.of (lv0 := [(0, .ref a0), (1, .int x1), (2, .int x2), (3, .int x3), (4, .int x4), (5, .ref a5)]) (by decide +kernel) rfl (Nat.le_of_ble_eq_true rfl) ?_
  unfold F_L_entry at HF
  replace HF := bind_ck HF
  obtain ⟨hT, HF⟩ := HF
  replace HF := bind_o HF
  obtain ⟨⟨o, h1⟩, e1, HF⟩ := HF
  refine ev_aload 5 dL_entry_0 rfl ?_
  refine ev_iconst (v := 0) dL_entry_2 (by decide) ?_
  refine ev_aload_n 0 dL_entry_3 rfl ?_
  refine ev_iload_n 1 dL_entry_4 rfl ?_
  refine ev_iload_n 2 dL_entry_5 rfl ?_
  refine ev_iload_n 3 dL_entry_6 rfl ?_
  refine ev_iload 4 dL_entry_7 rfl ?_
  cases o with
  | some v =>
    replace HF := bind_ck HF
    obtain ⟨c1, HF⟩ := HF
    obtain rfl := Option.some.inj HF
    refine ev_callV (As := [.int x1, .int x2, .int x3, .int x4]) (R1 := (some (.int v), h1)) (lk_X11_entry (d := 6) (by omega) hT e1) ce_X11_entry im_X11_entry sl_X11_entry ml_L_23 cl_X11 hT dL_entry_9 (by omega) (Nat.le_of_ble_eq_true rfl) rfl rfl ?_
    show EvG _ _ _ _ _ _ _ _ _ _ _ 12 [(0, .ref a0), (1, .int x1), (2, .int x2), (3, .int x3), (4, .int x4), (5, .ref a5)] [.int v, .int 0, .ref a5] h1
    refine ev_i2l dL_entry_12 ?_
    refine ev_last dL_entry_13 c1.1 c1.2 ?_
    refine ev_goto (tgt := 21) dL_entry_14 (by decide) ?_
    refine ev_iconst (v := 0) dL_entry_21 (by decide) ?_
    exact ev_iret dL_entry_22
  | none =>
    obtain rfl := Option.some.inj HF
    refine ev_callX (lx_X11_entry (d := 6) (by omega) hl hT e1) ce_X11_entry im_X11_entry sl_X11_entry ml_L_23 cl_X11 hT cw_L_entry (by decide) (by decide) kl_L_13 ca_nse dL_entry_9 (by omega) (Nat.le_of_ble_eq_true rfl) rfl rfl (fun q => ?_)
    refine ev_astore (lv' := [(6, .ref q), (0, .ref a0), (1, .int x1), (2, .int x2), (3, .int x3), (4, .int x4), (5, .ref a5)]) dL_entry_17 (by decide) rfl ?_
    refine ev_iconst (v := 1) dL_entry_19 (by decide) ?_
    exact ev_iret dL_entry_20

theorem cw_L_bats : Cond.codeWith yL_bats cL_bats 7 (some .int) [(0, 14, 17, 13)] ∈ lw_gd := gd_5 174 rfl rfl
theorem nn_L_bats : (yL_bats.cls ≠ "java/lang/invoke/MethodHandle" ∧ yL_bats.cls ≠ "java/lang/invoke/VarHandle" ∧ (parseMethodDescriptor yL_bats.desc).map (fun d => d.parameters.length) = some 6) ∧ 7 ≤ 19 := ⟨⟨by decide +kernel, by decide +kernel, by decide +kernel⟩, by decide⟩
def F_L_bats (a0 : Nat) (x1 x2 x3 x4 : Int32) (a5 : Nat) (h : aH) : Option (Int32 × aH) :=
  (ck (hK h a0 = 13)).bind fun _ =>
  (F_X11_bats a0 x1 x2 x3 x4 h).bind fun q =>
  match q.1 with
  | some v => (ck (hK q.2 a5 = 23 ∧ inR 0 (hN q.2 a5))).bind fun _ => some (0, sJ q.2 a5 (0 : Int32).toNatClampNeg (v.toInt64))
  | none => some (1, nX q.2)

set_option maxRecDepth 20000 in
theorem lk_L_bats {g : aG} {l : Launch} {d : Nat} (hl : l.stackTraces = false) (hdd : 8 ≤ d) {a0 : Nat} {x1 x2 x3 x4 : Int32} {a5 : Nat} {h : aH} {r : Int32 × aH} (HF : F_L_bats a0 x1 x2 x3 x4 a5 h = some r) : MW g l yL_bats cL_bats 7 (some .int) [(0, 14, 17, 13)] d [.ref a0, .int x1, .int x2, .int x3, .int x4, .ref a5] h (some (.int r.1), r.2) := by
  refine MW.of (lv0 := [(0, .ref a0), (1, .int x1), (2, .int x2), (3, .int x3), (4, .int x4), (5, .ref a5)]) (by decide +kernel) rfl (Nat.le_of_ble_eq_true rfl) ?_
  unfold F_L_bats at HF
  replace HF := bind_ck HF
  obtain ⟨hT, HF⟩ := HF
  replace HF := bind_o HF
  obtain ⟨⟨o, h1⟩, e1, HF⟩ := HF
  refine ev_aload 5 dL_bats_0 rfl ?_
  refine ev_iconst (v := 0) dL_bats_2 (by decide) ?_
  refine ev_aload_n 0 dL_bats_3 rfl ?_
  refine ev_iload_n 1 dL_bats_4 rfl ?_
  refine ev_iload_n 2 dL_bats_5 rfl ?_
  refine ev_iload_n 3 dL_bats_6 rfl ?_
  refine ev_iload 4 dL_bats_7 rfl ?_
  cases o with
  | some v =>
    replace HF := bind_ck HF
    obtain ⟨c1, HF⟩ := HF
    obtain rfl := Option.some.inj HF
    refine ev_callV (As := [.int x1, .int x2, .int x3, .int x4]) (R1 := (some (.int v), h1)) (lk_X11_bats (d := 7) (by omega) hT e1) ce_X11_bats im_X11_bats sl_X11_bats ml_L_26 cl_X11 hT dL_bats_9 (by omega) (Nat.le_of_ble_eq_true rfl) rfl rfl ?_
    show EvG _ _ _ _ _ _ _ _ _ _ _ 12 [(0, .ref a0), (1, .int x1), (2, .int x2), (3, .int x3), (4, .int x4), (5, .ref a5)] [.int v, .int 0, .ref a5] h1
    refine ev_i2l dL_bats_12 ?_
    refine ev_last dL_bats_13 c1.1 c1.2 ?_
    refine ev_goto (tgt := 21) dL_bats_14 (by decide) ?_
    refine ev_iconst (v := 0) dL_bats_21 (by decide) ?_
    exact ev_iret dL_bats_22
  | none =>
    obtain rfl := Option.some.inj HF
    refine ev_callX (lx_X11_bats (d := 7) (by omega) hl hT e1) ce_X11_bats im_X11_bats sl_X11_bats ml_L_26 cl_X11 hT cw_L_bats (by decide) (by decide) kl_L_13 ca_nse dL_bats_9 (by omega) (Nat.le_of_ble_eq_true rfl) rfl rfl (fun q => ?_)
    refine ev_astore (lv' := [(6, .ref q), (0, .ref a0), (1, .int x1), (2, .int x2), (3, .int x3), (4, .int x4), (5, .ref a5)]) dL_bats_17 (by decide) rfl ?_
    refine ev_iconst (v := 1) dL_bats_19 (by decide) ?_
    exact ev_iret dL_bats_20

theorem cw_L_fields : Cond.codeWith yL_fields cL_fields 7 (some .int) [(0, 14, 17, 13)] ∈ lw_gd := gd_5 190 rfl rfl
theorem nn_L_fields : (yL_fields.cls ≠ "java/lang/invoke/MethodHandle" ∧ yL_fields.cls ≠ "java/lang/invoke/VarHandle" ∧ (parseMethodDescriptor yL_fields.desc).map (fun d => d.parameters.length) = some 6) ∧ 7 ≤ 19 := ⟨⟨by decide +kernel, by decide +kernel, by decide +kernel⟩, by decide⟩
def F_L_fields (a0 : Nat) (x1 x2 x3 x4 : Int32) (a5 : Nat) (h : aH) : Option (Int32 × aH) :=
  (ck (hK h a0 = 13)).bind fun _ =>
  (F_X11_fields a0 x1 x2 x3 x4 h).bind fun q =>
  match q.1 with
  | some v => (ck (hK q.2 a5 = 23 ∧ inR 0 (hN q.2 a5))).bind fun _ => some (0, sJ q.2 a5 (0 : Int32).toNatClampNeg (v.toInt64))
  | none => some (1, nX q.2)

set_option maxRecDepth 20000 in
theorem lk_L_fields {g : aG} {l : Launch} {d : Nat} (hl : l.stackTraces = false) (hdd : 8 ≤ d) {a0 : Nat} {x1 x2 x3 x4 : Int32} {a5 : Nat} {h : aH} {r : Int32 × aH} (HF : F_L_fields a0 x1 x2 x3 x4 a5 h = some r) : MW g l yL_fields cL_fields 7 (some .int) [(0, 14, 17, 13)] d [.ref a0, .int x1, .int x2, .int x3, .int x4, .ref a5] h (some (.int r.1), r.2) := by
  refine MW.of (lv0 := [(0, .ref a0), (1, .int x1), (2, .int x2), (3, .int x3), (4, .int x4), (5, .ref a5)]) (by decide +kernel) rfl (Nat.le_of_ble_eq_true rfl) ?_
  unfold F_L_fields at HF
  replace HF := bind_ck HF
  obtain ⟨hT, HF⟩ := HF
  replace HF := bind_o HF
  obtain ⟨⟨o, h1⟩, e1, HF⟩ := HF
  refine ev_aload 5 dL_fields_0 rfl ?_
  refine ev_iconst (v := 0) dL_fields_2 (by decide) ?_
  refine ev_aload_n 0 dL_fields_3 rfl ?_
  refine ev_iload_n 1 dL_fields_4 rfl ?_
  refine ev_iload_n 2 dL_fields_5 rfl ?_
  refine ev_iload_n 3 dL_fields_6 rfl ?_
  refine ev_iload 4 dL_fields_7 rfl ?_
  cases o with
  | some v =>
    replace HF := bind_ck HF
    obtain ⟨c1, HF⟩ := HF
    obtain rfl := Option.some.inj HF
    refine ev_callV (As := [.int x1, .int x2, .int x3, .int x4]) (R1 := (some (.int v), h1)) (lk_X11_fields (d := 7) (by omega) hT e1) ce_X11_fields im_X11_fields sl_X11_fields ml_L_29 cl_X11 hT dL_fields_9 (by omega) (Nat.le_of_ble_eq_true rfl) rfl rfl ?_
    show EvG _ _ _ _ _ _ _ _ _ _ _ 12 [(0, .ref a0), (1, .int x1), (2, .int x2), (3, .int x3), (4, .int x4), (5, .ref a5)] [.int v, .int 0, .ref a5] h1
    refine ev_i2l dL_fields_12 ?_
    refine ev_last dL_fields_13 c1.1 c1.2 ?_
    refine ev_goto (tgt := 21) dL_fields_14 (by decide) ?_
    refine ev_iconst (v := 0) dL_fields_21 (by decide) ?_
    exact ev_iret dL_fields_22
  | none =>
    obtain rfl := Option.some.inj HF
    refine ev_callX (lx_X11_fields (d := 7) (by omega) hl hT e1) ce_X11_fields im_X11_fields sl_X11_fields ml_L_29 cl_X11 hT cw_L_fields (by decide) (by decide) kl_L_13 ca_nse dL_fields_9 (by omega) (Nat.le_of_ble_eq_true rfl) rfl rfl (fun q => ?_)
    refine ev_astore (lv' := [(6, .ref q), (0, .ref a0), (1, .int x1), (2, .int x2), (3, .int x3), (4, .int x4), (5, .ref a5)]) dL_fields_17 (by decide) rfl ?_
    refine ev_iconst (v := 1) dL_fields_19 (by decide) ?_
    exact ev_iret dL_fields_20

theorem cw_L_record : Cond.codeWith yL_record cL_record 5 (some .int) [(0, 10, 13, 13)] ∈ lw_gd := gd_5 201 rfl rfl
theorem nn_L_record : (yL_record.cls ≠ "java/lang/invoke/MethodHandle" ∧ yL_record.cls ≠ "java/lang/invoke/VarHandle" ∧ (parseMethodDescriptor yL_record.desc).map (fun d => d.parameters.length) = some 4) ∧ 5 ≤ 19 := ⟨⟨by decide +kernel, by decide +kernel, by decide +kernel⟩, by decide⟩
def F_L_record (a0 : Nat) (x1 x2 : Int32) (a3 : Nat) (h : aH) : Option (Int32 × aH) :=
  (ck (hK h a0 = 13)).bind fun _ =>
  (F_X11_record a0 x1 x2 h).bind fun q =>
  match q.1 with
  | some v => (ck (hK q.2 a3 = 23 ∧ inR 0 (hN q.2 a3))).bind fun _ => some (0, sJ q.2 a3 (0 : Int32).toNatClampNeg (v.toInt64))
  | none => some (1, nX q.2)

set_option maxRecDepth 20000 in
theorem lk_L_record {g : aG} {l : Launch} {d : Nat} (hl : l.stackTraces = false) (hdd : 8 ≤ d) {a0 : Nat} {x1 x2 : Int32} {a3 : Nat} {h : aH} {r : Int32 × aH} (HF : F_L_record a0 x1 x2 a3 h = some r) : MW g l yL_record cL_record 5 (some .int) [(0, 10, 13, 13)] d [.ref a0, .int x1, .int x2, .ref a3] h (some (.int r.1), r.2) := by
  refine MW.of (lv0 := [(0, .ref a0), (1, .int x1), (2, .int x2), (3, .ref a3)]) (by decide +kernel) rfl (Nat.le_of_ble_eq_true rfl) ?_
  unfold F_L_record at HF
  replace HF := bind_ck HF
  obtain ⟨hT, HF⟩ := HF
  replace HF := bind_o HF
  obtain ⟨⟨o, h1⟩, e1, HF⟩ := HF
  refine ev_aload_n 3 dL_record_0 rfl ?_
  refine ev_iconst (v := 0) dL_record_1 (by decide) ?_
  refine ev_aload_n 0 dL_record_2 rfl ?_
  refine ev_iload_n 1 dL_record_3 rfl ?_
  refine ev_iload_n 2 dL_record_4 rfl ?_
  cases o with
  | some v =>
    replace HF := bind_ck HF
    obtain ⟨c1, HF⟩ := HF
    obtain rfl := Option.some.inj HF
    refine ev_callV (As := [.int x1, .int x2]) (R1 := (some (.int v), h1)) (lk_X11_record (d := 7) (by omega) hT e1) ce_X11_record im_X11_record sl_X11_record ml_L_32 cl_X11 hT dL_record_5 (by omega) (Nat.le_of_ble_eq_true rfl) rfl rfl ?_
    show EvG _ _ _ _ _ _ _ _ _ _ _ 8 [(0, .ref a0), (1, .int x1), (2, .int x2), (3, .ref a3)] [.int v, .int 0, .ref a3] h1
    refine ev_i2l dL_record_8 ?_
    refine ev_last dL_record_9 c1.1 c1.2 ?_
    refine ev_goto (tgt := 17) dL_record_10 (by decide) ?_
    refine ev_iconst (v := 0) dL_record_17 (by decide) ?_
    exact ev_iret dL_record_18
  | none =>
    obtain rfl := Option.some.inj HF
    refine ev_callX (lx_X11_record (d := 7) (by omega) hl hT e1) ce_X11_record im_X11_record sl_X11_record ml_L_32 cl_X11 hT cw_L_record (by decide) (by decide) kl_L_13 ca_nse dL_record_5 (by omega) (Nat.le_of_ble_eq_true rfl) rfl rfl (fun q => ?_)
    refine ev_astore (lv' := [(4, .ref q), (0, .ref a0), (1, .int x1), (2, .int x2), (3, .ref a3)]) dL_record_13 (by decide) rfl ?_
    refine ev_iconst (v := 1) dL_record_15 (by decide) ?_
    exact ev_iret dL_record_16

theorem cw_L_told : Cond.codeWith yL_told cL_told 4 (some .int) [(0, 9, 12, 13)] ∈ lw_gd := gd_5 239 rfl rfl
theorem nn_L_told : (yL_told.cls ≠ "java/lang/invoke/MethodHandle" ∧ yL_told.cls ≠ "java/lang/invoke/VarHandle" ∧ (parseMethodDescriptor yL_told.desc).map (fun d => d.parameters.length) = some 3) ∧ 4 ≤ 19 := ⟨⟨by decide +kernel, by decide +kernel, by decide +kernel⟩, by decide⟩
def F_L_told (a0 : Nat) (x1 : Int32) (a2 : Nat) (h : aH) : Option (Int32 × aH) :=
  (ck (hK h a0 = 13)).bind fun _ =>
  (F_X11_told a0 x1 h).bind fun q =>
  match q.1 with
  | some v => (ck (hK q.2 a2 = 23 ∧ inR 0 (hN q.2 a2))).bind fun _ => some (0, sJ q.2 a2 (0 : Int32).toNatClampNeg (v.toInt64))
  | none => some (1, nX q.2)

set_option maxRecDepth 20000 in
theorem lk_L_told {g : aG} {l : Launch} {d : Nat} (hl : l.stackTraces = false) (hdd : 7 ≤ d) {a0 : Nat} {x1 : Int32} {a2 : Nat} {h : aH} {r : Int32 × aH} (HF : F_L_told a0 x1 a2 h = some r) : MW g l yL_told cL_told 4 (some .int) [(0, 9, 12, 13)] d [.ref a0, .int x1, .ref a2] h (some (.int r.1), r.2) := by
  refine MW.of (lv0 := [(0, .ref a0), (1, .int x1), (2, .ref a2)]) (by decide +kernel) rfl (Nat.le_of_ble_eq_true rfl) ?_
  unfold F_L_told at HF
  replace HF := bind_ck HF
  obtain ⟨hT, HF⟩ := HF
  replace HF := bind_o HF
  obtain ⟨⟨o, h1⟩, e1, HF⟩ := HF
  refine ev_aload_n 2 dL_told_0 rfl ?_
  refine ev_iconst (v := 0) dL_told_1 (by decide) ?_
  refine ev_aload_n 0 dL_told_2 rfl ?_
  refine ev_iload_n 1 dL_told_3 rfl ?_
  cases o with
  | some v =>
    replace HF := bind_ck HF
    obtain ⟨c1, HF⟩ := HF
    obtain rfl := Option.some.inj HF
    refine ev_callV (As := [.int x1]) (R1 := (some (.int v), h1)) (lk_X11_told (d := 6) (by omega) hT e1) ce_X11_told im_X11_told sl_X11_told ml_L_35 cl_X11 hT dL_told_4 (by omega) (Nat.le_of_ble_eq_true rfl) rfl rfl ?_
    show EvG _ _ _ _ _ _ _ _ _ _ _ 7 [(0, .ref a0), (1, .int x1), (2, .ref a2)] [.int v, .int 0, .ref a2] h1
    refine ev_i2l dL_told_7 ?_
    refine ev_last dL_told_8 c1.1 c1.2 ?_
    refine ev_goto (tgt := 15) dL_told_9 (by decide) ?_
    refine ev_iconst (v := 0) dL_told_15 (by decide) ?_
    exact ev_iret dL_told_16
  | none =>
    obtain rfl := Option.some.inj HF
    refine ev_callX (lx_X11_told (d := 6) (by omega) hl hT e1) ce_X11_told im_X11_told sl_X11_told ml_L_35 cl_X11 hT cw_L_told (by decide) (by decide) kl_L_13 ca_nse dL_told_4 (by omega) (Nat.le_of_ble_eq_true rfl) rfl rfl (fun q => ?_)
    refine ev_astore_n (lv' := [(3, .ref q), (0, .ref a0), (1, .int x1), (2, .ref a2)]) dL_told_12 (by decide) rfl ?_
    refine ev_iconst (v := 1) dL_told_13 (by decide) ?_
    exact ev_iret dL_told_14

theorem cw_L_list : Cond.codeWith yL_list cL_list 4 (some .int) [(0, 9, 12, 13)] ∈ lw_gd := gd_6 7 rfl rfl
theorem nn_L_list : (yL_list.cls ≠ "java/lang/invoke/MethodHandle" ∧ yL_list.cls ≠ "java/lang/invoke/VarHandle" ∧ (parseMethodDescriptor yL_list.desc).map (fun d => d.parameters.length) = some 3) ∧ 4 ≤ 19 := ⟨⟨by decide +kernel, by decide +kernel, by decide +kernel⟩, by decide⟩
def F_L_list (a0 : Nat) (x1 : Int32) (a2 : Nat) (h : aH) : Option (Int32 × aH) :=
  (ck (hK h a0 = 13)).bind fun _ =>
  (F_X11_list a0 x1 h).bind fun q =>
  match q.1 with
  | some v => (ck (hK q.2 a2 = 23 ∧ inR 0 (hN q.2 a2))).bind fun _ => some (0, sJ q.2 a2 (0 : Int32).toNatClampNeg (v.toInt64))
  | none => some (1, nX q.2)

set_option maxRecDepth 20000 in
theorem lk_L_list {g : aG} {l : Launch} {d : Nat} (hl : l.stackTraces = false) (hdd : 7 ≤ d) {a0 : Nat} {x1 : Int32} {a2 : Nat} {h : aH} {r : Int32 × aH} (HF : F_L_list a0 x1 a2 h = some r) : MW g l yL_list cL_list 4 (some .int) [(0, 9, 12, 13)] d [.ref a0, .int x1, .ref a2] h (some (.int r.1), r.2) := by
  refine MW.of (lv0 := [(0, .ref a0), (1, .int x1), (2, .ref a2)]) (by decide +kernel) rfl (Nat.le_of_ble_eq_true rfl) ?_
  unfold F_L_list at HF
  replace HF := bind_ck HF
  obtain ⟨hT, HF⟩ := HF
  replace HF := bind_o HF
  obtain ⟨⟨o, h1⟩, e1, HF⟩ := HF
  refine ev_aload_n 2 dL_list_0 rfl ?_
  refine ev_iconst (v := 0) dL_list_1 (by decide) ?_
  refine ev_aload_n 0 dL_list_2 rfl ?_
  refine ev_iload_n 1 dL_list_3 rfl ?_
  cases o with
  | some v =>
    replace HF := bind_ck HF
    obtain ⟨c1, HF⟩ := HF
    obtain rfl := Option.some.inj HF
    refine ev_callV (As := [.int x1]) (R1 := (some (.int v), h1)) (lk_X11_list (d := 6) (by omega) hT e1) ce_X11_list im_X11_list sl_X11_list ml_L_39 cl_X11 hT dL_list_4 (by omega) (Nat.le_of_ble_eq_true rfl) rfl rfl ?_
    show EvG _ _ _ _ _ _ _ _ _ _ _ 7 [(0, .ref a0), (1, .int x1), (2, .ref a2)] [.int v, .int 0, .ref a2] h1
    refine ev_i2l dL_list_7 ?_
    refine ev_last dL_list_8 c1.1 c1.2 ?_
    refine ev_goto (tgt := 15) dL_list_9 (by decide) ?_
    refine ev_iconst (v := 0) dL_list_15 (by decide) ?_
    exact ev_iret dL_list_16
  | none =>
    obtain rfl := Option.some.inj HF
    refine ev_callX (lx_X11_list (d := 6) (by omega) hl hT e1) ce_X11_list im_X11_list sl_X11_list ml_L_39 cl_X11 hT cw_L_list (by decide) (by decide) kl_L_13 ca_nse dL_list_4 (by omega) (Nat.le_of_ble_eq_true rfl) rfl rfl (fun q => ?_)
    refine ev_astore_n (lv' := [(3, .ref q), (0, .ref a0), (1, .int x1), (2, .ref a2)]) dL_list_12 (by decide) rfl ?_
    refine ev_iconst (v := 1) dL_list_13 (by decide) ?_
    exact ev_iret dL_list_14

theorem cw_L_sum : Cond.codeWith yL_sum cL_sum 4 (some .int) [(0, 8, 11, 13)] ∈ lw_gd := gd_6 15 rfl rfl
theorem nn_L_sum : (yL_sum.cls ≠ "java/lang/invoke/MethodHandle" ∧ yL_sum.cls ≠ "java/lang/invoke/VarHandle" ∧ (parseMethodDescriptor yL_sum.desc).map (fun d => d.parameters.length) = some 3) ∧ 4 ≤ 19 := ⟨⟨by decide +kernel, by decide +kernel, by decide +kernel⟩, by decide⟩
def F_L_sum (a0 : Nat) (x1 : Int32) (a2 : Nat) (h : aH) : Option (Int32 × aH) :=
  (ck (hK h a0 = 13)).bind fun _ =>
  (F_X11_sum a0 x1 h).bind fun q =>
  match q.1 with
  | some v => (ck (hK q.2 a2 = 23 ∧ inR 0 (hN q.2 a2))).bind fun _ => some (0, sJ q.2 a2 (0 : Int32).toNatClampNeg (v))
  | none => some (1, nX q.2)

set_option maxRecDepth 20000 in
theorem lk_L_sum {g : aG} {l : Launch} {d : Nat} (hl : l.stackTraces = false) (hdd : 8 ≤ d) {a0 : Nat} {x1 : Int32} {a2 : Nat} {h : aH} {r : Int32 × aH} (HF : F_L_sum a0 x1 a2 h = some r) : MW g l yL_sum cL_sum 4 (some .int) [(0, 8, 11, 13)] d [.ref a0, .int x1, .ref a2] h (some (.int r.1), r.2) := by
  refine MW.of (lv0 := [(0, .ref a0), (1, .int x1), (2, .ref a2)]) (by decide +kernel) rfl (Nat.le_of_ble_eq_true rfl) ?_
  unfold F_L_sum at HF
  replace HF := bind_ck HF
  obtain ⟨hT, HF⟩ := HF
  replace HF := bind_o HF
  obtain ⟨⟨o, h1⟩, e1, HF⟩ := HF
  refine ev_aload_n 2 dL_sum_0 rfl ?_
  refine ev_iconst (v := 0) dL_sum_1 (by decide) ?_
  refine ev_aload_n 0 dL_sum_2 rfl ?_
  refine ev_iload_n 1 dL_sum_3 rfl ?_
  cases o with
  | some v =>
    replace HF := bind_ck HF
    obtain ⟨c1, HF⟩ := HF
    obtain rfl := Option.some.inj HF
    refine ev_callV (As := [.int x1]) (R1 := (some (.long v), h1)) (lk_X11_sum (d := 7) (by omega) hT e1) ce_X11_sum im_X11_sum sl_X11_sum ml_L_42 cl_X11 hT dL_sum_4 (by omega) (Nat.le_of_ble_eq_true rfl) rfl rfl ?_
    show EvG _ _ _ _ _ _ _ _ _ _ _ 7 [(0, .ref a0), (1, .int x1), (2, .ref a2)] [.long v, .int 0, .ref a2] h1
    refine ev_last dL_sum_7 c1.1 c1.2 ?_
    refine ev_goto (tgt := 14) dL_sum_8 (by decide) ?_
    refine ev_iconst (v := 0) dL_sum_14 (by decide) ?_
    exact ev_iret dL_sum_15
  | none =>
    obtain rfl := Option.some.inj HF
    refine ev_callX (lx_X11_sum (d := 7) (by omega) hl hT e1) ce_X11_sum im_X11_sum sl_X11_sum ml_L_42 cl_X11 hT cw_L_sum (by decide) (by decide) kl_L_13 ca_nse dL_sum_4 (by omega) (Nat.le_of_ble_eq_true rfl) rfl rfl (fun q => ?_)
    refine ev_astore_n (lv' := [(3, .ref q), (0, .ref a0), (1, .int x1), (2, .ref a2)]) dL_sum_11 (by decide) rfl ?_
    refine ev_iconst (v := 1) dL_sum_12 (by decide) ?_
    exact ev_iret dL_sum_13
