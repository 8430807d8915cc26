/-! FACTS of the tables: by program (wip/tools/facts.py) -/
def ck (P : Prop) [Decidable P] : Option Unit := if P then some () else none
def bd {α β : Type} (x : α) (f : α → Option β) : Option β := f x
theorem bind_ck {P : Prop} [Decidable P] {β : Type} {f : Unit → Option β} {r : β} (h : (ck P).bind f = some r) : P ∧ f () = some r := by
  unfold ck at h
  by_cases hp : P
  · rw [if_pos hp] at h; exact ⟨hp, h⟩
  · rw [if_neg hp] at h; cases h
theorem bind_o {α β : Type} {o : Option α} {f : α → Option β} {r : β} (h : o.bind f = some r) : ∃ a, o = some a ∧ f a = some r := by
  cases o with
  | none => cases h
  | some a => exact ⟨a, rfl, h⟩
theorem bd_o {α β : Type} {x : α} {f : α → Option β} {r : β} (h : bd x f = some r) : f x = some r := h
theorem ite_T {c : Prop} [Decidable c] {β : Type} {A B : Option β} {r : β} (hc : c) (h : (if c then A else B) = some r) : A = some r := by rw [if_pos hc] at h; exact h
theorem ite_F {c : Prop} [Decidable c] {β : Type} {A B : Option β} {r : β} (hc : ¬ c) (h : (if c then A else B) = some r) : B = some r := by rw [if_neg hc] at h; exact h
theorem va_cat (r : Option Nat) : (va_rf r).category = 1 := by cases r <;> rfl
/-- turns of a loop that are plenty -/
def fu : Nat := 10000000
theorem ws_of {C : String} {T : u_T} {N : Nat} (ps : List Nat) (h : (u_ws C T N == ps.filterMap (fun i => lw_tbl[i]?)) = true) (hg : (u_ws C T N).all goodWord = true) : ∀ w ∈ u_ws C T N, w ∈ lw_gd := by
  intro w hw
  have h1 := List.all_eq_true.mp hg w hw
  rw [eq_of_beq h] at hw
  obtain ⟨i, -, hi⟩ := List.mem_filterMap.mp hw
  exact List.mem_filter.mpr ⟨List.mem_of_getElem? hi, h1⟩
theorem gd_s {w : Cond} (i : Nat) (h : (k2_sels lw_privs)[i]? = some w) (hg : goodWord w = true) : w ∈ lw_gd := List.mem_filter.mpr ⟨List.mem_append_left _ (List.mem_of_getElem? h), hg⟩
theorem gd_1 {w : Cond} (i : Nat) (h : tables_1_1[i]? = some w) (hg : goodWord w = true) : w ∈ lw_gd := List.mem_filter.mpr ⟨List.mem_append_right _ (show w ∈ tables_1 from have h0 := List.mem_of_getElem? h; List.mem_append_left _ h0), hg⟩
theorem nw_1 {w : Cond} (i : Nat) (h : tables_1_1[i]? = some w) (hg : nwWord w = true) : w ∈ lw_nw := List.mem_filter.mpr ⟨List.mem_append_right _ (show w ∈ tables_1 from have h0 := List.mem_of_getElem? h; List.mem_append_left _ h0), hg⟩
theorem gd_2 {w : Cond} (i : Nat) (h : tables_1_2[i]? = some w) (hg : goodWord w = true) : w ∈ lw_gd := List.mem_filter.mpr ⟨List.mem_append_right _ (show w ∈ tables_1 from have h0 := List.mem_of_getElem? h; List.mem_append_right _ (List.mem_append_left _ h0)), hg⟩
theorem nw_2 {w : Cond} (i : Nat) (h : tables_1_2[i]? = some w) (hg : nwWord w = true) : w ∈ lw_nw := List.mem_filter.mpr ⟨List.mem_append_right _ (show w ∈ tables_1 from have h0 := List.mem_of_getElem? h; List.mem_append_right _ (List.mem_append_left _ h0)), hg⟩
theorem gd_3 {w : Cond} (i : Nat) (h : tables_1_3[i]? = some w) (hg : goodWord w = true) : w ∈ lw_gd := List.mem_filter.mpr ⟨List.mem_append_right _ (show w ∈ tables_1 from have h0 := List.mem_of_getElem? h; List.mem_append_right _ (List.mem_append_right _ (List.mem_append_left _ h0))), hg⟩
theorem nw_3 {w : Cond} (i : Nat) (h : tables_1_3[i]? = some w) (hg : nwWord w = true) : w ∈ lw_nw := List.mem_filter.mpr ⟨List.mem_append_right _ (show w ∈ tables_1 from have h0 := List.mem_of_getElem? h; List.mem_append_right _ (List.mem_append_right _ (List.mem_append_left _ h0))), hg⟩
theorem gd_4 {w : Cond} (i : Nat) (h : tables_1_4[i]? = some w) (hg : goodWord w = true) : w ∈ lw_gd := List.mem_filter.mpr ⟨List.mem_append_right _ (show w ∈ tables_1 from have h0 := List.mem_of_getElem? h; List.mem_append_right _ (List.mem_append_right _ (List.mem_append_right _ (List.mem_append_left _ h0)))), hg⟩
theorem nw_4 {w : Cond} (i : Nat) (h : tables_1_4[i]? = some w) (hg : nwWord w = true) : w ∈ lw_nw := List.mem_filter.mpr ⟨List.mem_append_right _ (show w ∈ tables_1 from have h0 := List.mem_of_getElem? h; List.mem_append_right _ (List.mem_append_right _ (List.mem_append_right _ (List.mem_append_left _ h0)))), hg⟩
theorem gd_5 {w : Cond} (i : Nat) (h : tables_1_5[i]? = some w) (hg : goodWord w = true) : w ∈ lw_gd := List.mem_filter.mpr ⟨List.mem_append_right _ (show w ∈ tables_1 from have h0 := List.mem_of_getElem? h; List.mem_append_right _ (List.mem_append_right _ (List.mem_append_right _ (List.mem_append_right _ (List.mem_append_left _ h0))))), hg⟩
theorem nw_5 {w : Cond} (i : Nat) (h : tables_1_5[i]? = some w) (hg : nwWord w = true) : w ∈ lw_nw := List.mem_filter.mpr ⟨List.mem_append_right _ (show w ∈ tables_1 from have h0 := List.mem_of_getElem? h; List.mem_append_right _ (List.mem_append_right _ (List.mem_append_right _ (List.mem_append_right _ (List.mem_append_left _ h0))))), hg⟩
theorem gd_6 {w : Cond} (i : Nat) (h : tables_1_6[i]? = some w) (hg : goodWord w = true) : w ∈ lw_gd := List.mem_filter.mpr ⟨List.mem_append_right _ (show w ∈ tables_1 from have h0 := List.mem_of_getElem? h; List.mem_append_right _ (List.mem_append_right _ (List.mem_append_right _ (List.mem_append_right _ (List.mem_append_right _ (List.mem_append_left _ h0)))))), hg⟩
theorem nw_6 {w : Cond} (i : Nat) (h : tables_1_6[i]? = some w) (hg : nwWord w = true) : w ∈ lw_nw := List.mem_filter.mpr ⟨List.mem_append_right _ (show w ∈ tables_1 from have h0 := List.mem_of_getElem? h; List.mem_append_right _ (List.mem_append_right _ (List.mem_append_right _ (List.mem_append_right _ (List.mem_append_right _ (List.mem_append_left _ h0)))))), hg⟩
theorem gd_7 {w : Cond} (i : Nat) (h : tables_1_7[i]? = some w) (hg : goodWord w = true) : w ∈ lw_gd := List.mem_filter.mpr ⟨List.mem_append_right _ (show w ∈ tables_1 from have h0 := List.mem_of_getElem? h; List.mem_append_right _ (List.mem_append_right _ (List.mem_append_right _ (List.mem_append_right _ (List.mem_append_right _ (List.mem_append_right _ (List.mem_append_left _ h0))))))), hg⟩
theorem nw_7 {w : Cond} (i : Nat) (h : tables_1_7[i]? = some w) (hg : nwWord w = true) : w ∈ lw_nw := List.mem_filter.mpr ⟨List.mem_append_right _ (show w ∈ tables_1 from have h0 := List.mem_of_getElem? h; List.mem_append_right _ (List.mem_append_right _ (List.mem_append_right _ (List.mem_append_right _ (List.mem_append_right _ (List.mem_append_right _ (List.mem_append_left _ h0))))))), hg⟩
theorem gd_8 {w : Cond} (i : Nat) (h : tables_1_8[i]? = some w) (hg : goodWord w = true) : w ∈ lw_gd := List.mem_filter.mpr ⟨List.mem_append_right _ (show w ∈ tables_1 from have h0 := List.mem_of_getElem? h; List.mem_append_right _ (List.mem_append_right _ (List.mem_append_right _ (List.mem_append_right _ (List.mem_append_right _ (List.mem_append_right _ (List.mem_append_right _ (h0)))))))), hg⟩
theorem nw_8 {w : Cond} (i : Nat) (h : tables_1_8[i]? = some w) (hg : nwWord w = true) : w ∈ lw_nw := List.mem_filter.mpr ⟨List.mem_append_right _ (show w ∈ tables_1 from have h0 := List.mem_of_getElem? h; List.mem_append_right _ (List.mem_append_right _ (List.mem_append_right _ (List.mem_append_right _ (List.mem_append_right _ (List.mem_append_right _ (List.mem_append_right _ (h0)))))))), hg⟩
theorem cl_Jx4a65c : ClF 0 RJx4a65c TJx4a65c 3 tyJx4a65c := ⟨rfl, ws_of [151, 147, 149] (by decide +kernel) (by decide +kernel), tyJx4a65c_ok, nmJx4a65c, by decide⟩
theorem fi_Jx4a65c_0 : fI 0 0 = true := by decide +kernel
theorem fi_Jx4a65c_1 : fI 0 1 = false := by decide +kernel
theorem fi_Jx4a65c_2 : fI 0 2 = true := by decide +kernel
theorem df_Jx4a65c : ∀ j, j < 3 → defaultValue (tyJx4a65c j) = if fI 0 j = true then .int 0 else .null := by decide +kernel
theorem cl_X0 : ClF 1 RX0 TX0 2 tyX0 := ⟨rfl, ws_of [167, 169] (by decide +kernel) (by decide +kernel), tyX0_ok, nmX0, by decide⟩
theorem fi_X0_0 : fI 1 0 = false := by decide +kernel
theorem fi_X0_1 : fI 1 1 = true := by decide +kernel
theorem df_X0 : ∀ j, j < 2 → defaultValue (tyX0 j) = if fI 1 j = true then .int 0 else .null := by decide +kernel
theorem cl_X1 : ClF 2 RX1 TX1 5 tyX1 := ⟨rfl, ws_of [222, 224, 226, 228, 230] (by decide +kernel) (by decide +kernel), tyX1_ok, nmX1, by decide⟩
theorem fi_X1_0 : fI 2 0 = false := by decide +kernel
theorem fi_X1_1 : fI 2 1 = true := by decide +kernel
theorem fi_X1_2 : fI 2 2 = true := by decide +kernel
theorem fi_X1_3 : fI 2 3 = true := by decide +kernel
theorem fi_X1_4 : fI 2 4 = true := by decide +kernel
theorem df_X1 : ∀ j, j < 5 → defaultValue (tyX1 j) = if fI 2 j = true then .int 0 else .null := by decide +kernel
theorem cl_X2 : ClF 3 RX2 TX2 3 tyX2 := ⟨rfl, ws_of [237, 239, 241] (by decide +kernel) (by decide +kernel), tyX2_ok, nmX2, by decide⟩
theorem fi_X2_0 : fI 3 0 = false := by decide +kernel
theorem fi_X2_1 : fI 3 1 = true := by decide +kernel
theorem fi_X2_2 : fI 3 2 = true := by decide +kernel
theorem df_X2 : ∀ j, j < 3 → defaultValue (tyX2 j) = if fI 3 j = true then .int 0 else .null := by decide +kernel
theorem cl_X3 : ClF 4 RX3 TX3 6 tyX3 := ⟨rfl, ws_of [510, 512, 514, 516, 518, 520] (by decide +kernel) (by decide +kernel), tyX3_ok, nmX3, by decide⟩
theorem fi_X3_0 : fI 4 0 = true := by decide +kernel
theorem fi_X3_1 : fI 4 1 = true := by decide +kernel
theorem fi_X3_2 : fI 4 2 = true := by decide +kernel
theorem fi_X3_3 : fI 4 3 = true := by decide +kernel
theorem fi_X3_4 : fI 4 4 = false := by decide +kernel
theorem fi_X3_5 : fI 4 5 = false := by decide +kernel
theorem df_X3 : ∀ j, j < 6 → defaultValue (tyX3 j) = if fI 4 j = true then .int 0 else .null := by decide +kernel
theorem cl_X4 : ClF 5 RX4 TX4 3 tyX4 := ⟨rfl, ws_of [267, 269, 271] (by decide +kernel) (by decide +kernel), tyX4_ok, nmX4, by decide⟩
theorem fi_X4_0 : fI 5 0 = true := by decide +kernel
theorem fi_X4_1 : fI 5 1 = true := by decide +kernel
theorem fi_X4_2 : fI 5 2 = false := by decide +kernel
theorem df_X4 : ∀ j, j < 3 → defaultValue (tyX4 j) = if fI 5 j = true then .int 0 else .null := by decide +kernel
theorem cl_X5 : ClF 6 RX5 TX5 3 tyX5 := ⟨rfl, ws_of [200, 202, 204] (by decide +kernel) (by decide +kernel), tyX5_ok, nmX5, by decide⟩
theorem fi_X5_0 : fI 6 0 = false := by decide +kernel
theorem fi_X5_1 : fI 6 1 = true := by decide +kernel
theorem fi_X5_2 : fI 6 2 = true := by decide +kernel
theorem df_X5 : ∀ j, j < 3 → defaultValue (tyX5 j) = if fI 6 j = true then .int 0 else .null := by decide +kernel
theorem cl_X6 : ClF 7 RX6 TX6 10 tyX6 := ⟨rfl, ws_of [363, 365, 367, 369, 371, 373, 375, 377, 379, 381] (by decide +kernel) (by decide +kernel), tyX6_ok, nmX6, by decide⟩
theorem fi_X6_0 : fI 7 0 = false := by decide +kernel
theorem fi_X6_1 : fI 7 1 = false := by decide +kernel
theorem fi_X6_2 : fI 7 2 = true := by decide +kernel
theorem fi_X6_3 : fI 7 3 = true := by decide +kernel
theorem fi_X6_4 : fI 7 4 = true := by decide +kernel
theorem fi_X6_5 : fI 7 5 = true := by decide +kernel
theorem fi_X6_6 : fI 7 6 = true := by decide +kernel
theorem fi_X6_7 : fI 7 7 = true := by decide +kernel
theorem fi_X6_8 : fI 7 8 = true := by decide +kernel
theorem fi_X6_9 : fI 7 9 = true := by decide +kernel
theorem df_X6 : ∀ j, j < 10 → defaultValue (tyX6 j) = if fI 7 j = true then .int 0 else .null := by decide +kernel
theorem cl_X7 : ClF 8 RX7 TX7 5 tyX7 := ⟨rfl, ws_of [412, 414, 416, 418, 420] (by decide +kernel) (by decide +kernel), tyX7_ok, nmX7, by decide⟩
theorem fi_X7_0 : fI 8 0 = false := by decide +kernel
theorem fi_X7_1 : fI 8 1 = false := by decide +kernel
theorem fi_X7_2 : fI 8 2 = true := by decide +kernel
theorem fi_X7_3 : fI 8 3 = true := by decide +kernel
theorem fi_X7_4 : fI 8 4 = true := by decide +kernel
theorem df_X7 : ∀ j, j < 5 → defaultValue (tyX7 j) = if fI 8 j = true then .int 0 else .null := by decide +kernel
theorem cl_X8 : ClF 9 RX8 TX8 2 tyX8 := ⟨rfl, ws_of [395, 397] (by decide +kernel) (by decide +kernel), tyX8_ok, nmX8, by decide⟩
theorem fi_X8_0 : fI 9 0 = false := by decide +kernel
theorem fi_X8_1 : fI 9 1 = false := by decide +kernel
theorem df_X8 : ∀ j, j < 2 → defaultValue (tyX8 j) = if fI 9 j = true then .int 0 else .null := by decide +kernel
theorem cl_X9 : ClF 10 RX9 TX9 19 tyX9 := ⟨rfl, ws_of [309, 311, 313, 315, 317, 319, 321, 323, 325, 327, 329, 331, 333, 335, 337, 339, 341, 343, 345] (by decide +kernel) (by decide +kernel), tyX9_ok, nmX9, by decide⟩
theorem fi_X9_0 : fI 10 0 = false := by decide +kernel
theorem fi_X9_1 : fI 10 1 = false := by decide +kernel
theorem fi_X9_2 : fI 10 2 = false := by decide +kernel
theorem fi_X9_3 : fI 10 3 = true := by decide +kernel
theorem fi_X9_4 : fI 10 4 = true := by decide +kernel
theorem fi_X9_5 : fI 10 5 = true := by decide +kernel
theorem fi_X9_6 : fI 10 6 = true := by decide +kernel
theorem fi_X9_7 : fI 10 7 = true := by decide +kernel
theorem fi_X9_8 : fI 10 8 = true := by decide +kernel
theorem fi_X9_9 : fI 10 9 = true := by decide +kernel
theorem fi_X9_10 : fI 10 10 = true := by decide +kernel
theorem fi_X9_11 : fI 10 11 = true := by decide +kernel
theorem fi_X9_12 : fI 10 12 = true := by decide +kernel
theorem fi_X9_13 : fI 10 13 = true := by decide +kernel
theorem fi_X9_14 : fI 10 14 = true := by decide +kernel
theorem fi_X9_15 : fI 10 15 = true := by decide +kernel
theorem fi_X9_16 : fI 10 16 = true := by decide +kernel
theorem fi_X9_17 : fI 10 17 = true := by decide +kernel
theorem fi_X9_18 : fI 10 18 = true := by decide +kernel
theorem df_X9 : ∀ j, j < 19 → defaultValue (tyX9 j) = if fI 10 j = true then .int 0 else .null := by decide +kernel
theorem cl_X10 : ClF 11 RX10 TX10 1 tyX10 := ⟨rfl, ws_of [843] (by decide +kernel) (by decide +kernel), tyX10_ok, nmX10, by decide⟩
theorem fi_X10_0 : fI 11 0 = false := by decide +kernel
theorem df_X10 : ∀ j, j < 1 → defaultValue (tyX10 j) = if fI 11 j = true then .int 0 else .null := by decide +kernel
theorem cl_X11 : ClF 12 RX11 TX11 12 tyX11 := ⟨rfl, ws_of [435, 437, 439, 441, 443, 445, 447, 449, 451, 453, 455, 457] (by decide +kernel) (by decide +kernel), tyX11_ok, nmX11, by decide⟩
theorem fi_X11_0 : fI 12 0 = false := by decide +kernel
theorem fi_X11_1 : fI 12 1 = false := by decide +kernel
theorem fi_X11_2 : fI 12 2 = false := by decide +kernel
theorem fi_X11_3 : fI 12 3 = false := by decide +kernel
theorem fi_X11_4 : fI 12 4 = false := by decide +kernel
theorem fi_X11_5 : fI 12 5 = false := by decide +kernel
theorem fi_X11_6 : fI 12 6 = false := by decide +kernel
theorem fi_X11_7 : fI 12 7 = false := by decide +kernel
theorem fi_X11_8 : fI 12 8 = true := by decide +kernel
theorem fi_X11_9 : fI 12 9 = true := by decide +kernel
theorem fi_X11_10 : fI 12 10 = true := by decide +kernel
theorem fi_X11_11 : fI 12 11 = true := by decide +kernel
theorem df_X11 : ∀ j, j < 12 → defaultValue (tyX11 j) = if fI 12 j = true then .int 0 else .null := by decide +kernel
theorem cl_X12 : ClF 13 RX12 TX12 72 tyX12 := ⟨rfl, ws_of [1399, 1401, 1403, 1405, 1407, 1409, 1411, 1413, 1415, 1417, 1419, 1421, 1423, 1425, 1427, 1429, 1431, 1433, 1435, 1437, 1439, 1441, 1443, 1445, 1447, 1449, 1451, 1453, 1455, 1457, 1459, 1461, 1463, 1465, 1467, 1469, 1471, 1473, 1475, 1477, 1479, 1481, 1483, 1485, 1487, 1489, 1491, 1493, 1495, 1497, 1499, 1501, 1503, 1505, 1507, 1509, 1511, 1513, 1515, 1517, 1519, 1521, 1523, 1525, 1527, 1529, 1531, 1533, 1535, 1537, 1539, 1541] (by decide +kernel) (by decide +kernel), tyX12_ok, nmX12, by decide⟩
theorem fi_X12_0 : fI 13 0 = true := by decide +kernel
theorem fi_X12_1 : fI 13 1 = true := by decide +kernel
theorem fi_X12_2 : fI 13 2 = true := by decide +kernel
theorem fi_X12_3 : fI 13 3 = false := by decide +kernel
theorem fi_X12_4 : fI 13 4 = false := by decide +kernel
theorem fi_X12_5 : fI 13 5 = false := by decide +kernel
theorem fi_X12_6 : fI 13 6 = false := by decide +kernel
theorem fi_X12_7 : fI 13 7 = false := by decide +kernel
theorem fi_X12_8 : fI 13 8 = false := by decide +kernel
theorem fi_X12_9 : fI 13 9 = false := by decide +kernel
theorem fi_X12_10 : fI 13 10 = false := by decide +kernel
theorem fi_X12_11 : fI 13 11 = true := by decide +kernel
theorem fi_X12_12 : fI 13 12 = false := by decide +kernel
theorem fi_X12_13 : fI 13 13 = false := by decide +kernel
theorem fi_X12_14 : fI 13 14 = false := by decide +kernel
theorem fi_X12_15 : fI 13 15 = false := by decide +kernel
theorem fi_X12_16 : fI 13 16 = true := by decide +kernel
theorem fi_X12_17 : fI 13 17 = false := by decide +kernel
theorem fi_X12_18 : fI 13 18 = true := by decide +kernel
theorem fi_X12_19 : fI 13 19 = true := by decide +kernel
theorem fi_X12_20 : fI 13 20 = true := by decide +kernel
theorem fi_X12_21 : fI 13 21 = false := by decide +kernel
theorem fi_X12_22 : fI 13 22 = false := by decide +kernel
theorem fi_X12_23 : fI 13 23 = false := by decide +kernel
theorem fi_X12_24 : fI 13 24 = false := by decide +kernel
theorem fi_X12_25 : fI 13 25 = false := by decide +kernel
theorem fi_X12_26 : fI 13 26 = false := by decide +kernel
theorem fi_X12_27 : fI 13 27 = false := by decide +kernel
theorem fi_X12_28 : fI 13 28 = true := by decide +kernel
theorem fi_X12_29 : fI 13 29 = true := by decide +kernel
theorem fi_X12_30 : fI 13 30 = true := by decide +kernel
theorem fi_X12_31 : fI 13 31 = true := by decide +kernel
theorem fi_X12_32 : fI 13 32 = true := by decide +kernel
theorem fi_X12_33 : fI 13 33 = true := by decide +kernel
theorem fi_X12_34 : fI 13 34 = true := by decide +kernel
theorem fi_X12_35 : fI 13 35 = false := by decide +kernel
theorem fi_X12_36 : fI 13 36 = false := by decide +kernel
theorem fi_X12_37 : fI 13 37 = false := by decide +kernel
theorem fi_X12_38 : fI 13 38 = false := by decide +kernel
theorem fi_X12_39 : fI 13 39 = false := by decide +kernel
theorem fi_X12_40 : fI 13 40 = false := by decide +kernel
theorem fi_X12_41 : fI 13 41 = false := by decide +kernel
theorem fi_X12_42 : fI 13 42 = false := by decide +kernel
theorem fi_X12_43 : fI 13 43 = false := by decide +kernel
theorem fi_X12_44 : fI 13 44 = false := by decide +kernel
theorem fi_X12_45 : fI 13 45 = false := by decide +kernel
theorem fi_X12_46 : fI 13 46 = false := by decide +kernel
theorem fi_X12_47 : fI 13 47 = false := by decide +kernel
theorem fi_X12_48 : fI 13 48 = false := by decide +kernel
theorem fi_X12_49 : fI 13 49 = false := by decide +kernel
theorem fi_X12_50 : fI 13 50 = false := by decide +kernel
theorem fi_X12_51 : fI 13 51 = false := by decide +kernel
theorem fi_X12_52 : fI 13 52 = false := by decide +kernel
theorem fi_X12_53 : fI 13 53 = false := by decide +kernel
theorem fi_X12_54 : fI 13 54 = false := by decide +kernel
theorem fi_X12_55 : fI 13 55 = false := by decide +kernel
theorem fi_X12_56 : fI 13 56 = false := by decide +kernel
theorem fi_X12_57 : fI 13 57 = false := by decide +kernel
theorem fi_X12_58 : fI 13 58 = false := by decide +kernel
theorem fi_X12_59 : fI 13 59 = false := by decide +kernel
theorem fi_X12_60 : fI 13 60 = false := by decide +kernel
theorem fi_X12_61 : fI 13 61 = false := by decide +kernel
theorem fi_X12_62 : fI 13 62 = false := by decide +kernel
theorem fi_X12_63 : fI 13 63 = false := by decide +kernel
theorem fi_X12_64 : fI 13 64 = false := by decide +kernel
theorem fi_X12_65 : fI 13 65 = true := by decide +kernel
theorem fi_X12_66 : fI 13 66 = true := by decide +kernel
theorem fi_X12_67 : fI 13 67 = false := by decide +kernel
theorem fi_X12_68 : fI 13 68 = false := by decide +kernel
theorem fi_X12_69 : fI 13 69 = true := by decide +kernel
theorem fi_X12_70 : fI 13 70 = false := by decide +kernel
theorem fi_X12_71 : fI 13 71 = false := by decide +kernel
theorem df_X12 : ∀ j, j < 72 → defaultValue (tyX12 j) = if fI 13 j = true then .int 0 else .null := by decide +kernel
theorem ce_X0_init : CeF yX0_init cX0_init 2 (none) 1 := ⟨gd_1 66 rfl rfl, gd_1 5 rfl rfl, ⟨by decide +kernel, by decide +kernel, by decide +kernel⟩, by decide⟩
theorem im_X0_init : Cond.instanceMethod yX0_init ∈ lw_gd := gd_1 65 rfl rfl
theorem ce_X0_add : CeF yX0_add cX0_add 2 (none) 1 := ⟨gd_4 89 rfl rfl, gd_1 5 rfl rfl, ⟨by decide +kernel, by decide +kernel, by decide +kernel⟩, by decide⟩
theorem im_X0_add : Cond.instanceMethod yX0_add ∈ lw_gd := gd_4 87 rfl rfl
theorem sl_X0_add : Cond.selects yX0_add.cls yX0_add yX0_add ∈ lw_gd := gd_4 88 rfl rfl
theorem ce_X0_addNumber : CeF yX0_addNumber cX0_addNumber 2 (none) 1 := ⟨gd_4 85 rfl rfl, gd_1 5 rfl rfl, ⟨by decide +kernel, by decide +kernel, by decide +kernel⟩, by decide⟩
theorem im_X0_addNumber : Cond.instanceMethod yX0_addNumber ∈ lw_gd := gd_4 83 rfl rfl
theorem sl_X0_addNumber : Cond.selects yX0_addNumber.cls yX0_addNumber yX0_addNumber ∈ lw_gd := gd_4 84 rfl rfl
theorem ce_X0_at : CeF yX0_at cX0_at 2 (some .int) 1 := ⟨gd_4 101 rfl rfl, gd_1 5 rfl rfl, ⟨by decide +kernel, by decide +kernel, by decide +kernel⟩, by decide⟩
theorem im_X0_at : Cond.instanceMethod yX0_at ∈ lw_gd := gd_4 99 rfl rfl
theorem sl_X0_at : Cond.selects yX0_at.cls yX0_at yX0_at ∈ lw_gd := gd_4 100 rfl rfl
theorem ce_X0_clear : CeF yX0_clear cX0_clear 1 (none) 0 := ⟨gd_4 105 rfl rfl, gd_1 5 rfl rfl, ⟨by decide +kernel, by decide +kernel, by decide +kernel⟩, by decide⟩
theorem im_X0_clear : Cond.instanceMethod yX0_clear ∈ lw_gd := gd_4 103 rfl rfl
theorem sl_X0_clear : Cond.selects yX0_clear.cls yX0_clear yX0_clear ∈ lw_gd := gd_4 104 rfl rfl
theorem ce_X1_init : CeF yX1_init cX1_init 1 (none) 0 := ⟨gd_1 90 rfl rfl, gd_1 8 rfl rfl, ⟨by decide +kernel, by decide +kernel, by decide +kernel⟩, by decide⟩
theorem im_X1_init : Cond.instanceMethod yX1_init ∈ lw_gd := gd_1 89 rfl rfl
theorem ce_X2_init : CeF yX2_init cX2_init 2 (none) 0 := ⟨gd_1 83 rfl rfl, gd_1 7 rfl rfl, ⟨by decide +kernel, by decide +kernel, by decide +kernel⟩, by decide⟩
theorem im_X2_init : Cond.instanceMethod yX2_init ∈ lw_gd := gd_1 82 rfl rfl
theorem ce_X2_push : CeF yX2_push cX2_push 7 (none) 5 := ⟨gd_4 6 rfl rfl, gd_1 7 rfl rfl, ⟨by decide +kernel, by decide +kernel, by decide +kernel⟩, by decide⟩
theorem im_X2_push : Cond.instanceMethod yX2_push ∈ lw_gd := gd_4 4 rfl rfl
theorem sl_X2_push : Cond.selects yX2_push.cls yX2_push yX2_push ∈ lw_gd := gd_4 5 rfl rfl
theorem ce_X2_pop : CeF yX2_pop cX2_pop 1 (some (.object "BallBook$Change")) 0 := ⟨gd_4 140 rfl rfl, gd_1 7 rfl rfl, ⟨by decide +kernel, by decide +kernel, by decide +kernel⟩, by decide⟩
theorem im_X2_pop : Cond.instanceMethod yX2_pop ∈ lw_gd := gd_4 138 rfl rfl
theorem sl_X2_pop : Cond.selects yX2_pop.cls yX2_pop yX2_pop ∈ lw_gd := gd_4 139 rfl rfl
theorem ce_X2_changeAt : CeF yX2_changeAt cX2_changeAt 2 (some (.object "BallBook$Change")) 1 := ⟨gd_4 10 rfl rfl, gd_1 7 rfl rfl, ⟨by decide +kernel, by decide +kernel, by decide +kernel⟩, by decide⟩
theorem im_X2_changeAt : Cond.instanceMethod yX2_changeAt ∈ lw_gd := gd_4 9 rfl rfl
theorem sl_X2_changeAt : Cond.selects yX2_changeAt.cls yX2_changeAt yX2_changeAt ∈ lw_gd := gd_s 25 rfl rfl
theorem ce_X3_init : CeF yX3_init cX3_init 6 (none) 4 := ⟨gd_2 151 rfl rfl, gd_1 16 rfl rfl, ⟨by decide +kernel, by decide +kernel, by decide +kernel⟩, by decide⟩
theorem im_X3_init : Cond.instanceMethod yX3_init ∈ lw_gd := gd_2 150 rfl rfl
theorem ce_X3_sideAt : CeF yX3_sideAt cX3_sideAt 2 (some .int) 1 := ⟨gd_3 39 rfl rfl, gd_1 16 rfl rfl, ⟨by decide +kernel, by decide +kernel, by decide +kernel⟩, by decide⟩
theorem im_X3_sideAt : Cond.instanceMethod yX3_sideAt ∈ lw_gd := gd_3 37 rfl rfl
theorem sl_X3_sideAt : Cond.selects yX3_sideAt.cls yX3_sideAt yX3_sideAt ∈ lw_gd := gd_3 38 rfl rfl
theorem ce_X3_playerAt : CeF yX3_playerAt cX3_playerAt 3 (some .int) 2 := ⟨gd_4 194 rfl rfl, gd_1 16 rfl rfl, ⟨by decide +kernel, by decide +kernel, by decide +kernel⟩, by decide⟩
theorem im_X3_playerAt : Cond.instanceMethod yX3_playerAt ∈ lw_gd := gd_4 192 rfl rfl
theorem sl_X3_playerAt : Cond.selects yX3_playerAt.cls yX3_playerAt yX3_playerAt ∈ lw_gd := gd_4 193 rfl rfl
theorem ce_X3_giveSeat : CeF yX3_giveSeat cX3_giveSeat 6 (none) 3 := ⟨gd_3 52 rfl rfl, gd_1 16 rfl rfl, ⟨by decide +kernel, by decide +kernel, by decide +kernel⟩, by decide⟩
theorem im_X3_giveSeat : Cond.instanceMethod yX3_giveSeat ∈ lw_gd := gd_3 50 rfl rfl
theorem sl_X3_giveSeat : Cond.selects yX3_giveSeat.cls yX3_giveSeat yX3_giveSeat ∈ lw_gd := gd_3 51 rfl rfl
theorem ce_X3_turnCount : CeF yX3_turnCount cX3_turnCount 1 (some .int) 0 := ⟨gd_3 47 rfl rfl, gd_1 16 rfl rfl, ⟨by decide +kernel, by decide +kernel, by decide +kernel⟩, by decide⟩
theorem im_X3_turnCount : Cond.instanceMethod yX3_turnCount ∈ lw_gd := gd_3 45 rfl rfl
theorem sl_X3_turnCount : Cond.selects yX3_turnCount.cls yX3_turnCount yX3_turnCount ∈ lw_gd := gd_3 46 rfl rfl
theorem ce_X3_turnAt : CeF yX3_turnAt cX3_turnAt 2 (some (.object "BallBook$Turn")) 1 := ⟨gd_3 123 rfl rfl, gd_1 16 rfl rfl, ⟨by decide +kernel, by decide +kernel, by decide +kernel⟩, by decide⟩
theorem im_X3_turnAt : Cond.instanceMethod yX3_turnAt ∈ lw_gd := gd_3 121 rfl rfl
theorem sl_X3_turnAt : Cond.selects yX3_turnAt.cls yX3_turnAt yX3_turnAt ∈ lw_gd := gd_3 122 rfl rfl
theorem ce_X3_addTurn : CeF yX3_addTurn cX3_addTurn 2 (none) 1 := ⟨gd_4 36 rfl rfl, gd_1 16 rfl rfl, ⟨by decide +kernel, by decide +kernel, by decide +kernel⟩, by decide⟩
theorem im_X3_addTurn : Cond.instanceMethod yX3_addTurn ∈ lw_gd := gd_4 34 rfl rfl
theorem sl_X3_addTurn : Cond.selects yX3_addTurn.cls yX3_addTurn yX3_addTurn ∈ lw_gd := gd_4 35 rfl rfl
theorem ce_X3_overCountOf : CeF yX3_overCountOf cX3_overCountOf 3 (some .int) 1 := ⟨gd_3 119 rfl rfl, gd_1 16 rfl rfl, ⟨by decide +kernel, by decide +kernel, by decide +kernel⟩, by decide⟩
theorem im_X3_overCountOf : Cond.instanceMethod yX3_overCountOf ∈ lw_gd := gd_3 117 rfl rfl
theorem sl_X3_overCountOf : Cond.selects yX3_overCountOf.cls yX3_overCountOf yX3_overCountOf ∈ lw_gd := gd_3 118 rfl rfl
theorem ce_X3_overAt : CeF yX3_overAt cX3_overAt 4 (some (.object "BallBook$Over")) 2 := ⟨gd_3 134 rfl rfl, gd_1 16 rfl rfl, ⟨by decide +kernel, by decide +kernel, by decide +kernel⟩, by decide⟩
theorem im_X3_overAt : Cond.instanceMethod yX3_overAt ∈ lw_gd := gd_3 132 rfl rfl
theorem sl_X3_overAt : Cond.selects yX3_overAt.cls yX3_overAt yX3_overAt ∈ lw_gd := gd_3 133 rfl rfl
theorem ce_X3_takeBack : CeF yX3_takeBack cX3_takeBack 4 (none) 1 := ⟨gd_4 144 rfl rfl, gd_1 16 rfl rfl, ⟨by decide +kernel, by decide +kernel, by decide +kernel⟩, by decide⟩
theorem im_X3_takeBack : Cond.instanceMethod yX3_takeBack ∈ lw_gd := gd_4 142 rfl rfl
theorem sl_X3_takeBack : Cond.selects yX3_takeBack.cls yX3_takeBack yX3_takeBack ∈ lw_gd := gd_4 143 rfl rfl
theorem ce_X3_placeOf : CeF yX3_placeOf cX3_placeOf 6 (some .int) 3 := ⟨gd_4 180 rfl rfl, gd_1 16 rfl rfl, ⟨by decide +kernel, by decide +kernel, by decide +kernel⟩, by decide⟩
theorem im_X3_placeOf : Cond.instanceMethod yX3_placeOf ∈ lw_gd := gd_4 178 rfl rfl
theorem sl_X3_placeOf : Cond.selects yX3_placeOf.cls yX3_placeOf yX3_placeOf ∈ lw_gd := gd_4 179 rfl rfl
theorem ce_X3_imageSize : CeF yX3_imageSize cX3_imageSize 1 (some .int) 0 := ⟨gd_4 175 rfl rfl, gd_1 16 rfl rfl, ⟨by decide +kernel, by decide +kernel, by decide +kernel⟩, by decide⟩
theorem im_X3_imageSize : Cond.instanceMethod yX3_imageSize ∈ lw_gd := gd_4 173 rfl rfl
theorem sl_X3_imageSize : Cond.selects yX3_imageSize.cls yX3_imageSize yX3_imageSize ∈ lw_gd := gd_4 174 rfl rfl
theorem ce_X4_init : CeF yX4_init cX4_init 3 (none) 2 := ⟨gd_1 168 rfl rfl, gd_1 12 rfl rfl, ⟨by decide +kernel, by decide +kernel, by decide +kernel⟩, by decide⟩
theorem im_X4_init : Cond.instanceMethod yX4_init ∈ lw_gd := gd_1 167 rfl rfl
theorem ce_X4_at : CeF yX4_at cX4_at 3 (some .int) 2 := ⟨gd_3 56 rfl rfl, gd_1 12 rfl rfl, ⟨by decide +kernel, by decide +kernel, by decide +kernel⟩, by decide⟩
theorem im_X4_at : Cond.instanceMethod yX4_at ∈ lw_gd := gd_3 54 rfl rfl
theorem sl_X4_at : Cond.selects yX4_at.cls yX4_at yX4_at ∈ lw_gd := gd_3 55 rfl rfl
theorem ce_X4_set : CeF yX4_set cX4_set 4 (none) 3 := ⟨gd_2 160 rfl rfl, gd_1 12 rfl rfl, ⟨by decide +kernel, by decide +kernel, by decide +kernel⟩, by decide⟩
theorem im_X4_set : Cond.instanceMethod yX4_set ∈ lw_gd := gd_2 158 rfl rfl
theorem sl_X4_set : Cond.selects yX4_set.cls yX4_set yX4_set ∈ lw_gd := gd_2 159 rfl rfl
theorem ce_X4_add : CeF yX4_add cX4_add 4 (none) 3 := ⟨gd_3 170 rfl rfl, gd_1 12 rfl rfl, ⟨by decide +kernel, by decide +kernel, by decide +kernel⟩, by decide⟩
theorem im_X4_add : Cond.instanceMethod yX4_add ∈ lw_gd := gd_3 168 rfl rfl
theorem sl_X4_add : Cond.selects yX4_add.cls yX4_add yX4_add ∈ lw_gd := gd_3 169 rfl rfl
theorem ce_X4_fill : CeF yX4_fill cX4_fill 3 (none) 1 := ⟨gd_3 93 rfl rfl, gd_1 12 rfl rfl, ⟨by decide +kernel, by decide +kernel, by decide +kernel⟩, by decide⟩
theorem im_X4_fill : Cond.instanceMethod yX4_fill ∈ lw_gd := gd_3 91 rfl rfl
theorem sl_X4_fill : Cond.selects yX4_fill.cls yX4_fill yX4_fill ∈ lw_gd := gd_3 92 rfl rfl
theorem ce_X4_fillRow : CeF yX4_fillRow cX4_fillRow 4 (none) 2 := ⟨gd_3 165 rfl rfl, gd_1 12 rfl rfl, ⟨by decide +kernel, by decide +kernel, by decide +kernel⟩, by decide⟩
theorem im_X4_fillRow : Cond.instanceMethod yX4_fillRow ∈ lw_gd := gd_3 163 rfl rfl
theorem sl_X4_fillRow : Cond.selects yX4_fillRow.cls yX4_fillRow yX4_fillRow ∈ lw_gd := gd_3 164 rfl rfl
theorem ce_X4_sumOf : CeF yX4_sumOf cX4_sumOf 5 (some .int) 2 := ⟨gd_5 146 rfl rfl, gd_1 12 rfl rfl, ⟨by decide +kernel, by decide +kernel, by decide +kernel⟩, by decide⟩
theorem im_X4_sumOf : Cond.instanceMethod yX4_sumOf ∈ lw_gd := gd_5 144 rfl rfl
theorem sl_X4_sumOf : Cond.selects yX4_sumOf.cls yX4_sumOf yX4_sumOf ∈ lw_gd := gd_5 145 rfl rfl
theorem ce_X4_howMany : CeF yX4_howMany cX4_howMany 5 (some .int) 2 := ⟨gd_5 151 rfl rfl, gd_1 12 rfl rfl, ⟨by decide +kernel, by decide +kernel, by decide +kernel⟩, by decide⟩
theorem im_X4_howMany : Cond.instanceMethod yX4_howMany ∈ lw_gd := gd_5 149 rfl rfl
theorem sl_X4_howMany : Cond.selects yX4_howMany.cls yX4_howMany yX4_howMany ∈ lw_gd := gd_5 150 rfl rfl
theorem ce_X4_has : CeF yX4_has cX4_has 3 (some .boolean) 2 := ⟨gd_2 164 rfl rfl, gd_1 12 rfl rfl, ⟨by decide +kernel, by decide +kernel, by decide +kernel⟩, by decide⟩
theorem im_X4_has : Cond.instanceMethod yX4_has ∈ lw_gd := gd_2 163 rfl rfl
theorem sl_X4_has : Cond.selects yX4_has.cls yX4_has yX4_has ∈ lw_gd := gd_s 1 rfl rfl
theorem ce_X5_init : CeF yX5_init cX5_init 3 (none) 2 := ⟨gd_1 96 rfl rfl, gd_1 9 rfl rfl, ⟨by decide +kernel, by decide +kernel, by decide +kernel⟩, by decide⟩
theorem im_X5_init : Cond.instanceMethod yX5_init ∈ lw_gd := gd_1 95 rfl rfl
theorem ce_X5_isMissing : CeF yX5_isMissing cX5_isMissing 1 (some .boolean) 0 := ⟨gd_3 174 rfl rfl, gd_1 9 rfl rfl, ⟨by decide +kernel, by decide +kernel, by decide +kernel⟩, by decide⟩
theorem im_X5_isMissing : Cond.instanceMethod yX5_isMissing ∈ lw_gd := gd_3 172 rfl rfl
theorem sl_X5_isMissing : Cond.selects yX5_isMissing.cls yX5_isMissing yX5_isMissing ∈ lw_gd := gd_3 173 rfl rfl
theorem ce_X5_isFull : CeF yX5_isFull cX5_isFull 1 (some .boolean) 0 := ⟨gd_4 66 rfl rfl, gd_1 9 rfl rfl, ⟨by decide +kernel, by decide +kernel, by decide +kernel⟩, by decide⟩
theorem im_X5_isFull : Cond.instanceMethod yX5_isFull ∈ lw_gd := gd_4 64 rfl rfl
theorem sl_X5_isFull : Cond.selects yX5_isFull.cls yX5_isFull yX5_isFull ∈ lw_gd := gd_4 65 rfl rfl
theorem ce_X5_has : CeF yX5_has cX5_has 2 (some .boolean) 1 := ⟨gd_3 194 rfl rfl, gd_1 9 rfl rfl, ⟨by decide +kernel, by decide +kernel, by decide +kernel⟩, by decide⟩
theorem im_X5_has : Cond.instanceMethod yX5_has ∈ lw_gd := gd_3 192 rfl rfl
theorem sl_X5_has : Cond.selects yX5_has.cls yX5_has yX5_has ∈ lw_gd := gd_3 193 rfl rfl
theorem ce_X5_at : CeF yX5_at cX5_at 2 (some .int) 1 := ⟨gd_3 190 rfl rfl, gd_1 9 rfl rfl, ⟨by decide +kernel, by decide +kernel, by decide +kernel⟩, by decide⟩
theorem im_X5_at : Cond.instanceMethod yX5_at ∈ lw_gd := gd_3 188 rfl rfl
theorem sl_X5_at : Cond.selects yX5_at.cls yX5_at yX5_at ∈ lw_gd := gd_3 189 rfl rfl
theorem ce_X5_set : CeF yX5_set cX5_set 3 (none) 2 := ⟨gd_4 19 rfl rfl, gd_1 9 rfl rfl, ⟨by decide +kernel, by decide +kernel, by decide +kernel⟩, by decide⟩
theorem im_X5_set : Cond.instanceMethod yX5_set ∈ lw_gd := gd_4 17 rfl rfl
theorem sl_X5_set : Cond.selects yX5_set.cls yX5_set yX5_set ∈ lw_gd := gd_4 18 rfl rfl
theorem ce_X5_insert : CeF yX5_insert cX5_insert 4 (none) 2 := ⟨gd_4 75 rfl rfl, gd_1 9 rfl rfl, ⟨by decide +kernel, by decide +kernel, by decide +kernel⟩, by decide⟩
theorem im_X5_insert : Cond.instanceMethod yX5_insert ∈ lw_gd := gd_4 73 rfl rfl
theorem sl_X5_insert : Cond.selects yX5_insert.cls yX5_insert yX5_insert ∈ lw_gd := gd_4 74 rfl rfl
theorem ce_X5_remove : CeF yX5_remove cX5_remove 3 (none) 1 := ⟨gd_4 128 rfl rfl, gd_1 9 rfl rfl, ⟨by decide +kernel, by decide +kernel, by decide +kernel⟩, by decide⟩
theorem im_X5_remove : Cond.instanceMethod yX5_remove ∈ lw_gd := gd_4 126 rfl rfl
theorem sl_X5_remove : Cond.selects yX5_remove.cls yX5_remove yX5_remove ∈ lw_gd := gd_4 127 rfl rfl
theorem ce_X5_copy : CeF yX5_copy cX5_copy 3 (none) 1 := ⟨gd_4 14 rfl rfl, gd_1 9 rfl rfl, ⟨by decide +kernel, by decide +kernel, by decide +kernel⟩, by decide⟩
theorem im_X5_copy : Cond.instanceMethod yX5_copy ∈ lw_gd := gd_4 12 rfl rfl
theorem sl_X5_copy : Cond.selects yX5_copy.cls yX5_copy yX5_copy ∈ lw_gd := gd_4 13 rfl rfl
theorem ce_X6_init : CeF yX6_init cX6_init 2 (none) 0 := ⟨gd_1 155 rfl rfl, gd_1 10 rfl rfl, ⟨by decide +kernel, by decide +kernel, by decide +kernel⟩, by decide⟩
theorem im_X6_init : Cond.instanceMethod yX6_init ∈ lw_gd := gd_1 154 rfl rfl
theorem ce_X6_tallyAt : CeF yX6_tallyAt cX6_tallyAt 2 (some (.object "BallBook$Tally")) 1 := ⟨gd_3 85 rfl rfl, gd_1 10 rfl rfl, ⟨by decide +kernel, by decide +kernel, by decide +kernel⟩, by decide⟩
theorem im_X6_tallyAt : Cond.instanceMethod yX6_tallyAt ∈ lw_gd := gd_3 83 rfl rfl
theorem sl_X6_tallyAt : Cond.selects yX6_tallyAt.cls yX6_tallyAt yX6_tallyAt ∈ lw_gd := gd_3 84 rfl rfl
theorem ce_X6_replay : CeF yX6_replay cX6_replay 6 (none) 1 := ⟨gd_3 76 rfl rfl, gd_1 10 rfl rfl, ⟨by decide +kernel, by decide +kernel, by decide +kernel⟩, by decide⟩
theorem im_X6_replay : Cond.instanceMethod yX6_replay ∈ lw_gd := gd_3 74 rfl rfl
theorem sl_X6_replay : Cond.selects yX6_replay.cls yX6_replay yX6_replay ∈ lw_gd := gd_3 75 rfl rfl
theorem ce_X6_ruleOfTurn : CeF yX6_ruleOfTurn cX6_ruleOfTurn 2 (some .int) 1 := ⟨gd_3 97 rfl rfl, gd_1 10 rfl rfl, ⟨by decide +kernel, by decide +kernel, by decide +kernel⟩, by decide⟩
theorem im_X6_ruleOfTurn : Cond.instanceMethod yX6_ruleOfTurn ∈ lw_gd := gd_3 95 rfl rfl
theorem sl_X6_ruleOfTurn : Cond.selects yX6_ruleOfTurn.cls yX6_ruleOfTurn yX6_ruleOfTurn ∈ lw_gd := gd_3 96 rfl rfl
theorem ce_X6_ruleOfOver : CeF yX6_ruleOfOver cX6_ruleOfOver 2 (some .int) 1 := ⟨gd_3 144 rfl rfl, gd_1 10 rfl rfl, ⟨by decide +kernel, by decide +kernel, by decide +kernel⟩, by decide⟩
theorem im_X6_ruleOfOver : Cond.instanceMethod yX6_ruleOfOver ∈ lw_gd := gd_3 142 rfl rfl
theorem sl_X6_ruleOfOver : Cond.selects yX6_ruleOfOver.cls yX6_ruleOfOver yX6_ruleOfOver ∈ lw_gd := gd_3 143 rfl rfl
theorem ce_X6_ruleOfEntry : CeF yX6_ruleOfEntry cX6_ruleOfEntry 2 (some .int) 1 := ⟨gd_3 198 rfl rfl, gd_1 10 rfl rfl, ⟨by decide +kernel, by decide +kernel, by decide +kernel⟩, by decide⟩
theorem im_X6_ruleOfEntry : Cond.instanceMethod yX6_ruleOfEntry ∈ lw_gd := gd_3 196 rfl rfl
theorem sl_X6_ruleOfEntry : Cond.selects yX6_ruleOfEntry.cls yX6_ruleOfEntry yX6_ruleOfEntry ∈ lw_gd := gd_3 197 rfl rfl
theorem ce_X6_figure : CeF yX6_figure cX6_figure 2 (some .int) 1 := ⟨gd_5 108 rfl rfl, gd_1 10 rfl rfl, ⟨by decide +kernel, by decide +kernel, by decide +kernel⟩, by decide⟩
theorem im_X6_figure : Cond.instanceMethod yX6_figure ∈ lw_gd := gd_5 106 rfl rfl
theorem sl_X6_figure : Cond.selects yX6_figure.cls yX6_figure yX6_figure ∈ lw_gd := gd_5 107 rfl rfl
theorem ce_X6_figureAtHand : CeF yX6_figureAtHand cX6_figureAtHand 3 (some .int) 1 := ⟨gd_5 112 rfl rfl, gd_1 10 rfl rfl, ⟨by decide +kernel, by decide +kernel, by decide +kernel⟩, by decide⟩
theorem im_X6_figureAtHand : Cond.instanceMethod yX6_figureAtHand ∈ lw_gd := gd_5 111 rfl rfl
theorem sl_X6_figureAtHand : Cond.selects yX6_figureAtHand.cls yX6_figureAtHand yX6_figureAtHand ∈ lw_gd := gd_s 38 rfl rfl
theorem ce_X6_figureOfChase : CeF yX6_figureOfChase cX6_figureOfChase 4 (some .int) 2 := ⟨gd_5 121 rfl rfl, gd_1 10 rfl rfl, ⟨by decide +kernel, by decide +kernel, by decide +kernel⟩, by decide⟩
theorem im_X6_figureOfChase : Cond.instanceMethod yX6_figureOfChase ∈ lw_gd := gd_5 120 rfl rfl
theorem sl_X6_figureOfChase : Cond.selects yX6_figureOfChase.cls yX6_figureOfChase yX6_figureOfChase ∈ lw_gd := gd_s 40 rfl rfl
theorem ce_X6_stillToBeHad : CeF yX6_stillToBeHad cX6_stillToBeHad 2 (some .int) 1 := ⟨gd_5 117 rfl rfl, gd_1 10 rfl rfl, ⟨by decide +kernel, by decide +kernel, by decide +kernel⟩, by decide⟩
theorem im_X6_stillToBeHad : Cond.instanceMethod yX6_stillToBeHad ∈ lw_gd := gd_5 116 rfl rfl
theorem sl_X6_stillToBeHad : Cond.selects yX6_stillToBeHad.cls yX6_stillToBeHad yX6_stillToBeHad ∈ lw_gd := gd_s 39 rfl rfl
theorem ce_X6_start : CeF yX6_start cX6_start 3 (none) 1 := ⟨gd_3 80 rfl rfl, gd_1 10 rfl rfl, ⟨by decide +kernel, by decide +kernel, by decide +kernel⟩, by decide⟩
theorem im_X6_start : Cond.instanceMethod yX6_start ∈ lw_gd := gd_3 79 rfl rfl
theorem sl_X6_start : Cond.selects yX6_start.cls yX6_start yX6_start ∈ lw_gd := gd_s 11 rfl rfl
theorem ce_X6_stops : CeF yX6_stops cX6_stops 5 (some .boolean) 4 := ⟨gd_3 101 rfl rfl, gd_1 10 rfl rfl, ⟨by decide +kernel, by decide +kernel, by decide +kernel⟩, by decide⟩
theorem im_X6_stops : Cond.instanceMethod yX6_stops ∈ lw_gd := gd_3 100 rfl rfl
theorem sl_X6_stops : Cond.selects yX6_stops.cls yX6_stops yX6_stops ∈ lw_gd := gd_s 12 rfl rfl
theorem ce_X6_beginTurn : CeF yX6_beginTurn cX6_beginTurn 3 (none) 1 := ⟨gd_3 105 rfl rfl, gd_1 10 rfl rfl, ⟨by decide +kernel, by decide +kernel, by decide +kernel⟩, by decide⟩
theorem im_X6_beginTurn : Cond.instanceMethod yX6_beginTurn ∈ lw_gd := gd_3 104 rfl rfl
theorem sl_X6_beginTurn : Cond.selects yX6_beginTurn.cls yX6_beginTurn yX6_beginTurn ∈ lw_gd := gd_s 13 rfl rfl
theorem ce_X6_target : CeF yX6_target cX6_target 4 (some .int) 0 := ⟨gd_3 182 rfl rfl, gd_1 10 rfl rfl, ⟨by decide +kernel, by decide +kernel, by decide +kernel⟩, by decide⟩
theorem im_X6_target : Cond.instanceMethod yX6_target ∈ lw_gd := gd_3 181 rfl rfl
theorem sl_X6_target : Cond.selects yX6_target.cls yX6_target yX6_target ∈ lw_gd := gd_s 17 rfl rfl
theorem ce_X6_endTurn : CeF yX6_endTurn cX6_endTurn 3 (none) 1 := ⟨gd_3 178 rfl rfl, gd_1 10 rfl rfl, ⟨by decide +kernel, by decide +kernel, by decide +kernel⟩, by decide⟩
theorem im_X6_endTurn : Cond.instanceMethod yX6_endTurn ∈ lw_gd := gd_3 177 rfl rfl
theorem sl_X6_endTurn : Cond.selects yX6_endTurn.cls yX6_endTurn yX6_endTurn ∈ lw_gd := gd_s 16 rfl rfl
theorem ce_X6_findWinner : CeF yX6_findWinner cX6_findWinner 3 (none) 1 := ⟨gd_3 186 rfl rfl, gd_1 10 rfl rfl, ⟨by decide +kernel, by decide +kernel, by decide +kernel⟩, by decide⟩
theorem im_X6_findWinner : Cond.instanceMethod yX6_findWinner ∈ lw_gd := gd_3 185 rfl rfl
theorem sl_X6_findWinner : Cond.selects yX6_findWinner.cls yX6_findWinner yX6_findWinner ∈ lw_gd := gd_s 18 rfl rfl
theorem ce_X7_init : CeF yX7_init cX7_init 1 (none) 0 := ⟨gd_2 71 rfl rfl, gd_1 14 rfl rfl, ⟨by decide +kernel, by decide +kernel, by decide +kernel⟩, by decide⟩
theorem im_X7_init : Cond.instanceMethod yX7_init ∈ lw_gd := gd_2 70 rfl rfl
theorem ce_X7_start : CeF yX7_start cX7_start 3 (none) 2 := ⟨gd_4 211 rfl rfl, gd_1 14 rfl rfl, ⟨by decide +kernel, by decide +kernel, by decide +kernel⟩, by decide⟩
theorem im_X7_start : Cond.instanceMethod yX7_start ∈ lw_gd := gd_4 209 rfl rfl
theorem sl_X7_start : Cond.selects yX7_start.cls yX7_start yX7_start ∈ lw_gd := gd_4 210 rfl rfl
theorem ce_X7_isRight : CeF yX7_isRight cX7_isRight 1 (some .boolean) 0 := ⟨gd_4 223 rfl rfl, gd_1 14 rfl rfl, ⟨by decide +kernel, by decide +kernel, by decide +kernel⟩, by decide⟩
theorem im_X7_isRight : Cond.instanceMethod yX7_isRight ∈ lw_gd := gd_4 221 rfl rfl
theorem sl_X7_isRight : Cond.selects yX7_isRight.cls yX7_isRight yX7_isRight ∈ lw_gd := gd_4 222 rfl rfl
theorem ce_X7_readHead : CeF yX7_readHead cX7_readHead 10 (some (.object "BallBook$Game")) 2 := ⟨gd_4 215 rfl rfl, gd_1 14 rfl rfl, ⟨by decide +kernel, by decide +kernel, by decide +kernel⟩, by decide⟩
theorem im_X7_readHead : Cond.instanceMethod yX7_readHead ∈ lw_gd := gd_4 213 rfl rfl
theorem sl_X7_readHead : Cond.selects yX7_readHead.cls yX7_readHead yX7_readHead ∈ lw_gd := gd_4 214 rfl rfl
theorem ce_X7_readTurns : CeF yX7_readTurns cX7_readTurns 7 (none) 1 := ⟨gd_5 1 rfl rfl, gd_1 14 rfl rfl, ⟨by decide +kernel, by decide +kernel, by decide +kernel⟩, by decide⟩
theorem im_X7_readTurns : Cond.instanceMethod yX7_readTurns ∈ lw_gd := gd_4 239 rfl rfl
theorem sl_X7_readTurns : Cond.selects yX7_readTurns.cls yX7_readTurns yX7_readTurns ∈ lw_gd := gd_5 0 rfl rfl
theorem ce_X7_readEnd : CeF yX7_readEnd cX7_readEnd 1 (none) 0 := ⟨gd_5 17 rfl rfl, gd_1 14 rfl rfl, ⟨by decide +kernel, by decide +kernel, by decide +kernel⟩, by decide⟩
theorem im_X7_readEnd : Cond.instanceMethod yX7_readEnd ∈ lw_gd := gd_5 15 rfl rfl
theorem sl_X7_readEnd : Cond.selects yX7_readEnd.cls yX7_readEnd yX7_readEnd ∈ lw_gd := gd_5 16 rfl rfl
theorem ce_X7_compare : CeF yX7_compare cX7_compare 6 (none) 2 := ⟨gd_5 22 rfl rfl, gd_1 14 rfl rfl, ⟨by decide +kernel, by decide +kernel, by decide +kernel⟩, by decide⟩
theorem im_X7_compare : Cond.instanceMethod yX7_compare ∈ lw_gd := gd_5 20 rfl rfl
theorem sl_X7_compare : Cond.selects yX7_compare.cls yX7_compare yX7_compare ∈ lw_gd := gd_5 21 rfl rfl
theorem ce_X7_readPlayers : CeF yX7_readPlayers cX7_readPlayers 7 (none) 3 := ⟨gd_4 235 rfl rfl, gd_1 14 rfl rfl, ⟨by decide +kernel, by decide +kernel, by decide +kernel⟩, by decide⟩
theorem im_X7_readPlayers : Cond.instanceMethod yX7_readPlayers ∈ lw_gd := gd_4 234 rfl rfl
theorem sl_X7_readPlayers : Cond.selects yX7_readPlayers.cls yX7_readPlayers yX7_readPlayers ∈ lw_gd := gd_s 35 rfl rfl
theorem ce_X7_readOver : CeF yX7_readOver cX7_readOver 6 (none) 1 := ⟨gd_5 8 rfl rfl, gd_1 14 rfl rfl, ⟨by decide +kernel, by decide +kernel, by decide +kernel⟩, by decide⟩
theorem im_X7_readOver : Cond.instanceMethod yX7_readOver ∈ lw_gd := gd_5 7 rfl rfl
theorem sl_X7_readOver : Cond.selects yX7_readOver.cls yX7_readOver yX7_readOver ∈ lw_gd := gd_s 36 rfl rfl
theorem ce_X7_next : CeF yX7_next cX7_next 4 (some .int) 2 := ⟨gd_4 219 rfl rfl, gd_1 14 rfl rfl, ⟨by decide +kernel, by decide +kernel, by decide +kernel⟩, by decide⟩
theorem im_X7_next : Cond.instanceMethod yX7_next ∈ lw_gd := gd_4 218 rfl rfl
theorem sl_X7_next : Cond.selects yX7_next.cls yX7_next yX7_next ∈ lw_gd := gd_s 33 rfl rfl
theorem ce_X7_fail : CeF yX7_fail cX7_fail 2 (none) 1 := ⟨gd_4 228 rfl rfl, gd_1 14 rfl rfl, ⟨by decide +kernel, by decide +kernel, by decide +kernel⟩, by decide⟩
theorem im_X7_fail : Cond.instanceMethod yX7_fail ∈ lw_gd := gd_4 227 rfl rfl
theorem sl_X7_fail : Cond.selects yX7_fail.cls yX7_fail yX7_fail ∈ lw_gd := gd_s 34 rfl rfl
theorem ce_X8_init : CeF yX8_init cX8_init 1 (none) 0 := ⟨gd_2 55 rfl rfl, gd_1 13 rfl rfl, ⟨by decide +kernel, by decide +kernel, by decide +kernel⟩, by decide⟩
theorem im_X8_init : Cond.instanceMethod yX8_init ∈ lw_gd := gd_2 54 rfl rfl
theorem ce_X8_clear : CeF yX8_clear cX8_clear 1 (none) 0 := ⟨gd_5 214 rfl rfl, gd_1 13 rfl rfl, ⟨by decide +kernel, by decide +kernel, by decide +kernel⟩, by decide⟩
theorem im_X8_clear : Cond.instanceMethod yX8_clear ∈ lw_gd := gd_5 212 rfl rfl
theorem sl_X8_clear : Cond.selects yX8_clear.cls yX8_clear yX8_clear ∈ lw_gd := gd_5 213 rfl rfl
theorem ce_X8_addTurn : CeF yX8_addTurn cX8_addTurn 12 (none) 4 := ⟨gd_5 219 rfl rfl, gd_1 13 rfl rfl, ⟨by decide +kernel, by decide +kernel, by decide +kernel⟩, by decide⟩
theorem im_X8_addTurn : Cond.instanceMethod yX8_addTurn ∈ lw_gd := gd_5 217 rfl rfl
theorem sl_X8_addTurn : Cond.selects yX8_addTurn.cls yX8_addTurn yX8_addTurn ∈ lw_gd := gd_5 218 rfl rfl
theorem ce_X8_addTotals : CeF yX8_addTotals cX8_addTotals 5 (none) 2 := ⟨gd_5 236 rfl rfl, gd_1 13 rfl rfl, ⟨by decide +kernel, by decide +kernel, by decide +kernel⟩, by decide⟩
theorem im_X8_addTotals : Cond.instanceMethod yX8_addTotals ∈ lw_gd := gd_5 234 rfl rfl
theorem sl_X8_addTotals : Cond.selects yX8_addTotals.cls yX8_addTotals yX8_addTotals ∈ lw_gd := gd_5 235 rfl rfl
theorem ce_X8_isBetterBowler : CeF yX8_isBetterBowler cX8_isBetterBowler 4 (some .boolean) 2 := ⟨gd_5 232 rfl rfl, gd_1 13 rfl rfl, ⟨by decide +kernel, by decide +kernel, by decide +kernel⟩, by decide⟩
theorem im_X8_isBetterBowler : Cond.instanceMethod yX8_isBetterBowler ∈ lw_gd := gd_5 231 rfl rfl
theorem sl_X8_isBetterBowler : Cond.selects yX8_isBetterBowler.cls yX8_isBetterBowler yX8_isBetterBowler ∈ lw_gd := gd_s 47 rfl rfl
theorem ce_X8_note : CeF yX8_note cX8_note 8 (none) 7 := ⟨gd_5 225 rfl rfl, gd_1 13 rfl rfl, ⟨by decide +kernel, by decide +kernel, by decide +kernel⟩, by decide⟩
theorem im_X8_note : Cond.instanceMethod yX8_note ∈ lw_gd := gd_5 224 rfl rfl
theorem sl_X8_note : Cond.selects yX8_note.cls yX8_note yX8_note ∈ lw_gd := gd_s 46 rfl rfl
theorem ce_X9_init : CeF yX9_init cX9_init 1 (none) 0 := ⟨gd_1 162 rfl rfl, gd_1 11 rfl rfl, ⟨by decide +kernel, by decide +kernel, by decide +kernel⟩, by decide⟩
theorem im_X9_init : Cond.instanceMethod yX9_init ∈ lw_gd := gd_1 161 rfl rfl
theorem ce_X9_clear : CeF yX9_clear cX9_clear 1 (none) 0 := ⟨gd_3 89 rfl rfl, gd_1 11 rfl rfl, ⟨by decide +kernel, by decide +kernel, by decide +kernel⟩, by decide⟩
theorem im_X9_clear : Cond.instanceMethod yX9_clear ∈ lw_gd := gd_3 87 rfl rfl
theorem sl_X9_clear : Cond.selects yX9_clear.cls yX9_clear yX9_clear ∈ lw_gd := gd_3 88 rfl rfl
theorem ce_X9_begin : CeF yX9_begin cX9_begin 2 (none) 1 := ⟨gd_3 109 rfl rfl, gd_1 11 rfl rfl, ⟨by decide +kernel, by decide +kernel, by decide +kernel⟩, by decide⟩
theorem im_X9_begin : Cond.instanceMethod yX9_begin ∈ lw_gd := gd_3 107 rfl rfl
theorem sl_X9_begin : Cond.selects yX9_begin.cls yX9_begin yX9_begin ∈ lw_gd := gd_3 108 rfl rfl
theorem ce_X9_ruleOfOver : CeF yX9_ruleOfOver cX9_ruleOfOver 3 (some .int) 2 := ⟨gd_3 148 rfl rfl, gd_1 11 rfl rfl, ⟨by decide +kernel, by decide +kernel, by decide +kernel⟩, by decide⟩
theorem im_X9_ruleOfOver : Cond.instanceMethod yX9_ruleOfOver ∈ lw_gd := gd_3 146 rfl rfl
theorem sl_X9_ruleOfOver : Cond.selects yX9_ruleOfOver.cls yX9_ruleOfOver yX9_ruleOfOver ∈ lw_gd := gd_3 147 rfl rfl
theorem ce_X9_beginOver : CeF yX9_beginOver cX9_beginOver 2 (none) 1 := ⟨gd_3 153 rfl rfl, gd_1 11 rfl rfl, ⟨by decide +kernel, by decide +kernel, by decide +kernel⟩, by decide⟩
theorem im_X9_beginOver : Cond.instanceMethod yX9_beginOver ∈ lw_gd := gd_3 151 rfl rfl
theorem sl_X9_beginOver : Cond.selects yX9_beginOver.cls yX9_beginOver yX9_beginOver ∈ lw_gd := gd_3 152 rfl rfl
theorem ce_X9_ruleOfEntry : CeF yX9_ruleOfEntry cX9_ruleOfEntry 5 (some .int) 2 := ⟨gd_3 202 rfl rfl, gd_1 11 rfl rfl, ⟨by decide +kernel, by decide +kernel, by decide +kernel⟩, by decide⟩
theorem im_X9_ruleOfEntry : Cond.instanceMethod yX9_ruleOfEntry ∈ lw_gd := gd_3 200 rfl rfl
theorem sl_X9_ruleOfEntry : Cond.selects yX9_ruleOfEntry.cls yX9_ruleOfEntry yX9_ruleOfEntry ∈ lw_gd := gd_3 201 rfl rfl
theorem ce_X9_playEntry : CeF yX9_playEntry cX9_playEntry 5 (none) 1 := ⟨gd_3 213 rfl rfl, gd_1 11 rfl rfl, ⟨by decide +kernel, by decide +kernel, by decide +kernel⟩, by decide⟩
theorem im_X9_playEntry : Cond.instanceMethod yX9_playEntry ∈ lw_gd := gd_3 211 rfl rfl
theorem sl_X9_playEntry : Cond.selects yX9_playEntry.cls yX9_playEntry yX9_playEntry ∈ lw_gd := gd_3 212 rfl rfl
theorem ce_X9_ballsLeft : CeF yX9_ballsLeft cX9_ballsLeft 1 (some .int) 0 := ⟨gd_4 1 rfl rfl, gd_1 11 rfl rfl, ⟨by decide +kernel, by decide +kernel, by decide +kernel⟩, by decide⟩
theorem im_X9_ballsLeft : Cond.instanceMethod yX9_ballsLeft ∈ lw_gd := gd_3 239 rfl rfl
theorem sl_X9_ballsLeft : Cond.selects yX9_ballsLeft.cls yX9_ballsLeft yX9_ballsLeft ∈ lw_gd := gd_4 0 rfl rfl
theorem ce_X9_figure : CeF yX9_figure cX9_figure 2 (some .int) 1 := ⟨gd_5 138 rfl rfl, gd_1 11 rfl rfl, ⟨by decide +kernel, by decide +kernel, by decide +kernel⟩, by decide⟩
theorem im_X9_figure : Cond.instanceMethod yX9_figure ∈ lw_gd := gd_5 136 rfl rfl
theorem sl_X9_figure : Cond.selects yX9_figure.cls yX9_figure yX9_figure ∈ lw_gd := gd_5 137 rfl rfl
theorem ce_X9_overFigure : CeF yX9_overFigure cX9_overFigure 4 (some .int) 2 := ⟨gd_5 163 rfl rfl, gd_1 11 rfl rfl, ⟨by decide +kernel, by decide +kernel, by decide +kernel⟩, by decide⟩
theorem im_X9_overFigure : Cond.instanceMethod yX9_overFigure ∈ lw_gd := gd_5 161 rfl rfl
theorem sl_X9_overFigure : Cond.selects yX9_overFigure.cls yX9_overFigure yX9_overFigure ∈ lw_gd := gd_5 162 rfl rfl
theorem ce_X9_crossSum : CeF yX9_crossSum cX9_crossSum 2 (some .int) 1 := ⟨gd_5 142 rfl rfl, gd_1 11 rfl rfl, ⟨by decide +kernel, by decide +kernel, by decide +kernel⟩, by decide⟩
theorem im_X9_crossSum : Cond.instanceMethod yX9_crossSum ∈ lw_gd := gd_5 141 rfl rfl
theorem sl_X9_crossSum : Cond.selects yX9_crossSum.cls yX9_crossSum yX9_crossSum ∈ lw_gd := gd_s 42 rfl rfl
theorem ce_X9_hit : CeF yX9_hit cX9_hit 2 (none) 1 := ⟨gd_3 217 rfl rfl, gd_1 11 rfl rfl, ⟨by decide +kernel, by decide +kernel, by decide +kernel⟩, by decide⟩
theorem im_X9_hit : Cond.instanceMethod yX9_hit ∈ lw_gd := gd_3 216 rfl rfl
theorem sl_X9_hit : Cond.selects yX9_hit.cls yX9_hit yX9_hit ∈ lw_gd := gd_s 19 rfl rfl
theorem ce_X9_concede : CeF yX9_concede cX9_concede 1 (none) 0 := ⟨gd_3 225 rfl rfl, gd_1 11 rfl rfl, ⟨by decide +kernel, by decide +kernel, by decide +kernel⟩, by decide⟩
theorem im_X9_concede : Cond.instanceMethod yX9_concede ∈ lw_gd := gd_3 224 rfl rfl
theorem sl_X9_concede : Cond.selects yX9_concede.cls yX9_concede yX9_concede ∈ lw_gd := gd_s 21 rfl rfl
theorem ce_X9_runOfNobody : CeF yX9_runOfNobody cX9_runOfNobody 2 (none) 1 := ⟨gd_3 229 rfl rfl, gd_1 11 rfl rfl, ⟨by decide +kernel, by decide +kernel, by decide +kernel⟩, by decide⟩
theorem im_X9_runOfNobody : Cond.instanceMethod yX9_runOfNobody ∈ lw_gd := gd_3 228 rfl rfl
theorem sl_X9_runOfNobody : Cond.selects yX9_runOfNobody.cls yX9_runOfNobody yX9_runOfNobody ∈ lw_gd := gd_s 22 rfl rfl
theorem ce_X9_cross : CeF yX9_cross cX9_cross 2 (none) 1 := ⟨gd_3 221 rfl rfl, gd_1 11 rfl rfl, ⟨by decide +kernel, by decide +kernel, by decide +kernel⟩, by decide⟩
theorem im_X9_cross : Cond.instanceMethod yX9_cross ∈ lw_gd := gd_3 220 rfl rfl
theorem sl_X9_cross : Cond.selects yX9_cross.cls yX9_cross yX9_cross ∈ lw_gd := gd_s 20 rfl rfl
theorem ce_X9_changeEnds : CeF yX9_changeEnds cX9_changeEnds 2 (none) 0 := ⟨gd_3 161 rfl rfl, gd_1 11 rfl rfl, ⟨by decide +kernel, by decide +kernel, by decide +kernel⟩, by decide⟩
theorem im_X9_changeEnds : Cond.instanceMethod yX9_changeEnds ∈ lw_gd := gd_3 160 rfl rfl
theorem sl_X9_changeEnds : Cond.selects yX9_changeEnds.cls yX9_changeEnds yX9_changeEnds ∈ lw_gd := gd_s 15 rfl rfl
theorem ce_X9_leave : CeF yX9_leave cX9_leave 4 (none) 2 := ⟨gd_3 233 rfl rfl, gd_1 11 rfl rfl, ⟨by decide +kernel, by decide +kernel, by decide +kernel⟩, by decide⟩
theorem im_X9_leave : Cond.instanceMethod yX9_leave ∈ lw_gd := gd_3 232 rfl rfl
theorem sl_X9_leave : Cond.selects yX9_leave.cls yX9_leave yX9_leave ∈ lw_gd := gd_s 23 rfl rfl
theorem ce_X9_takeAway : CeF yX9_takeAway cX9_takeAway 3 (none) 1 := ⟨gd_3 237 rfl rfl, gd_1 11 rfl rfl, ⟨by decide +kernel, by decide +kernel, by decide +kernel⟩, by decide⟩
theorem im_X9_takeAway : Cond.instanceMethod yX9_takeAway ∈ lw_gd := gd_3 236 rfl rfl
theorem sl_X9_takeAway : Cond.selects yX9_takeAway.cls yX9_takeAway yX9_takeAway ∈ lw_gd := gd_s 24 rfl rfl
theorem ce_X9_endOver : CeF yX9_endOver cX9_endOver 2 (none) 1 := ⟨gd_3 157 rfl rfl, gd_1 11 rfl rfl, ⟨by decide +kernel, by decide +kernel, by decide +kernel⟩, by decide⟩
theorem im_X9_endOver : Cond.instanceMethod yX9_endOver ∈ lw_gd := gd_3 156 rfl rfl
theorem sl_X9_endOver : Cond.selects yX9_endOver.cls yX9_endOver yX9_endOver ∈ lw_gd := gd_s 14 rfl rfl
theorem ce_X10_init : CeF yX10_init cX10_init 1 (none) 0 := ⟨gd_4 25 rfl rfl, gd_1 22 rfl rfl, ⟨by decide +kernel, by decide +kernel, by decide +kernel⟩, by decide⟩
theorem im_X10_init : Cond.instanceMethod yX10_init ∈ lw_gd := gd_4 24 rfl rfl
theorem ce_X10_overCount : CeF yX10_overCount cX10_overCount 1 (some .int) 0 := ⟨gd_3 129 rfl rfl, gd_1 22 rfl rfl, ⟨by decide +kernel, by decide +kernel, by decide +kernel⟩, by decide⟩
theorem im_X10_overCount : Cond.instanceMethod yX10_overCount ∈ lw_gd := gd_3 127 rfl rfl
theorem sl_X10_overCount : Cond.selects yX10_overCount.cls yX10_overCount yX10_overCount ∈ lw_gd := gd_3 128 rfl rfl
theorem ce_X10_overAt : CeF yX10_overAt cX10_overAt 2 (some (.object "BallBook$Over")) 1 := ⟨gd_3 138 rfl rfl, gd_1 22 rfl rfl, ⟨by decide +kernel, by decide +kernel, by decide +kernel⟩, by decide⟩
theorem im_X10_overAt : Cond.instanceMethod yX10_overAt ∈ lw_gd := gd_3 136 rfl rfl
theorem sl_X10_overAt : Cond.selects yX10_overAt.cls yX10_overAt yX10_overAt ∈ lw_gd := gd_3 137 rfl rfl
theorem ce_X10_imageSize : CeF yX10_imageSize cX10_imageSize 4 (some .int) 1 := ⟨gd_4 184 rfl rfl, gd_1 22 rfl rfl, ⟨by decide +kernel, by decide +kernel, by decide +kernel⟩, by decide⟩
theorem im_X10_imageSize : Cond.instanceMethod yX10_imageSize ∈ lw_gd := gd_4 182 rfl rfl
theorem sl_X10_imageSize : Cond.selects yX10_imageSize.cls yX10_imageSize yX10_imageSize ∈ lw_gd := gd_4 183 rfl rfl
theorem ce_X10_addOver : CeF yX10_addOver cX10_addOver 2 (none) 1 := ⟨gd_4 54 rfl rfl, gd_1 22 rfl rfl, ⟨by decide +kernel, by decide +kernel, by decide +kernel⟩, by decide⟩
theorem im_X10_addOver : Cond.instanceMethod yX10_addOver ∈ lw_gd := gd_4 52 rfl rfl
theorem sl_X10_addOver : Cond.selects yX10_addOver.cls yX10_addOver yX10_addOver ∈ lw_gd := gd_4 53 rfl rfl
theorem ce_X10_dropOver : CeF yX10_dropOver cX10_dropOver 1 (none) 0 := ⟨gd_4 157 rfl rfl, gd_1 22 rfl rfl, ⟨by decide +kernel, by decide +kernel, by decide +kernel⟩, by decide⟩
theorem im_X10_dropOver : Cond.instanceMethod yX10_dropOver ∈ lw_gd := gd_4 155 rfl rfl
theorem sl_X10_dropOver : Cond.selects yX10_dropOver.cls yX10_dropOver yX10_dropOver ∈ lw_gd := gd_4 156 rfl rfl
theorem ce_X11_init : CeF yX11_init cX11_init 1 (none) 0 := ⟨gd_1 31 rfl rfl, gd_1 1 rfl rfl, ⟨by decide +kernel, by decide +kernel, by decide +kernel⟩, by decide⟩
theorem im_X11_init : Cond.instanceMethod yX11_init ∈ lw_gd := gd_1 30 rfl rfl
theorem ce_X11_side : CeF yX11_side cX11_side 2 (some .int) 1 := ⟨gd_2 130 rfl rfl, gd_1 1 rfl rfl, ⟨by decide +kernel, by decide +kernel, by decide +kernel⟩, by decide⟩
theorem im_X11_side : Cond.instanceMethod yX11_side ∈ lw_gd := gd_2 128 rfl rfl
theorem sl_X11_side : Cond.selects yX11_side.cls yX11_side yX11_side ∈ lw_gd := gd_2 129 rfl rfl
theorem ce_X11_player : CeF yX11_player cX11_player 2 (some .int) 1 := ⟨gd_2 134 rfl rfl, gd_1 1 rfl rfl, ⟨by decide +kernel, by decide +kernel, by decide +kernel⟩, by decide⟩
theorem im_X11_player : Cond.instanceMethod yX11_player ∈ lw_gd := gd_2 132 rfl rfl
theorem sl_X11_player : Cond.selects yX11_player.cls yX11_player yX11_player ∈ lw_gd := gd_2 133 rfl rfl
theorem ce_X11_toss : CeF yX11_toss cX11_toss 5 (some .int) 4 := ⟨gd_2 142 rfl rfl, gd_1 1 rfl rfl, ⟨by decide +kernel, by decide +kernel, by decide +kernel⟩, by decide⟩
theorem im_X11_toss : Cond.instanceMethod yX11_toss ∈ lw_gd := gd_2 140 rfl rfl
theorem sl_X11_toss : Cond.selects yX11_toss.cls yX11_toss yX11_toss ∈ lw_gd := gd_2 141 rfl rfl
theorem ce_X11_seat : CeF yX11_seat cX11_seat 6 (some .boolean) 4 := ⟨gd_3 17 rfl rfl, gd_1 1 rfl rfl, ⟨by decide +kernel, by decide +kernel, by decide +kernel⟩, by decide⟩
theorem im_X11_seat : Cond.instanceMethod yX11_seat ∈ lw_gd := gd_3 15 rfl rfl
theorem sl_X11_seat : Cond.selects yX11_seat.cls yX11_seat yX11_seat ∈ lw_gd := gd_3 16 rfl rfl
theorem ce_X11_turn : CeF yX11_turn cX11_turn 4 (some .boolean) 1 := ⟨gd_3 64 rfl rfl, gd_1 1 rfl rfl, ⟨by decide +kernel, by decide +kernel, by decide +kernel⟩, by decide⟩
theorem im_X11_turn : Cond.instanceMethod yX11_turn ∈ lw_gd := gd_3 62 rfl rfl
theorem sl_X11_turn : Cond.selects yX11_turn.cls yX11_turn yX11_turn ∈ lw_gd := gd_3 63 rfl rfl
theorem ce_X11_over : CeF yX11_over cX11_over 6 (some .boolean) 2 := ⟨gd_4 45 rfl rfl, gd_1 1 rfl rfl, ⟨by decide +kernel, by decide +kernel, by decide +kernel⟩, by decide⟩
theorem im_X11_over : Cond.instanceMethod yX11_over ∈ lw_gd := gd_4 43 rfl rfl
theorem sl_X11_over : Cond.selects yX11_over.cls yX11_over yX11_over ∈ lw_gd := gd_4 44 rfl rfl
theorem ce_X11_ball : CeF yX11_ball cX11_ball 8 (some .boolean) 2 := ⟨gd_4 59 rfl rfl, gd_1 1 rfl rfl, ⟨by decide +kernel, by decide +kernel, by decide +kernel⟩, by decide⟩
theorem im_X11_ball : Cond.instanceMethod yX11_ball ∈ lw_gd := gd_4 57 rfl rfl
theorem sl_X11_ball : Cond.selects yX11_ball.cls yX11_ball yX11_ball ∈ lw_gd := gd_4 58 rfl rfl
theorem ce_X11_feed : CeF yX11_feed cX11_feed 6 (some .int) 5 := ⟨gd_4 81 rfl rfl, gd_1 1 rfl rfl, ⟨by decide +kernel, by decide +kernel, by decide +kernel⟩, by decide⟩
theorem im_X11_feed : Cond.instanceMethod yX11_feed ∈ lw_gd := gd_4 79 rfl rfl
theorem sl_X11_feed : Cond.selects yX11_feed.cls yX11_feed yX11_feed ∈ lw_gd := gd_4 80 rfl rfl
theorem ce_X11_open : CeF yX11_open cX11_open 7 (some .boolean) 4 := ⟨gd_4 93 rfl rfl, gd_1 1 rfl rfl, ⟨by decide +kernel, by decide +kernel, by decide +kernel⟩, by decide⟩
theorem im_X11_open : Cond.instanceMethod yX11_open ∈ lw_gd := gd_4 91 rfl rfl
theorem sl_X11_open : Cond.selects yX11_open.cls yX11_open yX11_open ∈ lw_gd := gd_4 92 rfl rfl
theorem ce_X11_tear : CeF yX11_tear cX11_tear 5 (some .boolean) 3 := ⟨gd_4 109 rfl rfl, gd_1 1 rfl rfl, ⟨by decide +kernel, by decide +kernel, by decide +kernel⟩, by decide⟩
theorem im_X11_tear : Cond.instanceMethod yX11_tear ∈ lw_gd := gd_4 107 rfl rfl
theorem sl_X11_tear : Cond.selects yX11_tear.cls yX11_tear yX11_tear ∈ lw_gd := gd_4 108 rfl rfl
theorem ce_X11_put : CeF yX11_put cX11_put 7 (some .boolean) 5 := ⟨gd_4 113 rfl rfl, gd_1 1 rfl rfl, ⟨by decide +kernel, by decide +kernel, by decide +kernel⟩, by decide⟩
theorem im_X11_put : Cond.instanceMethod yX11_put ∈ lw_gd := gd_4 111 rfl rfl
theorem sl_X11_put : Cond.selects yX11_put.cls yX11_put yX11_put ∈ lw_gd := gd_4 112 rfl rfl
theorem ce_X11_mend : CeF yX11_mend cX11_mend 8 (some .int) 5 := ⟨gd_4 117 rfl rfl, gd_1 1 rfl rfl, ⟨by decide +kernel, by decide +kernel, by decide +kernel⟩, by decide⟩
theorem im_X11_mend : Cond.instanceMethod yX11_mend ∈ lw_gd := gd_4 115 rfl rfl
theorem sl_X11_mend : Cond.selects yX11_mend.cls yX11_mend yX11_mend ∈ lw_gd := gd_4 116 rfl rfl
theorem ce_X11_out : CeF yX11_out cX11_out 7 (some .int) 4 := ⟨gd_4 124 rfl rfl, gd_1 1 rfl rfl, ⟨by decide +kernel, by decide +kernel, by decide +kernel⟩, by decide⟩
theorem im_X11_out : Cond.instanceMethod yX11_out ∈ lw_gd := gd_4 122 rfl rfl
theorem sl_X11_out : Cond.selects yX11_out.cls yX11_out yX11_out ∈ lw_gd := gd_4 123 rfl rfl
theorem ce_X11_bowls : CeF yX11_bowls cX11_bowls 7 (some .int) 4 := ⟨gd_4 132 rfl rfl, gd_1 1 rfl rfl, ⟨by decide +kernel, by decide +kernel, by decide +kernel⟩, by decide⟩
theorem im_X11_bowls : Cond.instanceMethod yX11_bowls ∈ lw_gd := gd_4 130 rfl rfl
theorem sl_X11_bowls : Cond.selects yX11_bowls.cls yX11_bowls yX11_bowls ∈ lw_gd := gd_4 131 rfl rfl
theorem ce_X11_undo : CeF yX11_undo cX11_undo 3 (some .int) 0 := ⟨gd_4 136 rfl rfl, gd_1 1 rfl rfl, ⟨by decide +kernel, by decide +kernel, by decide +kernel⟩, by decide⟩
theorem im_X11_undo : Cond.instanceMethod yX11_undo ∈ lw_gd := gd_4 134 rfl rfl
theorem sl_X11_undo : Cond.selects yX11_undo.cls yX11_undo yX11_undo ∈ lw_gd := gd_4 135 rfl rfl
theorem ce_X11_why : CeF yX11_why cX11_why 1 (some .int) 0 := ⟨gd_4 167 rfl rfl, gd_1 1 rfl rfl, ⟨by decide +kernel, by decide +kernel, by decide +kernel⟩, by decide⟩
theorem im_X11_why : Cond.instanceMethod yX11_why ∈ lw_gd := gd_4 165 rfl rfl
theorem sl_X11_why : Cond.selects yX11_why.cls yX11_why yX11_why ∈ lw_gd := gd_4 166 rfl rfl
theorem ce_X11_now : CeF yX11_now cX11_now 4 (some .int) 2 := ⟨gd_5 38 rfl rfl, gd_1 1 rfl rfl, ⟨by decide +kernel, by decide +kernel, by decide +kernel⟩, by decide⟩
theorem im_X11_now : Cond.instanceMethod yX11_now ∈ lw_gd := gd_5 36 rfl rfl
theorem sl_X11_now : Cond.selects yX11_now.cls yX11_now yX11_now ∈ lw_gd := gd_5 37 rfl rfl
theorem ce_X11_score : CeF yX11_score cX11_score 5 (some .int) 3 := ⟨gd_5 129 rfl rfl, gd_1 1 rfl rfl, ⟨by decide +kernel, by decide +kernel, by decide +kernel⟩, by decide⟩
theorem im_X11_score : Cond.instanceMethod yX11_score ∈ lw_gd := gd_5 127 rfl rfl
theorem sl_X11_score : Cond.selects yX11_score.cls yX11_score yX11_score ∈ lw_gd := gd_5 128 rfl rfl
theorem ce_X11_overs : CeF yX11_overs cX11_overs 6 (some .int) 4 := ⟨gd_5 158 rfl rfl, gd_1 1 rfl rfl, ⟨by decide +kernel, by decide +kernel, by decide +kernel⟩, by decide⟩
theorem im_X11_overs : Cond.instanceMethod yX11_overs ∈ lw_gd := gd_5 156 rfl rfl
theorem sl_X11_overs : Cond.selects yX11_overs.cls yX11_overs yX11_overs ∈ lw_gd := gd_5 157 rfl rfl
theorem ce_X11_entry : CeF yX11_entry cX11_entry 6 (some .int) 4 := ⟨gd_5 170 rfl rfl, gd_1 1 rfl rfl, ⟨by decide +kernel, by decide +kernel, by decide +kernel⟩, by decide⟩
theorem im_X11_entry : Cond.instanceMethod yX11_entry ∈ lw_gd := gd_5 168 rfl rfl
theorem sl_X11_entry : Cond.selects yX11_entry.cls yX11_entry yX11_entry ∈ lw_gd := gd_5 169 rfl rfl
theorem ce_X11_bats : CeF yX11_bats cX11_bats 6 (some .int) 4 := ⟨gd_5 178 rfl rfl, gd_1 1 rfl rfl, ⟨by decide +kernel, by decide +kernel, by decide +kernel⟩, by decide⟩
theorem im_X11_bats : Cond.instanceMethod yX11_bats ∈ lw_gd := gd_5 176 rfl rfl
theorem sl_X11_bats : Cond.selects yX11_bats.cls yX11_bats yX11_bats ∈ lw_gd := gd_5 177 rfl rfl
theorem ce_X11_fields : CeF yX11_fields cX11_fields 6 (some .int) 4 := ⟨gd_5 194 rfl rfl, gd_1 1 rfl rfl, ⟨by decide +kernel, by decide +kernel, by decide +kernel⟩, by decide⟩
theorem im_X11_fields : Cond.instanceMethod yX11_fields ∈ lw_gd := gd_5 192 rfl rfl
theorem sl_X11_fields : Cond.selects yX11_fields.cls yX11_fields yX11_fields ∈ lw_gd := gd_5 193 rfl rfl
theorem ce_X11_record : CeF yX11_record cX11_record 3 (some .int) 2 := ⟨gd_5 205 rfl rfl, gd_1 1 rfl rfl, ⟨by decide +kernel, by decide +kernel, by decide +kernel⟩, by decide⟩
theorem im_X11_record : Cond.instanceMethod yX11_record ∈ lw_gd := gd_5 203 rfl rfl
theorem sl_X11_record : Cond.selects yX11_record.cls yX11_record yX11_record ∈ lw_gd := gd_5 204 rfl rfl
theorem ce_X11_image : CeF yX11_image cX11_image 4 (some .int) 1 := ⟨gd_4 171 rfl rfl, gd_1 1 rfl rfl, ⟨by decide +kernel, by decide +kernel, by decide +kernel⟩, by decide⟩
theorem im_X11_image : Cond.instanceMethod yX11_image ∈ lw_gd := gd_4 169 rfl rfl
theorem sl_X11_image : Cond.selects yX11_image.cls yX11_image yX11_image ∈ lw_gd := gd_4 170 rfl rfl
theorem ce_X11_told : CeF yX11_told cX11_told 2 (some .int) 1 := ⟨gd_6 3 rfl rfl, gd_1 1 rfl rfl, ⟨by decide +kernel, by decide +kernel, by decide +kernel⟩, by decide⟩
theorem im_X11_told : Cond.instanceMethod yX11_told ∈ lw_gd := gd_6 1 rfl rfl
theorem sl_X11_told : Cond.selects yX11_told.cls yX11_told yX11_told ∈ lw_gd := gd_6 2 rfl rfl
theorem ce_X11_check : CeF yX11_check cX11_check 2 (some .int) 1 := ⟨gd_4 203 rfl rfl, gd_1 1 rfl rfl, ⟨by decide +kernel, by decide +kernel, by decide +kernel⟩, by decide⟩
theorem im_X11_check : Cond.instanceMethod yX11_check ∈ lw_gd := gd_4 201 rfl rfl
theorem sl_X11_check : Cond.selects yX11_check.cls yX11_check yX11_check ∈ lw_gd := gd_4 202 rfl rfl
theorem ce_X11_take : CeF yX11_take cX11_take 3 (some .int) 1 := ⟨gd_5 30 rfl rfl, gd_1 1 rfl rfl, ⟨by decide +kernel, by decide +kernel, by decide +kernel⟩, by decide⟩
theorem im_X11_take : Cond.instanceMethod yX11_take ∈ lw_gd := gd_5 28 rfl rfl
theorem sl_X11_take : Cond.selects yX11_take.cls yX11_take yX11_take ∈ lw_gd := gd_5 29 rfl rfl
theorem ce_X11_list : CeF yX11_list cX11_list 2 (some .int) 1 := ⟨gd_6 11 rfl rfl, gd_1 1 rfl rfl, ⟨by decide +kernel, by decide +kernel, by decide +kernel⟩, by decide⟩
theorem im_X11_list : Cond.instanceMethod yX11_list ∈ lw_gd := gd_6 9 rfl rfl
theorem sl_X11_list : Cond.selects yX11_list.cls yX11_list yX11_list ∈ lw_gd := gd_6 10 rfl rfl
theorem ce_X11_sum : CeF yX11_sum cX11_sum 6 (some .long) 1 := ⟨gd_6 19 rfl rfl, gd_1 1 rfl rfl, ⟨by decide +kernel, by decide +kernel, by decide +kernel⟩, by decide⟩
theorem im_X11_sum : Cond.instanceMethod yX11_sum ∈ lw_gd := gd_6 17 rfl rfl
theorem sl_X11_sum : Cond.selects yX11_sum.cls yX11_sum yX11_sum ∈ lw_gd := gd_6 18 rfl rfl
theorem ce_X11_hasSide : CeF yX11_hasSide cX11_hasSide 2 (some .boolean) 1 := ⟨gd_2 138 rfl rfl, gd_1 1 rfl rfl, ⟨by decide +kernel, by decide +kernel, by decide +kernel⟩, by decide⟩
theorem im_X11_hasSide : Cond.instanceMethod yX11_hasSide ∈ lw_gd := gd_2 137 rfl rfl
theorem sl_X11_hasSide : Cond.selects yX11_hasSide.cls yX11_hasSide yX11_hasSide ∈ lw_gd := gd_s 0 rfl rfl
theorem ce_X11_playersOf : CeF yX11_playersOf cX11_playersOf 2 (some .int) 1 := ⟨gd_3 43 rfl rfl, gd_1 1 rfl rfl, ⟨by decide +kernel, by decide +kernel, by decide +kernel⟩, by decide⟩
theorem im_X11_playersOf : Cond.instanceMethod yX11_playersOf ∈ lw_gd := gd_3 42 rfl rfl
theorem sl_X11_playersOf : Cond.selects yX11_playersOf.cls yX11_playersOf yX11_playersOf ∈ lw_gd := gd_s 7 rfl rfl
theorem ce_X11_gameAt : CeF yX11_gameAt cX11_gameAt 2 (some (.object "BallBook$Game")) 1 := ⟨gd_3 21 rfl rfl, gd_1 1 rfl rfl, ⟨by decide +kernel, by decide +kernel, by decide +kernel⟩, by decide⟩
theorem im_X11_gameAt : Cond.instanceMethod yX11_gameAt ∈ lw_gd := gd_3 20 rfl rfl
theorem sl_X11_gameAt : Cond.selects yX11_gameAt.cls yX11_gameAt yX11_gameAt ∈ lw_gd := gd_s 6 rfl rfl
theorem ce_X11_overOf : CeF yX11_overOf cX11_overOf 5 (some (.object "BallBook$Over")) 3 := ⟨gd_4 97 rfl rfl, gd_1 1 rfl rfl, ⟨by decide +kernel, by decide +kernel, by decide +kernel⟩, by decide⟩
theorem im_X11_overOf : Cond.instanceMethod yX11_overOf ∈ lw_gd := gd_4 96 rfl rfl
theorem sl_X11_overOf : Cond.selects yX11_overOf.cls yX11_overOf yX11_overOf ∈ lw_gd := gd_s 28 rfl rfl
theorem ce_X11_addGame : CeF yX11_addGame cX11_addGame 2 (some .int) 1 := ⟨gd_2 193 rfl rfl, gd_1 1 rfl rfl, ⟨by decide +kernel, by decide +kernel, by decide +kernel⟩, by decide⟩
theorem im_X11_addGame : Cond.instanceMethod yX11_addGame ∈ lw_gd := gd_2 192 rfl rfl
theorem sl_X11_addGame : Cond.selects yX11_addGame.cls yX11_addGame yX11_addGame ∈ lw_gd := gd_s 2 rfl rfl
theorem ce_X11_refused : CeF yX11_refused cX11_refused 2 (some .boolean) 1 := ⟨gd_3 68 rfl rfl, gd_1 1 rfl rfl, ⟨by decide +kernel, by decide +kernel, by decide +kernel⟩, by decide⟩
theorem im_X11_refused : Cond.instanceMethod yX11_refused ∈ lw_gd := gd_3 67 rfl rfl
theorem sl_X11_refused : Cond.selects yX11_refused.cls yX11_refused yX11_refused ∈ lw_gd := gd_s 9 rfl rfl
theorem ce_X11_done : CeF yX11_done cX11_done 1 (some .boolean) 0 := ⟨gd_4 41 rfl rfl, gd_1 1 rfl rfl, ⟨by decide +kernel, by decide +kernel, by decide +kernel⟩, by decide⟩
theorem im_X11_done : Cond.instanceMethod yX11_done ∈ lw_gd := gd_4 40 rfl rfl
theorem sl_X11_done : Cond.selects yX11_done.cls yX11_done yX11_done ∈ lw_gd := gd_s 26 rfl rfl
theorem ce_X11_forgetPlay : CeF yX11_forgetPlay cX11_forgetPlay 1 (none) 0 := ⟨gd_3 60 rfl rfl, gd_1 1 rfl rfl, ⟨by decide +kernel, by decide +kernel, by decide +kernel⟩, by decide⟩
theorem im_X11_forgetPlay : Cond.instanceMethod yX11_forgetPlay ∈ lw_gd := gd_3 59 rfl rfl
theorem sl_X11_forgetPlay : Cond.selects yX11_forgetPlay.cls yX11_forgetPlay yX11_forgetPlay ∈ lw_gd := gd_s 8 rfl rfl
theorem ce_X11_playOver : CeF yX11_playOver cX11_playOver 3 (none) 2 := ⟨gd_3 72 rfl rfl, gd_1 1 rfl rfl, ⟨by decide +kernel, by decide +kernel, by decide +kernel⟩, by decide⟩
theorem im_X11_playOver : Cond.instanceMethod yX11_playOver ∈ lw_gd := gd_3 71 rfl rfl
theorem sl_X11_playOver : Cond.selects yX11_playOver.cls yX11_playOver yX11_playOver ∈ lw_gd := gd_s 10 rfl rfl
theorem ce_X11_keep : CeF yX11_keep cX11_keep 5 (none) 4 := ⟨gd_4 71 rfl rfl, gd_1 1 rfl rfl, ⟨by decide +kernel, by decide +kernel, by decide +kernel⟩, by decide⟩
theorem im_X11_keep : Cond.instanceMethod yX11_keep ∈ lw_gd := gd_4 70 rfl rfl
theorem sl_X11_keep : Cond.selects yX11_keep.cls yX11_keep yX11_keep ∈ lw_gd := gd_s 27 rfl rfl
theorem ce_X11_isSeatFigure : CeF yX11_isSeatFigure cX11_isSeatFigure 2 (some .boolean) 2 := ⟨gd_5 181 rfl rfl, gd_1 1 rfl rfl, ⟨by decide +kernel, by decide +kernel, by decide +kernel⟩, by decide⟩
theorem st_X11_isSeatFigure : Cond.static yX11_isSeatFigure ∈ lw_gd := gd_5 180 rfl rfl
theorem ce_X11_scoreFigure : CeF yX11_scoreFigure cX11_scoreFigure 4 (some .int) 3 := ⟨gd_5 134 rfl rfl, gd_1 1 rfl rfl, ⟨by decide +kernel, by decide +kernel, by decide +kernel⟩, by decide⟩
theorem im_X11_scoreFigure : Cond.instanceMethod yX11_scoreFigure ∈ lw_gd := gd_5 133 rfl rfl
theorem sl_X11_scoreFigure : Cond.selects yX11_scoreFigure.cls yX11_scoreFigure yX11_scoreFigure ∈ lw_gd := gd_s 41 rfl rfl
theorem ce_X11_batsFigure : CeF yX11_batsFigure cX11_batsFigure 5 (some .int) 4 := ⟨gd_5 186 rfl rfl, gd_1 1 rfl rfl, ⟨by decide +kernel, by decide +kernel, by decide +kernel⟩, by decide⟩
theorem im_X11_batsFigure : Cond.instanceMethod yX11_batsFigure ∈ lw_gd := gd_5 185 rfl rfl
theorem sl_X11_batsFigure : Cond.selects yX11_batsFigure.cls yX11_batsFigure yX11_batsFigure ∈ lw_gd := gd_s 43 rfl rfl
theorem ce_X11_fieldsFigure : CeF yX11_fieldsFigure cX11_fieldsFigure 5 (some .int) 4 := ⟨gd_5 198 rfl rfl, gd_1 1 rfl rfl, ⟨by decide +kernel, by decide +kernel, by decide +kernel⟩, by decide⟩
theorem im_X11_fieldsFigure : Cond.instanceMethod yX11_fieldsFigure ∈ lw_gd := gd_5 197 rfl rfl
theorem sl_X11_fieldsFigure : Cond.selects yX11_fieldsFigure.cls yX11_fieldsFigure yX11_fieldsFigure ∈ lw_gd := gd_s 44 rfl rfl
theorem ce_X11_addTurnFigures : CeF yX11_addTurnFigures cX11_addTurnFigures 9 (some .long) 3 := ⟨gd_6 25 rfl rfl, gd_1 1 rfl rfl, ⟨by decide +kernel, by decide +kernel, by decide +kernel⟩, by decide⟩
theorem im_X11_addTurnFigures : Cond.instanceMethod yX11_addTurnFigures ∈ lw_gd := gd_6 24 rfl rfl
theorem sl_X11_addTurnFigures : Cond.selects yX11_addTurnFigures.cls yX11_addTurnFigures yX11_addTurnFigures ∈ lw_gd := gd_s 48 rfl rfl
theorem ce_X11_findRecords : CeF yX11_findRecords cX11_findRecords 4 (none) 0 := ⟨gd_5 210 rfl rfl, gd_1 1 rfl rfl, ⟨by decide +kernel, by decide +kernel, by decide +kernel⟩, by decide⟩
theorem im_X11_findRecords : Cond.instanceMethod yX11_findRecords ∈ lw_gd := gd_5 209 rfl rfl
theorem sl_X11_findRecords : Cond.selects yX11_findRecords.cls yX11_findRecords yX11_findRecords ∈ lw_gd := gd_s 45 rfl rfl
theorem ce_X11_writeHead : CeF yX11_writeHead cX11_writeHead 4 (none) 1 := ⟨gd_4 189 rfl rfl, gd_1 1 rfl rfl, ⟨by decide +kernel, by decide +kernel, by decide +kernel⟩, by decide⟩
theorem im_X11_writeHead : Cond.instanceMethod yX11_writeHead ∈ lw_gd := gd_4 188 rfl rfl
theorem sl_X11_writeHead : Cond.selects yX11_writeHead.cls yX11_writeHead yX11_writeHead ∈ lw_gd := gd_s 30 rfl rfl
theorem ce_X11_writeTurn : CeF yX11_writeTurn cX11_writeTurn 7 (none) 2 := ⟨gd_4 198 rfl rfl, gd_1 1 rfl rfl, ⟨by decide +kernel, by decide +kernel, by decide +kernel⟩, by decide⟩
theorem im_X11_writeTurn : Cond.instanceMethod yX11_writeTurn ∈ lw_gd := gd_4 197 rfl rfl
theorem sl_X11_writeTurn : Cond.selects yX11_writeTurn.cls yX11_writeTurn yX11_writeTurn ∈ lw_gd := gd_s 31 rfl rfl
theorem ce_X11_judge : CeF yX11_judge cX11_judge 3 (some (.object "BallBook$Game")) 1 := ⟨gd_4 207 rfl rfl, gd_1 1 rfl rfl, ⟨by decide +kernel, by decide +kernel, by decide +kernel⟩, by decide⟩
theorem im_X11_judge : Cond.instanceMethod yX11_judge ∈ lw_gd := gd_4 206 rfl rfl
theorem sl_X11_judge : Cond.selects yX11_judge.cls yX11_judge yX11_judge ∈ lw_gd := gd_s 32 rfl rfl
theorem ce_X11_table : CeF yX11_table cX11_table 2 (some .int) 2 := ⟨gd_3 112 rfl rfl, gd_1 1 rfl rfl, ⟨by decide +kernel, by decide +kernel, by decide +kernel⟩, by decide⟩
theorem st_X11_table : Cond.static yX11_table ∈ lw_gd := gd_3 111 rfl rfl
theorem ce_X11_counts : CeF yX11_counts cX11_counts 1 (some .boolean) 1 := ⟨gd_3 209 rfl rfl, gd_1 1 rfl rfl, ⟨by decide +kernel, by decide +kernel, by decide +kernel⟩, by decide⟩
theorem st_X11_counts : Cond.static yX11_counts ∈ lw_gd := gd_3 208 rfl rfl
theorem ce_X12_init : CeF yX12_init cX12_init 1 (none) 0 := ⟨gd_6 30 rfl rfl, gd_1 15 rfl rfl, ⟨by decide +kernel, by decide +kernel, by decide +kernel⟩, by decide⟩
theorem im_X12_init : Cond.instanceMethod yX12_init ∈ lw_gd := gd_6 29 rfl rfl
theorem ce_X12_thrown : CeF yX12_thrown cX12_thrown 1 (some .int) 0 := ⟨gd_7 15 rfl rfl, gd_1 15 rfl rfl, ⟨by decide +kernel, by decide +kernel, by decide +kernel⟩, by decide⟩
theorem im_X12_thrown : Cond.instanceMethod yX12_thrown ∈ lw_gd := gd_7 13 rfl rfl
theorem sl_X12_thrown : Cond.selects yX12_thrown.cls yX12_thrown yX12_thrown ∈ lw_gd := gd_7 14 rfl rfl
theorem ce_X12_fail : CeF yX12_fail cX12_fail 1 (some .int) 0 := ⟨gd_7 206 rfl rfl, gd_1 15 rfl rfl, ⟨by decide +kernel, by decide +kernel, by decide +kernel⟩, by decide⟩
theorem im_X12_fail : Cond.instanceMethod yX12_fail ∈ lw_gd := gd_7 205 rfl rfl
theorem sl_X12_fail : Cond.selects yX12_fail.cls yX12_fail yX12_fail ∈ lw_gd := gd_s 76 rfl rfl
theorem ce_X12_side : CeF yX12_side cX12_side 2 (some .int) 1 := ⟨gd_7 19 rfl rfl, gd_1 15 rfl rfl, ⟨by decide +kernel, by decide +kernel, by decide +kernel⟩, by decide⟩
theorem im_X12_side : Cond.instanceMethod yX12_side ∈ lw_gd := gd_7 17 rfl rfl
theorem sl_X12_side : Cond.selects yX12_side.cls yX12_side yX12_side ∈ lw_gd := gd_7 18 rfl rfl
theorem ce_X12_isSide : CeF yX12_isSide cX12_isSide 2 (some .boolean) 1 := ⟨gd_7 27 rfl rfl, gd_1 15 rfl rfl, ⟨by decide +kernel, by decide +kernel, by decide +kernel⟩, by decide⟩
theorem im_X12_isSide : Cond.instanceMethod yX12_isSide ∈ lw_gd := gd_7 26 rfl rfl
theorem sl_X12_isSide : Cond.selects yX12_isSide.cls yX12_isSide yX12_isSide ∈ lw_gd := gd_s 49 rfl rfl
theorem ce_X12_isGame : CeF yX12_isGame cX12_isGame 2 (some .boolean) 1 := ⟨gd_7 43 rfl rfl, gd_1 15 rfl rfl, ⟨by decide +kernel, by decide +kernel, by decide +kernel⟩, by decide⟩
theorem im_X12_isGame : Cond.instanceMethod yX12_isGame ∈ lw_gd := gd_7 42 rfl rfl
theorem sl_X12_isGame : Cond.selects yX12_isGame.cls yX12_isGame yX12_isGame ∈ lw_gd := gd_s 51 rfl rfl
theorem ce_X12_player : CeF yX12_player cX12_player 2 (some .int) 1 := ⟨gd_7 23 rfl rfl, gd_1 15 rfl rfl, ⟨by decide +kernel, by decide +kernel, by decide +kernel⟩, by decide⟩
theorem im_X12_player : Cond.instanceMethod yX12_player ∈ lw_gd := gd_7 21 rfl rfl
theorem sl_X12_player : Cond.selects yX12_player.cls yX12_player yX12_player ∈ lw_gd := gd_7 22 rfl rfl
theorem ce_X12_newGame : CeF yX12_newGame cX12_newGame 6 (none) 4 := ⟨gd_7 35 rfl rfl, gd_1 15 rfl rfl, ⟨by decide +kernel, by decide +kernel, by decide +kernel⟩, by decide⟩
theorem im_X12_newGame : Cond.instanceMethod yX12_newGame ∈ lw_gd := gd_7 34 rfl rfl
theorem sl_X12_newGame : Cond.selects yX12_newGame.cls yX12_newGame yX12_newGame ∈ lw_gd := gd_s 50 rfl rfl
theorem ce_X12_toss : CeF yX12_toss cX12_toss 5 (some .int) 4 := ⟨gd_7 31 rfl rfl, gd_1 15 rfl rfl, ⟨by decide +kernel, by decide +kernel, by decide +kernel⟩, by decide⟩
theorem im_X12_toss : Cond.instanceMethod yX12_toss ∈ lw_gd := gd_7 29 rfl rfl
theorem sl_X12_toss : Cond.selects yX12_toss.cls yX12_toss yX12_toss ∈ lw_gd := gd_7 30 rfl rfl
theorem ce_X12_seat : CeF yX12_seat cX12_seat 7 (some .boolean) 4 := ⟨gd_7 39 rfl rfl, gd_1 15 rfl rfl, ⟨by decide +kernel, by decide +kernel, by decide +kernel⟩, by decide⟩
theorem im_X12_seat : Cond.instanceMethod yX12_seat ∈ lw_gd := gd_7 37 rfl rfl
theorem sl_X12_seat : Cond.selects yX12_seat.cls yX12_seat yX12_seat ∈ lw_gd := gd_7 38 rfl rfl
theorem ce_X12_table : CeF yX12_table cX12_table 2 (some .int) 2 := ⟨gd_7 70 rfl rfl, gd_1 15 rfl rfl, ⟨by decide +kernel, by decide +kernel, by decide +kernel⟩, by decide⟩
theorem st_X12_table : Cond.static yX12_table ∈ lw_gd := gd_7 69 rfl rfl
theorem ce_X12_left : CeF yX12_left cX12_left 2 (some .int) 1 := ⟨gd_7 126 rfl rfl, gd_1 15 rfl rfl, ⟨by decide +kernel, by decide +kernel, by decide +kernel⟩, by decide⟩
theorem im_X12_left : Cond.instanceMethod yX12_left ∈ lw_gd := gd_7 125 rfl rfl
theorem sl_X12_left : Cond.selects yX12_left.cls yX12_left yX12_left ∈ lw_gd := gd_s 68 rfl rfl
theorem ce_X12_lastTurn : CeF yX12_lastTurn cX12_lastTurn 2 (some .int) 1 := ⟨gd_7 76 rfl rfl, gd_1 15 rfl rfl, ⟨by decide +kernel, by decide +kernel, by decide +kernel⟩, by decide⟩
theorem im_X12_lastTurn : Cond.instanceMethod yX12_lastTurn ∈ lw_gd := gd_7 75 rfl rfl
theorem sl_X12_lastTurn : Cond.selects yX12_lastTurn.cls yX12_lastTurn yX12_lastTurn ∈ lw_gd := gd_s 57 rfl rfl
theorem ce_X12_stop : CeF yX12_stop cX12_stop 5 (none) 4 := ⟨gd_7 55 rfl rfl, gd_1 15 rfl rfl, ⟨by decide +kernel, by decide +kernel, by decide +kernel⟩, by decide⟩
theorem im_X12_stop : Cond.instanceMethod yX12_stop ∈ lw_gd := gd_7 54 rfl rfl
theorem sl_X12_stop : Cond.selects yX12_stop.cls yX12_stop yX12_stop ∈ lw_gd := gd_s 53 rfl rfl
theorem ce_X12_clearTurn : CeF yX12_clearTurn cX12_clearTurn 3 (none) 1 := ⟨gd_7 59 rfl rfl, gd_1 15 rfl rfl, ⟨by decide +kernel, by decide +kernel, by decide +kernel⟩, by decide⟩
theorem im_X12_clearTurn : Cond.instanceMethod yX12_clearTurn ∈ lw_gd := gd_7 58 rfl rfl
theorem sl_X12_clearTurn : Cond.selects yX12_clearTurn.cls yX12_clearTurn yX12_clearTurn ∈ lw_gd := gd_s 54 rfl rfl
theorem ce_X12_rowOf : CeF yX12_rowOf cX12_rowOf 4 (some .int) 3 := ⟨gd_7 63 rfl rfl, gd_1 15 rfl rfl, ⟨by decide +kernel, by decide +kernel, by decide +kernel⟩, by decide⟩
theorem im_X12_rowOf : Cond.instanceMethod yX12_rowOf ∈ lw_gd := gd_7 62 rfl rfl
theorem sl_X12_rowOf : Cond.selects yX12_rowOf.cls yX12_rowOf yX12_rowOf ∈ lw_gd := gd_s 55 rfl rfl
theorem ce_X12_play : CeF yX12_play cX12_play 5 (none) 1 := ⟨gd_7 51 rfl rfl, gd_1 15 rfl rfl, ⟨by decide +kernel, by decide +kernel, by decide +kernel⟩, by decide⟩
theorem im_X12_play : Cond.instanceMethod yX12_play ∈ lw_gd := gd_7 50 rfl rfl
theorem sl_X12_play : Cond.selects yX12_play.cls yX12_play yX12_play ∈ lw_gd := gd_s 52 rfl rfl
theorem ce_X12_playTurn : CeF yX12_playTurn cX12_playTurn 4 (none) 2 := ⟨gd_7 67 rfl rfl, gd_1 15 rfl rfl, ⟨by decide +kernel, by decide +kernel, by decide +kernel⟩, by decide⟩
theorem im_X12_playTurn : Cond.instanceMethod yX12_playTurn ∈ lw_gd := gd_7 66 rfl rfl
theorem sl_X12_playTurn : Cond.selects yX12_playTurn.cls yX12_playTurn yX12_playTurn ∈ lw_gd := gd_s 56 rfl rfl
theorem ce_X12_aim : CeF yX12_aim cX12_aim 6 (none) 2 := ⟨gd_7 80 rfl rfl, gd_1 15 rfl rfl, ⟨by decide +kernel, by decide +kernel, by decide +kernel⟩, by decide⟩
theorem im_X12_aim : Cond.instanceMethod yX12_aim ∈ lw_gd := gd_7 79 rfl rfl
theorem sl_X12_aim : Cond.selects yX12_aim.cls yX12_aim yX12_aim ∈ lw_gd := gd_s 58 rfl rfl
theorem ce_X12_change : CeF yX12_change cX12_change 3 (none) 1 := ⟨gd_7 92 rfl rfl, gd_1 15 rfl rfl, ⟨by decide +kernel, by decide +kernel, by decide +kernel⟩, by decide⟩
theorem im_X12_change : Cond.instanceMethod yX12_change ∈ lw_gd := gd_7 91 rfl rfl
theorem sl_X12_change : Cond.selects yX12_change.cls yX12_change yX12_change ∈ lw_gd := gd_s 61 rfl rfl
theorem ce_X12_becomesWhole : CeF yX12_becomesWhole cX12_becomesWhole 3 (none) 2 := ⟨gd_7 88 rfl rfl, gd_1 15 rfl rfl, ⟨by decide +kernel, by decide +kernel, by decide +kernel⟩, by decide⟩
theorem im_X12_becomesWhole : Cond.instanceMethod yX12_becomesWhole ∈ lw_gd := gd_7 87 rfl rfl
theorem sl_X12_becomesWhole : Cond.selects yX12_becomesWhole.cls yX12_becomesWhole yX12_becomesWhole ∈ lw_gd := gd_s 60 rfl rfl
theorem ce_X12_playOver : CeF yX12_playOver cX12_playOver 10 (none) 3 := ⟨gd_7 84 rfl rfl, gd_1 15 rfl rfl, ⟨by decide +kernel, by decide +kernel, by decide +kernel⟩, by decide⟩
theorem im_X12_playOver : Cond.instanceMethod yX12_playOver ∈ lw_gd := gd_7 83 rfl rfl
theorem sl_X12_playOver : Cond.selects yX12_playOver.cls yX12_playOver yX12_playOver ∈ lw_gd := gd_s 59 rfl rfl
theorem ce_X12_isEntry : CeF yX12_isEntry cX12_isEntry 2 (some .boolean) 2 := ⟨gd_7 99 rfl rfl, gd_1 15 rfl rfl, ⟨by decide +kernel, by decide +kernel, by decide +kernel⟩, by decide⟩
theorem st_X12_isEntry : Cond.static yX12_isEntry ∈ lw_gd := gd_7 98 rfl rfl
theorem ce_X12_counts : CeF yX12_counts cX12_counts 1 (some .boolean) 1 := ⟨gd_7 102 rfl rfl, gd_1 15 rfl rfl, ⟨by decide +kernel, by decide +kernel, by decide +kernel⟩, by decide⟩
theorem st_X12_counts : Cond.static yX12_counts ∈ lw_gd := gd_7 101 rfl rfl
theorem ce_X12_against : CeF yX12_against cX12_against 6 (some .int) 5 := ⟨gd_7 96 rfl rfl, gd_1 15 rfl rfl, ⟨by decide +kernel, by decide +kernel, by decide +kernel⟩, by decide⟩
theorem im_X12_against : Cond.instanceMethod yX12_against ∈ lw_gd := gd_7 95 rfl rfl
theorem sl_X12_against : Cond.selects yX12_against.cls yX12_against yX12_against ∈ lw_gd := gd_s 62 rfl rfl
theorem ce_X12_hit : CeF yX12_hit cX12_hit 4 (none) 3 := ⟨gd_7 110 rfl rfl, gd_1 15 rfl rfl, ⟨by decide +kernel, by decide +kernel, by decide +kernel⟩, by decide⟩
theorem im_X12_hit : Cond.instanceMethod yX12_hit ∈ lw_gd := gd_7 109 rfl rfl
theorem sl_X12_hit : Cond.selects yX12_hit.cls yX12_hit yX12_hit ∈ lw_gd := gd_s 64 rfl rfl
theorem ce_X12_adds : CeF yX12_adds cX12_adds 4 (none) 3 := ⟨gd_7 114 rfl rfl, gd_1 15 rfl rfl, ⟨by decide +kernel, by decide +kernel, by decide +kernel⟩, by decide⟩
theorem im_X12_adds : Cond.instanceMethod yX12_adds ∈ lw_gd := gd_7 113 rfl rfl
theorem sl_X12_adds : Cond.selects yX12_adds.cls yX12_adds yX12_adds ∈ lw_gd := gd_s 65 rfl rfl
theorem ce_X12_crosses : CeF yX12_crosses cX12_crosses 3 (none) 2 := ⟨gd_7 118 rfl rfl, gd_1 15 rfl rfl, ⟨by decide +kernel, by decide +kernel, by decide +kernel⟩, by decide⟩
theorem im_X12_crosses : Cond.instanceMethod yX12_crosses ∈ lw_gd := gd_7 117 rfl rfl
theorem sl_X12_crosses : Cond.selects yX12_crosses.cls yX12_crosses yX12_crosses ∈ lw_gd := gd_s 66 rfl rfl
theorem ce_X12_leaves : CeF yX12_leaves cX12_leaves 7 (none) 4 := ⟨gd_7 122 rfl rfl, gd_1 15 rfl rfl, ⟨by decide +kernel, by decide +kernel, by decide +kernel⟩, by decide⟩
theorem im_X12_leaves : Cond.instanceMethod yX12_leaves ∈ lw_gd := gd_7 121 rfl rfl
theorem sl_X12_leaves : Cond.selects yX12_leaves.cls yX12_leaves yX12_leaves ∈ lw_gd := gd_s 67 rfl rfl
theorem ce_X12_playEntry : CeF yX12_playEntry cX12_playEntry 8 (none) 5 := ⟨gd_7 106 rfl rfl, gd_1 15 rfl rfl, ⟨by decide +kernel, by decide +kernel, by decide +kernel⟩, by decide⟩
theorem im_X12_playEntry : Cond.instanceMethod yX12_playEntry ∈ lw_gd := gd_7 105 rfl rfl
theorem sl_X12_playEntry : Cond.selects yX12_playEntry.cls yX12_playEntry yX12_playEntry ∈ lw_gd := gd_s 63 rfl rfl
theorem ce_X12_ends : CeF yX12_ends cX12_ends 4 (none) 3 := ⟨gd_7 130 rfl rfl, gd_1 15 rfl rfl, ⟨by decide +kernel, by decide +kernel, by decide +kernel⟩, by decide⟩
theorem im_X12_ends : Cond.instanceMethod yX12_ends ∈ lw_gd := gd_7 129 rfl rfl
theorem sl_X12_ends : Cond.selects yX12_ends.cls yX12_ends yX12_ends ∈ lw_gd := gd_s 69 rfl rfl
theorem ce_X12_done : CeF yX12_done cX12_done 8 (none) 5 := ⟨gd_7 134 rfl rfl, gd_1 15 rfl rfl, ⟨by decide +kernel, by decide +kernel, by decide +kernel⟩, by decide⟩
theorem im_X12_done : Cond.instanceMethod yX12_done ∈ lw_gd := gd_7 133 rfl rfl
theorem sl_X12_done : Cond.selects yX12_done.cls yX12_done yX12_done ∈ lw_gd := gd_s 70 rfl rfl
theorem ce_X12_keepRow : CeF yX12_keepRow cX12_keepRow 3 (none) 1 := ⟨gd_7 162 rfl rfl, gd_1 15 rfl rfl, ⟨by decide +kernel, by decide +kernel, by decide +kernel⟩, by decide⟩
theorem im_X12_keepRow : Cond.instanceMethod yX12_keepRow ∈ lw_gd := gd_7 161 rfl rfl
theorem sl_X12_keepRow : Cond.selects yX12_keepRow.cls yX12_keepRow yX12_keepRow ∈ lw_gd := gd_s 73 rfl rfl
theorem ce_X12_newRow : CeF yX12_newRow cX12_newRow 3 (some .int) 2 := ⟨gd_7 142 rfl rfl, gd_1 15 rfl rfl, ⟨by decide +kernel, by decide +kernel, by decide +kernel⟩, by decide⟩
theorem im_X12_newRow : Cond.instanceMethod yX12_newRow ∈ lw_gd := gd_7 141 rfl rfl
theorem sl_X12_newRow : Cond.selects yX12_newRow.cls yX12_newRow yX12_newRow ∈ lw_gd := gd_s 71 rfl rfl
theorem ce_X12_turn : CeF yX12_turn cX12_turn 3 (some .boolean) 1 := ⟨gd_7 47 rfl rfl, gd_1 15 rfl rfl, ⟨by decide +kernel, by decide +kernel, by decide +kernel⟩, by decide⟩
theorem im_X12_turn : Cond.instanceMethod yX12_turn ∈ lw_gd := gd_7 45 rfl rfl
theorem sl_X12_turn : Cond.selects yX12_turn.cls yX12_turn yX12_turn ∈ lw_gd := gd_7 46 rfl rfl
theorem ce_X12_over : CeF yX12_over cX12_over 4 (some .boolean) 2 := ⟨gd_7 138 rfl rfl, gd_1 15 rfl rfl, ⟨by decide +kernel, by decide +kernel, by decide +kernel⟩, by decide⟩
theorem im_X12_over : Cond.instanceMethod yX12_over ∈ lw_gd := gd_7 136 rfl rfl
theorem sl_X12_over : Cond.selects yX12_over.cls yX12_over yX12_over ∈ lw_gd := gd_7 137 rfl rfl
theorem ce_X12_ball : CeF yX12_ball cX12_ball 6 (some .boolean) 2 := ⟨gd_7 146 rfl rfl, gd_1 15 rfl rfl, ⟨by decide +kernel, by decide +kernel, by decide +kernel⟩, by decide⟩
theorem im_X12_ball : Cond.instanceMethod yX12_ball ∈ lw_gd := gd_7 144 rfl rfl
theorem sl_X12_ball : Cond.selects yX12_ball.cls yX12_ball yX12_ball ∈ lw_gd := gd_7 145 rfl rfl
theorem ce_X12_feed : CeF yX12_feed cX12_feed 8 (some .int) 5 := ⟨gd_7 150 rfl rfl, gd_1 15 rfl rfl, ⟨by decide +kernel, by decide +kernel, by decide +kernel⟩, by decide⟩
theorem im_X12_feed : Cond.instanceMethod yX12_feed ∈ lw_gd := gd_7 148 rfl rfl
theorem sl_X12_feed : Cond.selects yX12_feed.cls yX12_feed yX12_feed ∈ lw_gd := gd_7 149 rfl rfl
theorem ce_X12_find : CeF yX12_find cX12_find 4 (some .int) 3 := ⟨gd_7 158 rfl rfl, gd_1 15 rfl rfl, ⟨by decide +kernel, by decide +kernel, by decide +kernel⟩, by decide⟩
theorem im_X12_find : Cond.instanceMethod yX12_find ∈ lw_gd := gd_7 157 rfl rfl
theorem sl_X12_find : Cond.selects yX12_find.cls yX12_find yX12_find ∈ lw_gd := gd_s 72 rfl rfl
theorem ce_X12_open : CeF yX12_open cX12_open 7 (some .boolean) 4 := ⟨gd_7 154 rfl rfl, gd_1 15 rfl rfl, ⟨by decide +kernel, by decide +kernel, by decide +kernel⟩, by decide⟩
theorem im_X12_open : Cond.instanceMethod yX12_open ∈ lw_gd := gd_7 152 rfl rfl
theorem sl_X12_open : Cond.selects yX12_open.cls yX12_open yX12_open ∈ lw_gd := gd_7 153 rfl rfl
theorem ce_X12_tear : CeF yX12_tear cX12_tear 5 (some .boolean) 3 := ⟨gd_7 166 rfl rfl, gd_1 15 rfl rfl, ⟨by decide +kernel, by decide +kernel, by decide +kernel⟩, by decide⟩
theorem im_X12_tear : Cond.instanceMethod yX12_tear ∈ lw_gd := gd_7 164 rfl rfl
theorem sl_X12_tear : Cond.selects yX12_tear.cls yX12_tear yX12_tear ∈ lw_gd := gd_7 165 rfl rfl
theorem ce_X12_insert : CeF yX12_insert cX12_insert 5 (none) 3 := ⟨gd_7 174 rfl rfl, gd_1 15 rfl rfl, ⟨by decide +kernel, by decide +kernel, by decide +kernel⟩, by decide⟩
theorem im_X12_insert : Cond.instanceMethod yX12_insert ∈ lw_gd := gd_7 173 rfl rfl
theorem sl_X12_insert : Cond.selects yX12_insert.cls yX12_insert yX12_insert ∈ lw_gd := gd_s 74 rfl rfl
theorem ce_X12_remove : CeF yX12_remove cX12_remove 4 (none) 2 := ⟨gd_7 186 rfl rfl, gd_1 15 rfl rfl, ⟨by decide +kernel, by decide +kernel, by decide +kernel⟩, by decide⟩
theorem im_X12_remove : Cond.instanceMethod yX12_remove ∈ lw_gd := gd_7 185 rfl rfl
theorem sl_X12_remove : Cond.selects yX12_remove.cls yX12_remove yX12_remove ∈ lw_gd := gd_s 75 rfl rfl
theorem ce_X12_put : CeF yX12_put cX12_put 7 (some .boolean) 5 := ⟨gd_7 170 rfl rfl, gd_1 15 rfl rfl, ⟨by decide +kernel, by decide +kernel, by decide +kernel⟩, by decide⟩
theorem im_X12_put : Cond.instanceMethod yX12_put ∈ lw_gd := gd_7 168 rfl rfl
theorem sl_X12_put : Cond.selects yX12_put.cls yX12_put yX12_put ∈ lw_gd := gd_7 169 rfl rfl
theorem ce_X12_mend : CeF yX12_mend cX12_mend 8 (some .int) 5 := ⟨gd_7 178 rfl rfl, gd_1 15 rfl rfl, ⟨by decide +kernel, by decide +kernel, by decide +kernel⟩, by decide⟩
theorem im_X12_mend : Cond.instanceMethod yX12_mend ∈ lw_gd := gd_7 176 rfl rfl
theorem sl_X12_mend : Cond.selects yX12_mend.cls yX12_mend yX12_mend ∈ lw_gd := gd_7 177 rfl rfl
theorem ce_X12_out : CeF yX12_out cX12_out 7 (some .int) 4 := ⟨gd_7 182 rfl rfl, gd_1 15 rfl rfl, ⟨by decide +kernel, by decide +kernel, by decide +kernel⟩, by decide⟩
theorem im_X12_out : Cond.instanceMethod yX12_out ∈ lw_gd := gd_7 180 rfl rfl
theorem sl_X12_out : Cond.selects yX12_out.cls yX12_out yX12_out ∈ lw_gd := gd_7 181 rfl rfl
theorem ce_X12_bowls : CeF yX12_bowls cX12_bowls 7 (some .int) 4 := ⟨gd_7 190 rfl rfl, gd_1 15 rfl rfl, ⟨by decide +kernel, by decide +kernel, by decide +kernel⟩, by decide⟩
theorem im_X12_bowls : Cond.instanceMethod yX12_bowls ∈ lw_gd := gd_7 188 rfl rfl
theorem sl_X12_bowls : Cond.selects yX12_bowls.cls yX12_bowls yX12_bowls ∈ lw_gd := gd_7 189 rfl rfl
theorem ce_X12_undo : CeF yX12_undo cX12_undo 5 (some .int) 0 := ⟨gd_7 194 rfl rfl, gd_1 15 rfl rfl, ⟨by decide +kernel, by decide +kernel, by decide +kernel⟩, by decide⟩
theorem im_X12_undo : Cond.instanceMethod yX12_undo ∈ lw_gd := gd_7 192 rfl rfl
theorem sl_X12_undo : Cond.selects yX12_undo.cls yX12_undo yX12_undo ∈ lw_gd := gd_7 193 rfl rfl
theorem ce_X12_why : CeF yX12_why cX12_why 1 (some .int) 0 := ⟨gd_7 198 rfl rfl, gd_1 15 rfl rfl, ⟨by decide +kernel, by decide +kernel, by decide +kernel⟩, by decide⟩
theorem im_X12_why : Cond.instanceMethod yX12_why ∈ lw_gd := gd_7 196 rfl rfl
theorem sl_X12_why : Cond.selects yX12_why.cls yX12_why yX12_why ∈ lw_gd := gd_7 197 rfl rfl
theorem ce_X12_more : CeF yX12_more cX12_more 2 (some .int) 1 := ⟨gd_7 215 rfl rfl, gd_1 15 rfl rfl, ⟨by decide +kernel, by decide +kernel, by decide +kernel⟩, by decide⟩
theorem im_X12_more : Cond.instanceMethod yX12_more ∈ lw_gd := gd_7 214 rfl rfl
theorem sl_X12_more : Cond.selects yX12_more.cls yX12_more yX12_more ∈ lw_gd := gd_s 78 rfl rfl
theorem ce_X12_nowOf : CeF yX12_nowOf cX12_nowOf 4 (some .int) 2 := ⟨gd_7 210 rfl rfl, gd_1 15 rfl rfl, ⟨by decide +kernel, by decide +kernel, by decide +kernel⟩, by decide⟩
theorem im_X12_nowOf : Cond.instanceMethod yX12_nowOf ∈ lw_gd := gd_7 209 rfl rfl
theorem sl_X12_nowOf : Cond.selects yX12_nowOf.cls yX12_nowOf yX12_nowOf ∈ lw_gd := gd_s 77 rfl rfl
theorem ce_X12_now : CeF yX12_now cX12_now 3 (some .int) 2 := ⟨gd_7 202 rfl rfl, gd_1 15 rfl rfl, ⟨by decide +kernel, by decide +kernel, by decide +kernel⟩, by decide⟩
theorem im_X12_now : Cond.instanceMethod yX12_now ∈ lw_gd := gd_7 200 rfl rfl
theorem sl_X12_now : Cond.selects yX12_now.cls yX12_now yX12_now ∈ lw_gd := gd_7 201 rfl rfl
theorem ce_X12_sumOf : CeF yX12_sumOf cX12_sumOf 6 (some .int) 3 := ⟨gd_7 231 rfl rfl, gd_1 15 rfl rfl, ⟨by decide +kernel, by decide +kernel, by decide +kernel⟩, by decide⟩
theorem im_X12_sumOf : Cond.instanceMethod yX12_sumOf ∈ lw_gd := gd_7 230 rfl rfl
theorem sl_X12_sumOf : Cond.selects yX12_sumOf.cls yX12_sumOf yX12_sumOf ∈ lw_gd := gd_s 81 rfl rfl
theorem ce_X12_scoreOf : CeF yX12_scoreOf cX12_scoreOf 4 (some .int) 3 := ⟨gd_7 227 rfl rfl, gd_1 15 rfl rfl, ⟨by decide +kernel, by decide +kernel, by decide +kernel⟩, by decide⟩
theorem im_X12_scoreOf : Cond.instanceMethod yX12_scoreOf ∈ lw_gd := gd_7 226 rfl rfl
theorem sl_X12_scoreOf : Cond.selects yX12_scoreOf.cls yX12_scoreOf yX12_scoreOf ∈ lw_gd := gd_s 80 rfl rfl
theorem ce_X12_isTurn : CeF yX12_isTurn cX12_isTurn 3 (some .boolean) 2 := ⟨gd_7 223 rfl rfl, gd_1 15 rfl rfl, ⟨by decide +kernel, by decide +kernel, by decide +kernel⟩, by decide⟩
theorem im_X12_isTurn : Cond.instanceMethod yX12_isTurn ∈ lw_gd := gd_7 222 rfl rfl
theorem sl_X12_isTurn : Cond.selects yX12_isTurn.cls yX12_isTurn yX12_isTurn ∈ lw_gd := gd_s 79 rfl rfl
theorem ce_X12_score : CeF yX12_score cX12_score 4 (some .int) 3 := ⟨gd_7 219 rfl rfl, gd_1 15 rfl rfl, ⟨by decide +kernel, by decide +kernel, by decide +kernel⟩, by decide⟩
theorem im_X12_score : Cond.instanceMethod yX12_score ∈ lw_gd := gd_7 217 rfl rfl
theorem sl_X12_score : Cond.selects yX12_score.cls yX12_score yX12_score ∈ lw_gd := gd_7 218 rfl rfl
theorem ce_X12_overs : CeF yX12_overs cX12_overs 6 (some .int) 4 := ⟨gd_7 235 rfl rfl, gd_1 15 rfl rfl, ⟨by decide +kernel, by decide +kernel, by decide +kernel⟩, by decide⟩
theorem im_X12_overs : Cond.instanceMethod yX12_overs ∈ lw_gd := gd_7 233 rfl rfl
theorem sl_X12_overs : Cond.selects yX12_overs.cls yX12_overs yX12_overs ∈ lw_gd := gd_7 234 rfl rfl
theorem ce_X12_entry : CeF yX12_entry cX12_entry 6 (some .int) 4 := ⟨gd_7 239 rfl rfl, gd_1 15 rfl rfl, ⟨by decide +kernel, by decide +kernel, by decide +kernel⟩, by decide⟩
theorem im_X12_entry : Cond.instanceMethod yX12_entry ∈ lw_gd := gd_7 237 rfl rfl
theorem sl_X12_entry : Cond.selects yX12_entry.cls yX12_entry yX12_entry ∈ lw_gd := gd_7 238 rfl rfl
theorem ce_X12_batsOf : CeF yX12_batsOf cX12_batsOf 6 (some .int) 4 := ⟨gd_8 7 rfl rfl, gd_1 15 rfl rfl, ⟨by decide +kernel, by decide +kernel, by decide +kernel⟩, by decide⟩
theorem im_X12_batsOf : Cond.instanceMethod yX12_batsOf ∈ lw_gd := gd_8 6 rfl rfl
theorem sl_X12_batsOf : Cond.selects yX12_batsOf.cls yX12_batsOf yX12_batsOf ∈ lw_gd := gd_s 82 rfl rfl
theorem ce_X12_fieldsOf : CeF yX12_fieldsOf cX12_fieldsOf 6 (some .int) 4 := ⟨gd_8 15 rfl rfl, gd_1 15 rfl rfl, ⟨by decide +kernel, by decide +kernel, by decide +kernel⟩, by decide⟩
theorem im_X12_fieldsOf : Cond.instanceMethod yX12_fieldsOf ∈ lw_gd := gd_8 14 rfl rfl
theorem sl_X12_fieldsOf : Cond.selects yX12_fieldsOf.cls yX12_fieldsOf yX12_fieldsOf ∈ lw_gd := gd_s 83 rfl rfl
theorem ce_X12_bats : CeF yX12_bats cX12_bats 5 (some .int) 4 := ⟨gd_8 3 rfl rfl, gd_1 15 rfl rfl, ⟨by decide +kernel, by decide +kernel, by decide +kernel⟩, by decide⟩
theorem im_X12_bats : Cond.instanceMethod yX12_bats ∈ lw_gd := gd_8 1 rfl rfl
theorem sl_X12_bats : Cond.selects yX12_bats.cls yX12_bats yX12_bats ∈ lw_gd := gd_8 2 rfl rfl
theorem ce_X12_fields : CeF yX12_fields cX12_fields 5 (some .int) 4 := ⟨gd_8 11 rfl rfl, gd_1 15 rfl rfl, ⟨by decide +kernel, by decide +kernel, by decide +kernel⟩, by decide⟩
theorem im_X12_fields : Cond.instanceMethod yX12_fields ∈ lw_gd := gd_8 9 rfl rfl
theorem sl_X12_fields : Cond.selects yX12_fields.cls yX12_fields yX12_fields ∈ lw_gd := gd_8 10 rfl rfl
theorem ce_X12_better : CeF yX12_better cX12_better 7 (none) 6 := ⟨gd_8 23 rfl rfl, gd_1 15 rfl rfl, ⟨by decide +kernel, by decide +kernel, by decide +kernel⟩, by decide⟩
theorem im_X12_better : Cond.instanceMethod yX12_better ∈ lw_gd := gd_8 22 rfl rfl
theorem sl_X12_better : Cond.selects yX12_better.cls yX12_better yX12_better ∈ lw_gd := gd_s 84 rfl rfl
theorem ce_X12_recordOf : CeF yX12_recordOf cX12_recordOf 9 (none) 2 := ⟨gd_8 27 rfl rfl, gd_1 15 rfl rfl, ⟨by decide +kernel, by decide +kernel, by decide +kernel⟩, by decide⟩
theorem im_X12_recordOf : Cond.instanceMethod yX12_recordOf ∈ lw_gd := gd_8 26 rfl rfl
theorem sl_X12_recordOf : Cond.selects yX12_recordOf.cls yX12_recordOf yX12_recordOf ∈ lw_gd := gd_s 85 rfl rfl
theorem ce_X12_record : CeF yX12_record cX12_record 5 (some .int) 2 := ⟨gd_8 19 rfl rfl, gd_1 15 rfl rfl, ⟨by decide +kernel, by decide +kernel, by decide +kernel⟩, by decide⟩
theorem im_X12_record : Cond.instanceMethod yX12_record ∈ lw_gd := gd_8 17 rfl rfl
theorem sl_X12_record : Cond.selects yX12_record.cls yX12_record yX12_record ∈ lw_gd := gd_8 18 rfl rfl
theorem ce_X12_say : CeF yX12_say cX12_say 2 (none) 1 := ⟨gd_8 35 rfl rfl, gd_1 15 rfl rfl, ⟨by decide +kernel, by decide +kernel, by decide +kernel⟩, by decide⟩
theorem im_X12_say : Cond.instanceMethod yX12_say ∈ lw_gd := gd_8 34 rfl rfl
theorem sl_X12_say : Cond.selects yX12_say.cls yX12_say yX12_say ∈ lw_gd := gd_s 86 rfl rfl
theorem ce_X12_image : CeF yX12_image cX12_image 6 (some .int) 1 := ⟨gd_8 31 rfl rfl, gd_1 15 rfl rfl, ⟨by decide +kernel, by decide +kernel, by decide +kernel⟩, by decide⟩
theorem im_X12_image : Cond.instanceMethod yX12_image ∈ lw_gd := gd_8 29 rfl rfl
theorem sl_X12_image : Cond.selects yX12_image.cls yX12_image yX12_image ∈ lw_gd := gd_8 30 rfl rfl
theorem ce_X12_told : CeF yX12_told cX12_told 2 (some .int) 1 := ⟨gd_8 39 rfl rfl, gd_1 15 rfl rfl, ⟨by decide +kernel, by decide +kernel, by decide +kernel⟩, by decide⟩
theorem im_X12_told : Cond.instanceMethod yX12_told ∈ lw_gd := gd_8 37 rfl rfl
theorem sl_X12_told : Cond.selects yX12_told.cls yX12_told yX12_told ∈ lw_gd := gd_8 38 rfl rfl
theorem ce_X12_read : CeF yX12_read cX12_read 3 (some .int) 2 := ⟨gd_8 55 rfl rfl, gd_1 15 rfl rfl, ⟨by decide +kernel, by decide +kernel, by decide +kernel⟩, by decide⟩
theorem im_X12_read : Cond.instanceMethod yX12_read ∈ lw_gd := gd_8 54 rfl rfl
theorem sl_X12_read : Cond.selects yX12_read.cls yX12_read yX12_read ∈ lw_gd := gd_s 89 rfl rfl
theorem ce_X12_readImage : CeF yX12_readImage cX12_readImage 9 (some .int) 1 := ⟨gd_8 51 rfl rfl, gd_1 15 rfl rfl, ⟨by decide +kernel, by decide +kernel, by decide +kernel⟩, by decide⟩
theorem im_X12_readImage : Cond.instanceMethod yX12_readImage ∈ lw_gd := gd_8 50 rfl rfl
theorem sl_X12_readImage : Cond.selects yX12_readImage.cls yX12_readImage yX12_readImage ∈ lw_gd := gd_s 88 rfl rfl
theorem ce_X12_readPlayer : CeF yX12_readPlayer cX12_readPlayer 5 (none) 2 := ⟨gd_8 59 rfl rfl, gd_1 15 rfl rfl, ⟨by decide +kernel, by decide +kernel, by decide +kernel⟩, by decide⟩
theorem im_X12_readPlayer : Cond.instanceMethod yX12_readPlayer ∈ lw_gd := gd_8 58 rfl rfl
theorem sl_X12_readPlayer : Cond.selects yX12_readPlayer.cls yX12_readPlayer yX12_readPlayer ∈ lw_gd := gd_s 90 rfl rfl
theorem ce_X12_readTurn : CeF yX12_readTurn cX12_readTurn 8 (none) 2 := ⟨gd_8 63 rfl rfl, gd_1 15 rfl rfl, ⟨by decide +kernel, by decide +kernel, by decide +kernel⟩, by decide⟩
theorem im_X12_readTurn : Cond.instanceMethod yX12_readTurn ∈ lw_gd := gd_8 62 rfl rfl
theorem sl_X12_readTurn : Cond.selects yX12_readTurn.cls yX12_readTurn yX12_readTurn ∈ lw_gd := gd_s 91 rfl rfl
theorem ce_X12_placeWrong : CeF yX12_placeWrong cX12_placeWrong 8 (some .int) 1 := ⟨gd_8 67 rfl rfl, gd_1 15 rfl rfl, ⟨by decide +kernel, by decide +kernel, by decide +kernel⟩, by decide⟩
theorem im_X12_placeWrong : Cond.instanceMethod yX12_placeWrong ∈ lw_gd := gd_8 66 rfl rfl
theorem sl_X12_placeWrong : Cond.selects yX12_placeWrong.cls yX12_placeWrong yX12_placeWrong ∈ lw_gd := gd_s 92 rfl rfl
theorem ce_X12_check : CeF yX12_check cX12_check 4 (some .int) 1 := ⟨gd_8 43 rfl rfl, gd_1 15 rfl rfl, ⟨by decide +kernel, by decide +kernel, by decide +kernel⟩, by decide⟩
theorem im_X12_check : Cond.instanceMethod yX12_check ∈ lw_gd := gd_8 41 rfl rfl
theorem sl_X12_check : Cond.selects yX12_check.cls yX12_check yX12_check ∈ lw_gd := gd_8 42 rfl rfl
theorem ce_X12_readFull : CeF yX12_readFull cX12_readFull 6 (some .int) 1 := ⟨gd_8 47 rfl rfl, gd_1 15 rfl rfl, ⟨by decide +kernel, by decide +kernel, by decide +kernel⟩, by decide⟩
theorem im_X12_readFull : Cond.instanceMethod yX12_readFull ∈ lw_gd := gd_8 46 rfl rfl
theorem sl_X12_readFull : Cond.selects yX12_readFull.cls yX12_readFull yX12_readFull ∈ lw_gd := gd_s 87 rfl rfl
theorem ce_X12_take : CeF yX12_take cX12_take 4 (some .int) 1 := ⟨gd_8 71 rfl rfl, gd_1 15 rfl rfl, ⟨by decide +kernel, by decide +kernel, by decide +kernel⟩, by decide⟩
theorem im_X12_take : Cond.instanceMethod yX12_take ∈ lw_gd := gd_8 69 rfl rfl
theorem sl_X12_take : Cond.selects yX12_take.cls yX12_take yX12_take ∈ lw_gd := gd_8 70 rfl rfl
theorem ce_X12_list : CeF yX12_list cX12_list 2 (some .int) 1 := ⟨gd_8 75 rfl rfl, gd_1 15 rfl rfl, ⟨by decide +kernel, by decide +kernel, by decide +kernel⟩, by decide⟩
theorem im_X12_list : Cond.instanceMethod yX12_list ∈ lw_gd := gd_8 73 rfl rfl
theorem sl_X12_list : Cond.selects yX12_list.cls yX12_list yX12_list ∈ lw_gd := gd_8 74 rfl rfl
theorem ce_X12_sum : CeF yX12_sum cX12_sum 7 (some .long) 1 := ⟨gd_8 79 rfl rfl, gd_1 15 rfl rfl, ⟨by decide +kernel, by decide +kernel, by decide +kernel⟩, by decide⟩
theorem im_X12_sum : Cond.instanceMethod yX12_sum ∈ lw_gd := gd_8 77 rfl rfl
theorem sl_X12_sum : Cond.selects yX12_sum.cls yX12_sum yX12_sum ∈ lw_gd := gd_8 78 rfl rfl
theorem ce_J9_max_7cf53 : CeF yJ9_max_7cf53 cJ9_max_7cf53 2 (some .int) 2 := ⟨gd_1 70 rfl rfl, gd_1 6 rfl rfl, ⟨by decide +kernel, by decide +kernel, by decide +kernel⟩, by decide⟩
theorem st_J9_max_7cf53 : Cond.static yJ9_max_7cf53 ∈ lw_gd := gd_1 69 rfl rfl
theorem ce_J9_min_7cf53 : CeF yJ9_min_7cf53 cJ9_min_7cf53 2 (some .int) 2 := ⟨gd_3 8 rfl rfl, gd_1 6 rfl rfl, ⟨by decide +kernel, by decide +kernel, by decide +kernel⟩, by decide⟩
theorem st_J9_min_7cf53 : Cond.static yJ9_min_7cf53 ∈ lw_gd := gd_3 7 rfl rfl
theorem ce_Jxa1e45_init_da8c8 : CeF yJxa1e45_init_da8c8 cJxa1e45_init_da8c8 1 (none) 0 := ⟨gd_1 45 rfl rfl, gd_1 2 rfl rfl, ⟨by decide +kernel, by decide +kernel, by decide +kernel⟩, by decide⟩
theorem im_Jxa1e45_init_da8c8 : Cond.instanceMethod yJxa1e45_init_da8c8 ∈ lw_gd := gd_1 44 rfl rfl
theorem ce_Jxc12de_init_da8c8 : CeF yJxc12de_init_da8c8 cJxc12de_init_da8c8 1 (none) 0 := ⟨gd_1 42 rfl rfl, gd_1 3 rfl rfl, ⟨by decide +kernel, by decide +kernel, by decide +kernel⟩, by decide⟩
theorem im_Jxc12de_init_da8c8 : Cond.instanceMethod yJxc12de_init_da8c8 ∈ lw_gd := gd_1 41 rfl rfl
theorem ce_Jx4a65c_init_da8c8 : CeF yJx4a65c_init_da8c8 cJx4a65c_init_da8c8 1 (none) 0 := ⟨gd_1 39 rfl rfl, gd_1 4 rfl rfl, ⟨by decide +kernel, by decide +kernel, by decide +kernel⟩, by decide⟩
theorem im_Jx4a65c_init_da8c8 : Cond.instanceMethod yJx4a65c_init_da8c8 ∈ lw_gd := gd_1 38 rfl rfl
theorem ce_Jx4a65c_grow_92f84 : CeF yJx4a65c_grow_92f84 cJx4a65c_grow_92f84 4 (some (.array (.object "java/lang/Object"))) 1 := ⟨gd_2 209 rfl rfl, gd_1 4 rfl rfl, ⟨by decide +kernel, by decide +kernel, by decide +kernel⟩, by decide⟩
theorem im_Jx4a65c_grow_92f84 : Cond.instanceMethod yJx4a65c_grow_92f84 ∈ lw_gd := gd_2 208 rfl rfl
theorem sl_Jx4a65c_grow_92f84 : Cond.selects yJx4a65c_grow_92f84.cls yJx4a65c_grow_92f84 yJx4a65c_grow_92f84 ∈ lw_gd := gd_s 5 rfl rfl
theorem ce_Jx4a65c_grow_d5877 : CeF yJx4a65c_grow_d5877 cJx4a65c_grow_d5877 1 (some (.array (.object "java/lang/Object"))) 0 := ⟨gd_2 205 rfl rfl, gd_1 4 rfl rfl, ⟨by decide +kernel, by decide +kernel, by decide +kernel⟩, by decide⟩
theorem im_Jx4a65c_grow_d5877 : Cond.instanceMethod yJx4a65c_grow_d5877 ∈ lw_gd := gd_2 204 rfl rfl
theorem sl_Jx4a65c_grow_d5877 : Cond.selects yJx4a65c_grow_d5877.cls yJx4a65c_grow_d5877 yJx4a65c_grow_d5877 ∈ lw_gd := gd_s 4 rfl rfl
theorem ce_Jx4a65c_size_8abf5 : CeF yJx4a65c_size_8abf5 cJx4a65c_size_8abf5 1 (some .int) 0 := ⟨gd_2 146 rfl rfl, gd_1 4 rfl rfl, ⟨by decide +kernel, by decide +kernel, by decide +kernel⟩, by decide⟩
theorem im_Jx4a65c_size_8abf5 : Cond.instanceMethod yJx4a65c_size_8abf5 ∈ lw_gd := gd_2 144 rfl rfl
theorem sl_Jx4a65c_size_8abf5 : Cond.selects yJx4a65c_size_8abf5.cls yJx4a65c_size_8abf5 yJx4a65c_size_8abf5 ∈ lw_gd := gd_2 145 rfl rfl
theorem ce_Jx4a65c_isEmpty_aae02 : CeF yJx4a65c_isEmpty_aae02 cJx4a65c_isEmpty_aae02 1 (some .boolean) 0 := ⟨gd_4 161 rfl rfl, gd_1 4 rfl rfl, ⟨by decide +kernel, by decide +kernel, by decide +kernel⟩, by decide⟩
theorem im_Jx4a65c_isEmpty_aae02 : Cond.instanceMethod yJx4a65c_isEmpty_aae02 ∈ lw_gd := gd_4 159 rfl rfl
theorem sl_Jx4a65c_isEmpty_aae02 : Cond.selects yJx4a65c_isEmpty_aae02.cls yJx4a65c_isEmpty_aae02 yJx4a65c_isEmpty_aae02 ∈ lw_gd := gd_4 160 rfl rfl
theorem ce_Jx4a65c_elementData_915e3 : CeF yJx4a65c_elementData_915e3 cJx4a65c_elementData_915e3 2 (some (.object "java/lang/Object")) 1 := ⟨gd_3 35 rfl rfl, gd_1 4 rfl rfl, ⟨by decide +kernel, by decide +kernel, by decide +kernel⟩, by decide⟩
theorem im_Jx4a65c_elementData_915e3 : Cond.instanceMethod yJx4a65c_elementData_915e3 ∈ lw_gd := gd_3 33 rfl rfl
theorem sl_Jx4a65c_elementData_915e3 : Cond.selects yJx4a65c_elementData_915e3.cls yJx4a65c_elementData_915e3 yJx4a65c_elementData_915e3 ∈ lw_gd := gd_3 34 rfl rfl
theorem ce_Jx4a65c_get_915e3 : CeF yJx4a65c_get_915e3 cJx4a65c_get_915e3 2 (some (.object "java/lang/Object")) 1 := ⟨gd_3 25 rfl rfl, gd_1 4 rfl rfl, ⟨by decide +kernel, by decide +kernel, by decide +kernel⟩, by decide⟩
theorem im_Jx4a65c_get_915e3 : Cond.instanceMethod yJx4a65c_get_915e3 ∈ lw_gd := gd_3 23 rfl rfl
theorem sl_Jx4a65c_get_915e3 : Cond.selects yJx4a65c_get_915e3.cls yJx4a65c_get_915e3 yJx4a65c_get_915e3 ∈ lw_gd := gd_3 24 rfl rfl
theorem ce_Jx4a65c_add_72be8 : CeF yJx4a65c_add_72be8 cJx4a65c_add_72be8 4 (none) 3 := ⟨gd_2 201 rfl rfl, gd_1 4 rfl rfl, ⟨by decide +kernel, by decide +kernel, by decide +kernel⟩, by decide⟩
theorem im_Jx4a65c_add_72be8 : Cond.instanceMethod yJx4a65c_add_72be8 ∈ lw_gd := gd_2 200 rfl rfl
theorem sl_Jx4a65c_add_72be8 : Cond.selects yJx4a65c_add_72be8.cls yJx4a65c_add_72be8 yJx4a65c_add_72be8 ∈ lw_gd := gd_s 3 rfl rfl
theorem ce_Jx4a65c_add_9ea2d : CeF yJx4a65c_add_9ea2d cJx4a65c_add_9ea2d 2 (some .boolean) 1 := ⟨gd_2 197 rfl rfl, gd_1 4 rfl rfl, ⟨by decide +kernel, by decide +kernel, by decide +kernel⟩, by decide⟩
theorem im_Jx4a65c_add_9ea2d : Cond.instanceMethod yJx4a65c_add_9ea2d ∈ lw_gd := gd_2 195 rfl rfl
theorem sl_Jx4a65c_add_9ea2d : Cond.selects yJx4a65c_add_9ea2d.cls yJx4a65c_add_9ea2d yJx4a65c_add_9ea2d ∈ lw_gd := gd_2 196 rfl rfl
theorem ce_Jx4a65c_remove_915e3 : CeF yJx4a65c_remove_915e3 cJx4a65c_remove_915e3 4 (some (.object "java/lang/Object")) 1 := ⟨gd_4 148 rfl rfl, gd_1 4 rfl rfl, ⟨by decide +kernel, by decide +kernel, by decide +kernel⟩, by decide⟩
theorem im_Jx4a65c_remove_915e3 : Cond.instanceMethod yJx4a65c_remove_915e3 ∈ lw_gd := gd_4 146 rfl rfl
theorem sl_Jx4a65c_remove_915e3 : Cond.selects yJx4a65c_remove_915e3.cls yJx4a65c_remove_915e3 yJx4a65c_remove_915e3 ∈ lw_gd := gd_4 147 rfl rfl
theorem ce_Jx4a65c_fastRemove_b59b0 : CeF yJx4a65c_fastRemove_b59b0 cJx4a65c_fastRemove_b59b0 4 (none) 2 := ⟨gd_4 152 rfl rfl, gd_1 4 rfl rfl, ⟨by decide +kernel, by decide +kernel, by decide +kernel⟩, by decide⟩
theorem im_Jx4a65c_fastRemove_b59b0 : Cond.instanceMethod yJx4a65c_fastRemove_b59b0 ∈ lw_gd := gd_4 151 rfl rfl
theorem sl_Jx4a65c_fastRemove_b59b0 : Cond.selects yJx4a65c_fastRemove_b59b0.cls yJx4a65c_fastRemove_b59b0 yJx4a65c_fastRemove_b59b0 ∈ lw_gd := gd_s 29 rfl rfl
theorem ce_J7_copyOf_1904c : CeF yJ7_copyOf_1904c cJ7_copyOf_1904c 2 (some (.array (.object "java/lang/Object"))) 2 := ⟨gd_2 220 rfl rfl, gd_1 18 rfl rfl, ⟨by decide +kernel, by decide +kernel, by decide +kernel⟩, by decide⟩
theorem st_J7_copyOf_1904c : Cond.static yJ7_copyOf_1904c ∈ lw_gd := gd_2 219 rfl rfl
theorem ce_J7_copyOf_6403c : CeF yJ7_copyOf_6403c cJ7_copyOf_6403c 4 (some (.array (.object "java/lang/Object"))) 3 := ⟨gd_3 2 rfl rfl, gd_1 18 rfl rfl, ⟨by decide +kernel, by decide +kernel, by decide +kernel⟩, by decide⟩
theorem st_J7_copyOf_6403c : Cond.static yJ7_copyOf_6403c ∈ lw_gd := gd_3 1 rfl rfl
theorem ce_J15_checkIndex_7cf53 : CeF yJ15_checkIndex_7cf53 cJ15_checkIndex_7cf53 2 (some .int) 2 := ⟨gd_3 28 rfl rfl, gd_1 20 rfl rfl, ⟨by decide +kernel, by decide +kernel, by decide +kernel⟩, by decide⟩
theorem st_J15_checkIndex_7cf53 : Cond.static yJ15_checkIndex_7cf53 ∈ lw_gd := gd_3 27 rfl rfl
theorem ce_J8_newLength_cabcc : CeF yJ8_newLength_cabcc cJ8_newLength_cabcc 4 (some .int) 3 := ⟨gd_2 212 rfl rfl, gd_1 17 rfl rfl, ⟨by decide +kernel, by decide +kernel, by decide +kernel⟩, by decide⟩
theorem st_J8_newLength_cabcc : Cond.static yJ8_newLength_cabcc ∈ lw_gd := gd_2 211 rfl rfl
theorem ce_J8_hugeLength_7cf53 : CeF yJ8_hugeLength_7cf53 cJ8_hugeLength_7cf53 3 (some .int) 2 := ⟨gd_2 217 rfl rfl, gd_1 17 rfl rfl, ⟨by decide +kernel, by decide +kernel, by decide +kernel⟩, by decide⟩
theorem st_J8_hugeLength_7cf53 : Cond.static yJ8_hugeLength_7cf53 ∈ lw_gd := gd_2 216 rfl rfl
theorem ce_J3_checkIndex_8e157 : CeF yJ3_checkIndex_8e157 cJ3_checkIndex_8e157 3 (some .int) 3 := ⟨gd_3 31 rfl rfl, gd_1 21 rfl rfl, ⟨by decide +kernel, by decide +kernel, by decide +kernel⟩, by decide⟩
theorem st_J3_checkIndex_8e157 : Cond.static yJ3_checkIndex_8e157 ∈ lw_gd := gd_3 30 rfl rfl
theorem st_L_now : Cond.static yL_now ∈ lw_gd := gd_5 32 rfl rfl
theorem st_L_score : Cond.static yL_score ∈ lw_gd := gd_5 124 rfl rfl
theorem st_L_overs : Cond.static yL_overs ∈ lw_gd := gd_5 153 rfl rfl
theorem st_L_entry : Cond.static yL_entry ∈ lw_gd := gd_5 165 rfl rfl
theorem st_L_bats : Cond.static yL_bats ∈ lw_gd := gd_5 173 rfl rfl
theorem st_L_fields : Cond.static yL_fields ∈ lw_gd := gd_5 189 rfl rfl
theorem st_L_record : Cond.static yL_record ∈ lw_gd := gd_5 200 rfl rfl
theorem st_L_told : Cond.static yL_told ∈ lw_gd := gd_5 238 rfl rfl
theorem st_L_list : Cond.static yL_list ∈ lw_gd := gd_6 6 rfl rfl
theorem st_L_sum : Cond.static yL_sum ∈ lw_gd := gd_6 14 rfl rfl
theorem fl_Jx4a65c_9 : Cond.fieldLink RJx4a65c 9 (TJx4a65c 1).1 (TJx4a65c 1).2.1 (TJx4a65c 1).2.2.1 ∈ lw_gd := gd_1 49 rfl rfl
theorem fl_Jx4a65c_48 : Cond.fieldLink RJx4a65c 48 (TJx4a65c 2).1 (TJx4a65c 2).2.1 (TJx4a65c 2).2.2.1 ∈ lw_gd := gd_1 50 rfl rfl
theorem fl_Jxc12de_7 : Cond.fieldLink RJxc12de 7 (TJx4a65c 0).1 (TJx4a65c 0).2.1 (TJx4a65c 0).2.2.1 ∈ lw_gd := gd_1 51 rfl rfl
theorem fl_X0_15 : Cond.fieldLink RX0 15 (TX0 0).1 (TX0 0).2.1 (TX0 0).2.2.1 ∈ lw_gd := gd_1 71 rfl rfl
theorem fl_X0_21 : Cond.fieldLink RX0 21 (TX0 1).1 (TX0 1).2.1 (TX0 1).2.2.1 ∈ lw_gd := gd_1 72 rfl rfl
theorem fl_X5_9 : Cond.fieldLink RX5 9 (TX5 0).1 (TX5 0).2.1 (TX5 0).2.2.1 ∈ lw_gd := gd_1 98 rfl rfl
theorem fl_X5_15 : Cond.fieldLink RX5 15 (TX5 1).1 (TX5 1).2.1 (TX5 1).2.2.1 ∈ lw_gd := gd_1 99 rfl rfl
theorem fl_X5_19 : Cond.fieldLink RX5 19 (TX5 2).1 (TX5 2).2.1 (TX5 2).2.2.1 ∈ lw_gd := gd_1 103 rfl rfl
theorem fl_X1_14 : Cond.fieldLink RX1 14 (TX1 0).1 (TX1 0).2.1 (TX1 0).2.2.1 ∈ lw_gd := gd_1 114 rfl rfl
theorem fl_X1_20 : Cond.fieldLink RX1 20 (TX1 1).1 (TX1 1).2.1 (TX1 1).2.2.1 ∈ lw_gd := gd_1 117 rfl rfl
theorem fl_X1_24 : Cond.fieldLink RX1 24 (TX1 2).1 (TX1 2).2.1 (TX1 2).2.2.1 ∈ lw_gd := gd_1 120 rfl rfl
theorem fl_X1_27 : Cond.fieldLink RX1 27 (TX1 3).1 (TX1 3).2.1 (TX1 3).2.2.1 ∈ lw_gd := gd_1 123 rfl rfl
theorem fl_X1_30 : Cond.fieldLink RX1 30 (TX1 4).1 (TX1 4).2.1 (TX1 4).2.2.1 ∈ lw_gd := gd_1 126 rfl rfl
theorem fl_X2_11 : Cond.fieldLink RX2 11 (TX2 0).1 (TX2 0).2.1 (TX2 0).2.2.1 ∈ lw_gd := gd_1 140 rfl rfl
theorem fl_X2_17 : Cond.fieldLink RX2 17 (TX2 1).1 (TX2 1).2.1 (TX2 1).2.2.1 ∈ lw_gd := gd_1 141 rfl rfl
theorem fl_X2_21 : Cond.fieldLink RX2 21 (TX2 2).1 (TX2 2).2.1 (TX2 2).2.2.1 ∈ lw_gd := gd_1 142 rfl rfl
theorem fl_X4_13 : Cond.fieldLink RX4 13 (TX4 0).1 (TX4 0).2.1 (TX4 0).2.2.1 ∈ lw_gd := gd_1 171 rfl rfl
theorem fl_X4_19 : Cond.fieldLink RX4 19 (TX4 1).1 (TX4 1).2.1 (TX4 1).2.2.1 ∈ lw_gd := gd_1 172 rfl rfl
theorem fl_X4_22 : Cond.fieldLink RX4 22 (TX4 2).1 (TX4 2).2.1 (TX4 2).2.2.1 ∈ lw_gd := gd_1 173 rfl rfl
theorem fl_X9_14 : Cond.fieldLink RX9 14 (TX9 0).1 (TX9 0).2.1 (TX9 0).2.2.1 ∈ lw_gd := gd_1 181 rfl rfl
theorem fl_X9_20 : Cond.fieldLink RX9 20 (TX9 1).1 (TX9 1).2.1 (TX9 1).2.2.1 ∈ lw_gd := gd_1 184 rfl rfl
theorem fl_X9_23 : Cond.fieldLink RX9 23 (TX9 2).1 (TX9 2).2.1 (TX9 2).2.2.1 ∈ lw_gd := gd_1 187 rfl rfl
theorem fl_X9_26 : Cond.fieldLink RX9 26 (TX9 3).1 (TX9 3).2.1 (TX9 3).2.2.1 ∈ lw_gd := gd_1 188 rfl rfl
theorem fl_X9_44 : Cond.fieldLink RX9 44 (TX9 4).1 (TX9 4).2.1 (TX9 4).2.2.1 ∈ lw_gd := gd_1 189 rfl rfl
theorem fl_X9_47 : Cond.fieldLink RX9 47 (TX9 5).1 (TX9 5).2.1 (TX9 5).2.2.1 ∈ lw_gd := gd_1 194 rfl rfl
theorem fl_X9_50 : Cond.fieldLink RX9 50 (TX9 6).1 (TX9 6).2.1 (TX9 6).2.2.1 ∈ lw_gd := gd_1 196 rfl rfl
theorem fl_X9_53 : Cond.fieldLink RX9 53 (TX9 7).1 (TX9 7).2.1 (TX9 7).2.2.1 ∈ lw_gd := gd_1 197 rfl rfl
theorem fl_X9_56 : Cond.fieldLink RX9 56 (TX9 8).1 (TX9 8).2.1 (TX9 8).2.2.1 ∈ lw_gd := gd_1 198 rfl rfl
theorem fl_X9_59 : Cond.fieldLink RX9 59 (TX9 9).1 (TX9 9).2.1 (TX9 9).2.2.1 ∈ lw_gd := gd_1 200 rfl rfl
theorem fl_X9_62 : Cond.fieldLink RX9 62 (TX9 10).1 (TX9 10).2.1 (TX9 10).2.2.1 ∈ lw_gd := gd_1 202 rfl rfl
theorem fl_X9_65 : Cond.fieldLink RX9 65 (TX9 11).1 (TX9 11).2.1 (TX9 11).2.2.1 ∈ lw_gd := gd_1 204 rfl rfl
theorem fl_X9_68 : Cond.fieldLink RX9 68 (TX9 12).1 (TX9 12).2.1 (TX9 12).2.2.1 ∈ lw_gd := gd_1 205 rfl rfl
theorem fl_X9_71 : Cond.fieldLink RX9 71 (TX9 13).1 (TX9 13).2.1 (TX9 13).2.2.1 ∈ lw_gd := gd_1 207 rfl rfl
theorem fl_X9_74 : Cond.fieldLink RX9 74 (TX9 14).1 (TX9 14).2.1 (TX9 14).2.2.1 ∈ lw_gd := gd_1 208 rfl rfl
theorem fl_X9_30 : Cond.fieldLink RX9 30 (TX9 15).1 (TX9 15).2.1 (TX9 15).2.2.1 ∈ lw_gd := gd_1 209 rfl rfl
theorem fl_X9_34 : Cond.fieldLink RX9 34 (TX9 16).1 (TX9 16).2.1 (TX9 16).2.2.1 ∈ lw_gd := gd_1 211 rfl rfl
theorem fl_X9_37 : Cond.fieldLink RX9 37 (TX9 17).1 (TX9 17).2.1 (TX9 17).2.2.1 ∈ lw_gd := gd_1 213 rfl rfl
theorem fl_X9_77 : Cond.fieldLink RX9 77 (TX9 18).1 (TX9 18).2.1 (TX9 18).2.2.1 ∈ lw_gd := gd_1 215 rfl rfl
theorem fl_X6_11 : Cond.fieldLink RX6 11 (TX6 0).1 (TX6 0).2.1 (TX6 0).2.2.1 ∈ lw_gd := gd_2 15 rfl rfl
theorem fl_X6_18 : Cond.fieldLink RX6 18 (TX6 1).1 (TX6 1).2.1 (TX6 1).2.2.1 ∈ lw_gd := gd_2 16 rfl rfl
theorem fl_X6_96 : Cond.fieldLink RX6 96 (TX6 2).1 (TX6 2).2.1 (TX6 2).2.2.1 ∈ lw_gd := gd_2 17 rfl rfl
theorem fl_X6_93 : Cond.fieldLink RX6 93 (TX6 3).1 (TX6 3).2.1 (TX6 3).2.2.1 ∈ lw_gd := gd_2 18 rfl rfl
theorem fl_X6_22 : Cond.fieldLink RX6 22 (TX6 4).1 (TX6 4).2.1 (TX6 4).2.2.1 ∈ lw_gd := gd_2 19 rfl rfl
theorem fl_X6_90 : Cond.fieldLink RX6 90 (TX6 5).1 (TX6 5).2.1 (TX6 5).2.2.1 ∈ lw_gd := gd_2 20 rfl rfl
theorem fl_X6_105 : Cond.fieldLink RX6 105 (TX6 6).1 (TX6 6).2.1 (TX6 6).2.2.1 ∈ lw_gd := gd_2 23 rfl rfl
theorem fl_X6_108 : Cond.fieldLink RX6 108 (TX6 7).1 (TX6 7).2.1 (TX6 7).2.2.1 ∈ lw_gd := gd_2 25 rfl rfl
theorem fl_X6_111 : Cond.fieldLink RX6 111 (TX6 8).1 (TX6 8).2.1 (TX6 8).2.2.1 ∈ lw_gd := gd_2 27 rfl rfl
theorem fl_X6_114 : Cond.fieldLink RX6 114 (TX6 9).1 (TX6 9).2.1 (TX6 9).2.2.1 ∈ lw_gd := gd_2 29 rfl rfl
theorem fl_X8_14 : Cond.fieldLink RX8 14 (TX8 0).1 (TX8 0).2.1 (TX8 0).2.2.1 ∈ lw_gd := gd_2 59 rfl rfl
theorem fl_X8_20 : Cond.fieldLink RX8 20 (TX8 1).1 (TX8 1).2.1 (TX8 1).2.2.1 ∈ lw_gd := gd_2 61 rfl rfl
theorem fl_X7_9 : Cond.fieldLink RX7 9 (TX7 0).1 (TX7 0).2.1 (TX7 0).2.2.1 ∈ lw_gd := gd_2 73 rfl rfl
theorem fl_X7_15 : Cond.fieldLink RX7 15 (TX7 1).1 (TX7 1).2.1 (TX7 1).2.2.1 ∈ lw_gd := gd_2 74 rfl rfl
theorem fl_X7_23 : Cond.fieldLink RX7 23 (TX7 2).1 (TX7 2).2.1 (TX7 2).2.2.1 ∈ lw_gd := gd_2 75 rfl rfl
theorem fl_X7_26 : Cond.fieldLink RX7 26 (TX7 3).1 (TX7 3).2.1 (TX7 3).2.2.1 ∈ lw_gd := gd_2 76 rfl rfl
theorem fl_X7_19 : Cond.fieldLink RX7 19 (TX7 4).1 (TX7 4).2.1 (TX7 4).2.2.1 ∈ lw_gd := gd_2 77 rfl rfl
theorem fl_X11_9 : Cond.fieldLink RX11 9 (TX11 0).1 (TX11 0).2.1 (TX11 0).2.2.1 ∈ lw_gd := gd_2 90 rfl rfl
theorem fl_X11_16 : Cond.fieldLink RX11 16 (TX11 1).1 (TX11 1).2.1 (TX11 1).2.2.1 ∈ lw_gd := gd_2 91 rfl rfl
theorem fl_X11_25 : Cond.fieldLink RX11 25 (TX11 2).1 (TX11 2).2.1 (TX11 2).2.2.1 ∈ lw_gd := gd_2 92 rfl rfl
theorem fl_X11_29 : Cond.fieldLink RX11 29 (TX11 3).1 (TX11 3).2.1 (TX11 3).2.2.1 ∈ lw_gd := gd_2 93 rfl rfl
theorem fl_X11_35 : Cond.fieldLink RX11 35 (TX11 4).1 (TX11 4).2.1 (TX11 4).2.2.1 ∈ lw_gd := gd_2 94 rfl rfl
theorem fl_X11_42 : Cond.fieldLink RX11 42 (TX11 5).1 (TX11 5).2.1 (TX11 5).2.2.1 ∈ lw_gd := gd_2 95 rfl rfl
theorem fl_X11_49 : Cond.fieldLink RX11 49 (TX11 6).1 (TX11 6).2.1 (TX11 6).2.2.1 ∈ lw_gd := gd_2 96 rfl rfl
theorem fl_X11_56 : Cond.fieldLink RX11 56 (TX11 7).1 (TX11 7).2.1 (TX11 7).2.2.1 ∈ lw_gd := gd_2 97 rfl rfl
theorem fl_X11_60 : Cond.fieldLink RX11 60 (TX11 8).1 (TX11 8).2.1 (TX11 8).2.2.1 ∈ lw_gd := gd_2 98 rfl rfl
theorem fl_X11_64 : Cond.fieldLink RX11 64 (TX11 9).1 (TX11 9).2.1 (TX11 9).2.2.1 ∈ lw_gd := gd_2 99 rfl rfl
theorem fl_X11_67 : Cond.fieldLink RX11 67 (TX11 10).1 (TX11 10).2.1 (TX11 10).2.2.1 ∈ lw_gd := gd_2 100 rfl rfl
theorem fl_X11_70 : Cond.fieldLink RX11 70 (TX11 11).1 (TX11 11).2.1 (TX11 11).2.2.1 ∈ lw_gd := gd_2 101 rfl rfl
theorem fl_X3_27 : Cond.fieldLink RX3 27 (TX3 0).1 (TX3 0).2.1 (TX3 0).2.2.1 ∈ lw_gd := gd_2 165 rfl rfl
theorem fl_X3_31 : Cond.fieldLink RX3 31 (TX3 1).1 (TX3 1).2.1 (TX3 1).2.2.1 ∈ lw_gd := gd_2 166 rfl rfl
theorem fl_X3_34 : Cond.fieldLink RX3 34 (TX3 2).1 (TX3 2).2.1 (TX3 2).2.2.1 ∈ lw_gd := gd_2 167 rfl rfl
theorem fl_X3_37 : Cond.fieldLink RX3 37 (TX3 3).1 (TX3 3).2.1 (TX3 3).2.2.1 ∈ lw_gd := gd_2 170 rfl rfl
theorem fl_X3_14 : Cond.fieldLink RX3 14 (TX3 4).1 (TX3 4).2.1 (TX3 4).2.2.1 ∈ lw_gd := gd_2 174 rfl rfl
theorem fl_X3_23 : Cond.fieldLink RX3 23 (TX3 5).1 (TX3 5).2.1 (TX3 5).2.2.1 ∈ lw_gd := gd_2 176 rfl rfl
theorem fl_X10_10 : Cond.fieldLink RX10 10 (TX10 0).1 (TX10 0).2.1 (TX10 0).2.2.1 ∈ lw_gd := gd_4 29 rfl rfl
theorem fl_X12_175 : Cond.fieldLink RX12 175 (TX12 0).1 (TX12 0).2.1 (TX12 0).2.2.1 ∈ lw_gd := gd_6 34 rfl rfl
theorem fl_X12_179 : Cond.fieldLink RX12 179 (TX12 1).1 (TX12 1).2.1 (TX12 1).2.2.1 ∈ lw_gd := gd_6 35 rfl rfl
theorem fl_X12_182 : Cond.fieldLink RX12 182 (TX12 2).1 (TX12 2).2.1 (TX12 2).2.2.1 ∈ lw_gd := gd_6 36 rfl rfl
theorem fl_X12_9 : Cond.fieldLink RX12 9 (TX12 3).1 (TX12 3).2.1 (TX12 3).2.2.1 ∈ lw_gd := gd_6 37 rfl rfl
theorem fl_X12_13 : Cond.fieldLink RX12 13 (TX12 4).1 (TX12 4).2.1 (TX12 4).2.2.1 ∈ lw_gd := gd_6 38 rfl rfl
theorem fl_X12_16 : Cond.fieldLink RX12 16 (TX12 5).1 (TX12 5).2.1 (TX12 5).2.2.1 ∈ lw_gd := gd_6 39 rfl rfl
theorem fl_X12_19 : Cond.fieldLink RX12 19 (TX12 6).1 (TX12 6).2.1 (TX12 6).2.2.1 ∈ lw_gd := gd_6 40 rfl rfl
theorem fl_X12_22 : Cond.fieldLink RX12 22 (TX12 7).1 (TX12 7).2.1 (TX12 7).2.2.1 ∈ lw_gd := gd_6 41 rfl rfl
theorem fl_X12_25 : Cond.fieldLink RX12 25 (TX12 8).1 (TX12 8).2.1 (TX12 8).2.2.1 ∈ lw_gd := gd_6 42 rfl rfl
theorem fl_X12_28 : Cond.fieldLink RX12 28 (TX12 9).1 (TX12 9).2.1 (TX12 9).2.2.1 ∈ lw_gd := gd_6 43 rfl rfl
theorem fl_X12_32 : Cond.fieldLink RX12 32 (TX12 10).1 (TX12 10).2.1 (TX12 10).2.2.1 ∈ lw_gd := gd_6 44 rfl rfl
theorem fl_X12_294 : Cond.fieldLink RX12 294 (TX12 11).1 (TX12 11).2.1 (TX12 11).2.2.1 ∈ lw_gd := gd_6 45 rfl rfl
theorem fl_X12_35 : Cond.fieldLink RX12 35 (TX12 12).1 (TX12 12).2.1 (TX12 12).2.2.1 ∈ lw_gd := gd_6 46 rfl rfl
theorem fl_X12_38 : Cond.fieldLink RX12 38 (TX12 13).1 (TX12 13).2.1 (TX12 13).2.2.1 ∈ lw_gd := gd_6 47 rfl rfl
theorem fl_X12_42 : Cond.fieldLink RX12 42 (TX12 14).1 (TX12 14).2.1 (TX12 14).2.2.1 ∈ lw_gd := gd_6 48 rfl rfl
theorem fl_X12_45 : Cond.fieldLink RX12 45 (TX12 15).1 (TX12 15).2.1 (TX12 15).2.2.1 ∈ lw_gd := gd_6 49 rfl rfl
theorem fl_X12_309 : Cond.fieldLink RX12 309 (TX12 16).1 (TX12 16).2.1 (TX12 16).2.2.1 ∈ lw_gd := gd_6 50 rfl rfl
theorem fl_X12_48 : Cond.fieldLink RX12 48 (TX12 17).1 (TX12 17).2.1 (TX12 17).2.2.1 ∈ lw_gd := gd_6 51 rfl rfl
theorem fl_X12_362 : Cond.fieldLink RX12 362 (TX12 18).1 (TX12 18).2.1 (TX12 18).2.2.1 ∈ lw_gd := gd_6 52 rfl rfl
theorem fl_X12_297 : Cond.fieldLink RX12 297 (TX12 19).1 (TX12 19).2.1 (TX12 19).2.2.1 ∈ lw_gd := gd_6 53 rfl rfl
theorem fl_X12_291 : Cond.fieldLink RX12 291 (TX12 20).1 (TX12 20).2.1 (TX12 20).2.2.1 ∈ lw_gd := gd_6 54 rfl rfl
theorem fl_X12_51 : Cond.fieldLink RX12 51 (TX12 21).1 (TX12 21).2.1 (TX12 21).2.2.1 ∈ lw_gd := gd_6 55 rfl rfl
theorem fl_X12_54 : Cond.fieldLink RX12 54 (TX12 22).1 (TX12 22).2.1 (TX12 22).2.2.1 ∈ lw_gd := gd_6 56 rfl rfl
theorem fl_X12_57 : Cond.fieldLink RX12 57 (TX12 23).1 (TX12 23).2.1 (TX12 23).2.2.1 ∈ lw_gd := gd_6 57 rfl rfl
theorem fl_X12_60 : Cond.fieldLink RX12 60 (TX12 24).1 (TX12 24).2.1 (TX12 24).2.2.1 ∈ lw_gd := gd_6 58 rfl rfl
theorem fl_X12_63 : Cond.fieldLink RX12 63 (TX12 25).1 (TX12 25).2.1 (TX12 25).2.2.1 ∈ lw_gd := gd_6 59 rfl rfl
theorem fl_X12_66 : Cond.fieldLink RX12 66 (TX12 26).1 (TX12 26).2.1 (TX12 26).2.2.1 ∈ lw_gd := gd_6 60 rfl rfl
theorem fl_X12_69 : Cond.fieldLink RX12 69 (TX12 27).1 (TX12 27).2.1 (TX12 27).2.2.1 ∈ lw_gd := gd_6 61 rfl rfl
theorem fl_X12_200 : Cond.fieldLink RX12 200 (TX12 28).1 (TX12 28).2.1 (TX12 28).2.2.1 ∈ lw_gd := gd_6 62 rfl rfl
theorem fl_X12_203 : Cond.fieldLink RX12 203 (TX12 29).1 (TX12 29).2.1 (TX12 29).2.2.1 ∈ lw_gd := gd_6 63 rfl rfl
theorem fl_X12_206 : Cond.fieldLink RX12 206 (TX12 30).1 (TX12 30).2.1 (TX12 30).2.2.1 ∈ lw_gd := gd_6 64 rfl rfl
theorem fl_X12_209 : Cond.fieldLink RX12 209 (TX12 31).1 (TX12 31).2.1 (TX12 31).2.2.1 ∈ lw_gd := gd_6 65 rfl rfl
theorem fl_X12_215 : Cond.fieldLink RX12 215 (TX12 32).1 (TX12 32).2.1 (TX12 32).2.2.1 ∈ lw_gd := gd_6 66 rfl rfl
theorem fl_X12_218 : Cond.fieldLink RX12 218 (TX12 33).1 (TX12 33).2.1 (TX12 33).2.2.1 ∈ lw_gd := gd_6 67 rfl rfl
theorem fl_X12_221 : Cond.fieldLink RX12 221 (TX12 34).1 (TX12 34).2.1 (TX12 34).2.2.1 ∈ lw_gd := gd_6 68 rfl rfl
theorem fl_X12_72 : Cond.fieldLink RX12 72 (TX12 35).1 (TX12 35).2.1 (TX12 35).2.2.1 ∈ lw_gd := gd_6 69 rfl rfl
theorem fl_X12_75 : Cond.fieldLink RX12 75 (TX12 36).1 (TX12 36).2.1 (TX12 36).2.2.1 ∈ lw_gd := gd_6 70 rfl rfl
theorem fl_X12_78 : Cond.fieldLink RX12 78 (TX12 37).1 (TX12 37).2.1 (TX12 37).2.2.1 ∈ lw_gd := gd_6 71 rfl rfl
theorem fl_X12_81 : Cond.fieldLink RX12 81 (TX12 38).1 (TX12 38).2.1 (TX12 38).2.2.1 ∈ lw_gd := gd_6 72 rfl rfl
theorem fl_X12_84 : Cond.fieldLink RX12 84 (TX12 39).1 (TX12 39).2.1 (TX12 39).2.2.1 ∈ lw_gd := gd_6 73 rfl rfl
theorem fl_X12_87 : Cond.fieldLink RX12 87 (TX12 40).1 (TX12 40).2.1 (TX12 40).2.2.1 ∈ lw_gd := gd_6 74 rfl rfl
theorem fl_X12_90 : Cond.fieldLink RX12 90 (TX12 41).1 (TX12 41).2.1 (TX12 41).2.2.1 ∈ lw_gd := gd_6 75 rfl rfl
theorem fl_X12_93 : Cond.fieldLink RX12 93 (TX12 42).1 (TX12 42).2.1 (TX12 42).2.2.1 ∈ lw_gd := gd_6 76 rfl rfl
theorem fl_X12_96 : Cond.fieldLink RX12 96 (TX12 43).1 (TX12 43).2.1 (TX12 43).2.2.1 ∈ lw_gd := gd_6 77 rfl rfl
theorem fl_X12_99 : Cond.fieldLink RX12 99 (TX12 44).1 (TX12 44).2.1 (TX12 44).2.2.1 ∈ lw_gd := gd_6 78 rfl rfl
theorem fl_X12_102 : Cond.fieldLink RX12 102 (TX12 45).1 (TX12 45).2.1 (TX12 45).2.2.1 ∈ lw_gd := gd_6 79 rfl rfl
theorem fl_X12_105 : Cond.fieldLink RX12 105 (TX12 46).1 (TX12 46).2.1 (TX12 46).2.2.1 ∈ lw_gd := gd_6 80 rfl rfl
theorem fl_X12_108 : Cond.fieldLink RX12 108 (TX12 47).1 (TX12 47).2.1 (TX12 47).2.2.1 ∈ lw_gd := gd_6 81 rfl rfl
theorem fl_X12_111 : Cond.fieldLink RX12 111 (TX12 48).1 (TX12 48).2.1 (TX12 48).2.2.1 ∈ lw_gd := gd_6 82 rfl rfl
theorem fl_X12_114 : Cond.fieldLink RX12 114 (TX12 49).1 (TX12 49).2.1 (TX12 49).2.2.1 ∈ lw_gd := gd_6 83 rfl rfl
theorem fl_X12_117 : Cond.fieldLink RX12 117 (TX12 50).1 (TX12 50).2.1 (TX12 50).2.2.1 ∈ lw_gd := gd_6 84 rfl rfl
theorem fl_X12_120 : Cond.fieldLink RX12 120 (TX12 51).1 (TX12 51).2.1 (TX12 51).2.2.1 ∈ lw_gd := gd_6 85 rfl rfl
theorem fl_X12_123 : Cond.fieldLink RX12 123 (TX12 52).1 (TX12 52).2.1 (TX12 52).2.2.1 ∈ lw_gd := gd_6 86 rfl rfl
theorem fl_X12_127 : Cond.fieldLink RX12 127 (TX12 53).1 (TX12 53).2.1 (TX12 53).2.2.1 ∈ lw_gd := gd_6 87 rfl rfl
theorem fl_X12_130 : Cond.fieldLink RX12 130 (TX12 54).1 (TX12 54).2.1 (TX12 54).2.2.1 ∈ lw_gd := gd_6 88 rfl rfl
theorem fl_X12_133 : Cond.fieldLink RX12 133 (TX12 55).1 (TX12 55).2.1 (TX12 55).2.2.1 ∈ lw_gd := gd_6 89 rfl rfl
theorem fl_X12_136 : Cond.fieldLink RX12 136 (TX12 56).1 (TX12 56).2.1 (TX12 56).2.2.1 ∈ lw_gd := gd_6 90 rfl rfl
theorem fl_X12_139 : Cond.fieldLink RX12 139 (TX12 57).1 (TX12 57).2.1 (TX12 57).2.2.1 ∈ lw_gd := gd_6 91 rfl rfl
theorem fl_X12_142 : Cond.fieldLink RX12 142 (TX12 58).1 (TX12 58).2.1 (TX12 58).2.2.1 ∈ lw_gd := gd_6 92 rfl rfl
theorem fl_X12_145 : Cond.fieldLink RX12 145 (TX12 59).1 (TX12 59).2.1 (TX12 59).2.2.1 ∈ lw_gd := gd_6 93 rfl rfl
theorem fl_X12_148 : Cond.fieldLink RX12 148 (TX12 60).1 (TX12 60).2.1 (TX12 60).2.2.1 ∈ lw_gd := gd_6 94 rfl rfl
theorem fl_X12_151 : Cond.fieldLink RX12 151 (TX12 61).1 (TX12 61).2.1 (TX12 61).2.2.1 ∈ lw_gd := gd_6 95 rfl rfl
theorem fl_X12_154 : Cond.fieldLink RX12 154 (TX12 62).1 (TX12 62).2.1 (TX12 62).2.2.1 ∈ lw_gd := gd_6 96 rfl rfl
theorem fl_X12_157 : Cond.fieldLink RX12 157 (TX12 63).1 (TX12 63).2.1 (TX12 63).2.2.1 ∈ lw_gd := gd_6 97 rfl rfl
theorem fl_X12_160 : Cond.fieldLink RX12 160 (TX12 64).1 (TX12 64).2.1 (TX12 64).2.2.1 ∈ lw_gd := gd_6 98 rfl rfl
theorem fl_X12_372 : Cond.fieldLink RX12 372 (TX12 65).1 (TX12 65).2.1 (TX12 65).2.2.1 ∈ lw_gd := gd_6 99 rfl rfl
theorem fl_X12_375 : Cond.fieldLink RX12 375 (TX12 66).1 (TX12 66).2.1 (TX12 66).2.2.1 ∈ lw_gd := gd_6 100 rfl rfl
theorem fl_X12_163 : Cond.fieldLink RX12 163 (TX12 67).1 (TX12 67).2.1 (TX12 67).2.2.1 ∈ lw_gd := gd_6 101 rfl rfl
theorem fl_X12_166 : Cond.fieldLink RX12 166 (TX12 68).1 (TX12 68).2.1 (TX12 68).2.2.1 ∈ lw_gd := gd_6 102 rfl rfl
theorem fl_X12_368 : Cond.fieldLink RX12 368 (TX12 69).1 (TX12 69).2.1 (TX12 69).2.2.1 ∈ lw_gd := gd_6 103 rfl rfl
theorem fl_X12_169 : Cond.fieldLink RX12 169 (TX12 70).1 (TX12 70).2.1 (TX12 70).2.2.1 ∈ lw_gd := gd_6 104 rfl rfl
theorem fl_X12_172 : Cond.fieldLink RX12 172 (TX12 71).1 (TX12 71).2.1 (TX12 71).2.2.1 ∈ lw_gd := gd_6 105 rfl rfl
theorem fl_X11_184 : Cond.fieldLinkNest RX11 184 (TX0 1).1 (TX0 1).2.1 (TX0 1).2.2.1 "BallBook" ∈ lw_nw := nw_1 73 rfl rfl
theorem fl_X6_55 : Cond.fieldLinkNest RX6 55 (TX5 1).1 (TX5 1).2.1 (TX5 1).2.2.1 "BallBook" ∈ lw_nw := nw_1 100 rfl rfl
theorem fl_X9_98 : Cond.fieldLinkNest RX9 98 (TX5 1).1 (TX5 1).2.1 (TX5 1).2.2.1 "BallBook" ∈ lw_nw := nw_1 101 rfl rfl
theorem fl_X11_208 : Cond.fieldLinkNest RX11 208 (TX5 1).1 (TX5 1).2.1 (TX5 1).2.2.1 "BallBook" ∈ lw_nw := nw_1 102 rfl rfl
theorem fl_X6_75 : Cond.fieldLinkNest RX6 75 (TX5 2).1 (TX5 2).2.1 (TX5 2).2.2.1 "BallBook" ∈ lw_nw := nw_1 104 rfl rfl
theorem fl_X10_26 : Cond.fieldLinkNest RX10 26 (TX5 2).1 (TX5 2).2.1 (TX5 2).2.2.1 "BallBook" ∈ lw_nw := nw_1 105 rfl rfl
theorem fl_X11_179 : Cond.fieldLinkNest RX11 179 (TX5 2).1 (TX5 2).2.1 (TX5 2).2.2.1 "BallBook" ∈ lw_nw := nw_1 106 rfl rfl
theorem fl_X2_41 : Cond.fieldLinkNest RX2 41 (TX1 0).1 (TX1 0).2.1 (TX1 0).2.2.1 "BallBook" ∈ lw_nw := nw_1 115 rfl rfl
theorem fl_X3_90 : Cond.fieldLinkNest RX3 90 (TX1 0).1 (TX1 0).2.1 (TX1 0).2.2.1 "BallBook" ∈ lw_nw := nw_1 116 rfl rfl
theorem fl_X2_29 : Cond.fieldLinkNest RX2 29 (TX1 1).1 (TX1 1).2.1 (TX1 1).2.2.1 "BallBook" ∈ lw_nw := nw_1 118 rfl rfl
theorem fl_X11_215 : Cond.fieldLinkNest RX11 215 (TX1 1).1 (TX1 1).2.1 (TX1 1).2.2.1 "BallBook" ∈ lw_nw := nw_1 119 rfl rfl
theorem fl_X2_32 : Cond.fieldLinkNest RX2 32 (TX1 2).1 (TX1 2).2.1 (TX1 2).2.2.1 "BallBook" ∈ lw_nw := nw_1 121 rfl rfl
theorem fl_X3_78 : Cond.fieldLinkNest RX3 78 (TX1 2).1 (TX1 2).2.1 (TX1 2).2.2.1 "BallBook" ∈ lw_nw := nw_1 122 rfl rfl
theorem fl_X2_35 : Cond.fieldLinkNest RX2 35 (TX1 3).1 (TX1 3).2.1 (TX1 3).2.2.1 "BallBook" ∈ lw_nw := nw_1 124 rfl rfl
theorem fl_X3_73 : Cond.fieldLinkNest RX3 73 (TX1 3).1 (TX1 3).2.1 (TX1 3).2.2.1 "BallBook" ∈ lw_nw := nw_1 125 rfl rfl
theorem fl_X2_38 : Cond.fieldLinkNest RX2 38 (TX1 4).1 (TX1 4).2.1 (TX1 4).2.2.1 "BallBook" ∈ lw_nw := nw_1 127 rfl rfl
theorem fl_X3_87 : Cond.fieldLinkNest RX3 87 (TX1 4).1 (TX1 4).2.1 (TX1 4).2.2.1 "BallBook" ∈ lw_nw := nw_1 128 rfl rfl
theorem fl_X11_302 : Cond.fieldLinkNest RX11 302 (TX2 2).1 (TX2 2).2.1 (TX2 2).2.2.1 "BallBook" ∈ lw_nw := nw_1 143 rfl rfl
theorem fl_X8_50 : Cond.fieldLinkNest RX8 50 (TX9 0).1 (TX9 0).2.1 (TX9 0).2.2.1 "BallBook" ∈ lw_nw := nw_1 182 rfl rfl
theorem fl_X11_330 : Cond.fieldLinkNest RX11 330 (TX9 0).1 (TX9 0).2.1 (TX9 0).2.2.1 "BallBook" ∈ lw_nw := nw_1 183 rfl rfl
theorem fl_X8_57 : Cond.fieldLinkNest RX8 57 (TX9 1).1 (TX9 1).2.1 (TX9 1).2.2.1 "BallBook" ∈ lw_nw := nw_1 185 rfl rfl
theorem fl_X11_333 : Cond.fieldLinkNest RX11 333 (TX9 1).1 (TX9 1).2.1 (TX9 1).2.2.1 "BallBook" ∈ lw_nw := nw_1 186 rfl rfl
theorem fl_X8_33 : Cond.fieldLinkNest RX8 33 (TX9 4).1 (TX9 4).2.1 (TX9 4).2.2.1 "BallBook" ∈ lw_nw := nw_1 190 rfl rfl
theorem fl_X7_93 : Cond.fieldLinkNest RX7 93 (TX9 4).1 (TX9 4).2.1 (TX9 4).2.2.1 "BallBook" ∈ lw_nw := nw_1 191 rfl rfl
theorem fl_X6_130 : Cond.fieldLinkNest RX6 130 (TX9 4).1 (TX9 4).2.1 (TX9 4).2.2.1 "BallBook" ∈ lw_nw := nw_1 192 rfl rfl
theorem fl_X11_351 : Cond.fieldLinkNest RX11 351 (TX9 4).1 (TX9 4).2.1 (TX9 4).2.2.1 "BallBook" ∈ lw_nw := nw_1 193 rfl rfl
theorem fl_X6_167 : Cond.fieldLinkNest RX6 167 (TX9 5).1 (TX9 5).2.1 (TX9 5).2.2.1 "BallBook" ∈ lw_nw := nw_1 195 rfl rfl
theorem fl_X6_158 : Cond.fieldLinkNest RX6 158 (TX9 8).1 (TX9 8).2.1 (TX9 8).2.2.1 "BallBook" ∈ lw_nw := nw_1 199 rfl rfl
theorem fl_X6_164 : Cond.fieldLinkNest RX6 164 (TX9 9).1 (TX9 9).2.1 (TX9 9).2.2.1 "BallBook" ∈ lw_nw := nw_1 201 rfl rfl
theorem fl_X6_87 : Cond.fieldLinkNest RX6 87 (TX9 10).1 (TX9 10).2.1 (TX9 10).2.2.1 "BallBook" ∈ lw_nw := nw_1 203 rfl rfl
theorem fl_X6_170 : Cond.fieldLinkNest RX6 170 (TX9 12).1 (TX9 12).2.1 (TX9 12).2.2.1 "BallBook" ∈ lw_nw := nw_1 206 rfl rfl
theorem fl_X6_126 : Cond.fieldLinkNest RX6 126 (TX9 15).1 (TX9 15).2.1 (TX9 15).2.2.1 "BallBook" ∈ lw_nw := nw_1 210 rfl rfl
theorem fl_X6_120 : Cond.fieldLinkNest RX6 120 (TX9 16).1 (TX9 16).2.1 (TX9 16).2.2.1 "BallBook" ∈ lw_nw := nw_1 212 rfl rfl
theorem fl_X6_123 : Cond.fieldLinkNest RX6 123 (TX9 17).1 (TX9 17).2.1 (TX9 17).2.2.1 "BallBook" ∈ lw_nw := nw_1 214 rfl rfl
theorem fl_X11_119 : Cond.fieldLinkNest RX11 119 (TX6 6).1 (TX6 6).2.1 (TX6 6).2.2.1 "BallBook" ∈ lw_nw := nw_2 21 rfl rfl
theorem fl_X7_67 : Cond.fieldLinkNest RX7 67 (TX6 6).1 (TX6 6).2.1 (TX6 6).2.2.1 "BallBook" ∈ lw_nw := nw_2 22 rfl rfl
theorem fl_X7_72 : Cond.fieldLinkNest RX7 72 (TX6 7).1 (TX6 7).2.1 (TX6 7).2.2.1 "BallBook" ∈ lw_nw := nw_2 24 rfl rfl
theorem fl_X7_75 : Cond.fieldLinkNest RX7 75 (TX6 8).1 (TX6 8).2.1 (TX6 8).2.2.1 "BallBook" ∈ lw_nw := nw_2 26 rfl rfl
theorem fl_X7_78 : Cond.fieldLinkNest RX7 78 (TX6 9).1 (TX6 9).2.1 (TX6 9).2.2.1 "BallBook" ∈ lw_nw := nw_2 28 rfl rfl
theorem fl_X11_272 : Cond.fieldLinkNest RX11 272 (TX8 0).1 (TX8 0).2.1 (TX8 0).2.2.1 "BallBook" ∈ lw_nw := nw_2 60 rfl rfl
theorem fl_X11_296 : Cond.fieldLinkNest RX11 296 (TX7 4).1 (TX7 4).2.1 (TX7 4).2.2.1 "BallBook" ∈ lw_nw := nw_2 78 rfl rfl
theorem fl_X6_149 : Cond.fieldLinkNest RX6 149 (TX3 2).1 (TX3 2).2.1 (TX3 2).2.2.1 "BallBook" ∈ lw_nw := nw_2 168 rfl rfl
theorem fl_X11_345 : Cond.fieldLinkNest RX11 345 (TX3 2).1 (TX3 2).2.1 (TX3 2).2.2.1 "BallBook" ∈ lw_nw := nw_2 169 rfl rfl
theorem fl_X7_50 : Cond.fieldLinkNest RX7 50 (TX3 3).1 (TX3 3).2.1 (TX3 3).2.2.1 "BallBook" ∈ lw_nw := nw_2 171 rfl rfl
theorem fl_X6_152 : Cond.fieldLinkNest RX6 152 (TX3 3).1 (TX3 3).2.1 (TX3 3).2.2.1 "BallBook" ∈ lw_nw := nw_2 172 rfl rfl
theorem fl_X11_348 : Cond.fieldLinkNest RX11 348 (TX3 3).1 (TX3 3).2.1 (TX3 3).2.2.1 "BallBook" ∈ lw_nw := nw_2 173 rfl rfl
theorem fl_X7_104 : Cond.fieldLinkNest RX7 104 (TX3 4).1 (TX3 4).2.1 (TX3 4).2.2.1 "BallBook" ∈ lw_nw := nw_2 175 rfl rfl
theorem ml_L_46 : Cond.methodLink RL 46 yX11_init ∈ lw_gd := gd_1 29 rfl rfl
theorem ml_X11_1 : Cond.methodLink RX11 1 Lib.objectInit ∈ lw_gd := gd_1 32 rfl rfl
theorem ml_X11_15 : Cond.methodLink RX11 15 yJx4a65c_init_da8c8 ∈ lw_gd := gd_1 37 rfl rfl
theorem ml_Jx4a65c_1 : Cond.methodLink RJx4a65c 1 yJxc12de_init_da8c8 ∈ lw_gd := gd_1 40 rfl rfl
theorem ml_Jxc12de_1 : Cond.methodLink RJxc12de 1 yJxa1e45_init_da8c8 ∈ lw_gd := gd_1 43 rfl rfl
theorem ml_Jxa1e45_1 : Cond.methodLink RJxa1e45 1 Lib.objectInit ∈ lw_gd := gd_1 46 rfl rfl
theorem ml_X11_22 : Cond.methodLink RX11 22 yX0_init ∈ lw_gd := gd_1 64 rfl rfl
theorem ml_X0_3 : Cond.methodLink RX0 3 Lib.objectInit ∈ lw_gd := gd_1 67 rfl rfl
theorem ml_X0_9 : Cond.methodLink RX0 9 yJ9_max_7cf53 ∈ lw_gd := gd_1 68 rfl rfl
theorem ml_X11_34 : Cond.methodLink RX11 34 yX2_init ∈ lw_gd := gd_1 81 rfl rfl
theorem ml_X2_3 : Cond.methodLink RX2 3 Lib.objectInit ∈ lw_gd := gd_1 84 rfl rfl
theorem ml_X2_24 : Cond.methodLink RX2 24 yX1_init ∈ lw_gd := gd_1 88 rfl rfl
theorem ml_X1_3 : Cond.methodLink RX1 3 Lib.objectInit ∈ lw_gd := gd_1 91 rfl rfl
theorem ml_X1_11 : Cond.methodLink RX1 11 yX5_init ∈ lw_gd := gd_1 94 rfl rfl
theorem ml_X5_3 : Cond.methodLink RX5 3 Lib.objectInit ∈ lw_gd := gd_1 97 rfl rfl
theorem ml_X11_41 : Cond.methodLink RX11 41 yX6_init ∈ lw_gd := gd_1 153 rfl rfl
theorem ml_X6_3 : Cond.methodLink RX6 3 Lib.objectInit ∈ lw_gd := gd_1 156 rfl rfl
theorem ml_X6_17 : Cond.methodLink RX6 17 yX9_init ∈ lw_gd := gd_1 160 rfl rfl
theorem ml_X9_3 : Cond.methodLink RX9 3 Lib.objectInit ∈ lw_gd := gd_1 163 rfl rfl
theorem ml_X9_11 : Cond.methodLink RX9 11 yX4_init ∈ lw_gd := gd_1 166 rfl rfl
theorem ml_X4_1 : Cond.methodLink RX4 1 Lib.objectInit ∈ lw_gd := gd_1 169 rfl rfl
theorem ml_X4_7 : Cond.methodLink RX4 7 yJ9_max_7cf53 ∈ lw_gd := gd_1 170 rfl rfl
theorem ml_X8_3 : Cond.methodLink RX8 3 Lib.objectInit ∈ lw_gd := gd_2 56 rfl rfl
theorem ml_X8_11 : Cond.methodLink RX8 11 yX4_init ∈ lw_gd := gd_2 58 rfl rfl
theorem ml_X11_55 : Cond.methodLink RX11 55 yX7_init ∈ lw_gd := gd_2 69 rfl rfl
theorem ml_X7_3 : Cond.methodLink RX7 3 Lib.objectInit ∈ lw_gd := gd_2 72 rfl rfl
theorem ml_L_50 : Cond.methodLink RL 50 yX11_side ∈ lw_gd := gd_2 127 rfl rfl
theorem ml_L_54 : Cond.methodLink RL 54 yX11_player ∈ lw_gd := gd_2 131 rfl rfl
theorem ml_X11_74 : Cond.methodLink RX11 74 yX11_hasSide ∈ lw_gd := gd_2 135 rfl rfl
theorem ml_L_58 : Cond.methodLink RL 58 yX11_toss ∈ lw_gd := gd_2 139 rfl rfl
theorem ml_X11_78 : Cond.methodLink RX11 78 yJx4a65c_size_8abf5 ∈ lw_gd := gd_2 143 rfl rfl
theorem ml_X11_84 : Cond.methodLink RX11 84 yX3_init ∈ lw_gd := gd_2 149 rfl rfl
theorem ml_X3_3 : Cond.methodLink RX3 3 Lib.objectInit ∈ lw_gd := gd_2 152 rfl rfl
theorem ml_X3_11 : Cond.methodLink RX3 11 yX4_init ∈ lw_gd := gd_2 154 rfl rfl
theorem ml_X3_22 : Cond.methodLink RX3 22 yJx4a65c_init_da8c8 ∈ lw_gd := gd_2 156 rfl rfl
theorem ml_X3_40 : Cond.methodLink RX3 40 yX4_set ∈ lw_gd := gd_2 157 rfl rfl
theorem ml_X4_26 : Cond.methodLink RX4 26 yX4_has ∈ lw_gd := gd_2 161 rfl rfl
theorem ml_X11_87 : Cond.methodLink RX11 87 yX11_addGame ∈ lw_gd := gd_2 190 rfl rfl
theorem ml_X11_319 : Cond.methodLink RX11 319 yJx4a65c_add_9ea2d ∈ lw_gd := gd_2 194 rfl rfl
theorem ml_Jx4a65c_131 : Cond.methodLink RJx4a65c 131 yJx4a65c_add_72be8 ∈ lw_gd := gd_2 198 rfl rfl
theorem ml_Jx4a65c_129 : Cond.methodLink RJx4a65c 129 yJx4a65c_grow_d5877 ∈ lw_gd := gd_2 202 rfl rfl
theorem ml_Jx4a65c_69 : Cond.methodLink RJx4a65c 69 yJx4a65c_grow_92f84 ∈ lw_gd := gd_2 206 rfl rfl
theorem ml_Jx4a65c_73 : Cond.methodLink RJx4a65c 73 yJ8_newLength_cabcc ∈ lw_gd := gd_2 210 rfl rfl
theorem ml_J8_194 : Cond.methodLink RJ8 194 yJ9_max_7cf53 ∈ lw_gd := gd_2 213 rfl rfl
theorem ml_J8_201 : Cond.methodLink RJ8 201 yJ8_hugeLength_7cf53 ∈ lw_gd := gd_2 215 rfl rfl
theorem ml_Jx4a65c_66 : Cond.methodLink RJx4a65c 66 yJ7_copyOf_1904c ∈ lw_gd := gd_2 218 rfl rfl
theorem ml_J7_300 : Cond.methodLink RJ7 300 yJ7_copyOf_6403c ∈ lw_gd := gd_3 0 rfl rfl
theorem ml_J7_304 : Cond.methodLink RJ7 304 yJ9_min_7cf53 ∈ lw_gd := gd_3 6 rfl rfl
theorem ml_Jx4a65c_79 : Cond.methodLink RJx4a65c 79 yJ9_max_7cf53 ∈ lw_gd := gd_3 12 rfl rfl
theorem ml_L_62 : Cond.methodLink RL 62 yX11_seat ∈ lw_gd := gd_3 14 rfl rfl
theorem ml_X11_91 : Cond.methodLink RX11 91 yX11_gameAt ∈ lw_gd := gd_3 18 rfl rfl
theorem ml_X11_315 : Cond.methodLink RX11 315 yJx4a65c_get_915e3 ∈ lw_gd := gd_3 22 rfl rfl
theorem ml_Jx4a65c_118 : Cond.methodLink RJx4a65c 118 yJ15_checkIndex_7cf53 ∈ lw_gd := gd_3 26 rfl rfl
theorem ml_J15_105 : Cond.methodLink RJ15 105 yJ3_checkIndex_8e157 ∈ lw_gd := gd_3 29 rfl rfl
theorem ml_Jx4a65c_123 : Cond.methodLink RJx4a65c 123 yJx4a65c_elementData_915e3 ∈ lw_gd := gd_3 32 rfl rfl
theorem ml_X11_95 : Cond.methodLink RX11 95 yX3_sideAt ∈ lw_gd := gd_3 36 rfl rfl
theorem ml_X11_99 : Cond.methodLink RX11 99 yX11_playersOf ∈ lw_gd := gd_3 40 rfl rfl
theorem ml_X11_102 : Cond.methodLink RX11 102 yX3_turnCount ∈ lw_gd := gd_3 44 rfl rfl
theorem ml_X3_48 : Cond.methodLink RX3 48 yJx4a65c_size_8abf5 ∈ lw_gd := gd_3 48 rfl rfl
theorem ml_X11_105 : Cond.methodLink RX11 105 yX3_giveSeat ∈ lw_gd := gd_3 49 rfl rfl
theorem ml_X3_44 : Cond.methodLink RX3 44 yX4_at ∈ lw_gd := gd_3 53 rfl rfl
theorem ml_X11_109 : Cond.methodLink RX11 109 yX11_forgetPlay ∈ lw_gd := gd_3 57 rfl rfl
theorem ml_L_67 : Cond.methodLink RL 67 yX11_turn ∈ lw_gd := gd_3 61 rfl rfl
theorem ml_X11_112 : Cond.methodLink RX11 112 yX11_refused ∈ lw_gd := gd_3 65 rfl rfl
theorem ml_X11_115 : Cond.methodLink RX11 115 yX11_playOver ∈ lw_gd := gd_3 69 rfl rfl
theorem ml_X11_323 : Cond.methodLink RX11 323 yX6_replay ∈ lw_gd := gd_3 73 rfl rfl
theorem ml_X6_26 : Cond.methodLink RX6 26 yX6_start ∈ lw_gd := gd_3 77 rfl rfl
theorem ml_X6_30 : Cond.methodLink RX6 30 yX3_turnCount ∈ lw_gd := gd_3 81 rfl rfl
theorem ml_X6_63 : Cond.methodLink RX6 63 yX6_tallyAt ∈ lw_gd := gd_3 82 rfl rfl
theorem ml_X6_155 : Cond.methodLink RX6 155 yX9_clear ∈ lw_gd := gd_3 86 rfl rfl
theorem ml_X9_40 : Cond.methodLink RX9 40 yX4_fill ∈ lw_gd := gd_3 90 rfl rfl
theorem ml_X6_36 : Cond.methodLink RX6 36 yX6_ruleOfTurn ∈ lw_gd := gd_3 94 rfl rfl
theorem ml_X6_40 : Cond.methodLink RX6 40 yX6_stops ∈ lw_gd := gd_3 98 rfl rfl
theorem ml_X6_44 : Cond.methodLink RX6 44 yX6_beginTurn ∈ lw_gd := gd_3 102 rfl rfl
theorem ml_X6_161 : Cond.methodLink RX6 161 yX9_begin ∈ lw_gd := gd_3 106 rfl rfl
theorem ml_X9_84 : Cond.methodLink RX9 84 yX4_set ∈ lw_gd := gd_3 115 rfl rfl
theorem ml_X6_48 : Cond.methodLink RX6 48 yX3_overCountOf ∈ lw_gd := gd_3 116 rfl rfl
theorem ml_X3_62 : Cond.methodLink RX3 62 yX3_turnAt ∈ lw_gd := gd_3 120 rfl rfl
theorem ml_X3_52 : Cond.methodLink RX3 52 yJx4a65c_get_915e3 ∈ lw_gd := gd_3 124 rfl rfl
theorem ml_X3_66 : Cond.methodLink RX3 66 yX10_overCount ∈ lw_gd := gd_3 126 rfl rfl
theorem ml_X10_16 : Cond.methodLink RX10 16 yJx4a65c_size_8abf5 ∈ lw_gd := gd_3 130 rfl rfl
theorem ml_X6_51 : Cond.methodLink RX6 51 yX3_overAt ∈ lw_gd := gd_3 131 rfl rfl
theorem ml_X3_69 : Cond.methodLink RX3 69 yX10_overAt ∈ lw_gd := gd_3 135 rfl rfl
theorem ml_X10_20 : Cond.methodLink RX10 20 yJx4a65c_get_915e3 ∈ lw_gd := gd_3 139 rfl rfl
theorem ml_X6_60 : Cond.methodLink RX6 60 yX6_ruleOfOver ∈ lw_gd := gd_3 141 rfl rfl
theorem ml_X6_99 : Cond.methodLink RX6 99 yX9_ruleOfOver ∈ lw_gd := gd_3 145 rfl rfl
theorem ml_X9_88 : Cond.methodLink RX9 88 yX4_at ∈ lw_gd := gd_3 149 rfl rfl
theorem ml_X6_67 : Cond.methodLink RX6 67 yX9_beginOver ∈ lw_gd := gd_3 150 rfl rfl
theorem ml_X9_91 : Cond.methodLink RX9 91 yX9_endOver ∈ lw_gd := gd_3 154 rfl rfl
theorem ml_X9_148 : Cond.methodLink RX9 148 yX9_changeEnds ∈ lw_gd := gd_3 158 rfl rfl
theorem ml_X9_95 : Cond.methodLink RX9 95 yX4_fillRow ∈ lw_gd := gd_3 162 rfl rfl
theorem ml_X4_30 : Cond.methodLink RX4 30 yX4_set ∈ lw_gd := gd_3 166 rfl rfl
theorem ml_X9_101 : Cond.methodLink RX9 101 yX4_add ∈ lw_gd := gd_3 167 rfl rfl
theorem ml_X9_104 : Cond.methodLink RX9 104 yX5_isMissing ∈ lw_gd := gd_3 171 rfl rfl
theorem ml_X6_71 : Cond.methodLink RX6 71 yX6_endTurn ∈ lw_gd := gd_3 175 rfl rfl
theorem ml_X6_141 : Cond.methodLink RX6 141 yX6_target ∈ lw_gd := gd_3 179 rfl rfl
theorem ml_X6_173 : Cond.methodLink RX6 173 yX6_findWinner ∈ lw_gd := gd_3 183 rfl rfl
theorem ml_X6_78 : Cond.methodLink RX6 78 yX5_at ∈ lw_gd := gd_3 187 rfl rfl
theorem ml_X5_22 : Cond.methodLink RX5 22 yX5_has ∈ lw_gd := gd_3 191 rfl rfl
theorem ml_X6_81 : Cond.methodLink RX6 81 yX6_ruleOfEntry ∈ lw_gd := gd_3 195 rfl rfl
theorem ml_X6_102 : Cond.methodLink RX6 102 yX9_ruleOfEntry ∈ lw_gd := gd_3 199 rfl rfl
theorem ml_X6_84 : Cond.methodLink RX6 84 yX9_playEntry ∈ lw_gd := gd_3 210 rfl rfl
theorem ml_X9_119 : Cond.methodLink RX9 119 yX9_hit ∈ lw_gd := gd_3 214 rfl rfl
theorem ml_X9_145 : Cond.methodLink RX9 145 yX9_cross ∈ lw_gd := gd_3 218 rfl rfl
theorem ml_X9_122 : Cond.methodLink RX9 122 yX9_concede ∈ lw_gd := gd_3 222 rfl rfl
theorem ml_X9_125 : Cond.methodLink RX9 125 yX9_runOfNobody ∈ lw_gd := gd_3 226 rfl rfl
theorem ml_X9_128 : Cond.methodLink RX9 128 yX9_leave ∈ lw_gd := gd_3 230 rfl rfl
theorem ml_X9_132 : Cond.methodLink RX9 132 yX9_takeAway ∈ lw_gd := gd_3 234 rfl rfl
theorem ml_X9_151 : Cond.methodLink RX9 151 yX9_ballsLeft ∈ lw_gd := gd_3 238 rfl rfl
theorem ml_X11_122 : Cond.methodLink RX11 122 yX6_ruleOfTurn ∈ lw_gd := gd_4 2 rfl rfl
theorem ml_X11_125 : Cond.methodLink RX11 125 yX2_push ∈ lw_gd := gd_4 3 rfl rfl
theorem ml_X2_25 : Cond.methodLink RX2 25 yX2_changeAt ∈ lw_gd := gd_4 7 rfl rfl
theorem ml_X2_45 : Cond.methodLink RX2 45 yX5_copy ∈ lw_gd := gd_4 11 rfl rfl
theorem ml_X5_33 : Cond.methodLink RX5 33 yX5_at ∈ lw_gd := gd_4 15 rfl rfl
theorem ml_X5_37 : Cond.methodLink RX5 37 yX5_set ∈ lw_gd := gd_4 16 rfl rfl
theorem ml_X2_51 : Cond.methodLink RX2 51 yJ9_min_7cf53 ∈ lw_gd := gd_4 20 rfl rfl
theorem ml_X10_1 : Cond.methodLink RX10 1 Lib.objectInit ∈ lw_gd := gd_4 26 rfl rfl
theorem ml_X10_9 : Cond.methodLink RX10 9 yJx4a65c_init_da8c8 ∈ lw_gd := gd_4 28 rfl rfl
theorem ml_X11_132 : Cond.methodLink RX11 132 yX3_addTurn ∈ lw_gd := gd_4 33 rfl rfl
theorem ml_X3_58 : Cond.methodLink RX3 58 yJx4a65c_add_9ea2d ∈ lw_gd := gd_4 37 rfl rfl
theorem ml_X11_136 : Cond.methodLink RX11 136 yX11_done ∈ lw_gd := gd_4 38 rfl rfl
theorem ml_L_72 : Cond.methodLink RL 72 yX11_over ∈ lw_gd := gd_4 42 rfl rfl
theorem ml_X11_140 : Cond.methodLink RX11 140 yX3_turnAt ∈ lw_gd := gd_4 46 rfl rfl
theorem ml_X11_144 : Cond.methodLink RX11 144 yX6_ruleOfOver ∈ lw_gd := gd_4 47 rfl rfl
theorem ml_X11_147 : Cond.methodLink RX11 147 yX10_overCount ∈ lw_gd := gd_4 48 rfl rfl
theorem ml_X11_152 : Cond.methodLink RX11 152 yX5_init ∈ lw_gd := gd_4 50 rfl rfl
theorem ml_X11_155 : Cond.methodLink RX11 155 yX10_addOver ∈ lw_gd := gd_4 51 rfl rfl
theorem ml_X10_35 : Cond.methodLink RX10 35 yJx4a65c_add_9ea2d ∈ lw_gd := gd_4 55 rfl rfl
theorem ml_L_77 : Cond.methodLink RL 77 yX11_ball ∈ lw_gd := gd_4 56 rfl rfl
theorem ml_X11_159 : Cond.methodLink RX11 159 yX3_overCountOf ∈ lw_gd := gd_4 60 rfl rfl
theorem ml_X11_162 : Cond.methodLink RX11 162 yX3_overAt ∈ lw_gd := gd_4 61 rfl rfl
theorem ml_X11_166 : Cond.methodLink RX11 166 yX5_isMissing ∈ lw_gd := gd_4 62 rfl rfl
theorem ml_X11_169 : Cond.methodLink RX11 169 yX5_isFull ∈ lw_gd := gd_4 63 rfl rfl
theorem ml_X11_172 : Cond.methodLink RX11 172 yX6_ruleOfEntry ∈ lw_gd := gd_4 67 rfl rfl
theorem ml_X11_175 : Cond.methodLink RX11 175 yX11_keep ∈ lw_gd := gd_4 68 rfl rfl
theorem ml_X11_181 : Cond.methodLink RX11 181 yX5_insert ∈ lw_gd := gd_4 72 rfl rfl
theorem ml_X5_26 : Cond.methodLink RX5 26 yX5_isMissing ∈ lw_gd := gd_4 76 rfl rfl
theorem ml_X5_30 : Cond.methodLink RX5 30 yX5_isFull ∈ lw_gd := gd_4 77 rfl rfl
theorem ml_L_81 : Cond.methodLink RL 81 yX11_feed ∈ lw_gd := gd_4 78 rfl rfl
theorem ml_X11_185 : Cond.methodLink RX11 185 yX0_addNumber ∈ lw_gd := gd_4 82 rfl rfl
theorem ml_X0_25 : Cond.methodLink RX0 25 yX0_add ∈ lw_gd := gd_4 86 rfl rfl
theorem ml_L_86 : Cond.methodLink RL 86 yX11_open ∈ lw_gd := gd_4 90 rfl rfl
theorem ml_X11_188 : Cond.methodLink RX11 188 yX11_overOf ∈ lw_gd := gd_4 94 rfl rfl
theorem ml_X11_192 : Cond.methodLink RX11 192 yX0_at ∈ lw_gd := gd_4 98 rfl rfl
theorem ml_X11_195 : Cond.methodLink RX11 195 yX0_clear ∈ lw_gd := gd_4 102 rfl rfl
theorem ml_L_90 : Cond.methodLink RL 90 yX11_tear ∈ lw_gd := gd_4 106 rfl rfl
theorem ml_L_95 : Cond.methodLink RL 95 yX11_put ∈ lw_gd := gd_4 110 rfl rfl
theorem ml_L_100 : Cond.methodLink RL 100 yX11_mend ∈ lw_gd := gd_4 114 rfl rfl
theorem ml_X11_198 : Cond.methodLink RX11 198 yX5_has ∈ lw_gd := gd_4 118 rfl rfl
theorem ml_X11_201 : Cond.methodLink RX11 201 yX5_at ∈ lw_gd := gd_4 119 rfl rfl
theorem ml_X11_202 : Cond.methodLink RX11 202 yX5_set ∈ lw_gd := gd_4 120 rfl rfl
theorem ml_L_104 : Cond.methodLink RL 104 yX11_out ∈ lw_gd := gd_4 121 rfl rfl
theorem ml_X11_205 : Cond.methodLink RX11 205 yX5_remove ∈ lw_gd := gd_4 125 rfl rfl
theorem ml_L_108 : Cond.methodLink RL 108 yX11_bowls ∈ lw_gd := gd_4 129 rfl rfl
theorem ml_L_112 : Cond.methodLink RL 112 yX11_undo ∈ lw_gd := gd_4 133 rfl rfl
theorem ml_X11_211 : Cond.methodLink RX11 211 yX2_pop ∈ lw_gd := gd_4 137 rfl rfl
theorem ml_X11_220 : Cond.methodLink RX11 220 yX3_takeBack ∈ lw_gd := gd_4 141 rfl rfl
theorem ml_X3_81 : Cond.methodLink RX3 81 yJx4a65c_remove_915e3 ∈ lw_gd := gd_4 145 rfl rfl
theorem ml_Jx4a65c_144 : Cond.methodLink RJx4a65c 144 yJx4a65c_fastRemove_b59b0 ∈ lw_gd := gd_4 149 rfl rfl
theorem ml_X3_84 : Cond.methodLink RX3 84 yX10_dropOver ∈ lw_gd := gd_4 154 rfl rfl
theorem ml_X10_39 : Cond.methodLink RX10 39 yJx4a65c_isEmpty_aae02 ∈ lw_gd := gd_4 158 rfl rfl
theorem ml_X10_43 : Cond.methodLink RX10 43 yJx4a65c_remove_915e3 ∈ lw_gd := gd_4 162 rfl rfl
theorem ml_X3_94 : Cond.methodLink RX3 94 yX5_copy ∈ lw_gd := gd_4 163 rfl rfl
theorem ml_L_117 : Cond.methodLink RL 117 yX11_why ∈ lw_gd := gd_4 164 rfl rfl
theorem ml_L_150 : Cond.methodLink RL 150 yX11_image ∈ lw_gd := gd_4 168 rfl rfl
theorem ml_X11_280 : Cond.methodLink RX11 280 yX3_imageSize ∈ lw_gd := gd_4 172 rfl rfl
theorem ml_X3_104 : Cond.methodLink RX3 104 yX3_turnCount ∈ lw_gd := gd_4 176 rfl rfl
theorem ml_X3_107 : Cond.methodLink RX3 107 yX3_placeOf ∈ lw_gd := gd_4 177 rfl rfl
theorem ml_X3_100 : Cond.methodLink RX3 100 yX10_imageSize ∈ lw_gd := gd_4 181 rfl rfl
theorem ml_X10_29 : Cond.methodLink RX10 29 yJ9_max_7cf53 ∈ lw_gd := gd_4 185 rfl rfl
theorem ml_X11_283 : Cond.methodLink RX11 283 yX11_writeHead ∈ lw_gd := gd_4 186 rfl rfl
theorem ml_X11_343 : Cond.methodLink RX11 343 yX0_add ∈ lw_gd := gd_4 190 rfl rfl
theorem ml_X11_327 : Cond.methodLink RX11 327 yX3_playerAt ∈ lw_gd := gd_4 191 rfl rfl
theorem ml_X11_287 : Cond.methodLink RX11 287 yX11_writeTurn ∈ lw_gd := gd_4 195 rfl rfl
theorem ml_X11_242 : Cond.methodLink RX11 242 yX6_tallyAt ∈ lw_gd := gd_4 199 rfl rfl
theorem ml_L_158 : Cond.methodLink RL 158 yX11_check ∈ lw_gd := gd_4 200 rfl rfl
theorem ml_X11_293 : Cond.methodLink RX11 293 yX11_judge ∈ lw_gd := gd_4 204 rfl rfl
theorem ml_X11_354 : Cond.methodLink RX11 354 yX7_start ∈ lw_gd := gd_4 208 rfl rfl
theorem ml_X11_358 : Cond.methodLink RX11 358 yX7_readHead ∈ lw_gd := gd_4 212 rfl rfl
theorem ml_X7_29 : Cond.methodLink RX7 29 yX7_next ∈ lw_gd := gd_4 216 rfl rfl
theorem ml_X7_53 : Cond.methodLink RX7 53 yX7_isRight ∈ lw_gd := gd_4 220 rfl rfl
theorem ml_X7_131 : Cond.methodLink RX7 131 yX0_at ∈ lw_gd := gd_4 224 rfl rfl
theorem ml_X7_33 : Cond.methodLink RX7 33 yX7_fail ∈ lw_gd := gd_4 225 rfl rfl
theorem ml_X7_39 : Cond.methodLink RX7 39 yX3_init ∈ lw_gd := gd_4 230 rfl rfl
theorem ml_X7_42 : Cond.methodLink RX7 42 yX3_sideAt ∈ lw_gd := gd_4 231 rfl rfl
theorem ml_X7_46 : Cond.methodLink RX7 46 yX7_readPlayers ∈ lw_gd := gd_4 232 rfl rfl
theorem ml_X7_101 : Cond.methodLink RX7 101 yX3_playerAt ∈ lw_gd := gd_4 236 rfl rfl
theorem ml_X7_108 : Cond.methodLink RX7 108 yX4_set ∈ lw_gd := gd_4 237 rfl rfl
theorem ml_X11_362 : Cond.methodLink RX11 362 yX7_readTurns ∈ lw_gd := gd_4 238 rfl rfl
theorem ml_X7_60 : Cond.methodLink RX7 60 yX3_addTurn ∈ lw_gd := gd_5 4 rfl rfl
theorem ml_X7_64 : Cond.methodLink RX7 64 yX7_readOver ∈ lw_gd := gd_5 5 rfl rfl
theorem ml_X7_116 : Cond.methodLink RX7 116 yJ9_min_7cf53 ∈ lw_gd := gd_5 10 rfl rfl
theorem ml_X7_121 : Cond.methodLink RX7 121 yX5_init ∈ lw_gd := gd_5 11 rfl rfl
theorem ml_X7_124 : Cond.methodLink RX7 124 yX5_insert ∈ lw_gd := gd_5 12 rfl rfl
theorem ml_X7_127 : Cond.methodLink RX7 127 yX10_addOver ∈ lw_gd := gd_5 13 rfl rfl
theorem ml_X11_365 : Cond.methodLink RX11 365 yX7_readEnd ∈ lw_gd := gd_5 14 rfl rfl
theorem ml_X11_299 : Cond.methodLink RX11 299 yX7_isRight ∈ lw_gd := gd_5 18 rfl rfl
theorem ml_X11_368 : Cond.methodLink RX11 368 yX7_compare ∈ lw_gd := gd_5 19 rfl rfl
theorem ml_X7_81 : Cond.methodLink RX7 81 yX3_placeOf ∈ lw_gd := gd_5 23 rfl rfl
theorem ml_X7_85 : Cond.methodLink RX7 85 yX3_turnCount ∈ lw_gd := gd_5 24 rfl rfl
theorem ml_X7_89 : Cond.methodLink RX7 89 yX6_tallyAt ∈ lw_gd := gd_5 25 rfl rfl
theorem ml_X7_98 : Cond.methodLink RX7 98 yX3_overCountOf ∈ lw_gd := gd_5 26 rfl rfl
theorem ml_L_162 : Cond.methodLink RL 162 yX11_take ∈ lw_gd := gd_5 27 rfl rfl
theorem ml_L_121 : Cond.methodLink RL 121 yL_now ∈ lw_gd := gd_5 31 rfl rfl
theorem ml_L_7 : Cond.methodLink RL 7 yX11_now ∈ lw_gd := gd_5 35 rfl rfl
theorem ml_X11_231 : Cond.methodLink RX11 231 yX6_figure ∈ lw_gd := gd_5 105 rfl rfl
theorem ml_X6_117 : Cond.methodLink RX6 117 yX6_figureAtHand ∈ lw_gd := gd_5 109 rfl rfl
theorem ml_X6_127 : Cond.methodLink RX6 127 yX9_ballsLeft ∈ lw_gd := gd_5 113 rfl rfl
theorem ml_X6_133 : Cond.methodLink RX6 133 yX6_stillToBeHad ∈ lw_gd := gd_5 114 rfl rfl
theorem ml_X6_137 : Cond.methodLink RX6 137 yX6_figureOfChase ∈ lw_gd := gd_5 118 rfl rfl
theorem ml_X6_144 : Cond.methodLink RX6 144 yJ9_max_7cf53 ∈ lw_gd := gd_5 122 rfl rfl
theorem ml_L_130 : Cond.methodLink RL 130 yL_score ∈ lw_gd := gd_5 123 rfl rfl
theorem ml_L_15 : Cond.methodLink RL 15 yX11_score ∈ lw_gd := gd_5 126 rfl rfl
theorem ml_X11_236 : Cond.methodLink RX11 236 yX11_scoreFigure ∈ lw_gd := gd_5 131 rfl rfl
theorem ml_X11_326 : Cond.methodLink RX11 326 yX9_figure ∈ lw_gd := gd_5 135 rfl rfl
theorem ml_X9_135 : Cond.methodLink RX9 135 yX9_crossSum ∈ lw_gd := gd_5 139 rfl rfl
theorem ml_X9_139 : Cond.methodLink RX9 139 yX4_sumOf ∈ lw_gd := gd_5 143 rfl rfl
theorem ml_X4_34 : Cond.methodLink RX4 34 yX4_at ∈ lw_gd := gd_5 147 rfl rfl
theorem ml_X9_142 : Cond.methodLink RX9 142 yX4_howMany ∈ lw_gd := gd_5 148 rfl rfl
theorem ml_L_134 : Cond.methodLink RL 134 yL_overs ∈ lw_gd := gd_5 152 rfl rfl
theorem ml_L_19 : Cond.methodLink RL 19 yX11_overs ∈ lw_gd := gd_5 155 rfl rfl
theorem ml_X11_246 : Cond.methodLink RX11 246 yX9_overFigure ∈ lw_gd := gd_5 160 rfl rfl
theorem ml_L_138 : Cond.methodLink RL 138 yL_entry ∈ lw_gd := gd_5 164 rfl rfl
theorem ml_L_23 : Cond.methodLink RL 23 yX11_entry ∈ lw_gd := gd_5 167 rfl rfl
theorem ml_L_141 : Cond.methodLink RL 141 yL_bats ∈ lw_gd := gd_5 172 rfl rfl
theorem ml_L_26 : Cond.methodLink RL 26 yX11_bats ∈ lw_gd := gd_5 175 rfl rfl
theorem ml_X11_254 : Cond.methodLink RX11 254 yX11_isSeatFigure ∈ lw_gd := gd_5 179 rfl rfl
theorem ml_X11_260 : Cond.methodLink RX11 260 yX11_batsFigure ∈ lw_gd := gd_5 183 rfl rfl
theorem ml_X11_276 : Cond.methodLink RX11 276 yX4_at ∈ lw_gd := gd_5 187 rfl rfl
theorem ml_L_144 : Cond.methodLink RL 144 yL_fields ∈ lw_gd := gd_5 188 rfl rfl
theorem ml_L_29 : Cond.methodLink RL 29 yX11_fields ∈ lw_gd := gd_5 191 rfl rfl
theorem ml_X11_264 : Cond.methodLink RX11 264 yX11_fieldsFigure ∈ lw_gd := gd_5 195 rfl rfl
theorem ml_L_147 : Cond.methodLink RL 147 yL_record ∈ lw_gd := gd_5 199 rfl rfl
theorem ml_L_32 : Cond.methodLink RL 32 yX11_record ∈ lw_gd := gd_5 202 rfl rfl
theorem ml_X11_269 : Cond.methodLink RX11 269 yX11_findRecords ∈ lw_gd := gd_5 207 rfl rfl
theorem ml_X11_336 : Cond.methodLink RX11 336 yX8_clear ∈ lw_gd := gd_5 211 rfl rfl
theorem ml_X8_23 : Cond.methodLink RX8 23 yX4_fill ∈ lw_gd := gd_5 215 rfl rfl
theorem ml_X11_337 : Cond.methodLink RX11 337 yX8_addTurn ∈ lw_gd := gd_5 216 rfl rfl
theorem ml_X8_27 : Cond.methodLink RX8 27 yX3_sideAt ∈ lw_gd := gd_5 220 rfl rfl
theorem ml_X8_39 : Cond.methodLink RX8 39 yX4_at ∈ lw_gd := gd_5 221 rfl rfl
theorem ml_X8_43 : Cond.methodLink RX8 43 yX8_note ∈ lw_gd := gd_5 222 rfl rfl
theorem ml_X8_64 : Cond.methodLink RX8 64 yX4_set ∈ lw_gd := gd_5 226 rfl rfl
theorem ml_X8_47 : Cond.methodLink RX8 47 yX3_playerAt ∈ lw_gd := gd_5 227 rfl rfl
theorem ml_X8_53 : Cond.methodLink RX8 53 yX4_add ∈ lw_gd := gd_5 228 rfl rfl
theorem ml_X8_60 : Cond.methodLink RX8 60 yX8_isBetterBowler ∈ lw_gd := gd_5 229 rfl rfl
theorem ml_X11_340 : Cond.methodLink RX11 340 yX8_addTotals ∈ lw_gd := gd_5 233 rfl rfl
theorem ml_L_154 : Cond.methodLink RL 154 yL_told ∈ lw_gd := gd_5 237 rfl rfl
theorem ml_L_35 : Cond.methodLink RL 35 yX11_told ∈ lw_gd := gd_6 0 rfl rfl
theorem ml_L_166 : Cond.methodLink RL 166 yL_list ∈ lw_gd := gd_6 5 rfl rfl
theorem ml_L_39 : Cond.methodLink RL 39 yX11_list ∈ lw_gd := gd_6 8 rfl rfl
theorem ml_L_169 : Cond.methodLink RL 169 yL_sum ∈ lw_gd := gd_6 13 rfl rfl
theorem ml_L_42 : Cond.methodLink RL 42 yX11_sum ∈ lw_gd := gd_6 16 rfl rfl
theorem ml_X11_311 : Cond.methodLink RX11 311 yX11_addTurnFigures ∈ lw_gd := gd_6 22 rfl rfl
theorem ml_L_49 : Cond.methodLink RL 49 yX12_init ∈ lw_gd := gd_6 28 rfl rfl
theorem ml_X12_1 : Cond.methodLink RX12 1 Lib.objectInit ∈ lw_gd := gd_6 31 rfl rfl
theorem ml_L_127 : Cond.methodLink RL 127 yX12_thrown ∈ lw_gd := gd_7 12 rfl rfl
theorem ml_L_53 : Cond.methodLink RL 53 yX12_side ∈ lw_gd := gd_7 16 rfl rfl
theorem ml_L_57 : Cond.methodLink RL 57 yX12_player ∈ lw_gd := gd_7 20 rfl rfl
theorem ml_X12_185 : Cond.methodLink RX12 185 yX12_isSide ∈ lw_gd := gd_7 24 rfl rfl
theorem ml_L_61 : Cond.methodLink RL 61 yX12_toss ∈ lw_gd := gd_7 28 rfl rfl
theorem ml_X12_189 : Cond.methodLink RX12 189 yX12_newGame ∈ lw_gd := gd_7 32 rfl rfl
theorem ml_L_66 : Cond.methodLink RL 66 yX12_seat ∈ lw_gd := gd_7 36 rfl rfl
theorem ml_X12_193 : Cond.methodLink RX12 193 yX12_isGame ∈ lw_gd := gd_7 40 rfl rfl
theorem ml_L_71 : Cond.methodLink RL 71 yX12_turn ∈ lw_gd := gd_7 44 rfl rfl
theorem ml_X12_300 : Cond.methodLink RX12 300 yX12_play ∈ lw_gd := gd_7 48 rfl rfl
theorem ml_X12_212 : Cond.methodLink RX12 212 yX12_stop ∈ lw_gd := gd_7 52 rfl rfl
theorem ml_X12_224 : Cond.methodLink RX12 224 yX12_clearTurn ∈ lw_gd := gd_7 56 rfl rfl
theorem ml_X12_228 : Cond.methodLink RX12 228 yX12_rowOf ∈ lw_gd := gd_7 60 rfl rfl
theorem ml_X12_232 : Cond.methodLink RX12 232 yX12_playTurn ∈ lw_gd := gd_7 64 rfl rfl
theorem ml_X12_236 : Cond.methodLink RX12 236 yX12_table ∈ lw_gd := gd_7 68 rfl rfl
theorem ml_X12_240 : Cond.methodLink RX12 240 yX12_lastTurn ∈ lw_gd := gd_7 73 rfl rfl
theorem ml_X12_244 : Cond.methodLink RX12 244 yX12_aim ∈ lw_gd := gd_7 77 rfl rfl
theorem ml_X12_247 : Cond.methodLink RX12 247 yX12_playOver ∈ lw_gd := gd_7 81 rfl rfl
theorem ml_X12_254 : Cond.methodLink RX12 254 yX12_becomesWhole ∈ lw_gd := gd_7 85 rfl rfl
theorem ml_X12_251 : Cond.methodLink RX12 251 yX12_change ∈ lw_gd := gd_7 89 rfl rfl
theorem ml_X12_257 : Cond.methodLink RX12 257 yX12_against ∈ lw_gd := gd_7 93 rfl rfl
theorem ml_X12_265 : Cond.methodLink RX12 265 yX12_isEntry ∈ lw_gd := gd_7 97 rfl rfl
theorem ml_X12_269 : Cond.methodLink RX12 269 yX12_counts ∈ lw_gd := gd_7 100 rfl rfl
theorem ml_X12_261 : Cond.methodLink RX12 261 yX12_playEntry ∈ lw_gd := gd_7 103 rfl rfl
theorem ml_X12_275 : Cond.methodLink RX12 275 yX12_hit ∈ lw_gd := gd_7 107 rfl rfl
theorem ml_X12_272 : Cond.methodLink RX12 272 yX12_adds ∈ lw_gd := gd_7 111 rfl rfl
theorem ml_X12_278 : Cond.methodLink RX12 278 yX12_crosses ∈ lw_gd := gd_7 115 rfl rfl
theorem ml_X12_281 : Cond.methodLink RX12 281 yX12_leaves ∈ lw_gd := gd_7 119 rfl rfl
theorem ml_X12_285 : Cond.methodLink RX12 285 yX12_left ∈ lw_gd := gd_7 123 rfl rfl
theorem ml_X12_288 : Cond.methodLink RX12 288 yX12_ends ∈ lw_gd := gd_7 127 rfl rfl
theorem ml_X12_303 : Cond.methodLink RX12 303 yX12_done ∈ lw_gd := gd_7 131 rfl rfl
theorem ml_L_76 : Cond.methodLink RL 76 yX12_over ∈ lw_gd := gd_7 135 rfl rfl
theorem ml_X12_306 : Cond.methodLink RX12 306 yX12_newRow ∈ lw_gd := gd_7 139 rfl rfl
theorem ml_L_80 : Cond.methodLink RL 80 yX12_ball ∈ lw_gd := gd_7 143 rfl rfl
theorem ml_L_85 : Cond.methodLink RL 85 yX12_feed ∈ lw_gd := gd_7 147 rfl rfl
theorem ml_L_89 : Cond.methodLink RL 89 yX12_open ∈ lw_gd := gd_7 151 rfl rfl
theorem ml_X12_312 : Cond.methodLink RX12 312 yX12_find ∈ lw_gd := gd_7 155 rfl rfl
theorem ml_X12_315 : Cond.methodLink RX12 315 yX12_keepRow ∈ lw_gd := gd_7 159 rfl rfl
theorem ml_L_94 : Cond.methodLink RL 94 yX12_tear ∈ lw_gd := gd_7 163 rfl rfl
theorem ml_L_99 : Cond.methodLink RL 99 yX12_put ∈ lw_gd := gd_7 167 rfl rfl
theorem ml_X12_318 : Cond.methodLink RX12 318 yX12_insert ∈ lw_gd := gd_7 171 rfl rfl
theorem ml_L_103 : Cond.methodLink RL 103 yX12_mend ∈ lw_gd := gd_7 175 rfl rfl
theorem ml_L_107 : Cond.methodLink RL 107 yX12_out ∈ lw_gd := gd_7 179 rfl rfl
theorem ml_X12_321 : Cond.methodLink RX12 321 yX12_remove ∈ lw_gd := gd_7 183 rfl rfl
theorem ml_L_111 : Cond.methodLink RL 111 yX12_bowls ∈ lw_gd := gd_7 187 rfl rfl
theorem ml_L_116 : Cond.methodLink RL 116 yX12_undo ∈ lw_gd := gd_7 191 rfl rfl
theorem ml_L_120 : Cond.methodLink RL 120 yX12_why ∈ lw_gd := gd_7 195 rfl rfl
theorem ml_L_126 : Cond.methodLink RL 126 yX12_now ∈ lw_gd := gd_7 199 rfl rfl
theorem ml_X12_332 : Cond.methodLink RX12 332 yX12_fail ∈ lw_gd := gd_7 203 rfl rfl
theorem ml_X12_336 : Cond.methodLink RX12 336 yX12_nowOf ∈ lw_gd := gd_7 207 rfl rfl
theorem ml_X12_324 : Cond.methodLink RX12 324 yJ9_max_7cf53 ∈ lw_gd := gd_7 211 rfl rfl
theorem ml_X12_329 : Cond.methodLink RX12 329 yX12_more ∈ lw_gd := gd_7 212 rfl rfl
theorem ml_L_133 : Cond.methodLink RL 133 yX12_score ∈ lw_gd := gd_7 216 rfl rfl
theorem ml_X12_342 : Cond.methodLink RX12 342 yX12_isTurn ∈ lw_gd := gd_7 220 rfl rfl
theorem ml_X12_345 : Cond.methodLink RX12 345 yX12_scoreOf ∈ lw_gd := gd_7 224 rfl rfl
theorem ml_X12_339 : Cond.methodLink RX12 339 yX12_sumOf ∈ lw_gd := gd_7 228 rfl rfl
theorem ml_L_137 : Cond.methodLink RL 137 yX12_overs ∈ lw_gd := gd_7 232 rfl rfl
theorem ml_L_140 : Cond.methodLink RL 140 yX12_entry ∈ lw_gd := gd_7 236 rfl rfl
theorem ml_L_143 : Cond.methodLink RL 143 yX12_bats ∈ lw_gd := gd_8 0 rfl rfl
theorem ml_X12_348 : Cond.methodLink RX12 348 yX12_batsOf ∈ lw_gd := gd_8 4 rfl rfl
theorem ml_L_146 : Cond.methodLink RL 146 yX12_fields ∈ lw_gd := gd_8 8 rfl rfl
theorem ml_X12_352 : Cond.methodLink RX12 352 yX12_fieldsOf ∈ lw_gd := gd_8 12 rfl rfl
theorem ml_L_149 : Cond.methodLink RL 149 yX12_record ∈ lw_gd := gd_8 16 rfl rfl
theorem ml_X12_355 : Cond.methodLink RX12 355 yX12_better ∈ lw_gd := gd_8 20 rfl rfl
theorem ml_X12_359 : Cond.methodLink RX12 359 yX12_recordOf ∈ lw_gd := gd_8 24 rfl rfl
theorem ml_L_153 : Cond.methodLink RL 153 yX12_image ∈ lw_gd := gd_8 28 rfl rfl
theorem ml_X12_365 : Cond.methodLink RX12 365 yX12_say ∈ lw_gd := gd_8 32 rfl rfl
theorem ml_L_157 : Cond.methodLink RL 157 yX12_told ∈ lw_gd := gd_8 36 rfl rfl
theorem ml_L_161 : Cond.methodLink RL 161 yX12_check ∈ lw_gd := gd_8 40 rfl rfl
theorem ml_X12_390 : Cond.methodLink RX12 390 yX12_readFull ∈ lw_gd := gd_8 44 rfl rfl
theorem ml_X12_393 : Cond.methodLink RX12 393 yX12_readImage ∈ lw_gd := gd_8 48 rfl rfl
theorem ml_X12_378 : Cond.methodLink RX12 378 yX12_read ∈ lw_gd := gd_8 52 rfl rfl
theorem ml_X12_381 : Cond.methodLink RX12 381 yX12_readPlayer ∈ lw_gd := gd_8 56 rfl rfl
theorem ml_X12_384 : Cond.methodLink RX12 384 yX12_readTurn ∈ lw_gd := gd_8 60 rfl rfl
theorem ml_X12_387 : Cond.methodLink RX12 387 yX12_placeWrong ∈ lw_gd := gd_8 64 rfl rfl
theorem ml_L_165 : Cond.methodLink RL 165 yX12_take ∈ lw_gd := gd_8 68 rfl rfl
theorem ml_L_168 : Cond.methodLink RL 168 yX12_list ∈ lw_gd := gd_8 72 rfl rfl
theorem ml_L_171 : Cond.methodLink RL 171 yX12_sum ∈ lw_gd := gd_8 76 rfl rfl
theorem ml_X11_48 : Cond.methodLinkNest RX11 48 yX8_init "BallBook" ∈ lw_nw := nw_2 53 rfl rfl
theorem ml_X9_80 : Cond.methodLinkNest RX9 80 yX11_table "BallBook" ∈ lw_nw := nw_3 110 rfl rfl
theorem ml_X9_115 : Cond.methodLinkNest RX9 115 yX11_counts "BallBook" ∈ lw_nw := nw_3 207 rfl rfl
theorem ml_X11_131 : Cond.methodLinkNest RX11 131 yX10_init "BallBook" ∈ lw_nw := nw_4 23 rfl rfl
theorem ml_X7_59 : Cond.methodLinkNest RX7 59 yX10_init "BallBook" ∈ lw_nw := nw_5 3 rfl rfl
theorem kl_L_8 : Cond.classLink RL 8 RX11 ∈ lw_gd := gd_1 27 rfl rfl
theorem kl_X11_13 : Cond.classLink RX11 13 RJx4a65c ∈ lw_gd := gd_1 35 rfl rfl
theorem kl_X11_20 : Cond.classLink RX11 20 RX0 ∈ lw_gd := gd_1 62 rfl rfl
theorem kl_X11_32 : Cond.classLink RX11 32 RX2 ∈ lw_gd := gd_1 79 rfl rfl
theorem kl_X2_9 : Cond.classLink RX2 9 RX1 ∈ lw_gd := gd_1 85 rfl rfl
theorem kl_X1_9 : Cond.classLink RX1 9 RX5 ∈ lw_gd := gd_1 92 rfl rfl
theorem kl_X11_39 : Cond.classLink RX11 39 RX6 ∈ lw_gd := gd_1 151 rfl rfl
theorem kl_X6_9 : Cond.classLink RX6 9 RX9 ∈ lw_gd := gd_1 157 rfl rfl
theorem kl_X9_9 : Cond.classLink RX9 9 RX4 ∈ lw_gd := gd_1 164 rfl rfl
theorem kl_X11_46 : Cond.classLink RX11 46 RX8 ∈ lw_gd := gd_2 51 rfl rfl
theorem kl_X8_9 : Cond.classLink RX8 9 RX4 ∈ lw_gd := gd_2 57 rfl rfl
theorem kl_X11_53 : Cond.classLink RX11 53 RX7 ∈ lw_gd := gd_2 67 rfl rfl
theorem kl_X11_82 : Cond.classLink RX11 82 RX3 ∈ lw_gd := gd_2 147 rfl rfl
theorem kl_X3_9 : Cond.classLink RX3 9 RX4 ∈ lw_gd := gd_2 153 rfl rfl
theorem kl_X3_20 : Cond.classLink RX3 20 RJx4a65c ∈ lw_gd := gd_2 155 rfl rfl
theorem kl_J7_110 : Cond.classLink RJ7 110 "[Ljava/lang/Object;" ∈ lw_gd := gd_3 3 rfl rfl
theorem kl_J7_2 : Cond.classLink RJ7 2 "java/lang/Object" ∈ lw_gd := gd_3 5 rfl rfl
theorem kl_Jx4a65c_7 : Cond.classLink RJx4a65c 7 "java/lang/Object" ∈ lw_gd := gd_3 13 rfl rfl
theorem kl_X3_56 : Cond.classLink RX3 56 RX10 ∈ lw_gd := gd_3 125 rfl rfl
theorem kl_X10_24 : Cond.classLink RX10 24 RX5 ∈ lw_gd := gd_3 140 rfl rfl
theorem kl_X11_129 : Cond.classLink RX11 129 RX10 ∈ lw_gd := gd_4 21 rfl rfl
theorem kl_X10_7 : Cond.classLink RX10 7 RJx4a65c ∈ lw_gd := gd_4 27 rfl rfl
theorem kl_X11_150 : Cond.classLink RX11 150 RX5 ∈ lw_gd := gd_4 49 rfl rfl
theorem kl_X7_37 : Cond.classLink RX7 37 RX3 ∈ lw_gd := gd_4 229 rfl rfl
theorem kl_X7_57 : Cond.classLink RX7 57 RX10 ∈ lw_gd := gd_5 2 rfl rfl
theorem kl_X7_114 : Cond.classLink RX7 114 RX5 ∈ lw_gd := gd_5 9 rfl rfl
theorem kl_L_13 : Cond.classLink RL 13 "java/util/NoSuchElementException" ∈ lw_gd := gd_5 34 rfl rfl
theorem kl_X11_224 : Cond.classLink RX11 224 "java/util/NoSuchElementException" ∈ lw_gd := gd_5 39 rfl rfl
theorem kl_L_47 : Cond.classLink RL 47 RX12 ∈ lw_gd := gd_6 26 rfl rfl
theorem ins_X11 : Cond.instantiable RX11 12 ∈ lw_gd := gd_1 28 rfl rfl
theorem ini_X11 : Cond.initialized RX11 ∈ lw_gd := gd_1 1 rfl rfl
theorem ins_Jx4a65c : Cond.instantiable RJx4a65c 3 ∈ lw_gd := gd_1 36 rfl rfl
theorem ini_Jx4a65c : Cond.initialized RJx4a65c ∈ lw_gd := gd_1 4 rfl rfl
theorem ins_X0 : Cond.instantiable RX0 2 ∈ lw_gd := gd_1 63 rfl rfl
theorem ini_X0 : Cond.initialized RX0 ∈ lw_gd := gd_1 5 rfl rfl
theorem ins_X2 : Cond.instantiable RX2 3 ∈ lw_gd := gd_1 80 rfl rfl
theorem ini_X2 : Cond.initialized RX2 ∈ lw_gd := gd_1 7 rfl rfl
theorem ins_X1 : Cond.instantiable RX1 5 ∈ lw_gd := gd_1 87 rfl rfl
theorem ini_X1 : Cond.initialized RX1 ∈ lw_gd := gd_1 8 rfl rfl
theorem ins_X5 : Cond.instantiable RX5 3 ∈ lw_gd := gd_1 93 rfl rfl
theorem ini_X5 : Cond.initialized RX5 ∈ lw_gd := gd_1 9 rfl rfl
theorem ins_X6 : Cond.instantiable RX6 10 ∈ lw_gd := gd_1 152 rfl rfl
theorem ini_X6 : Cond.initialized RX6 ∈ lw_gd := gd_1 10 rfl rfl
theorem ins_X9 : Cond.instantiable RX9 19 ∈ lw_gd := gd_1 159 rfl rfl
theorem ini_X9 : Cond.initialized RX9 ∈ lw_gd := gd_1 11 rfl rfl
theorem ins_X4 : Cond.instantiable RX4 3 ∈ lw_gd := gd_1 165 rfl rfl
theorem ini_X4 : Cond.initialized RX4 ∈ lw_gd := gd_1 12 rfl rfl
theorem ins_X8 : Cond.instantiable RX8 2 ∈ lw_gd := gd_2 52 rfl rfl
theorem ini_X8 : Cond.initialized RX8 ∈ lw_gd := gd_1 13 rfl rfl
theorem ins_X7 : Cond.instantiable RX7 5 ∈ lw_gd := gd_2 68 rfl rfl
theorem ini_X7 : Cond.initialized RX7 ∈ lw_gd := gd_1 14 rfl rfl
theorem ins_X3 : Cond.instantiable RX3 6 ∈ lw_gd := gd_2 148 rfl rfl
theorem ini_X3 : Cond.initialized RX3 ∈ lw_gd := gd_1 16 rfl rfl
theorem ins_X10 : Cond.instantiable RX10 1 ∈ lw_gd := gd_4 22 rfl rfl
theorem ini_X10 : Cond.initialized RX10 ∈ lw_gd := gd_1 22 rfl rfl
theorem ins_X12 : Cond.instantiable RX12 72 ∈ lw_gd := gd_6 27 rfl rfl
theorem ini_X12 : Cond.initialized RX12 ∈ lw_gd := gd_1 15 rfl rfl
theorem ca_X3 : Cond.castable RX3 RX3 ∈ lw_nw := nw_8 83 rfl rfl
theorem ca_X10 : Cond.castable RX10 RX10 ∈ lw_nw := nw_8 84 rfl rfl
theorem ca_X5 : Cond.castable RX5 RX5 ∈ lw_nw := nw_8 85 rfl rfl
theorem co_X11 : Cond.castable RX11 "java/lang/Object" ∈ lw_nw := nw_8 89 rfl rfl
theorem co_X0 : Cond.castable RX0 "java/lang/Object" ∈ lw_nw := nw_8 90 rfl rfl
theorem co_X2 : Cond.castable RX2 "java/lang/Object" ∈ lw_nw := nw_8 91 rfl rfl
theorem co_X1 : Cond.castable RX1 "java/lang/Object" ∈ lw_nw := nw_8 92 rfl rfl
theorem co_X5 : Cond.castable RX5 "java/lang/Object" ∈ lw_nw := nw_8 93 rfl rfl
theorem co_X6 : Cond.castable RX6 "java/lang/Object" ∈ lw_nw := nw_8 94 rfl rfl
theorem co_X9 : Cond.castable RX9 "java/lang/Object" ∈ lw_nw := nw_8 95 rfl rfl
theorem co_X4 : Cond.castable RX4 "java/lang/Object" ∈ lw_nw := nw_8 96 rfl rfl
theorem co_X8 : Cond.castable RX8 "java/lang/Object" ∈ lw_nw := nw_8 97 rfl rfl
theorem co_X7 : Cond.castable RX7 "java/lang/Object" ∈ lw_nw := nw_8 98 rfl rfl
theorem co_X12 : Cond.castable RX12 "java/lang/Object" ∈ lw_nw := nw_8 99 rfl rfl
theorem co_X3 : Cond.castable RX3 "java/lang/Object" ∈ lw_nw := nw_8 100 rfl rfl
theorem co_X10 : Cond.castable RX10 "java/lang/Object" ∈ lw_nw := nw_8 101 rfl rfl
theorem sf_mod : Cond.sameField "java/util/ArrayList" "java/util/AbstractList" "modCount" "I" ∈ lw_gd := gd_1 53 rfl rfl
theorem gs_Jx4a65c_39 : Cond.fieldLink RJx4a65c 39 "java/util/ArrayList" "DEFAULTCAPACITY_EMPTY_ELEMENTDATA" "[Ljava/lang/Object;" ∈ lw_gd := gd_1 47 rfl rfl
theorem gs_Jx4a65c_63 : Cond.fieldLink RJx4a65c 63 "java/util/ArrayList" "modCount" "I" ∈ lw_gd := gd_1 52 rfl rfl
theorem gs_X9_108 : Cond.fieldLinkNest RX9 108 "BallBook" "LEAST_V" "[I" "BallBook" ∈ lw_nw := nw_3 203 rfl rfl
theorem gs_X9_112 : Cond.fieldLinkNest RX9 112 "BallBook" "MOST_V" "[I" "BallBook" ∈ lw_nw := nw_3 205 rfl rfl
theorem mg_J7_86 : Cond.methodLink RJ7 86 ⟨"java/lang/Object", "getClass", "()Ljava/lang/Class;"⟩ ∈ lw_gd := gd_2 221 rfl rfl
theorem im_gc : Cond.instanceMethod ⟨"java/lang/Object", "getClass", "()Ljava/lang/Class;"⟩ ∈ lw_gd := gd_2 222 rfl rfl
theorem nt_gc : Cond.native ⟨"java/lang/Object", "getClass", "()Ljava/lang/Class;"⟩ ∈ lw_gd := gd_2 239 rfl rfl
theorem ma_J7_150 : Cond.methodLink RJ7 150 arraycopyName ∈ lw_gd := gd_3 9 rfl rfl
theorem st_ac : Cond.static arraycopyName ∈ lw_gd := gd_3 10 rfl rfl
theorem nt_ac : Cond.native arraycopyName ∈ lw_gd := gd_3 11 rfl rfl
theorem ma_Jx4a65c_112 : Cond.methodLink RJx4a65c 112 arraycopyName ∈ lw_gd := gd_4 153 rfl rfl
theorem sl_gc : Cond.selects "[Ljava/lang/Object;" ⟨"java/lang/Object", "getClass", "()Ljava/lang/Class;"⟩ ⟨"java/lang/Object", "getClass", "()Ljava/lang/Class;"⟩ ∈ lw_gd := gd_8 87 rfl rfl
theorem dc_gc : Cond.declares ⟨"java/lang/Object", "getClass", "()Ljava/lang/Class;"⟩ ∈ lw_nw := nw_8 88 rfl rfl
theorem max_cd : Cond.code Lib.Math.max.name Lib.Math.max.code 2 (some .int) ∈ lw_gd := gd_1 70 rfl rfl
theorem max_st : Cond.static Lib.Math.max.name ∈ lw_gd := gd_1 69 rfl rfl
theorem min_cd : Cond.code Lib.Math.min.name Lib.Math.min.code 2 (some .int) ∈ lw_gd := gd_3 8 rfl rfl
theorem min_st : Cond.static Lib.Math.min.name ∈ lw_gd := gd_3 7 rfl rfl
theorem in_mth : Cond.initialized "java/lang/Math" ∈ lw_gd := gd_1 6 rfl rfl
theorem in_sys : Cond.initialized "java/lang/System" ∈ lw_gd := gd_1 19 rfl rfl
theorem kc_J8_200 : Cond.constant RJ8 200 2147483639 ∈ lw_gd := gd_2 214 rfl rfl
theorem kc_X12_31 : Cond.constant RX12 31 208000 ∈ lw_gd := gd_6 32 rfl rfl
theorem kc_X12_41 : Cond.constant RX12 41 240000 ∈ lw_gd := gd_6 33 rfl rfl
theorem kc_X11_372 : Cond.constantLong RX11 372 1000 ∈ lw_gd := gd_3 113 rfl rfl
theorem kc_X11_374 : Cond.constantLong RX11 374 51840000 ∈ lw_gd := gd_3 114 rfl rfl
theorem kc_X11_309 : Cond.constantLong RX11 309 31 ∈ lw_gd := gd_6 21 rfl rfl
theorem kc_X12_196 : Cond.constantLong RX12 196 1000 ∈ lw_gd := gd_7 71 rfl rfl
theorem kc_X12_198 : Cond.constantLong RX12 198 51840000 ∈ lw_gd := gd_7 72 rfl rfl
theorem kc_X12_396 : Cond.constantLong RX12 396 31 ∈ lw_gd := gd_8 80 rfl rfl
theorem ar_int : Cond.arrayClass .int ∈ lw_gd := gd_1 61 rfl rfl
theorem ar_byte : Cond.arrayClass .byte ∈ lw_gd := gd_5 104 rfl rfl
theorem ar_boolean : Cond.arrayClass .boolean ∈ lw_gd := gd_7 11 rfl rfl
theorem ar_long : Cond.arrayClass .long ∈ lw_gd := gd_8 81 rfl rfl
theorem im_obj : Cond.instanceMethod Lib.objectInit ∈ lw_gd := gd_1 33 rfl rfl
theorem cd_obj : Cond.code Lib.objectInit ⟨#[0xb1]⟩ 1 none ∈ lw_gd := gd_1 34 rfl rfl
