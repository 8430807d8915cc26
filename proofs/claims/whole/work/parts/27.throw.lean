/-! a throw of NoSuchElementException: what is left behind -/
def NSE : String := "java/util/NoSuchElementException"
def nseN : List String := ["java/lang/Exception"]
/-- the heap with an exception's cell more -/
def nX (h : aH) : aH := (h.1, h.2.1, h.2.2.1, h.2.2.2.1, h.2.2.2.2.1, h.2.2.2.2.2.1, h.2.2.2.2.2.2.1, hz h + 1, hs h + 6, hE h)
theorem HW.grown {g : aG} {h : aH} {H H1 : Heap} (hH : HW g h H) (hHz : H.size = hz h) (hz1 : H.size < H1.size) (o1 : ∀ q : Nat, q < H.size → H1[q]? = H[q]?) : HW g (nX h) H1 := by
  obtain ⟨L, hP, hD, hL, hzz, hB, hL2⟩ := hH
  refine ⟨L, hP.kept (fun k x hx => o1 x.1 ((hP k x hx).lt)), hD, hL, ?_, ⟨?_, hB.2⟩, fun a ha => ⟨(hL2 a ha).1, ?_⟩⟩
  · show hz h + 1 ≤ H1.size
    omega
  · show gB g ≤ hz h + 1
    have := hB.1; omega
  · show a < hz h + 1
    have := (hL2 a ha).2; omega
def XcA (g : aG) (h : aH) : String → State → State → Prop := fun E st t => E = NSE ∧ HW g (nX h) t.heap ∧ va_F (gA g) st t
def ZX (g : aG) (h0 h1 : aH) : List Frame → Array Value → State → State → Prop := fun below args s => vx_MQ below (fun _ _ _ _ => False) (XcA g h1) args s (hz h1 + 1 - hz h0) (hs h1 + 6 - hs h0) (gA g)
/-- a method that throws: the heap it leaves is h1, with the exception's cell more -/
def MX (g : aG) (l : Launch) (y : MethodName) (cc : ByteArray) (nL : Nat) (ret : Option FieldType) (d : Nat) (as : List Value) (h h1 : aH) : Prop :=
  hz h ≤ hz h1 + 1 ∧ hs h ≤ hs h1 + 6 ∧ vx_Met l y (Cond.code y cc nL ret :: lw_gd) (rmA d (hz h1 + 1 - hz h) (hs h1 + 6 - hs h)) (va_Pc as (PcA g h)) (fun _ _ _ _ => False) (XcA g h1) (hz h1 + 1 - hz h) (hs h1 + 6 - hs h) (gA g)
theorem MX.of {g : aG} {l : Launch} {cc : ByteArray} {nL : Nat} {y : MethodName} {ret : Option FieldType} {d : Nat} {h h1 : aH} {as : List Value} {lv0 : List (Nat × Value)} (hy : plainName y.cls = true) (hlv : lv_args 0 as = lv0) (hn : (lg_sl as).length ≤ nL) (body : EvG g l cc nL y ret d h (hz h1 + 1) (hs h1 + 6) (ZX g h h1) 0 lv0 [] h) : MX g l y cc nL ret d as h h1 := by
  refine ⟨body.1, body.2.1, ?_⟩
  refine vx_ofW (cc := cc) (maxL := nL) (ret := ret) hy rfl ?_
  intro p e s m args below meth c s₁ B hml _ hv
  obtain ⟨rfl, hsz, hH, hK, hro, hnw, hao⟩ := hv
  have hts := atoms_spec (ws := Cond.code y cc nL ret :: lw_gd) B.pre
  have C : Cx g cc nL y ret p s m as.toArray meth c := ⟨B.exec, B.bytes, hml, findClass_of_methodNamed B.named, fun w hw => hts w (List.mem_cons_of_mem _ hw), B.returns, B.notSynchronized, (name_of_methodNamed B.named B.method).1, hK, hro, hnw, hao, B.named, B.method, (Stand.of_body B).code⟩
  have hl := lv_entry as (n := nL) hn
  rw [hlv] at hl
  have w := body.2.2 p e s m as.toArray below meth c C s.heap [] _ hl hH va_S.rf hsz (Nat.le_refl _) (Nat.le_refl _)
  rw [Nat.sub_self, Nat.sub_self] at w
  rw [lg_entry_eq]
  exact w
abbrev nseC : ByteArray := prog_30_method_4_code
theorem nse_0 : decode nseC 0 = .ok (.aload_n 0, 1) := by decide +kernel
theorem nse_1 : decode nseC 1 = .ok (.aload_n 1, 1) := by decide +kernel
theorem nse_2 : decode nseC 2 = .ok (.invokespecial 13, 3) := by decide +kernel
theorem nse_5 : decode nseC 5 = .ok (.return_, 1) := by decide +kernel
theorem tw_eq : nx_atS "BallBook" 228 NSE 13 nseC "java/lang/RuntimeException" nseN = [116, 1114, 1123, 1125, 1128, 1130, 1115, 1116, 126, 127, 1117, 1122, 1126, 1146, 1104, 1147, 1106, 1148, 1108, 1118, 1120, 1110, 1142, 1143, 1145, 1110, 1133, 1134, 1135, 1136, 1096, 1136, 1137, 1138, 1139, 1098, 1139, 1140, 1141, 1142, 1100, 1132, 1093, 1094, 1101, 1102, 1103, 1105, 1107, 1109, 1113, 1112, 1111].filterMap (fun i => lw_tbl[i]?) := by decide +kernel
theorem tw_gn : (nx_atS "BallBook" 228 NSE 13 nseC "java/lang/RuntimeException" nseN).all (fun w => goodWord w || nwWord w) = true := by decide +kernel
theorem tw_ot : (Cond.classLink "BallBook" 224 NSE :: Cond.initialized NSE :: nx_atS "BallBook" 228 NSE 13 nseC "java/lang/RuntimeException" nseN).all vx_ot = true := by decide +kernel
theorem tw_fit : Bundle.fit NSE = true ∧ Bundle.fit "java/lang/RuntimeException" = true ∧ nseN.all Bundle.fit = true := by decide +kernel
theorem tw_all {args : Array Value} {s : State} (hts : ∀ w ∈ lw_gd, w.before args s = true) (hnw : aNw s) : ∀ w ∈ nx_atS "BallBook" 228 NSE 13 nseC "java/lang/RuntimeException" nseN, w.before args s = true := by
  intro w hw
  have h1 := List.all_eq_true.mp tw_gn w hw
  rw [tw_eq] at hw
  obtain ⟨i, -, hi⟩ := List.mem_filterMap.mp hw
  have hm : w ∈ lw_tbl := List.mem_of_getElem? hi
  rw [Bool.or_eq_true] at h1
  rcases h1 with q | q
  · exact hts _ (List.mem_filter.mpr ⟨hm, q⟩)
  · exact va_Nw.use (nw_tab q) (hnw.1 _ (List.mem_filter.mpr ⟨hm, q⟩))
theorem ev_throw {g : aG} {l : Launch} {cc : ByteArray} {nL : Nat} {y : MethodName} {ret : Option FieldType} {d : Nat} {h0 : aH} {pc : Nat} {lv : List (Nat × Value)} {h : aH} {is : Nat} {text : String} (hl : l.stackTraces = false) (hyc : y.cls = "BallBook") (hcd : Cond.code y cc nL ret ∈ lw_gd) (hst : (is, text) ∈ aSt) (hk : Cond.classLink "BallBook" 224 NSE ∈ lw_gd) (hini : Cond.initialized NSE ∈ lw_gd) (hdd : 6 ≤ d)
    (d0 : decode cc pc = .ok (.new 224, 3)) (d3 : decode cc (pc + 3) = .ok (.dup, 1)) (d4 : decode cc (pc + 4) = .ok (.ldc is, 2)) (d6 : decode cc (pc + 6) = .ok (.invokespecial 228, 3)) (d9 : decode cc (pc + 9) = .ok (.athrow, 1)) :
    EvG g l cc nL y ret d h0 (hz h + 1) (hs h + 6) (ZX g h0 h) pc lv [] h := by
  refine ⟨by omega, by omega, fun p e s m args below meth c X H locs ls hlv hH hS hsz h1 h2 => W.size fun hsz2 => ?_⟩
  obtain ⟨hx, hb, hml, hown, hts, hr, hlk, hnm, hKs, hro, hnw, hao, hnd⟩ := X
  have hHz : H.size = hz h := by have := hH.choose_spec.2.2.2.1; omega
  have ht : ∀ x ∈ c.exceptionTable.toList, False := by
    obtain ⟨meth9, c9, q1, q2, -, -, -, -, q7, -⟩ := Cond.code_spec hnd.1 (hts _ hcd)
    cases Option.some.inj (q1.symm.trans hnd.2.1)
    cases Option.some.inj (q2.symm.trans hnd.2.2)
    intro x hx
    rw [Array.isEmpty_iff.mp q7] at hx
    cases hx
  obtain ⟨sa, hsa⟩ := hnw.2 _ hst
  rw [hyc] at hown
  refine nvx_throwS (names := nseN) (cls := NSE) (own := "BallBook") (y1 := "java/lang/RuntimeException") (ik := 224) (is := is) (ic := 228) (text := text) (sa := sa) (A := gA g) hx hb hl nse_0 nse_1 nse_2 nse_5 tw_fit.2.1 hown tw_fit.1 (fun n hn => List.all_eq_true.mp tw_fit.2.2 n hn) (hts _ hk) (hts _ hini) hsa (tw_all hts hnw) (fun w hw => List.all_eq_true.mp tw_ot w hw) hro.2.2.2.2.2.2.2.1 hro.2.2.2.2.2.2.2.2.1 hS (hlv.1.trans hml.symm) d0 d3 d4 d6 d9 (fun x hx => (ht x hx).elim) ?_ ?_ ?_ ?_ hlk (fun t _ hzt ho => ⟨rfl, HW.grown hH hHz hzt ho, ?_⟩) hS.2.2 ?_ ?_
  · show 1 + 4 < d; omega
  · show 0 + (13 * (1 + 2) + 43) ≤ 38 * d + 12; omega
  · show hz h - hz h0 + 1 ≤ hz h + 1 - hz h0; omega
  · show hs h - hs h0 + 6 ≤ hs h + 6 - hs h0; omega
  · refine ⟨Nat.le_trans hS.1 (Nat.le_of_lt hzt), fun q q1 q2 => (ho q (Nat.lt_of_lt_of_le q1 hS.1)).trans (hS.2.1 q q1 q2)⟩
  · omega
  · omega
theorem ev_throwW {g : aG} {l : Launch} {cc : ByteArray} {nL : Nat} {y : MethodName} {ret : Option FieldType} {d : Nat} {h0 : aH} {pc : Nat} {lv : List (Nat × Value)} {h : aH} {is : Nat} {text : String} (hl : l.stackTraces = false) (hyc : y.cls = "BallBook") (hcd : Cond.code y cc nL ret ∈ lw_gd) (hst : (is, text) ∈ aSt) (hk : Cond.classLink "BallBook" 224 NSE ∈ lw_gd) (hini : Cond.initialized NSE ∈ lw_gd) (hdd : 6 ≤ d)
    (d0 : decode cc pc = .ok (.new 224, 3)) (d3 : decode cc (pc + 3) = .ok (.dup, 1)) (d4 : decode cc (pc + 4) = .ok (.ldc_w is, 3)) (d6 : decode cc (pc + 7) = .ok (.invokespecial 228, 3)) (d9 : decode cc (pc + 10) = .ok (.athrow, 1)) :
    EvG g l cc nL y ret d h0 (hz h + 1) (hs h + 6) (ZX g h0 h) pc lv [] h := by
  refine ⟨by omega, by omega, fun p e s m args below meth c X H locs ls hlv hH hS hsz h1 h2 => W.size fun hsz2 => ?_⟩
  obtain ⟨hx, hb, hml, hown, hts, hr, hlk, hnm, hKs, hro, hnw, hao, hnd⟩ := X
  have hHz : H.size = hz h := by have := hH.choose_spec.2.2.2.1; omega
  have ht : ∀ x ∈ c.exceptionTable.toList, False := by
    obtain ⟨meth9, c9, q1, q2, -, -, -, -, q7, -⟩ := Cond.code_spec hnd.1 (hts _ hcd)
    cases Option.some.inj (q1.symm.trans hnd.2.1)
    cases Option.some.inj (q2.symm.trans hnd.2.2)
    intro x hx
    rw [Array.isEmpty_iff.mp q7] at hx
    cases hx
  obtain ⟨sa, hsa⟩ := hnw.2 _ hst
  rw [hyc] at hown
  refine nvx_throwSW (names := nseN) (cls := NSE) (own := "BallBook") (y1 := "java/lang/RuntimeException") (ik := 224) (is := is) (ic := 228) (text := text) (sa := sa) (A := gA g) hx hb hl nse_0 nse_1 nse_2 nse_5 tw_fit.2.1 hown tw_fit.1 (fun n hn => List.all_eq_true.mp tw_fit.2.2 n hn) (hts _ hk) (hts _ hini) hsa (tw_all hts hnw) (fun w hw => List.all_eq_true.mp tw_ot w hw) hro.2.2.2.2.2.2.2.1 hro.2.2.2.2.2.2.2.2.1 hS (hlv.1.trans hml.symm) d0 d3 d4 d6 d9 (fun x hx => (ht x hx).elim) ?_ ?_ ?_ ?_ hlk (fun t _ hzt ho => ⟨rfl, HW.grown hH hHz hzt ho, ?_⟩) hS.2.2 ?_ ?_
  · show 1 + 4 < d; omega
  · show 0 + (13 * (1 + 2) + 43) ≤ 38 * d + 12; omega
  · show hz h - hz h0 + 1 ≤ hz h + 1 - hz h0; omega
  · show hs h - hs h0 + 6 ≤ hs h + 6 - hs h0; omega
  · refine ⟨Nat.le_trans hS.1 (Nat.le_of_lt hzt), fun q q1 q2 => (ho q (Nat.lt_of_lt_of_le q1 hS.1)).trans (hS.2.1 q q1 q2)⟩
  · omega
  · omega
