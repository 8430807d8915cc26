/-! methods with a catch of their own: the law's helpers -/
def MW (g : aG) (l : Launch) (y : MethodName) (cc : ByteArray) (nL : Nat) (ret : Option FieldType) (hh : List (Nat × Nat × Nat × Nat)) (d : Nat) (as : List Value) (h : aH) (R : Option Value × aH) : Prop :=
  hz h ≤ hz R.2 ∧ hs h ≤ hs R.2 ∧ Met l y (Cond.codeWith y cc nL ret hh :: lw_gd) (rmA d (hz R.2 - hz h) (hs R.2 - hs h)) (va_Pc as (PcA g h)) (QcA g R) (hz R.2 - hz h) (hs R.2 - hs h) (gA g)
section RowsX
variable {g : aG} {l : Launch} {cc : ByteArray} {nL : Nat} {y : MethodName} {ret : Option FieldType} {d : Nat} {h0 : aH} {zc zs : Nat} {Z : List Frame → Array Value → State → State → Prop} {pc : Nat} {lv : List (Nat × Value)} {st : List Value} {h : aH} {hh : List (Nat × Nat × Nat × Nat)}
theorem MW.of {R : Option Value × aH} {as : List Value} {lv0 : List (Nat × Value)} (hy : plainName y.cls = true) (hlv : lv_args 0 as = lv0) (hn : (lg_sl as).length ≤ nL) (body : Ev g l cc nL y ret d h R 0 lv0 [] h) : MW g l y cc nL ret hh d as h R := by
  refine ⟨body.1, body.2.1, ?_⟩
  refine va_MetW (cc := cc) (maxL := nL) (ret := ret) (hh := hh) hy rfl ?_
  intro p e s m args below meth c s₁ B hml hv
  obtain ⟨rfl, hsz, hH, hK, hro, hnw, hao⟩ := hv
  have hts := atoms_spec (ws := Cond.codeWith y cc nL ret hh :: lw_gd) B.pre
  have C : Cx g cc nL y ret p s m as.toArray meth c := ⟨B.exec, B.bytes, hml, findClass_of_methodNamed B.named, fun w hw => hts w (List.mem_cons_of_mem _ hw), B.returns, B.notSynchronized, (name_of_methodNamed B.named B.method).1, hK, hro, hnw, hao, B.named, B.method, (Stand.of_body B).code⟩
  have hl := lv_entry as (n := nL) hn
  rw [hlv] at hl
  have w := body.2.2 p e s m as.toArray below meth c C s.heap [] _ hl hH va_S.rf hsz (Nat.le_refl _) (Nat.le_refl _)
  rw [Nat.sub_self, Nat.sub_self] at w
  rw [lg_entry_eq]
  exact w
variable {y1 : MethodName} {c1 : ByteArray} {n1 : Nat} {r1 : Option FieldType} {d1 n idx b : Nat} {As stk : List Value}
theorem ev_callX {h1 : aH} {ci N a0 a1 tgt ct : Nat} {T : u_T} {ty : Nat → FieldType} (hM : MX g l y1 c1 n1 r1 d1 (.ref b :: As) h h1) (ce : CeF y1 c1 n1 r1 n) (hi : Cond.instanceMethod y1 ∈ lw_gd) (hsl : Cond.selects y1.cls y1 y1 ∈ lw_gd) (hw : Cond.methodLink y.cls idx y1 ∈ lw_gd) (cl : ClF ci y1.cls T N ty) (hKb : hK h b = ci + 1)
    (hcw : Cond.codeWith y cc nL ret [(a0, a1, tgt, ct)] ∈ lw_gd) (hcov : covers ⟨a0, a1, tgt, ct⟩ pc = true) (hct : ct ≠ 0) (hk : Cond.classLink y.cls ct NSE ∈ lw_gd) (hca : Cond.castable NSE NSE ∈ lw_nw)
    (hd : decode cc pc = .ok (.invokevirtual idx, 3)) (hdd : d1 + 1 ≤ d) (hst : (st.map fun v => v.category).sum ≤ 8) (hAs : As.length = n) (hstk : stk = As.reverse ++ .ref b :: st) (kk : ∀ q : Nat, EvG g l cc nL y ret d h0 zc zs Z tgt lv [.ref q] (nX h1)) : EvG g l cc nL y ret d h0 zc zs Z pc lv stk h := by
  have m1 : hz h ≤ hz h1 + 1 := hM.1
  have m2 : hs h ≤ hs h1 + 6 := hM.2.1
  have k1 : hz h1 + 1 ≤ zc := (kk 0).1
  have k2 : hs h1 + 6 ≤ zs := (kk 0).2.1
  refine ⟨Nat.le_trans m1 k1, Nat.le_trans m2 k2, fun p e s m args below meth c X H locs ls hl hH hS hsz e1 e2 => W.size fun hsz2 => ?_⟩
  have w := fun q H1 locs1 hH hS => (kk q).2.2 p e s m args below meth c X H1 locs1 ls hl hH hS hsz (by show hz h0 ≤ hz h1 + 1; omega) (by show hs h0 ≤ hs h1 + 6; omega)
  have ec : hz (nX h1) - hz h0 = (hz h - hz h0) + (hz h1 + 1 - hz h) := by show hz h1 + 1 - hz h0 = _; omega
  have es : hs (nX h1) - hs h0 = (hs h - hs h0) + (hs h1 + 6 - hs h) := by show hs h1 + 6 - hs h0 = _; omega
  rw [ec, es] at w
  obtain ⟨hx, hb, hml, hown, hts, hr, hlk, hnm, hKs, hro, hnw, hao, hnd⟩ := X
  have hHz : H.size = hz h := by have := hH.choose_spec.2.2.2.1; omega
  have htb : c.exceptionTable.toList = [] ++ (⟨a0, a1, tgt, ct⟩ : ExceptionTableEntry) :: [] := by
    obtain ⟨m9, meth9, c9, hn9, q1, q2, -, -, q6, -⟩ := Cond.codeWith_spec (hts _ hcw)
    cases Option.some.inj (hn9.symm.trans hnd.1)
    cases Option.some.inj (q1.symm.trans hnd.2.1)
    cases Option.some.inj (q2.symm.trans hnd.2.2)
    have : c.exceptionTable.toList = tableOf [(a0, a1, tgt, ct)] := by rw [← q6, table_eq]
    exact this
  have hrecv : ∃ cell : Cell, H[b]? = some cell ∧ cell.vm.isStatics = false ∧ s.vm.findClass y1.cls = some cell.cls := by
    obtain ⟨L, hP, hD, hL, hzz, hB, hL2⟩ := hH
    obtain ⟨q0, he⟩ := HW.at (g := g) (H := H) hL (a := b) (by omega)
    rw [cf_obj hKb cl.2.2.2.2] at he
    exact va_recv hKs hP cl.1 he
  have cb : CallB (rmA d (zc - hz h0) (zs - hs h0)) s args y.cls idx y1 c1 n1 r1 (Cond.code y1 c1 n1 r1 :: lw_gd) (rmA d1 (hz h1 + 1 - hz h) (hs h1 + 6 - hs h)) (hz h1 + 1 - hz h) (hs h1 + 6 - hs h) n :=
    callB_of n hts (gi_code ce.1) rfl rfl rfl (hts _ ce.2.1) (hts _ hw) ce.2.2.1 ⟨hdd, by have := ce.2.2.2; show 8 + (n1 + 11) + (38 * d1 + 12) ≤ 38 * d + 12; omega⟩
  have run := vx_runV (Ts := lw_gd) (H := H) (locs := locs) (cells := hz h - hz h0) (slots := hs h - hs h0) (g := F0 m pc ls stk) (p := p) (e := e) (below := below) (meth := meth) ⟨hx, hb, hml, hown, hts⟩ hM.2.2 ⟨cb, hts _ hi, hts _ hsl⟩ ⟨pc_blind, hrecv, fun U hU hW => ⟨rfl, by rw [hU]; exact hHz, by rw [hU]; exact hH, va_K.moved hW.alike hKs, by rw [hU]; exact (hro.kept hS.2.1).moved hW.alike, hnw.warm hW, hao.1.moved hW.alike, hao.2.1.moved hW.alike, hao.2.2.moved hW.alike⟩⟩ rfl hAs hl.1 hstk (lv_room hst) hd ⟨by show hz h - hz h0 + (hz h1 + 1 - hz h) ≤ zc - hz h0; omega, by show hs h - hs h0 + (hs h1 + 6 - hs h) ≤ zs - hs h0; omega⟩
  intro T' hT X'
  rcases run T' hT X' with ⟨v, st₀, t, T2, L, -, -, -, -, -, hq, -⟩ | ⟨q, st₀, t, T2, L, E, ce', e0, X2, hL, f1, f2, ⟨hE, hH1, hF1⟩, hcell, hv, hcl, hst2⟩
  · exact hq.elim
  · subst hE
    have hS1 : va_S (gA g) s.heap T2.heap (locs ++ L) := by
      refine ⟨?_, ?_, ?_⟩
      · rw [f1]; have := hF1.1; rw [e0] at this; exact Nat.le_trans hS.1 this
      · intro z q1 q2
        rw [f1]
        have := hF1.2 z (by rw [e0]; exact Nat.lt_of_lt_of_le q1 hS.1) q2
        rw [e0] at this
        exact this.trans (hS.2.1 z q1 q2)
      · intro z hz'
        rcases List.mem_append.mp hz' with q1 | q1
        · exact hS.2.2 z q1
        · exact hL z q1
    obtain ⟨t2, a2, b2⟩ := vx_catch (rest := st) (pc := pc) (ls := ls) hown [] ⟨a0, a1, tgt, ct⟩ [] htb (fun z hz' => nomatch hz') hcov hct (hts _ hk) (va_Nw.use rfl (hnw.1 _ hca)) (by rw [f1]; exact hcell) hv hcl (w q T2.heap (locs ++ L) (by rw [f1]; exact hH1) hS1) T2 rfl X2
    exact ⟨t2, hst2.trans a2, b2⟩
theorem ev_callSW {R1 : Option Value × aH} (hM : MW g l y1 c1 n1 r1 hh d1 As h R1) (hcw : Cond.codeWith y1 c1 n1 r1 hh ∈ lw_gd) (hini : Cond.initialized y1.cls ∈ lw_gd) (hnn : (y1.cls ≠ "java/lang/invoke/MethodHandle" ∧ y1.cls ≠ "java/lang/invoke/VarHandle" ∧ (parseMethodDescriptor y1.desc).map (fun d => d.parameters.length) = some n) ∧ n1 ≤ 19) (hi : Cond.static y1 ∈ lw_gd) (hw : Cond.methodLink y.cls idx y1 ∈ lw_gd)
    (hd : decode cc pc = .ok (.invokestatic idx, 3)) (hdd : d1 + 1 ≤ d) (hst : (st.map fun v => v.category).sum ≤ 8) (hAs : As.length = n) (hstk : stk = As.reverse ++ st) (kk : EvG g l cc nL y ret d h0 zc zs Z (pc + 3) lv (R1.1.toList ++ st) R1.2) : EvG g l cc nL y ret d h0 zc zs Z pc lv stk h := by
  have m1 := hM.1
  have m2 := hM.2.1
  have k1 := kk.1
  have k2 := kk.2.1
  refine ⟨Nat.le_trans m1 k1, Nat.le_trans m2 k2, fun p e s m args below meth c X H locs ls hl hH hS hsz h1 h2 => W.size fun hsz2 => ?_⟩
  have w := fun H1 locs1 hH hS => kk.2.2 p e s m args below meth c X H1 locs1 ls hl hH hS hsz (by omega) (by omega)
  obtain ⟨hx, hb, hml, hown, hts, hr, hlk, hnm, hKs, hro, hnw, hao, hnd⟩ := X
  have hHz : H.size = hz h := by have := hH.choose_spec.2.2.2.1; omega
  have hG : GoodIn lw_gd (va_wsS y.cls idx y1 (Cond.codeWith y1 c1 n1 r1 hh :: lw_gd)) := by
    intro w hw'
    have h3 : w ∈ lw_gd := by
      simp only [va_wsS, List.mem_append, List.mem_cons, List.not_mem_nil, or_false] at hw'
      rcases hw' with (rfl | rfl | rfl) | rfl | q
      · exact hw
      · exact hi
      · exact hini
      · exact hcw
      · exact q
    exact ⟨h3, good_of_word (List.mem_filter.mp h3).2⟩
  have cb : vx_CSW (rmA d (zc - hz h0) (zs - hs h0)) s args y.cls idx y1 c1 n1 r1 hh (Cond.codeWith y1 c1 n1 r1 hh :: lw_gd) (rmA d1 (hz R1.2 - hz h) (hs R1.2 - hs h)) (hz R1.2 - hz h) (hs R1.2 - hs h) n :=
    vx_cwSW n hts hG rfl rfl rfl hnn.1 ⟨hdd, by have := hnn.2; show 8 + (n1 + 11) + (38 * d1 + 12) ≤ 38 * d + 12; omega⟩
  refine W.back (hX := h) (vx_runSW (Ts := lw_gd) ⟨hx, hb, hml, hown, hts⟩ hM.2.2 cb ⟨pc_blind, fun U hU hW => ⟨rfl, by rw [hU]; exact hHz, by rw [hU]; exact hH, va_K.moved hW.alike hKs, by rw [hU]; exact (hro.kept hS.2.1).moved hW.alike, hnw.warm hW, hao.1.moved hW.alike, hao.2.1.moved hW.alike, hao.2.2.moved hW.alike⟩⟩ rfl hAs hl.1 hstk (lv_room hst) hd ⟨by show hz h - hz h0 + (hz R1.2 - hz h) ≤ zc - hz h0; omega, by show hs h - hs h0 + (hs R1.2 - hs h) ≤ zs - hs h0; omega⟩) hS ?_ ?_ w
  · omega
  · omega
end RowsX
