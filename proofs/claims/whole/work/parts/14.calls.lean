section RowsC
variable {g : aG} {l : Launch} {cc : ByteArray} {nL : Nat} {y : MethodName} {ret : Option FieldType} {d : Nat} {h0 : aH} {R : Option Value × aH} {pc : Nat} {lv : List (Nat × Value)} {st : List Value} {h : aH}
theorem ev_iret {v : Int32} (hd : decode cc pc = .ok (.ireturn, 1)) : Ev g l cc nL y (some .int) d h0 (some (.int v), h) pc lv [.int v] h := by
  refine ⟨Nat.le_refl _, Nat.le_refl _, fun p e s m args below meth c X H locs ls hl hH hS hsz h1 h2 => ?_⟩
  obtain ⟨hx, hb, hml, hown, hts, hr, hlk, hnm, hKs, hro, hnw', hao, hnd⟩ := X
  exact W.iret hx hb hr (fun t ht _ => ⟨rfl, by rw [ht]; exact hH, hS.F ht⟩) hS.2.2 hd
theorem ev_zret {v : Int32} (hn : narrow .boolean (.int v) = .int v) (hd : decode cc pc = .ok (.ireturn, 1)) : Ev g l cc nL y (some .boolean) d h0 (some (.int v), h) pc lv [.int v] h := by
  refine ⟨Nat.le_refl _, Nat.le_refl _, fun p e s m args below meth c X H locs ls hl hH hS hsz h1 h2 => ?_⟩
  obtain ⟨hx, hb, hml, hown, hts, hr, hlk, hnm, hKs, hro, hnw', hao, hnd⟩ := X
  exact W.zret hx hb hr hn (fun t ht _ => ⟨rfl, by rw [ht]; exact hH, hS.F ht⟩) hS.2.2 hd
theorem ev_lret {v : Int64} (hd : decode cc pc = .ok (.lreturn, 1)) : Ev g l cc nL y (some .long) d h0 (some (.long v), h) pc lv [.long v] h := by
  refine ⟨Nat.le_refl _, Nat.le_refl _, fun p e s m args below meth c X H locs ls hl hH hS hsz h1 h2 => ?_⟩
  obtain ⟨hx, hb, hml, hown, hts, hr, hlk, hnm, hKs, hro, hnw', hao, hnd⟩ := X
  exact W.lret hx hb hr (fun t ht _ => ⟨rfl, by rw [ht]; exact hH, hS.F ht⟩) hS.2.2 hd
theorem ev_vret (hd : decode cc pc = .ok (.return_, 1)) : Ev g l cc nL y none d h0 (none, h) pc lv [] h := by
  refine ⟨Nat.le_refl _, Nat.le_refl _, fun p e s m args below meth c X H locs ls hl hH hS hsz h1 h2 => ?_⟩
  obtain ⟨hx, hb, hml, hown, hts, hr, hlk, hnm, hKs, hro, hnw', hao, hnd⟩ := X
  exact W.vret hx hb hr (fun t ht _ => ⟨rfl, by rw [ht]; exact hH, hS.F ht⟩) hS.2.2 hd
theorem ev_aret {r : Option Nat} {rt : FieldType} (hrt : (∃ n, rt = .object n) ∨ ∃ t, rt = .array t) (hd : decode cc pc = .ok (.areturn, 1)) : Ev g l cc nL y (some rt) d h0 (some (va_rf r), h) pc lv [va_rf r] h := by
  refine ⟨Nat.le_refl _, Nat.le_refl _, fun p e s m args below meth c X H locs ls hl hH hS hsz h1 h2 => ?_⟩
  obtain ⟨hx, hb, hml, hown, hts, hr, hlk, hnm, hKs, hro, hnw', hao, hnd⟩ := X
  exact W.aret hx hb hr hrt (by cases r; exact Or.inl rfl; exact Or.inr ⟨_, rfl⟩) (fun t ht _ => ⟨rfl, by rw [ht]; exact hH, hS.F ht⟩) hS.2.2 hd
variable {zc zs : Nat} {Z : List Frame → Array Value → State → State → Prop}
theorem gi_code {y1 : MethodName} {c1 : ByteArray} {n1 : Nat} {r1 : Option FieldType} (hc : Cond.code y1 c1 n1 r1 ∈ lw_gd) : GoodIn lw_gd (Cond.code y1 c1 n1 r1 :: lw_gd) := by
  intro w hw
  have h1 : w ∈ lw_gd := by
    rcases List.mem_cons.mp hw with rfl | q
    · exact hc
    · exact q
  exact ⟨h1, good_of_word (List.mem_filter.mp h1).2⟩
theorem pc_blind {as : List Value} {h : aH} : FrameBlind (va_Pc as (PcA g h)) := fun a U gg mk q => ⟨q.1, q.2.1, q.2.2.1, va_K.moved (u := U) (U := U.calling gg mk a) (Vm.Alike.refl U.vm) q.2.2.2.1, aRO.moved (u := U) (U := U.calling gg mk a) (Vm.Alike.refl U.vm) q.2.2.2.2.1, aNw.same (s := U) (U := U.calling gg mk a) rfl q.2.2.2.2.2.1, va_AO.moved (u := U) (U := U.calling gg mk a) (Vm.Alike.refl U.vm) q.2.2.2.2.2.2.1, va_AO.moved (u := U) (U := U.calling gg mk a) (Vm.Alike.refl U.vm) q.2.2.2.2.2.2.2.1, va_AO.moved (u := U) (U := U.calling gg mk a) (Vm.Alike.refl U.vm) q.2.2.2.2.2.2.2.2⟩
/-- what a callee is: its words -/
def CeF (y1 : MethodName) (c1 : ByteArray) (n1 : Nat) (r1 : Option FieldType) (n : Nat) : Prop :=
  Cond.code y1 c1 n1 r1 ∈ lw_gd ∧ Cond.initialized y1.cls ∈ lw_gd ∧ (y1.cls ≠ "java/lang/invoke/MethodHandle" ∧ y1.cls ≠ "java/lang/invoke/VarHandle" ∧ (parseMethodDescriptor y1.desc).map (fun d => d.parameters.length) = some n) ∧ n1 ≤ 19
/-- the walk goes on behind a call that has come back -/
theorem W.back {p : Program} {e : Env} {s : State} {m : MethodId} {args : Array Value} {below : List Frame} {meth : Method} {c : Code} {H : Heap} {locs : List Loc} {ls : Array Slot} {Rm : Room} {cells slots mc ms cells' slots' : Nat} {stk : List Value} {R1 : Option Value × aH} {as : Array Value} {Q : State → Prop} {hX : aH}
    (run : va_Run p l e Rm s m args below meth c H locs cells slots mc ms (F0 m pc ls stk) st (QcA g R1 as) (gA g)) (hS : va_S (gA g) s.heap H locs) (ec : cells + mc = cells') (es : slots + ms = slots')
    (w : ∀ (H1 : Heap) (locs1 : List Loc), HW g R1.2 H1 → va_S (gA g) s.heap H1 locs1 → W p l e Rm s m args below meth c H1 locs1 cells' slots' Q (F0 m (pc + 3) ls (R1.1.toList ++ st))) : W p l e Rm s m args below meth c H locs cells slots Q (F0 m pc ls stk) := by
  subst ec es
  intro T hT X
  obtain ⟨v, st₀, t, T', L, e0, X', hL, e1, e2, ⟨ho, hH1, hF1⟩, go⟩ := run T hT X
  cases ho
  have hS1 : va_S (gA g) s.heap T'.heap (locs ++ L) := by
    refine ⟨?_, ?_, ?_⟩
    · rw [e1]; have := hF1.1; rw [e0] at this; exact Nat.le_trans hS.1 this
    · intro q q1 q2
      rw [e1]
      have := hF1.2 q (by rw [e0]; exact Nat.lt_of_lt_of_le q1 hS.1) q2
      rw [e0] at this
      exact this.trans (hS.2.1 q q1 q2)
    · intro q hq
      rcases List.mem_append.mp hq with h | h
      · exact hS.2.2 q h
      · exact hL q h
  obtain ⟨t2, a1, b1⟩ := w T'.heap (locs ++ L) (by rw [e1]; exact hH1) hS1 T' rfl X'
  exact ⟨t2, go t2 a1, b1⟩
variable {y1 : MethodName} {c1 : ByteArray} {n1 : Nat} {r1 : Option FieldType} {d1 n idx b : Nat} {As stk : List Value} {R1 : Option Value × aH}
theorem ev_callV {ci N : Nat} {T : u_T} {ty : Nat → FieldType} (hM : MA g l y1 c1 n1 r1 d1 (.ref b :: As) h R1) (ce : CeF y1 c1 n1 r1 n) (hi : Cond.instanceMethod y1 ∈ lw_gd) (hsl : Cond.selects y1.cls y1 y1 ∈ lw_gd) (hw : Cond.methodLink y.cls idx y1 ∈ lw_gd) (cl : ClF ci y1.cls T N ty) (hKb : hK h b = ci + 1)
    (hd : decode cc pc = .ok (.invokevirtual idx, 3)) (hdd : d1 + 1 ≤ d) (hst : (st.map fun v => v.category).sum ≤ 8) (hAs : As.length = n) (hstk : stk = As.reverse ++ .ref b :: st) (kk : EvG g l cc nL y ret d h0 zc zs Z (pc + 3) lv (R1.1.toList ++ st) R1.2) : EvG g l cc nL y ret d h0 zc zs Z pc lv stk h := by
  have m1 := hM.1
  have m2 := hM.2.1
  have k1 := kk.1
  have k2 := kk.2.1
  refine ⟨Nat.le_trans m1 k1, Nat.le_trans m2 k2, fun p e s m args below meth c X H locs ls hl hH hS hsz h1 h2 => W.size fun hsz2 => ?_⟩
  have w := fun H1 locs1 hH hS => kk.2.2 p e s m args below meth c X H1 locs1 ls hl hH hS hsz (by omega) (by omega)
  obtain ⟨hx, hb, hml, hown, hts, hr, hlk, hnm, hKs, hro, hnw, hao, hnd⟩ := X
  have hHz : H.size = hz h := by have := hH.choose_spec.2.2.2.1; omega
  have hrecv : ∃ cell : Cell, H[b]? = some cell ∧ cell.vm.isStatics = false ∧ s.vm.findClass y1.cls = some cell.cls := by
    obtain ⟨L, hP, hD, hL, hzz, hB, hL2⟩ := hH
    obtain ⟨q0, he⟩ := HW.at (g := g) (H := H) hL (a := b) (by omega)
    rw [cf_obj hKb cl.2.2.2.2] at he
    exact va_recv hKs hP cl.1 he
  have cb : CallB (rmA d (zc - hz h0) (zs - hs h0)) s args y.cls idx y1 c1 n1 r1 (Cond.code y1 c1 n1 r1 :: lw_gd) (rmA d1 (hz R1.2 - hz h) (hs R1.2 - hs h)) (hz R1.2 - hz h) (hs R1.2 - hs h) n :=
    callB_of n hts (gi_code ce.1) rfl rfl rfl (hts _ ce.2.1) (hts _ hw) ce.2.2.1 ⟨hdd, by have := ce.2.2.2; show 8 + (n1 + 11) + (38 * d1 + 12) ≤ 38 * d + 12; omega⟩
  refine W.back (hX := h) (va_runV (Ts := lw_gd) ⟨hx, hb, hml, hown, hts⟩ hM.2.2 ⟨cb, hts _ hi, hts _ hsl⟩ ⟨pc_blind, hrecv, fun U hU hW => ⟨rfl, by rw [hU]; exact hHz, by rw [hU]; exact hH, va_K.moved hW.alike hKs, by rw [hU]; exact (hro.kept hS.2.1).moved hW.alike, hnw.warm hW, hao.1.moved hW.alike, hao.2.1.moved hW.alike, hao.2.2.moved hW.alike⟩⟩ rfl hAs hl.1 hstk (lv_room hst) hd ⟨by show hz h - hz h0 + (hz R1.2 - hz h) ≤ zc - hz h0; omega, by show hs h - hs h0 + (hs R1.2 - hs h) ≤ zs - hs h0; omega⟩) hS ?_ ?_ w
  · omega
  · omega
theorem ev_callVN {ci N : Nat} {T : u_T} {ty : Nat → FieldType} {host : String} (hM : MA g l y1 c1 n1 r1 d1 (.ref b :: As) h R1) (ce : CeF y1 c1 n1 r1 n) (hi : Cond.instanceMethod y1 ∈ lw_gd) (hsl : Cond.selects y1.cls y1 y1 ∈ lw_gd) (hw : Cond.methodLinkNest y.cls idx y1 host ∈ lw_nw) (cl : ClF ci y1.cls T N ty) (hKb : hK h b = ci + 1)
    (hd : decode cc pc = .ok (.invokevirtual idx, 3)) (hdd : d1 + 1 ≤ d) (hst : (st.map fun v => v.category).sum ≤ 8) (hAs : As.length = n) (hstk : stk = As.reverse ++ .ref b :: st) (kk : EvG g l cc nL y ret d h0 zc zs Z (pc + 3) lv (R1.1.toList ++ st) R1.2) : EvG g l cc nL y ret d h0 zc zs Z pc lv stk h := by
  have m1 := hM.1
  have m2 := hM.2.1
  have k1 := kk.1
  have k2 := kk.2.1
  refine ⟨Nat.le_trans m1 k1, Nat.le_trans m2 k2, fun p e s m args below meth c X H locs ls hl hH hS hsz h1 h2 => W.size fun hsz2 => ?_⟩
  have w := fun H1 locs1 hH hS => kk.2.2 p e s m args below meth c X H1 locs1 ls hl hH hS hsz (by omega) (by omega)
  obtain ⟨hx, hb, hml, hown, hts, hr, hlk, hnm, hKs, hro, hnw, hao, hnd⟩ := X
  have hHz : H.size = hz h := by have := hH.choose_spec.2.2.2.1; omega
  have hrecv : ∃ cell : Cell, H[b]? = some cell ∧ cell.vm.isStatics = false ∧ s.vm.findClass y1.cls = some cell.cls := by
    obtain ⟨L, hP, hD, hL, hzz, hB, hL2⟩ := hH
    obtain ⟨q0, he⟩ := HW.at (g := g) (H := H) hL (a := b) (by omega)
    rw [cf_obj hKb cl.2.2.2.2] at he
    exact va_recv hKs hP cl.1 he
  have cb : va_CN (rmA d (zc - hz h0) (zs - hs h0)) s args y.cls idx y1 host c1 n1 r1 (Cond.code y1 c1 n1 r1 :: lw_gd) (rmA d1 (hz R1.2 - hz h) (hs R1.2 - hs h)) (hz R1.2 - hz h) (hs R1.2 - hs h) n :=
    va_cnB n hts (gi_code ce.1) rfl rfl rfl (hnw.1 _ hw) (hts _ ce.2.1) ce.2.2.1 ⟨hdd, by have := ce.2.2.2; show 8 + (n1 + 11) + (38 * d1 + 12) ≤ 38 * d + 12; omega⟩
  refine W.back (hX := h) (va_runVN (Ts := lw_gd) ⟨hx, hb, hml, hown, hts⟩ hM.2.2 ⟨cb, hts _ hi, hts _ hsl⟩ ⟨pc_blind, hrecv, fun U hU hW => ⟨rfl, by rw [hU]; exact hHz, by rw [hU]; exact hH, va_K.moved hW.alike hKs, by rw [hU]; exact (hro.kept hS.2.1).moved hW.alike, hnw.warm hW, hao.1.moved hW.alike, hao.2.1.moved hW.alike, hao.2.2.moved hW.alike⟩⟩ rfl hAs hl.1 hstk (lv_room hst) hd ⟨by show hz h - hz h0 + (hz R1.2 - hz h) ≤ zc - hz h0; omega, by show hs h - hs h0 + (hs R1.2 - hs h) ≤ zs - hs h0; omega⟩) hS ?_ ?_ w
  · omega
  · omega
theorem ev_callI (hM : MA g l y1 c1 n1 none d1 (.ref b :: As) h R1) (ce : CeF y1 c1 n1 none n) (hin : y1.name = "<init>") (hi : Cond.instanceMethod y1 ∈ lw_gd) (hw : Cond.methodLink y.cls idx y1 ∈ lw_gd)
    (hd : decode cc pc = .ok (.invokespecial idx, 3)) (hdd : d1 + 1 ≤ d) (hst : (st.map fun v => v.category).sum ≤ 8) (hAs : As.length = n) (hstk : stk = As.reverse ++ .ref b :: st) (kk : EvG g l cc nL y ret d h0 zc zs Z (pc + 3) lv (R1.1.toList ++ st) R1.2) : EvG g l cc nL y ret d h0 zc zs Z pc lv stk h := by
  have m1 := hM.1
  have m2 := hM.2.1
  have k1 := kk.1
  have k2 := kk.2.1
  refine ⟨Nat.le_trans m1 k1, Nat.le_trans m2 k2, fun p e s m args below meth c X H locs ls hl hH hS hsz h1 h2 => W.size fun hsz2 => ?_⟩
  have w := fun H1 locs1 hH hS => kk.2.2 p e s m args below meth c X H1 locs1 ls hl hH hS hsz (by omega) (by omega)
  obtain ⟨hx, hb, hml, hown, hts, hr, hlk, hnm, hKs, hro, hnw, hao, hnd⟩ := X
  have hHz : H.size = hz h := by have := hH.choose_spec.2.2.2.1; omega
  have cb : CallB (rmA d (zc - hz h0) (zs - hs h0)) s args y.cls idx y1 c1 n1 none (Cond.code y1 c1 n1 none :: lw_gd) (rmA d1 (hz R1.2 - hz h) (hs R1.2 - hs h)) (hz R1.2 - hz h) (hs R1.2 - hs h) n :=
    callB_of n hts (gi_code ce.1) rfl rfl rfl (hts _ ce.2.1) (hts _ hw) ce.2.2.1 ⟨hdd, by have := ce.2.2.2; show 8 + (n1 + 11) + (38 * d1 + 12) ≤ 38 * d + 12; omega⟩
  refine W.back (hX := h) (va_runI (Ts := lw_gd) ⟨hx, hb, hml, hown, hts⟩ hM.2.2 ⟨cb, hin, hts _ hi⟩ ⟨pc_blind, fun U hU hW => ⟨rfl, by rw [hU]; exact hHz, by rw [hU]; exact hH, va_K.moved hW.alike hKs, by rw [hU]; exact (hro.kept hS.2.1).moved hW.alike, hnw.warm hW, hao.1.moved hW.alike, hao.2.1.moved hW.alike, hao.2.2.moved hW.alike⟩⟩ rfl hAs hl.1 hstk (lv_room hst) hd ⟨by show hz h - hz h0 + (hz R1.2 - hz h) ≤ zc - hz h0; omega, by show hs h - hs h0 + (hs R1.2 - hs h) ≤ zs - hs h0; omega⟩) hS ?_ ?_ w
  · omega
  · omega
theorem ev_callIN {host : String} (hM : MA g l y1 c1 n1 none d1 (.ref b :: As) h R1) (ce : CeF y1 c1 n1 none n) (hin : y1.name = "<init>") (hi : Cond.instanceMethod y1 ∈ lw_gd) (hw : Cond.methodLinkNest y.cls idx y1 host ∈ lw_nw)
    (hd : decode cc pc = .ok (.invokespecial idx, 3)) (hdd : d1 + 1 ≤ d) (hst : (st.map fun v => v.category).sum ≤ 8) (hAs : As.length = n) (hstk : stk = As.reverse ++ .ref b :: st) (kk : EvG g l cc nL y ret d h0 zc zs Z (pc + 3) lv (R1.1.toList ++ st) R1.2) : EvG g l cc nL y ret d h0 zc zs Z pc lv stk h := by
  have m1 := hM.1
  have m2 := hM.2.1
  have k1 := kk.1
  have k2 := kk.2.1
  refine ⟨Nat.le_trans m1 k1, Nat.le_trans m2 k2, fun p e s m args below meth c X H locs ls hl hH hS hsz h1 h2 => W.size fun hsz2 => ?_⟩
  have w := fun H1 locs1 hH hS => kk.2.2 p e s m args below meth c X H1 locs1 ls hl hH hS hsz (by omega) (by omega)
  obtain ⟨hx, hb, hml, hown, hts, hr, hlk, hnm, hKs, hro, hnw, hao, hnd⟩ := X
  have hHz : H.size = hz h := by have := hH.choose_spec.2.2.2.1; omega
  have cb : va_CN (rmA d (zc - hz h0) (zs - hs h0)) s args y.cls idx y1 host c1 n1 none (Cond.code y1 c1 n1 none :: lw_gd) (rmA d1 (hz R1.2 - hz h) (hs R1.2 - hs h)) (hz R1.2 - hz h) (hs R1.2 - hs h) n :=
    va_cnB n hts (gi_code ce.1) rfl rfl rfl (hnw.1 _ hw) (hts _ ce.2.1) ce.2.2.1 ⟨hdd, by have := ce.2.2.2; show 8 + (n1 + 11) + (38 * d1 + 12) ≤ 38 * d + 12; omega⟩
  refine W.back (hX := h) (va_runIN (Ts := lw_gd) ⟨hx, hb, hml, hown, hts⟩ hM.2.2 ⟨cb, hin, hts _ hi⟩ ⟨pc_blind, fun U hU hW => ⟨rfl, by rw [hU]; exact hHz, by rw [hU]; exact hH, va_K.moved hW.alike hKs, by rw [hU]; exact (hro.kept hS.2.1).moved hW.alike, hnw.warm hW, hao.1.moved hW.alike, hao.2.1.moved hW.alike, hao.2.2.moved hW.alike⟩⟩ rfl hAs hl.1 hstk (lv_room hst) hd ⟨by show hz h - hz h0 + (hz R1.2 - hz h) ≤ zc - hz h0; omega, by show hs h - hs h0 + (hs R1.2 - hs h) ≤ zs - hs h0; omega⟩) hS ?_ ?_ w
  · omega
  · omega
theorem ev_callS (hM : MA g l y1 c1 n1 r1 d1 As h R1) (ce : CeF y1 c1 n1 r1 n) (hi : Cond.static y1 ∈ lw_gd) (hw : Cond.methodLink y.cls idx y1 ∈ lw_gd)
    (hd : decode cc pc = .ok (.invokestatic idx, 3)) (hdd : d1 + 1 ≤ d) (hst : (st.map fun v => v.category).sum ≤ 8) (hAs : As.length = n) (hstk : stk = As.reverse ++ st) (kk : EvG g l cc nL y ret d h0 zc zs Z (pc + 3) lv (R1.1.toList ++ st) R1.2) : EvG g l cc nL y ret d h0 zc zs Z pc lv stk h := by
  have m1 := hM.1
  have m2 := hM.2.1
  have k1 := kk.1
  have k2 := kk.2.1
  refine ⟨Nat.le_trans m1 k1, Nat.le_trans m2 k2, fun p e s m args below meth c X H locs ls hl hH hS hsz h1 h2 => W.size fun hsz2 => ?_⟩
  have w := fun H1 locs1 hH hS => kk.2.2 p e s m args below meth c X H1 locs1 ls hl hH hS hsz (by omega) (by omega)
  obtain ⟨hx, hb, hml, hown, hts, hr, hlk, hnm, hKs, hro, hnw, hao, hnd⟩ := X
  have hHz : H.size = hz h := by have := hH.choose_spec.2.2.2.1; omega
  have cb : CallB (rmA d (zc - hz h0) (zs - hs h0)) s args y.cls idx y1 c1 n1 r1 (Cond.code y1 c1 n1 r1 :: lw_gd) (rmA d1 (hz R1.2 - hz h) (hs R1.2 - hs h)) (hz R1.2 - hz h) (hs R1.2 - hs h) n :=
    callB_of n hts (gi_code ce.1) rfl rfl rfl (hts _ ce.2.1) (hts _ hw) ce.2.2.1 ⟨hdd, by have := ce.2.2.2; show 8 + (n1 + 11) + (38 * d1 + 12) ≤ 38 * d + 12; omega⟩
  refine W.back (hX := h) (va_runS (Ts := lw_gd) ⟨hx, hb, hml, hown, hts⟩ hM.2.2 ⟨cb, hts _ hi⟩ ⟨pc_blind, fun U hU hW => ⟨rfl, by rw [hU]; exact hHz, by rw [hU]; exact hH, va_K.moved hW.alike hKs, by rw [hU]; exact (hro.kept hS.2.1).moved hW.alike, hnw.warm hW, hao.1.moved hW.alike, hao.2.1.moved hW.alike, hao.2.2.moved hW.alike⟩⟩ rfl hAs hl.1 hstk (lv_room hst) hd ⟨by show hz h - hz h0 + (hz R1.2 - hz h) ≤ zc - hz h0; omega, by show hs h - hs h0 + (hs R1.2 - hs h) ≤ zs - hs h0; omega⟩) hS ?_ ?_ w
  · omega
  · omega
theorem ev_callSN {host : String} (hM : MA g l y1 c1 n1 r1 d1 As h R1) (ce : CeF y1 c1 n1 r1 n) (hi : Cond.static y1 ∈ lw_gd) (hw : Cond.methodLinkNest y.cls idx y1 host ∈ lw_nw)
    (hd : decode cc pc = .ok (.invokestatic idx, 3)) (hdd : d1 + 1 ≤ d) (hst : (st.map fun v => v.category).sum ≤ 8) (hAs : As.length = n) (hstk : stk = As.reverse ++ st) (kk : EvG g l cc nL y ret d h0 zc zs Z (pc + 3) lv (R1.1.toList ++ st) R1.2) : EvG g l cc nL y ret d h0 zc zs Z pc lv stk h := by
  have m1 := hM.1
  have m2 := hM.2.1
  have k1 := kk.1
  have k2 := kk.2.1
  refine ⟨Nat.le_trans m1 k1, Nat.le_trans m2 k2, fun p e s m args below meth c X H locs ls hl hH hS hsz h1 h2 => W.size fun hsz2 => ?_⟩
  have w := fun H1 locs1 hH hS => kk.2.2 p e s m args below meth c X H1 locs1 ls hl hH hS hsz (by omega) (by omega)
  obtain ⟨hx, hb, hml, hown, hts, hr, hlk, hnm, hKs, hro, hnw, hao, hnd⟩ := X
  have hHz : H.size = hz h := by have := hH.choose_spec.2.2.2.1; omega
  have cb : va_CN (rmA d (zc - hz h0) (zs - hs h0)) s args y.cls idx y1 host c1 n1 r1 (Cond.code y1 c1 n1 r1 :: lw_gd) (rmA d1 (hz R1.2 - hz h) (hs R1.2 - hs h)) (hz R1.2 - hz h) (hs R1.2 - hs h) n :=
    va_cnB n hts (gi_code ce.1) rfl rfl rfl (hnw.1 _ hw) (hts _ ce.2.1) ce.2.2.1 ⟨hdd, by have := ce.2.2.2; show 8 + (n1 + 11) + (38 * d1 + 12) ≤ 38 * d + 12; omega⟩
  refine W.back (hX := h) (va_runSN (Ts := lw_gd) ⟨hx, hb, hml, hown, hts⟩ hM.2.2 ⟨cb, hts _ hi, trivial⟩ ⟨pc_blind, fun U hU hW => ⟨rfl, by rw [hU]; exact hHz, by rw [hU]; exact hH, va_K.moved hW.alike hKs, by rw [hU]; exact (hro.kept hS.2.1).moved hW.alike, hnw.warm hW, hao.1.moved hW.alike, hao.2.1.moved hW.alike, hao.2.2.moved hW.alike⟩⟩ rfl hAs hl.1 hstk (lv_room hst) hd ⟨by show hz h - hz h0 + (hz R1.2 - hz h) ≤ zc - hz h0; omega, by show hs h - hs h0 + (hs R1.2 - hs h) ≤ zs - hs h0; omega⟩) hS ?_ ?_ w
  · omega
  · omega
/-- a cast that succeeds -/
theorem ev_cast {a ci N : Nat} {C : String} {T : u_T} {ty : Nat → FieldType} (cl : ClF ci C T N ty) (hKa : hK h a = ci + 1) (hw : Cond.classLink y.cls idx C ∈ lw_gd) (hw2 : Cond.castable C C ∈ lw_nw) (hd : decode cc pc = .ok (.checkcast idx, 3)) (kk : EvG g l cc nL y ret d h0 zc zs Z (pc + 3) lv (.ref a :: st) h) : EvG g l cc nL y ret d h0 zc zs Z pc lv (.ref a :: st) h := by
  refine ⟨kk.1, kk.2.1, fun p e s m args below meth c X H locs ls hl hH hS hsz h1 h2 => ?_⟩
  have w := kk.2.2 p e s m args below meth c X H locs ls hl hH hS hsz h1 h2
  obtain ⟨hx, hb, hml, hown, hts, hr, hlk, hnm, hKs, hro, hnw, hao, hnd⟩ := X
  have hrecv : ∃ cell : Cell, H[a]? = some cell ∧ cell.vm.isStatics = false ∧ s.vm.findClass C = some cell.cls := by
    obtain ⟨L, hP, hD, hL, hzz, hB, hL2⟩ := hH
    obtain ⟨q0, he⟩ := HW.at (g := g) (H := H) hL (a := a) (by omega)
    rw [cf_obj hKa cl.2.2.2.2] at he
    exact va_recv hKs hP cl.1 he
  exact va_castY hx hb hown (hts _ hw) (hnw.1 _ hw2) hrecv hd w
end RowsC
