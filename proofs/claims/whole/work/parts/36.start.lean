/-! the law's start: from what the statement gives, the abstract heap; and the claim out of the functions alone -/
/-- the abstract heap that holds nothing -/
def h00 (B E : Nat) : aH := (fun _ => 0, fun _ _ => 0, fun _ _ => none, fun _ => 0, fun _ _ => 0, fun _ _ => 0, fun _ _ => none, B, 0, E)
/-- WHAT IS LEFT TO PROVE OF THE FUNCTIONS: the law's function comes to 1, within the room -/
def LawOK : Prop := ∀ (L : Nat) (X : Nat → Int32) (B E : Nat), L ≤ 3072 → E < B → ∃ h1 : aH, F_L_law_0 L X (h00 B E) = some (1, h1) ∧ hz h1 ≤ B + 601024 ∧ hs h1 ≤ 7293034
theorem st_cls {s : State} {args : Array Value} (hts : ∀ w ∈ lw_gd, w.before args s = true) : ∃ D : va_G, ∀ (k : Nat) (q : vw_C), vwCl[k]? = some q → u_Kn s q.1 q.2.1 q.2.2 (D.1 k) (D.2 k) := by
  have h : ∀ k : Nat, ∃ z : ClassId × (Nat → Nat), ∀ q : vw_C, vwCl[k]? = some q → u_Kn s q.1 q.2.1 q.2.2 z.1 z.2 := by
    have mk : ∀ {C : String} {T : u_T} {N n k : Nat}, vwCl[k]? = some (C, T, N) → (∀ w ∈ u_ws C T N, w ∈ lw_gd) → Cond.instantiable C n ∈ lw_gd → ∃ z : ClassId × (Nat → Nat), ∀ q : vw_C, vwCl[k]? = some q → u_Kn s q.1 q.2.1 q.2.2 z.1 z.2 := by
      intro C T N n k e1 e2 e3
      obtain ⟨c, i, hk⟩ := u_known hts e2 (hts _ e3)
      refine ⟨(c, i), fun q hq => ?_⟩
      cases Option.some.inj (e1.symm.trans hq)
      exact hk
    intro k
    by_cases hk : k < 14
    · rcases (show k = 0 ∨ k = 1 ∨ k = 2 ∨ k = 3 ∨ k = 4 ∨ k = 5 ∨ k = 6 ∨ k = 7 ∨ k = 8 ∨ k = 9 ∨ k = 10 ∨ k = 11 ∨ k = 12 ∨ k = 13 by omega) with rfl | rfl | rfl | rfl | rfl | rfl | rfl | rfl | rfl | rfl | rfl | rfl | rfl | rfl
      · exact mk cl_Jx4a65c.1 cl_Jx4a65c.2.1 ins_Jx4a65c
      · exact mk cl_X0.1 cl_X0.2.1 ins_X0
      · exact mk cl_X1.1 cl_X1.2.1 ins_X1
      · exact mk cl_X2.1 cl_X2.2.1 ins_X2
      · exact mk cl_X3.1 cl_X3.2.1 ins_X3
      · exact mk cl_X4.1 cl_X4.2.1 ins_X4
      · exact mk cl_X5.1 cl_X5.2.1 ins_X5
      · exact mk cl_X6.1 cl_X6.2.1 ins_X6
      · exact mk cl_X7.1 cl_X7.2.1 ins_X7
      · exact mk cl_X8.1 cl_X8.2.1 ins_X8
      · exact mk cl_X9.1 cl_X9.2.1 ins_X9
      · exact mk cl_X10.1 cl_X10.2.1 ins_X10
      · exact mk cl_X11.1 cl_X11.2.1 ins_X11
      · exact mk cl_X12.1 cl_X12.2.1 ins_X12
    · refine ⟨(0, fun _ => 0), fun q hq => ?_⟩
      have := (List.getElem?_eq_some_iff.mp hq).1
      exact absurd this hk
  obtain ⟨f, hf⟩ := Classical.axiomOfChoice h
  exact ⟨(fun k => (f k).1, fun k => (f k).2), fun k q hq => hf k q hq⟩
theorem st_arrP {s : State} {args : Array Value} {ty : FieldType} (hp : ∀ C, ty ≠ .object C) (h : (Cond.arrayClass ty).before args s = true) : ∃ cA : ClassId, ArrOfT s cA ty ∧ va_RA s cA ty := by
  obtain ⟨cA, kA, comp, h1, h2, h3⟩ := Cond.arrayClass_spec h
  refine ⟨cA, fun n z => ⟨fun k h => (by cases h), kA, h2, comp, h3⟩, ?_⟩
  cases ty <;> first | exact absurd rfl (hp _) | exact h1
theorem st_arrO {s : State} {args : Array Value} {C : String} (h : (Cond.arrayOver (.object C)).before args s = true) : ∃ cA : ClassId, ArrOfT s cA (.object C) ∧ va_RA s cA (.object C) := by
  obtain ⟨comp, cA, kA, h1, h2, h3, h4, h5⟩ := Cond.arrayOver_spec h
  exact ⟨cA, fun n z => ⟨fun k h => (by cases h), kA, h3, comp, h4⟩, kA, comp, h3, h4, h1, h5⟩
set_option maxRecDepth 20000 in
theorem st_tys {s : State} {args : Array Value} (hts : ∀ w ∈ lw_tbl, w.before args s = true) (D : va_G) (B T1 T2 E M b L : Nat) (X : Nat → Int32) : ∃ C : Nat → ClassId, ∀ (k : Nat) (q : ClassId × FieldType), (gtys (D, C, B, T1, T2, E, M, b, L, X))[k]? = some q → ArrOfT s q.1 q.2 ∧ va_RA s q.1 q.2 := by
  obtain ⟨c1, h1⟩ := st_arrP (ty := .int) (by intro C h; cases h) (hts _ (List.mem_of_getElem? (i := 154) (by rfl)))
  obtain ⟨c2, h2⟩ := st_arrP (ty := .boolean) (by intro C h; cases h) (hts _ (List.mem_of_getElem? (i := 1544) (by rfl)))
  obtain ⟨c3, h3⟩ := st_arrP (ty := .long) (by intro C h; cases h) (hts _ (List.mem_of_getElem? (i := 1854) (by rfl)))
  obtain ⟨c4, h4⟩ := st_arrO (C := "BallBook$Change") (hts _ (List.mem_of_getElem? (i := 179) (by rfl)))
  obtain ⟨c5, h5⟩ := st_arrO (C := "BallBook$Tally") (hts _ (List.mem_of_getElem? (i := 251) (by rfl)))
  obtain ⟨c6, h6⟩ := st_arrO (C := "java/lang/Object") (hts _ (List.mem_of_getElem? (i := 577) (by rfl)))
  refine ⟨fun k => if k = 21 then c1 else if k = 22 then c2 else if k = 23 then c3 else if k = 24 then c4 else if k = 25 then c5 else c6, fun k q hq => ?_⟩
  by_cases hk : k < 6
  · rcases (show k = 0 ∨ k = 1 ∨ k = 2 ∨ k = 3 ∨ k = 4 ∨ k = 5 by omega) with rfl | rfl | rfl | rfl | rfl | rfl
    · cases hq; exact h1
    · cases hq; exact h2
    · cases hq; exact h3
    · cases hq; exact h4
    · cases hq; exact h5
    · cases hq; exact h6
  · exact absurd (List.getElem?_eq_some_iff.mp hq).1 hk
theorem st_le : ∀ j : Nat, j < 10 → Cond.eq (.elem (.static "BallBook" "LEAST_V" "[I") (.int (Int32.ofNat j))) (.int (([0, 0, 0, 0, 0, 0, 1, 0, 1, 0] : List Int32).getD j 0)) ∈ flatC (Jvm.Cond.and given_1 narrow_1) := by decide +kernel
theorem st_mo : ∀ j : Nat, j < 10 → Cond.eq (.elem (.static "BallBook" "MOST_V" "[I") (.int (Int32.ofNat j))) (.int (([6, 4, 6, 3, 7, 15, 4, 15, 15, 0] : List Int32).getD j 0)) ∈ flatC (Jvm.Cond.and given_1 narrow_1) := by decide +kernel
theorem st_str : ∀ q ∈ aSt, Cond.exactly (.string "BallBook" q.1) "java/lang/String" ∈ flatC (Jvm.Cond.and given_1 narrow_1) ∧ Cond.stringRef "BallBook" q.1 q.2 ∈ lw_tbl := by decide +kernel
theorem HW.empty {g : aG} {s : State} (hB : gB g = s.heap.size) (hE : gE g < gB g) : HW g (h00 s.heap.size (gE g)) s.heap := by
  refine ⟨[], fun k q h => by simp [va_pl] at h, ⟨fun i j p q h => by simp [va_pl] at h, fun k q h => by simp [va_pl] at h⟩, fun a h => absurd rfl h, Nat.le_refl _, ⟨?_, rfl, hE⟩, fun a h => nomatch h⟩
  show gB g ≤ s.heap.size
  omega
set_option maxRecDepth 20000 in
/-- what is fixed over the run, at its start -/
theorem st_g {s : State} {b L : Nat} {xs : Nat → Int32} (hL : L ≤ 3072) (hts : ∀ w ∈ lw_tbl, w.before #[Value.ref b] s = true) (hX : va_X b L xs s s.heap) (hbl : b < s.heap.size) (hgv : (Jvm.Cond.and given_1 narrow_1).before #[Value.ref b] s = true) :
    ∃ g : aG, gB g = s.heap.size ∧ gE g < gB g ∧ gXb g = b ∧ gXL g = L ∧ gXf g = xs ∧ va_K (gD g) vwCl (gtys g) s ∧ aRO g s s.heap ∧ aNw s ∧ aAO s := by
  have hs := flat_of_before _ hgv
  have hg : ∀ w ∈ lw_gd, w.before #[Value.ref b] s = true := fun w hw => hts w (List.mem_filter.mp hw).1
  have hA : ∀ a : Nat, a < s.heap.size → ¬ s.heap.size ≤ a := fun a h => Nat.not_le.mpr h
  obtain ⟨D, hD⟩ := st_cls hg
  obtain ⟨T1, e1, t1⟩ := va_Tof (args := #[Value.ref b]) (s := s) (tm := .static "BallBook" "LEAST_V" "[I") (ty := .int) (N := 10) (f := lvLeast) (A := fun q => s.heap.size ≤ q) (by decide) (hs _ (by decide +kernel)) (va_eqt (hs _ (by decide +kernel))) (fun j hj => va_eqt (hs _ (st_le j hj))) hA
  obtain ⟨T2, e2, t2⟩ := va_Tof (args := #[Value.ref b]) (s := s) (tm := .static "BallBook" "MOST_V" "[I") (ty := .int) (N := 10) (f := lvMost) (A := fun q => s.heap.size ≤ q) (by decide) (hs _ (by decide +kernel)) (va_eqt (hs _ (by decide +kernel))) (fun j hj => va_eqt (hs _ (st_mo j hj))) hA
  obtain ⟨E, e3, t3⟩ := va_Tof (args := #[Value.ref b]) (s := s) (tm := .static "java/util/ArrayList" "DEFAULTCAPACITY_EMPTY_ELEMENTDATA" "[Ljava/lang/Object;") (ty := .object "java/lang/Object") (N := 0) (f := fun _ => .null) (A := fun q => s.heap.size ≤ q) (by decide) (hs _ (by decide +kernel)) (va_eqt (hs _ (by decide +kernel))) (fun j hj => absurd hj (Nat.not_lt_zero j)) hA
  obtain ⟨M, hM⟩ := va_Mi.of (args := #[Value.ref b]) (s := s) (C := "[Ljava/lang/Object;") (hs _ (by decide +kernel))
  obtain ⟨C, hC⟩ := st_tys hts D s.heap.size T1 T2 E M b L xs
  have hTX : va_T .int b L (fun k => .int (xs k)) (fun q => s.heap.size ≤ q) s s.heap := by
    obtain ⟨scr, q1, q2, q3, q4, q5⟩ := hX
    exact ⟨scr, q1, q2, q3, by omega, by rw [q4], q5, hA b hbl⟩
  have hEl : E < s.heap.size := by
    obtain ⟨cell, q1, -⟩ := t3
    exact (Array.getElem?_eq_some_iff.mp q1).1
  refine ⟨(D, C, s.heap.size, T1, T2, E, M, b, L, xs), rfl, hEl, rfl, rfl, rfl, ⟨hD, hC⟩, ⟨?_, t1, ?_, t2, ?_, t3, hM, ?_, ?_, hTX⟩, ⟨?_, ?_⟩, ?_⟩
  · exact va_Zref (hts _ (List.mem_of_getElem? (i := 777) (by rfl))) (hts _ (List.mem_of_getElem? (i := 94) (by rfl))) e1 hA
  · exact va_Zref (hts _ (List.mem_of_getElem? (i := 779) (by rfl))) (hts _ (List.mem_of_getElem? (i := 94) (by rfl))) e2 hA
  · exact va_Zref (hts _ (List.mem_of_getElem? (i := 141) (by rfl))) (hts _ (List.mem_of_getElem? (i := 97) (by rfl))) e3 hA
  · exact vx_Zqof (hts _ (List.mem_of_getElem? (i := 1119) (by rfl))) (hts _ (List.mem_of_getElem? (i := 116) (by rfl))) (hs _ (by decide +kernel)) hA
  · exact vx_Zqof (hts _ (List.mem_of_getElem? (i := 1121) (by rfl))) (hts _ (List.mem_of_getElem? (i := 116) (by rfl))) (hs _ (by decide +kernel)) hA
  · intro w hw
    exact va_Nw.of (nw_tab (List.mem_filter.mp hw).2) (hts w (List.mem_filter.mp hw).1)
  · intro q hq
    obtain ⟨q1, q2⟩ := st_str q hq
    obtain ⟨a, c, cA, kA, z1, -⟩ := Cond.exactly_spec (args := #[Value.ref b]) (first := s) (o := none) (s := s) (idx := []) (t := .string "BallBook" q.1) (cls := "java/lang/String") (hs _ q1)
    exact ⟨a, vk_R.of (A := #[Value.ref b]) (hts _ q2) z1⟩
  · exact ⟨va_AO.of (hts _ (List.mem_of_getElem? (i := 179) (by rfl))), va_AO.of (hts _ (List.mem_of_getElem? (i := 251) (by rfl))), va_AO.of (hts _ (List.mem_of_getElem? (i := 577) (by rfl)))⟩
def R_law : String := "BallBookLaw"
def lw_P (b : Addr) (xs : List Int32) (args : Array Value) (s : State) : Prop := args = #[.ref b] ∧ s.IntsAt b xs ∧ xs.length ≤ 3072 ∧ (Jvm.Cond.and given_1 narrow_1).before args s = true
def lw_Q (_ : Array Value) (s : State) (o : Outcome) (t : State) : Prop := o = .returned (some (.int 1)) ∧ Framed s o t [] 601024 7293034
def lw_Z (below : List Frame) (a : Array Value) (s : State) : State → Prop := fun t => ∃ o, t.status = .running ∧ Ended t below o ∧ lw_Q a s o t
theorem lw_ret {p : Program} {l : Launch} {e : Env} {s : State} {m : MethodId} {below : List Frame} {meth : Method} {c : Code} {args : Array Value} (hx : p.tables.exec = Jvm.exec) (hb : c.code = code) (hr : meth.sig.returnType = ret) (hlocks : meth.locks = false) {pc : Nat} {H : Heap} {ls : Array Slot} (hdg : decode code pc = .ok (.ireturn, 1)) : W p l e (rmA 14 601024 7293034) s m args below meth c H [] 601024 7293034 (lw_Z below args s) (F0 m pc ls [.int 1]) := by
  intro T hT X
  obtain ⟨fs, hret, hrun, hended, hW, hframe⟩ := X.leave (v := some (.int 1)) (hlocks := hlocks) (fun h => by rw [hr] at h; cases h)
  have hmeth' : T.vm.method? m = some meth := X.method'
  refine ⟨T.setFrames fs, ?_, .returned (some (.int 1)), hrun, hended, rfl, ⟨_, rfl⟩, hW, hframe⟩
  jvm_step X.here [X.here.top, hx, hb, hdg, hmeth', hr, ret, narrow_b1]
  (try refine ⟨rfl, ?_⟩); (try refine ⟨rfl, ?_⟩)
  first | (intro acts; rw [hret _ acts rfl rfl rfl]) | rw [hret _ _ rfl rfl rfl]
  exact Steps.refl _
/-- the law's end -/
theorem lw_end {g : aG} {l : Launch} {B E : Nat} (hgB : gB g = B) {pc : Nat} {lv : List (Nat × Value)} {h : aH} (h1 : hz h ≤ B + 601024) (h2 : hs h ≤ 7293034) (hd : decode cL_law pc = .ok (.ireturn, 1)) : EvG g l cL_law 8 yL_law (some .boolean) 14 (h00 B E) (B + 601024) 7293034 lw_Z pc lv [.int 1] h := by
  refine ⟨h1, h2, fun p e s m args below meth c X H locs ls hl hH hS hsz e1 e2 => ?_⟩
  obtain ⟨hx, hb, hml, hown, hts, hr, hlk, hnm, hKs, hro, hnw, hao, hnd⟩ := X
  have hsz : s.heap.size = B := hsz
  have e1 : B ≤ hz h := e1
  show W p l e (rmA 14 (B + 601024 - B) (7293034 - 0)) s m args below meth c H locs (hz h - B) (hs h - 0) (lw_Z below args s) (F0 m pc ls [.int 1])
  rw [Nat.add_sub_cancel_left, Nat.sub_zero, Nat.sub_zero]
  refine va_forget (fun q hq => ?_) ?_
  · have := hS.2.2 q hq
    have : gB g ≤ q.base := this
    omega
  · refine W.widen (k := 601024) (n := 7293034) (by omega) (by omega) ?_
    exact lw_ret hx hb hr hlk hd
/-- from the entry, for every script of at most 3072 ints, the law comes to its end with true -/
theorem whole_start (ok : LawOK) {p : Program} {e : Env} {s : State} {m : MethodId} {below : List Frame} {meth : Method} {c : Code} (l : Launch) (hst : l.stackTraces = false) {b L : Nat} {xs : Nat → Int32} (hL : L ≤ 3072)
    (hx : p.tables.exec = Jvm.exec) (hb : c.code = code) (hr : meth.sig.returnType = ret) (hml : c.maxLocals = 8) (hts : ∀ w ∈ lw_tbl, w.before #[Value.ref b] s = true) (hX : va_X b L xs s s.heap) (hbl : b < s.heap.size) (hlocks : meth.locks = false) (hgv : (Jvm.Cond.and given_1 narrow_1).before #[Value.ref b] s = true) (hnd : s.methodNamed? yL_law = some m) (hmt : s.vm.method? m = some meth) (hcd : meth.code = some c) :
    W p l e room_1 s m #[Value.ref b] below meth c s.heap [] 0 0 (lw_Z below #[Value.ref b] s) (entryFrame m ([Value.ref b] : List Value).toArray 8) := by
  obtain ⟨g, g1, g2, g3, g4, g5, hK, hro, hnw, hao⟩ := st_g hL hts hX hbl hgv
  obtain ⟨h1, hF, hz1, hs1⟩ := ok L xs s.heap.size (gE g) hL (by omega)
  have C : Cx g cL_law 8 yL_law (some .boolean) p s m #[Value.ref b] meth c := ⟨hx, hb, hml, findClass_of_methodNamed hnd, fun w hw => hts w (List.mem_filter.mp hw).1, hr, hlocks, (name_of_methodNamed hnd hmt).1, hK, hro, hnw, hao, hnd, hmt, hcd⟩
  have ev := lk_L_law_0 (g := g) (l := l) (d := 14) (h0 := h00 s.heap.size (gE g)) (by decide) hst g4 g5 (zc := s.heap.size + 601024) (zs := 7293034) (Z := lw_Z) (fun a1 a2 a3 => lw_end g1 a1 a2 a3) (h1 := h1) ⟨hz1, hs1⟩ _ hF
  have hl := lv_entry [Value.ref b] (n := 8) (Nat.le_of_ble_eq_true rfl)
  have w := ev.2.2 p e s m #[Value.ref b] below meth c C s.heap [] _ (by rw [g3]; exact hl) (HW.empty g1 g2) va_S.rf rfl (Nat.le_refl _) (Nat.le_refl _)
  have w : W p l e (rmA 14 (s.heap.size + 601024 - s.heap.size) (7293034 - 0)) s m #[Value.ref b] below meth c s.heap [] (s.heap.size - s.heap.size) (0 - 0) (lw_Z below #[Value.ref b] s) (F0 m 0 _ []) := w
  rw [Nat.add_sub_cancel_left, Nat.sub_self, Nat.sub_zero, Nat.sub_zero] at w
  rw [lg_entry_eq]
  exact w
set_option maxHeartbeats 4000000 in
theorem lw_walk (ok : LawOK) (l : Launch) (hst : l.stackTraces = false) (b : Addr) (xs : List Int32) : MetFree l x (headSpec (Jvm.Cond.code x code maxLocals ret :: tables_1) room_1) (lw_P b xs) (fun _ _ _ _ _ => True) lw_Q := by
  refine MetFree.of_bodyS (code := code) (maxLocals := maxLocals) (ret := ret) (by decide) ?_ ?_
  · intro args s m h hn
    obtain ⟨meth, c, h1, h2, h3, h4, h5, h6, -, -⟩ := Cond.code_spec hn (atoms_spec (ws := Jvm.Cond.code x code maxLocals ret :: tables_1) h _ List.mem_cons_self)
    exact ⟨meth, c, h1, h2, h3, h4, h5, h6⟩
  · intro p e s m args below meth c s₁ B hml0 hP _
    obtain ⟨rfl, hx, hbd, hgv⟩ := hP
    obtain ⟨scr, harrAt, hlist, hof, hsmall⟩ := hx
    obtain ⟨hcb, hkn, -, -⟩ := State.arrayAt?_spec harrAt
    have hts0 : ∀ c ∈ (Jvm.Cond.code x code maxLocals ret :: tables_1), c.before #[Value.ref b] s = true := atoms_spec (ws := Jvm.Cond.code x code maxLocals ret :: tables_1) B.pre
    have hts : ∀ w ∈ lw_tbl, w.before #[Value.ref b] s = true := k2_hts_sels lw_privs (fun w hw => hts0 w (List.mem_cons_of_mem _ hw)) lw_privs_ok
    have hml : c.maxLocals = 8 := B.maxLocals_eq (hts0 _ List.mem_cons_self)
    have X₀ : Stand p l e room_1 s m #[Value.ref b] below meth c s₁ [] 0 0 := Stand.of_body B
    have hh0 : s₁.heap = s.heap := by rw [B.state]; rfl
    have hsz : scr.slots.size = xs.length := by rw [← Array.length_toList, hlist, List.length_map]
    have hval : ∀ j : Nat, j < xs.length → scr.slots[j]? = some (.int (xs.getD j 0)) := fun j hj => by
      rw [← Array.getElem?_toList, hlist]
      simp [hj]
    have hbl : b < s.heap.size := (Array.getElem?_eq_some_iff.mp hcb).1
    have hX : va_X b xs.length (fun j => xs.getD j 0) s s.heap := ⟨scr, hcb, hof, hkn, hsz, hval⟩
    have K : W p l e room_1 s m #[Value.ref b] below meth c s₁.heap [] 0 0 (lw_Z below #[Value.ref b] s) (entryFrame m ([Value.ref b] : List Value).toArray 8) := by
      rw [hh0]
      exact whole_start ok l hst hbd B.exec B.bytes B.returns hml hts hX hbl B.notSynchronized hgv B.named B.method X₀.code
    obtain ⟨t, a1, o, b1, b2, b3⟩ := K s₁ rfl X₀
    exact ⟨t, o, a1, b1, b2, b3⟩
theorem lw_pre_spec {args : Array Value} {s : State} (h : (Jvm.Cond.and given_1 narrow_1).before args s = true) (hr : rest_1_c.before args s = true) : ∃ (b : Addr) (xs : List Int32), lw_P b xs args s := by
  have hs := flat_of_before _ h
  have hq := flat_of_before _ hr
  have hc : (Cond.count 1).before args s = true := hs _ (by decide +kernel)
  have harr : (Cond.arrayOf (.arg 0) .int).before args s = true := hs _ (by decide +kernel)
  have hle : (Cond.le (.length (.arg 0)) (.int 3072)).before args s = true := hs _ (by decide +kernel)
  have hlen : (Cond.isInt (.length (.arg 0))).before args s = true := hq _ (by decide +kernel)
  have hall : (Cond.all (.arg 0) (.isInt (.elem (.arg 0) (.index 0)))).before args s = true := hq _ (by decide +kernel)
  obtain ⟨b, xs, hb, hx⟩ := State.ints_of_pre rfl harr hlen hall
  have hsm : xs.length < 2 ^ 31 := hx.choose_spec.2.2.2
  have hev : (Term.length (.arg 0)).eval args s none [] s = some (.int xs.length.toInt32) := hx.length_eval hb
  have hv := Cond.le_ints hev (show (Term.int 3072).eval args s none [] s = some (.int 3072) from rfl)
  have hd : xs.length.toInt32 ≤ 3072 := by
    simpa [Cond.before, Cond.holds, hv] using hle
  have hN : xs.length ≤ 3072 := (Int32.ofNat_le_ofNat hsm (by decide)).mp (show Int32.ofNat xs.length ≤ Int32.ofNat 3072 from hd)
  exact ⟨b, xs, Cond.one_arg hc (show args[0]? = some (.ref b) from hb), hx, hN, h⟩
theorem lw_comes (ok : LawOK) (l : Launch) (hst : l.stackTraces = false) : Comes l x (Jvm.Cond.code x code maxLocals ret :: tables_1) room_1 (fun tb e args s => Calls_1 tb e args s ∧ rest_1 tb e args s ∧ Pre_1 tb e args s)
    (fun _ _ args s o t => lw_Q args s o t) := by
  intro p e ha hc hk s m args below hf hfit hheap happ hpre
  obtain ⟨b, xs, hP⟩ := lw_pre_spec hpre.2.2 hpre.2.1
  obtain ⟨k, o, h1, h2, h3, hQ⟩ := lw_walk ok l hst b xs p e ha hc hk s m args below hf ((Spec.applies_iff_loose hf).mp happ).1 hP trivial
  exact ⟨k, o, h1, h2, h3, hQ⟩
theorem lw_frame {s t : State} {o : Outcome} {args : Array Value} (h : Framed s o t [] 601024 7293034) :
    Framed s o t (fieldLocs frame_1_writes args s ++ arrayLocs frame_1_arrays args s ++ staticLocs frame_1_statics s) 601024 7293034 := h
theorem lw_limb (ok : LawOK) (L : Cond) (hL : ∀ (args : Array Value) (s t : State), L.after args s (.returned (some (.int 1))) t = true) :
    ArmFor flags0 classFile x code maxLocals ret World_1 tables_1 room_1 Calls_1 rest_1 Pre_1
      (fun tb e a s o t => postC L tb e a s o t ∧ Framed s o t (fieldLocs frame_1_writes a s ++ arrayLocs frame_1_arrays a s ++ staticLocs frame_1_statics s) 601024 7293034) := by
  intro l hfl _ _ p e ha hc hk s m args below hf hfit hheap happ hpre
  have hst : l.stackTraces = false := by
    unfold Launch.stackTraces
    rw [hfl]
    decide +kernel
  obtain ⟨k, o, h1, h2, h3, rfl, hF⟩ := lw_comes ok l hst p e ha hc hk s m args below hf hfit hheap happ hpre
  exact ⟨k, _, h1, h2, h3, hL args s _, lw_frame hF⟩
theorem claim_of (ok : LawOK) : Claimed_1_1 ∧ Claimed_1_2 := ⟨lw_limb ok limb_1_1 (fun args s t => by simp [limb_1_1, Cond.after, Cond.holds, Cond.value]), lw_limb ok limb_1_2 (fun args s t => Cond.after_iff.mpr (by
  first | (rw [show limb_1_2 = Cond.eq .result (.int 1) from rfl, Cond.eq_ints (x := 1) (y := 1) rfl rfl]; simp; done) | (simp [limb_1_2, Cond.value, Term.eval]; done)))⟩
