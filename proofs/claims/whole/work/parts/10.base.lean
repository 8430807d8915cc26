/-- the tables' words that a contract can ask for; those that are carried as facts of the state -/
def nwWord : Cond → Bool
  | .fieldLinkNest .. => true
  | .methodLinkNest .. => true
  | .castable .. => true
  | .declares _ => true
  | _ => false
def lw_gd : List Cond := lw_tbl.filter goodWord
def lw_nw : List Cond := lw_tbl.filter nwWord
def aSt : List (Nat × String) := [(226, "no such game or what"), (234, "no such game, turn or what"), (240, "no such game, turn, over or what"), (252, "no such entry"), (258, "no such game, turn, seat or what"), (267, "no such sort or what"), (291, "no such byte"), (305, "no such what"), (307, "no such game")]
def aNw (U : State) : Prop := (∀ w ∈ lw_nw, va_Nw w U) ∧ ∀ q ∈ aSt, ∃ sa : Nat, vk_R "BallBook" q.1 q.2 sa U
theorem nw_one {w : Cond} (hw : nwWord w = true) {s U : State} (hW : s.WarmedH U.vm) (h : va_Nw w s) : va_Nw w U := by
  cases w <;> first | (cases hw; done) | exact va_Nw.warmF hW h | exact va_Nw.warmM hW h | exact va_Nw.warmC hW h | exact va_Nw.warmD hW h
theorem aNw.warm {s U : State} (hW : s.WarmedH U.vm) (h : aNw s) : aNw U := ⟨fun w hw => nw_one (List.mem_filter.mp hw).2 hW (h.1 w hw), fun q hq => (h.2 q hq).imp fun _ z => z.warm hW⟩
theorem nw_tab {w : Cond} (hw : nwWord w = true) : w.onTables = true := by
  cases w <;> first | (cases hw; done) | rfl
theorem aNw.same {s U : State} (e : s.vm = U.vm) (h : aNw s) : aNw U := ⟨fun w hw => va_Nw.same (nw_tab (List.mem_filter.mp hw).2) e (h.1 w hw), fun q hq => (h.2 q hq).imp fun _ z => z.same e.symm⟩
def aAO (U : State) : Prop := va_AO "BallBook$Change" U ∧ va_AO "BallBook$Tally" U ∧ va_AO "java/lang/Object" U
theorem gd_of {w : Cond} (i : Nat) (h : lw_tbl[i]? = some w) (hg : goodWord w = true) : w ∈ lw_gd := List.mem_filter.mpr ⟨List.mem_of_getElem? h, hg⟩
theorem nw_of {w : Cond} (i : Nat) (h : lw_tbl[i]? = some w) (hg : nwWord w = true) : w ∈ lw_nw := List.mem_filter.mpr ⟨List.mem_of_getElem? h, hg⟩
/-! THE ABSTRACT HEAP: kinds, int fields, ref fields, lengths, int rows, long rows, ref rows, the heap's size, slots used -/
def up2 {α : Type} (f : Nat → Nat → α) (i a : Nat) (v : α) : Nat → Nat → α := fun j b => if j = i ∧ b = a then v else f j b
abbrev aH : Type := (Nat → Nat) × (Nat → Nat → Int32) × (Nat → Nat → Option Nat) × (Nat → Nat) × (Nat → Nat → Int32) × (Nat → Nat → Int64) × (Nat → Nat → Option Nat) × Nat × Nat × Nat
def hK (h : aH) : Nat → Nat := h.1
def hF (h : aH) : Nat → Nat → Int32 := h.2.1
def hG (h : aH) : Nat → Nat → Option Nat := h.2.2.1
def hN (h : aH) : Nat → Nat := h.2.2.2.1
def hI (h : aH) : Nat → Nat → Int32 := h.2.2.2.2.1
def hJ (h : aH) : Nat → Nat → Int64 := h.2.2.2.2.2.1
def hO (h : aH) : Nat → Nat → Option Nat := h.2.2.2.2.2.2.1
def hz (h : aH) : Nat := h.2.2.2.2.2.2.2.1
def hs (h : aH) : Nat := h.2.2.2.2.2.2.2.2.1
/-- the address of the list's empty row: never changed -/
def hE (h : aH) : Nat := h.2.2.2.2.2.2.2.2.2
def sF (h : aH) (i a : Nat) (v : Int32) : aH := (h.1, up2 h.2.1 i a v, h.2.2)
def sG (h : aH) (i a : Nat) (v : Option Nat) : aH := (h.1, h.2.1, up2 h.2.2.1 i a v, h.2.2.2)
def sI (h : aH) (a i : Nat) (v : Int32) : aH := (h.1, h.2.1, h.2.2.1, h.2.2.2.1, up2 h.2.2.2.2.1 a i v, h.2.2.2.2.2)
def sJ (h : aH) (a i : Nat) (v : Int64) : aH := (h.1, h.2.1, h.2.2.1, h.2.2.2.1, h.2.2.2.2.1, up2 h.2.2.2.2.2.1 a i v, h.2.2.2.2.2.2)
def sO (h : aH) (a i : Nat) (v : Option Nat) : aH := (h.1, h.2.1, h.2.2.1, h.2.2.2.1, h.2.2.2.2.1, h.2.2.2.2.2.1, up2 h.2.2.2.2.2.2.1 a i v, h.2.2.2.2.2.2.2)
/-- a new object of kind k with n slots, at the heap's end -/
def nO (h : aH) (k n : Nat) : aH := (va_up h.1 (hz h) k, (fun i a => if a = hz h then 0 else h.2.1 i a), (fun i a => if a = hz h then none else h.2.2.1 i a), h.2.2.2.1, h.2.2.2.2.1, h.2.2.2.2.2.1, h.2.2.2.2.2.2.1, hz h + 1, hs h + n, hE h)
/-- a new array of kind k with n places, at the heap's end -/
def nA (h : aH) (k n : Nat) : aH := (va_up h.1 (hz h) k, h.2.1, h.2.2.1, va_up h.2.2.2.1 (hz h) n, (fun a i => if a = hz h then 0 else h.2.2.2.2.1 a i), (fun a i => if a = hz h then 0 else h.2.2.2.2.2.1 a i), (fun a i => if a = hz h then none else h.2.2.2.2.2.2.1 a i), hz h + 1, hs h + n, hE h)
/-- what is fixed over a run: class ids and slots; array classes by kind; the first own address; the static rows -/
abbrev aG : Type := va_G × (Nat → ClassId) × Nat × Nat × Nat × Nat × Nat × Nat × Nat × (Nat → Int32)
def gD (g : aG) : va_G := g.1
def gC (g : aG) : Nat → ClassId := g.2.1
def gB (g : aG) : Nat := g.2.2.1
def gT1 (g : aG) : Nat := g.2.2.2.1
def gT2 (g : aG) : Nat := g.2.2.2.2.1
def gE (g : aG) : Nat := g.2.2.2.2.2.1
def gM (g : aG) : Nat := g.2.2.2.2.2.2.1
/-- the script: its address, its length, its ints -/
def gXb (g : aG) : Nat := g.2.2.2.2.2.2.2.1
def gXL (g : aG) : Nat := g.2.2.2.2.2.2.2.2.1
def gXf (g : aG) : Nat → Int32 := g.2.2.2.2.2.2.2.2.2
abbrev gA (g : aG) : Nat → Prop := fun q => gB g ≤ q
def gtys (g : aG) : List (ClassId × FieldType) := [(gC g 21, .int), (gC g 22, .boolean), (gC g 23, .long), (gC g 24, .object "BallBook$Change"), (gC g 25, .object "BallBook$Tally"), (gC g 26, .object "java/lang/Object")]
def fI (ci k : Nat) : Bool := match vwCl[ci]? with
  | some r => (r.2.1 k).2.2.1 == "I" || (r.2.1 k).2.2.1 == "Z"
  | none => false
def fn (ci : Nat) : Nat := match vwCl[ci]? with
  | some r => r.2.2
  | none => 0
def fv (ci : Nat) (h : aH) (a k : Nat) : Value := if fI ci k = true then .int (hF h (100 * ci + k) a) else va_rf (hG h (100 * ci + k) a)
def fl (ci : Nat) (h : aH) (a : Nat) : List Value := (List.range (fn ci)).map (fv ci h a)
/-- the cell at an address, by its kind: 1..14 objects (the number in vwCl and 1), 21 int[], 22 boolean[], 23 long[], 24.. arrays of references -/
def cf (g : aG) (h : aH) (a : Nat) : va_E :=
  if hK h a < 20 then .inr (hK h a - 1, fl (hK h a - 1) h a)
  else if hK h a < 23 then .inl (gC g (hK h a), hN h a, .inl (hI h a))
  else if hK h a = 23 then .inl (gC g 23, hN h a, .inr (.inl (hJ h a)))
  else .inl (gC g (hK h a), hN h a, .inr (.inr (.inr (.inr (hO h a)))))
def HW (g : aG) (h : aH) (H : Heap) : Prop := ∃ L : List Nat, va_P (gD g) vwCl (va_pl L (cf g h)) H ∧ va_D (gA g) (va_pl L (cf g h)) ∧ (∀ a, hK h a ≠ 0 → a ∈ L) ∧ hz h ≤ H.size ∧ (gB g ≤ hz h ∧ hE h = gE g ∧ gE g < gB g) ∧ (∀ a, a ∈ L → hK h a ≠ 0 ∧ a < hz h)
def lvLeast (k : Nat) : Value := .int (([0, 0, 0, 0, 0, 0, 1, 0, 1, 0] : List Int32).getD k 0)
def lvMost (k : Nat) : Value := .int (([6, 4, 6, 3, 7, 15, 4, 15, 15, 0] : List Int32).getD k 0)
/-- what is never written: the two static rows of the class, the list's empty row -/
def aRO (g : aG) (U : State) (H : Heap) : Prop :=
  va_Z "BallBook" "LEAST_V" "[I" (.ref (gT1 g)) (gA g) U H ∧ va_T .int (gT1 g) 10 lvLeast (gA g) U H ∧ va_Z "BallBook" "MOST_V" "[I" (.ref (gT2 g)) (gA g) U H ∧ va_T .int (gT2 g) 10 lvMost (gA g) U H ∧
  va_Z "java/util/ArrayList" "DEFAULTCAPACITY_EMPTY_ELEMENTDATA" "[Ljava/lang/Object;" (.ref (gE g)) (gA g) U H ∧ va_T (.object "java/lang/Object") (gE g) 0 (fun _ => .null) (gA g) U H ∧
  va_Mi "[Ljava/lang/Object;" (gM g) U ∧ vx_Zq Bundle.tN "UNASSIGNED_STACK" Bundle.steD (gA g) U H ∧ vx_Zq Bundle.tN "SUPPRESSED_SENTINEL" Bundle.listD (gA g) U H ∧ va_T .int (gXb g) (gXL g) (fun k => .int (gXf g k)) (gA g) U H
theorem aRO.moved {g : aG} {u U : State} {H : Heap} (hvm : u.vm.Alike U.vm) (h : aRO g u H) : aRO g U H := ⟨h.1.moved hvm, h.2.1.moved hvm, h.2.2.1.moved hvm, h.2.2.2.1.moved hvm, h.2.2.2.2.1.moved hvm, h.2.2.2.2.2.1.moved hvm, h.2.2.2.2.2.2.1.moved hvm, h.2.2.2.2.2.2.2.1.moved hvm, h.2.2.2.2.2.2.2.2.1.moved hvm, h.2.2.2.2.2.2.2.2.2.moved hvm⟩
theorem aRO.kept {g : aG} {U : State} {H H1 : Heap} (h : aRO g U H) (hq : ∀ a : Nat, a < H.size → ¬ gA g a → H1[a]? = H[a]?) : aRO g U H1 := ⟨h.1.kept hq, h.2.1.kept hq, h.2.2.1.kept hq, h.2.2.2.1.kept hq, h.2.2.2.2.1.kept hq, h.2.2.2.2.2.1.kept hq, h.2.2.2.2.2.2.1, h.2.2.2.2.2.2.2.1.kept hq, h.2.2.2.2.2.2.2.2.1.kept hq, h.2.2.2.2.2.2.2.2.2.kept hq⟩
/-- what a method's body stands on -/
def Cx (g : aG) (cc : ByteArray) (nL : Nat) (y : MethodName) (ret : Option FieldType) (p : Program) (s : State) (m : MethodId) (args : Array Value) (meth : Method) (c : Code) : Prop :=
  p.tables.exec = Jvm.exec ∧ c.code = cc ∧ c.maxLocals = nL ∧ s.vm.findClass y.cls = some m.cls ∧ (∀ w ∈ lw_gd, w.before args s = true) ∧ meth.sig.returnType = ret ∧ meth.locks = false ∧ meth.name = y.name ∧ va_K (gD g) vwCl (gtys g) s ∧ aRO g s s.heap ∧ aNw s ∧ aAO s ∧ s.methodNamed? y = some m ∧ s.vm.method? m = some meth ∧ meth.code = some c
def rmA (d c n : Nat) : Room := { frames := d, cells := c, slots := n, locals := 38 * d + 12 }
def QcA (g : aG) (R : Option Value × aH) : Array Value → State → Outcome → State → Prop := fun _ st o t => o = .returned R.1 ∧ HW g R.2 t.heap ∧ va_F (gA g) st t
def PcA (g : aG) (h : aH) (U : State) : Prop := U.heap.size = hz h ∧ HW g h U.heap ∧ va_K (gD g) vwCl (gtys g) U ∧ aRO g U U.heap ∧ aNw U ∧ aAO U
/-- from here on the walk comes to a state with Z: within zc cells and zs slots -/
def EvG (g : aG) (l : Launch) (cc : ByteArray) (nL : Nat) (y : MethodName) (ret : Option FieldType) (d : Nat) (h0 : aH) (zc zs : Nat) (Z : List Frame → Array Value → State → State → Prop) (pc : Nat) (lv : List (Nat × Value)) (st : List Value) (h : aH) : Prop :=
  hz h ≤ zc ∧ hs h ≤ zs ∧ ∀ (p : Program) (e : Env) (s : State) (m : MethodId) (args : Array Value) (below : List Frame) (meth : Method) (c : Code), Cx g cc nL y ret p s m args meth c →
    ∀ (H : Heap) (locs : List Loc) (ls : Array Slot), lv_has ls nL lv → HW g h H → va_S (gA g) s.heap H locs → s.heap.size = hz h0 → hz h0 ≤ hz h → hs h0 ≤ hs h →
      W p l e (rmA d (zc - hz h0) (zs - hs h0)) s m args below meth c H locs (hz h - hz h0) (hs h - hs h0) (Z below args s) (F0 m pc ls st)
/-- what a method that returns R comes to -/
def ZR (g : aG) (h0 : aH) (R : Option Value × aH) : List Frame → Array Value → State → State → Prop := fun below args s => MQ below (QcA g R) args s (hz R.2 - hz h0) (hs R.2 - hs h0) (gA g)
/-- from here on the method comes to its end R -/
abbrev Ev (g : aG) (l : Launch) (cc : ByteArray) (nL : Nat) (y : MethodName) (ret : Option FieldType) (d : Nat) (h0 : aH) (R : Option Value × aH) (pc : Nat) (lv : List (Nat × Value)) (st : List Value) (h : aH) : Prop := EvG g l cc nL y ret d h0 (hz R.2) (hs R.2) (ZR g h0 R) pc lv st h
/-- a method's contract: from the heap h with arguments as it comes to R -/
def MA (g : aG) (l : Launch) (y : MethodName) (cc : ByteArray) (nL : Nat) (ret : Option FieldType) (d : Nat) (as : List Value) (h : aH) (R : Option Value × aH) : Prop :=
  hz h ≤ hz R.2 ∧ hs h ≤ hs R.2 ∧ Met l y (Cond.code y cc nL ret :: lw_gd) (rmA d (hz R.2 - hz h) (hs R.2 - hs h)) (va_Pc as (PcA g h)) (QcA g R) (hz R.2 - hz h) (hs R.2 - hs h) (gA g)
section Rows
variable {g : aG} {l : Launch} {cc : ByteArray} {nL : Nat} {y : MethodName} {ret : Option FieldType} {d : Nat} {h0 : aH} {R : Option Value × aH} {pc : Nat} {lv : List (Nat × Value)} {st : List Value} {h : aH}
theorem MA.of {as : List Value} {lv0 : List (Nat × Value)} (hy : plainName y.cls = true) (hlv : lv_args 0 as = lv0) (hn : (lg_sl as).length ≤ nL) (body : Ev g l cc nL y ret d h R 0 lv0 [] h) : MA g l y cc nL ret d as h R := by
  refine ⟨body.1, body.2.1, ?_⟩
  refine Met.ofW (cc := cc) (maxL := nL) (ret := ret) hy rfl ?_
  intro p e s m args below meth c s₁ B hml hv
  obtain ⟨rfl, hsz, hH, hK, hro, hnw, hao⟩ := hv
  have hts := atoms_spec (ws := Cond.code y cc nL ret :: lw_gd) B.pre
  have C : Cx g cc nL y ret p s m as.toArray meth c := ⟨B.exec, B.bytes, hml, findClass_of_methodNamed B.named, fun w hw => hts w (List.mem_cons_of_mem _ hw), B.returns, B.notSynchronized, (name_of_methodNamed B.named B.method).1, hK, hro, hnw, hao, B.named, B.method, (Stand.of_body B).code⟩
  have hl := lv_entry as (n := nL) hn
  rw [hlv] at hl
  have w := body.2.2 p e s m as.toArray below meth c C s.heap [] _ hl hH va_S.rf hsz (Nat.le_refl _) (Nat.le_refl _)
  rw [Nat.sub_self, Nat.sub_self] at w
  rw [lg_entry_eq]
  exact w
variable {zc zs : Nat} {Z : List Frame → Array Value → State → State → Prop}
theorem Ev.up {pc' : Nat} {st' : List Value} (k : EvG g l cc nL y ret d h0 zc zs Z pc' lv st' h)
    (f : ∀ {p : Program} {e : Env} {R : Room} {s : State} {m : MethodId} {args : Array Value} {below : List Frame} {meth : Method} {c : Code} {Q : State → Prop} {H : Heap} {locs : List Loc} {ls : Array Slot} {cells slots : Nat}, Cx g cc nL y ret p s m args meth c → lv_has ls nL lv → W p l e R s m args below meth c H locs cells slots Q (F0 m pc' ls st') → W p l e R s m args below meth c H locs cells slots Q (F0 m pc ls st)) :
    EvG g l cc nL y ret d h0 zc zs Z pc lv st h := ⟨k.1, k.2.1, fun p e s m args below meth c C H locs ls hl hH hS hsz h1 h2 => f C hl (k.2.2 p e s m args below meth c C H locs ls hl hH hS hsz h1 h2)⟩
theorem Ev.sto {pc' : Nat} {st' : List Value} {lv' : List (Nat × Value)} (k : EvG g l cc nL y ret d h0 zc zs Z pc' lv' st' h)
    (f : ∀ {p : Program} {e : Env} {R : Room} {s : State} {m : MethodId} {args : Array Value} {below : List Frame} {meth : Method} {c : Code} {Q : State → Prop} {H : Heap} {locs : List Loc} {ls : Array Slot} {cells slots : Nat}, Cx g cc nL y ret p s m args meth c → lv_has ls nL lv → (∀ ls' : Array Slot, lv_has ls' nL lv' → W p l e R s m args below meth c H locs cells slots Q (F0 m pc' ls' st')) → W p l e R s m args below meth c H locs cells slots Q (F0 m pc ls st)) :
    EvG g l cc nL y ret d h0 zc zs Z pc lv st h := ⟨k.1, k.2.1, fun p e s m args below meth c C H locs ls hl hH hS hsz h1 h2 => f C hl (fun ls' hl' => k.2.2 p e s m args below meth c C H locs ls' hl' hH hS hsz h1 h2)⟩
/-- fewer locals, in another order -/
theorem Ev.sub {lv' : List (Nat × Value)} (is : List Nat) (hs : lv_pick lv is = lv') (k : EvG g l cc nL y ret d h0 zc zs Z pc lv' st h) : EvG g l cc nL y ret d h0 zc zs Z pc lv st h :=
  ⟨k.1, k.2.1, fun p e s m args below meth c C H locs ls hl hH hS hsz h1 h2 => k.2.2 p e s m args below meth c C H locs ls (lv_sub hl is hs) hH hS hsz h1 h2⟩
theorem ev_iconst {n : Int} {v : Int32} (hd : decode cc pc = .ok (.iconst n, 1)) (hv : Int32.ofInt n = v) (k : EvG g l cc nL y ret d h0 zc zs Z (pc + 1) lv (.int v :: st) h) : EvG g l cc nL y ret d h0 zc zs Z pc lv st h := Ev.up k fun C _ w => lv_iconst C.1 C.2.1 hd hv w
theorem ev_bipush {n : Int} {v : Int32} (hd : decode cc pc = .ok (.bipush n, 2)) (hv : (Int8.ofInt n).toInt32 = v) (k : EvG g l cc nL y ret d h0 zc zs Z (pc + 2) lv (.int v :: st) h) : EvG g l cc nL y ret d h0 zc zs Z pc lv st h := Ev.up k fun C _ w => lv_bipush C.1 C.2.1 hd hv w
theorem ev_sipush {n : Int} {v : Int32} (hd : decode cc pc = .ok (.sipush n, 3)) (hv : (Int16.ofInt n).toInt32 = v) (k : EvG g l cc nL y ret d h0 zc zs Z (pc + 3) lv (.int v :: st) h) : EvG g l cc nL y ret d h0 zc zs Z pc lv st h := Ev.up k fun C _ w => lv_sipush C.1 C.2.1 hd hv w
theorem ev_lconst {n : Fin 2} {v : Int64} (hd : decode cc pc = .ok (.lconst n, 1)) (hv : Int64.ofNat (n : Nat) = v) (k : EvG g l cc nL y ret d h0 zc zs Z (pc + 1) lv (.long v :: st) h) : EvG g l cc nL y ret d h0 zc zs Z pc lv st h := Ev.up k fun C _ w => lv_lconst C.1 C.2.1 hd hv w
theorem ev_null (hd : decode cc pc = .ok (.aconst_null, 1)) (k : EvG g l cc nL y ret d h0 zc zs Z (pc + 1) lv (va_rf none :: st) h) : EvG g l cc nL y ret d h0 zc zs Z pc lv st h := Ev.up k fun C _ w => lv_null C.1 C.2.1 hd w
theorem ev_ldc {i : Nat} {v : Int32} (hw : Cond.constant y.cls i v ∈ lw_gd) (hd : decode cc pc = .ok (.ldc i, 2)) (k : EvG g l cc nL y ret d h0 zc zs Z (pc + 2) lv (.int v :: st) h) : EvG g l cc nL y ret d h0 zc zs Z pc lv st h := Ev.up k fun C _ w => lv_ldc C.1 C.2.1 C.2.2.2.1 (C.2.2.2.2.1 _ hw) hd w
theorem ev_ldcw {i : Nat} {v : Int32} (hw : Cond.constant y.cls i v ∈ lw_gd) (hd : decode cc pc = .ok (.ldc_w i, 3)) (k : EvG g l cc nL y ret d h0 zc zs Z (pc + 3) lv (.int v :: st) h) : EvG g l cc nL y ret d h0 zc zs Z pc lv st h := Ev.up k fun C _ w => lv_ldcw C.1 C.2.1 C.2.2.2.1 (C.2.2.2.2.1 _ hw) hd w
theorem ev_ldc2 {i : Nat} {v : Int64} (hw : Cond.constantLong y.cls i v ∈ lw_gd) (hd : decode cc pc = .ok (.ldc2_w i, 3)) (k : EvG g l cc nL y ret d h0 zc zs Z (pc + 3) lv (.long v :: st) h) : EvG g l cc nL y ret d h0 zc zs Z pc lv st h := Ev.up k fun C _ w => lv_ldc2 C.1 C.2.1 C.2.2.2.1 (C.2.2.2.2.1 _ hw) hd w
theorem ev_iload_n {q : Fin 4} {x : Int32} (j : Nat) (hd : decode cc pc = .ok (.iload_n q, 1)) (hm : lv[j]? = some ((q : Nat), .int x)) (k : EvG g l cc nL y ret d h0 zc zs Z (pc + 1) lv (.int x :: st) h) : EvG g l cc nL y ret d h0 zc zs Z pc lv st h := Ev.up k fun C hl w => lv_iload_n C.1 C.2.1 hd rfl (lv_at hl j hm) w
theorem ev_iload {i : Nat} {x : Int32} (j : Nat) (hd : decode cc pc = .ok (.iload i, 2)) (hm : lv[j]? = some (i, .int x)) (k : EvG g l cc nL y ret d h0 zc zs Z (pc + 2) lv (.int x :: st) h) : EvG g l cc nL y ret d h0 zc zs Z pc lv st h := Ev.up k fun C hl w => lv_iload C.1 C.2.1 hd (lv_at hl j hm) w
theorem ev_lload_n {q : Fin 4} {x : Int64} (j : Nat) (hd : decode cc pc = .ok (.lload_n q, 1)) (hm : lv[j]? = some ((q : Nat), .long x)) (k : EvG g l cc nL y ret d h0 zc zs Z (pc + 1) lv (.long x :: st) h) : EvG g l cc nL y ret d h0 zc zs Z pc lv st h := Ev.up k fun C hl w => lv_lload_n C.1 C.2.1 hd rfl (lv_at hl j hm) w
theorem ev_lload {i : Nat} {x : Int64} (j : Nat) (hd : decode cc pc = .ok (.lload i, 2)) (hm : lv[j]? = some (i, .long x)) (k : EvG g l cc nL y ret d h0 zc zs Z (pc + 2) lv (.long x :: st) h) : EvG g l cc nL y ret d h0 zc zs Z pc lv st h := Ev.up k fun C hl w => lv_lload C.1 C.2.1 hd (lv_at hl j hm) w
theorem ev_aload_n {q : Fin 4} {x : Nat} (j : Nat) (hd : decode cc pc = .ok (.aload_n q, 1)) (hm : lv[j]? = some ((q : Nat), .ref x)) (k : EvG g l cc nL y ret d h0 zc zs Z (pc + 1) lv (.ref x :: st) h) : EvG g l cc nL y ret d h0 zc zs Z pc lv st h := Ev.up k fun C hl w => lv_aload_n C.1 C.2.1 hd rfl (lv_at hl j hm) w
theorem ev_aload {i : Nat} {x : Nat} (j : Nat) (hd : decode cc pc = .ok (.aload i, 2)) (hm : lv[j]? = some (i, .ref x)) (k : EvG g l cc nL y ret d h0 zc zs Z (pc + 2) lv (.ref x :: st) h) : EvG g l cc nL y ret d h0 zc zs Z pc lv st h := Ev.up k fun C hl w => lv_aload C.1 C.2.1 hd (lv_at hl j hm) w
theorem ev_aload_nr {q : Fin 4} {r : Option Nat} (j : Nat) (hd : decode cc pc = .ok (.aload_n q, 1)) (hm : lv[j]? = some ((q : Nat), va_rf r)) (k : EvG g l cc nL y ret d h0 zc zs Z (pc + 1) lv (va_rf r :: st) h) : EvG g l cc nL y ret d h0 zc zs Z pc lv st h := by
  cases r with
  | none => exact Ev.up k fun C hl w => lv_aload_nN C.1 C.2.1 hd rfl (lv_at hl j hm) w
  | some x => exact ev_aload_n j hd hm k
theorem ev_aloadr {i : Nat} {r : Option Nat} (j : Nat) (hd : decode cc pc = .ok (.aload i, 2)) (hm : lv[j]? = some (i, va_rf r)) (k : EvG g l cc nL y ret d h0 zc zs Z (pc + 2) lv (va_rf r :: st) h) : EvG g l cc nL y ret d h0 zc zs Z pc lv st h := by
  cases r with
  | none => exact Ev.up k fun C hl w => lv_aloadN C.1 C.2.1 hd (lv_at hl j hm) w
  | some x => exact ev_aload j hd hm k
def sv1 (lv : List (Nat × Value)) (i : Nat) (v : Value) : List (Nat × Value) := (i, v) :: lv.filter (fun q => !(q.1 == i) && !(q.1 + 1 == i && q.2.category == 2))
def sv2 (lv : List (Nat × Value)) (i : Nat) (v : Value) : List (Nat × Value) := (i, v) :: lv.filter (fun q => !(q.1 == i) && (!(q.1 == i + 1) && !(q.1 + 1 == i && q.2.category == 2)))
theorem ev_istore_n {q : Fin 4} {x : Int32} {lv' : List (Nat × Value)} (hd : decode cc pc = .ok (.istore_n q, 1)) (hn : (q : Nat) < nL) (he : sv1 lv (q : Nat) (.int x) = lv') (k : EvG g l cc nL y ret d h0 zc zs Z (pc + 1) lv' st h) : EvG g l cc nL y ret d h0 zc zs Z pc lv (.int x :: st) h := Ev.sto k fun C hl w => lv_istore_n C.1 C.2.1 hd rfl hl hn he w
theorem ev_istore {i : Nat} {x : Int32} {lv' : List (Nat × Value)} (hd : decode cc pc = .ok (.istore i, 2)) (hn : i < nL) (he : sv1 lv i (.int x) = lv') (k : EvG g l cc nL y ret d h0 zc zs Z (pc + 2) lv' st h) : EvG g l cc nL y ret d h0 zc zs Z pc lv (.int x :: st) h := Ev.sto k fun C hl w => lv_istore C.1 C.2.1 hd hl hn he w
theorem ev_lstore_n {q : Fin 4} {x : Int64} {lv' : List (Nat × Value)} (hd : decode cc pc = .ok (.lstore_n q, 1)) (hn : (q : Nat) + 1 < nL) (he : sv2 lv (q : Nat) (.long x) = lv') (k : EvG g l cc nL y ret d h0 zc zs Z (pc + 1) lv' st h) : EvG g l cc nL y ret d h0 zc zs Z pc lv (.long x :: st) h := Ev.sto k fun C hl w => lv_lstore_n C.1 C.2.1 hd rfl hl hn he w
theorem ev_lstore {i : Nat} {x : Int64} {lv' : List (Nat × Value)} (hd : decode cc pc = .ok (.lstore i, 2)) (hn : i + 1 < nL) (he : sv2 lv i (.long x) = lv') (k : EvG g l cc nL y ret d h0 zc zs Z (pc + 2) lv' st h) : EvG g l cc nL y ret d h0 zc zs Z pc lv (.long x :: st) h := Ev.sto k fun C hl w => lv_lstore C.1 C.2.1 hd hl hn he w
theorem ev_astore_n {q : Fin 4} {x : Nat} {lv' : List (Nat × Value)} (hd : decode cc pc = .ok (.astore_n q, 1)) (hn : (q : Nat) < nL) (he : sv1 lv (q : Nat) (.ref x) = lv') (k : EvG g l cc nL y ret d h0 zc zs Z (pc + 1) lv' st h) : EvG g l cc nL y ret d h0 zc zs Z pc lv (.ref x :: st) h := Ev.sto k fun C hl w => lv_astore_n C.1 C.2.1 hd rfl hl hn he w
theorem ev_astore {i : Nat} {x : Nat} {lv' : List (Nat × Value)} (hd : decode cc pc = .ok (.astore i, 2)) (hn : i < nL) (he : sv1 lv i (.ref x) = lv') (k : EvG g l cc nL y ret d h0 zc zs Z (pc + 2) lv' st h) : EvG g l cc nL y ret d h0 zc zs Z pc lv (.ref x :: st) h := Ev.sto k fun C hl w => lv_astore C.1 C.2.1 hd hl hn he w
theorem ev_astore_nr {q : Fin 4} {r : Option Nat} {lv' : List (Nat × Value)} (hd : decode cc pc = .ok (.astore_n q, 1)) (hn : (q : Nat) < nL) (he : sv1 lv (q : Nat) (va_rf r) = lv') (k : EvG g l cc nL y ret d h0 zc zs Z (pc + 1) lv' st h) : EvG g l cc nL y ret d h0 zc zs Z pc lv (va_rf r :: st) h := by
  cases r with
  | none => exact Ev.sto k fun C hl w => lv_astore_nN C.1 C.2.1 hd rfl hl hn he w
  | some x => exact ev_astore_n hd hn he k
theorem ev_astorer {i : Nat} {r : Option Nat} {lv' : List (Nat × Value)} (hd : decode cc pc = .ok (.astore i, 2)) (hn : i < nL) (he : sv1 lv i (va_rf r) = lv') (k : EvG g l cc nL y ret d h0 zc zs Z (pc + 2) lv' st h) : EvG g l cc nL y ret d h0 zc zs Z pc lv (va_rf r :: st) h := by
  cases r with
  | none => exact Ev.sto k fun C hl w => lv_astoreN C.1 C.2.1 hd hl hn he w
  | some x => exact ev_astore hd hn he k
theorem ev_iinc {i : Nat} {n : Int} {x v : Int32} {lv' : List (Nat × Value)} (j : Nat) (hd : decode cc pc = .ok (.iinc i n, 3)) (hm : lv[j]? = some (i, .int x)) (hv : x + Int32.ofInt n = v) (hn : i < nL) (he : sv1 lv i (.int v) = lv') (k : EvG g l cc nL y ret d h0 zc zs Z (pc + 3) lv' st h) : EvG g l cc nL y ret d h0 zc zs Z pc lv st h := Ev.sto k fun C hl w => lv_iinc C.1 C.2.1 hd hl hm hv hn he w
theorem ev_iadd {a b : Int32} (hd : decode cc pc = .ok (.iadd, 1)) (k : EvG g l cc nL y ret d h0 zc zs Z (pc + 1) lv (.int (a + b) :: st) h) : EvG g l cc nL y ret d h0 zc zs Z pc lv (.int b :: .int a :: st) h := Ev.up k fun C _ w => lv_iadd C.1 C.2.1 hd w
theorem ev_isub {a b : Int32} (hd : decode cc pc = .ok (.isub, 1)) (k : EvG g l cc nL y ret d h0 zc zs Z (pc + 1) lv (.int (a - b) :: st) h) : EvG g l cc nL y ret d h0 zc zs Z pc lv (.int b :: .int a :: st) h := Ev.up k fun C _ w => lv_isub C.1 C.2.1 hd w
theorem ev_imul {a b : Int32} (hd : decode cc pc = .ok (.imul, 1)) (k : EvG g l cc nL y ret d h0 zc zs Z (pc + 1) lv (.int (a * b) :: st) h) : EvG g l cc nL y ret d h0 zc zs Z pc lv (.int b :: .int a :: st) h := Ev.up k fun C _ w => lv_imul C.1 C.2.1 hd w
theorem ev_iand {a b : Int32} (hd : decode cc pc = .ok (.iand, 1)) (k : EvG g l cc nL y ret d h0 zc zs Z (pc + 1) lv (.int (a &&& b) :: st) h) : EvG g l cc nL y ret d h0 zc zs Z pc lv (.int b :: .int a :: st) h := Ev.up k fun C _ w => lv_iand C.1 C.2.1 hd w
theorem ev_ior {a b : Int32} (hd : decode cc pc = .ok (.ior, 1)) (k : EvG g l cc nL y ret d h0 zc zs Z (pc + 1) lv (.int (a ||| b) :: st) h) : EvG g l cc nL y ret d h0 zc zs Z pc lv (.int b :: .int a :: st) h := Ev.up k fun C _ w => lv_ior C.1 C.2.1 hd w
theorem ev_ixor {a b : Int32} (hd : decode cc pc = .ok (.ixor, 1)) (k : EvG g l cc nL y ret d h0 zc zs Z (pc + 1) lv (.int (a ^^^ b) :: st) h) : EvG g l cc nL y ret d h0 zc zs Z pc lv (.int b :: .int a :: st) h := Ev.up k fun C _ w => lv_ixor C.1 C.2.1 hd w
theorem ev_ishl {a b : Int32} (hd : decode cc pc = .ok (.ishl, 1)) (k : EvG g l cc nL y ret d h0 zc zs Z (pc + 1) lv (.int (a <<< (b &&& 31)) :: st) h) : EvG g l cc nL y ret d h0 zc zs Z pc lv (.int b :: .int a :: st) h := Ev.up k fun C _ w => lv_ishl C.1 C.2.1 hd w
theorem ev_ishr {a b : Int32} (hd : decode cc pc = .ok (.ishr, 1)) (k : EvG g l cc nL y ret d h0 zc zs Z (pc + 1) lv (.int (a >>> (b &&& 31)) :: st) h) : EvG g l cc nL y ret d h0 zc zs Z pc lv (.int b :: .int a :: st) h := Ev.up k fun C _ w => lv_ishr C.1 C.2.1 hd w
theorem ev_idiv {a b : Int32} (hd : decode cc pc = .ok (.idiv, 1)) (hne : ¬ b = 0) (k : EvG g l cc nL y ret d h0 zc zs Z (pc + 1) lv (.int (a / b) :: st) h) : EvG g l cc nL y ret d h0 zc zs Z pc lv (.int b :: .int a :: st) h := Ev.up k fun C _ w => lv_idiv C.1 C.2.1 hd hne w
theorem ev_irem {a b : Int32} (hd : decode cc pc = .ok (.irem, 1)) (hne : ¬ b = 0) (k : EvG g l cc nL y ret d h0 zc zs Z (pc + 1) lv (.int (a - a / b * b) :: st) h) : EvG g l cc nL y ret d h0 zc zs Z pc lv (.int b :: .int a :: st) h := Ev.up k fun C _ w => lv_irem C.1 C.2.1 hd hne w
theorem ev_ladd {a b : Int64} (hd : decode cc pc = .ok (.ladd, 1)) (k : EvG g l cc nL y ret d h0 zc zs Z (pc + 1) lv (.long (a + b) :: st) h) : EvG g l cc nL y ret d h0 zc zs Z pc lv (.long b :: .long a :: st) h := Ev.up k fun C _ w => lv_ladd C.1 C.2.1 hd w
theorem ev_lsub {a b : Int64} (hd : decode cc pc = .ok (.lsub, 1)) (k : EvG g l cc nL y ret d h0 zc zs Z (pc + 1) lv (.long (a - b) :: st) h) : EvG g l cc nL y ret d h0 zc zs Z pc lv (.long b :: .long a :: st) h := Ev.up k fun C _ w => lv_lsub C.1 C.2.1 hd w
theorem ev_lmul {a b : Int64} (hd : decode cc pc = .ok (.lmul, 1)) (k : EvG g l cc nL y ret d h0 zc zs Z (pc + 1) lv (.long (a * b) :: st) h) : EvG g l cc nL y ret d h0 zc zs Z pc lv (.long b :: .long a :: st) h := Ev.up k fun C _ w => lv_lmul C.1 C.2.1 hd w
theorem ev_ldiv {a b : Int64} (hd : decode cc pc = .ok (.ldiv, 1)) (hne : ¬ b = 0) (k : EvG g l cc nL y ret d h0 zc zs Z (pc + 1) lv (.long (a / b) :: st) h) : EvG g l cc nL y ret d h0 zc zs Z pc lv (.long b :: .long a :: st) h := Ev.up k fun C _ w => lv_ldiv C.1 C.2.1 hd hne w
theorem ev_lcmp {a b : Int64} (hd : decode cc pc = .ok (.lcmp, 1)) (k : EvG g l cc nL y ret d h0 zc zs Z (pc + 1) lv (.int (lg_cmp a b) :: st) h) : EvG g l cc nL y ret d h0 zc zs Z pc lv (.long b :: .long a :: st) h := Ev.up k fun C _ w => W.lcmp C.1 C.2.1 hd w
theorem ev_i2l {a : Int32} (hd : decode cc pc = .ok (.i2l, 1)) (k : EvG g l cc nL y ret d h0 zc zs Z (pc + 1) lv (.long a.toInt64 :: st) h) : EvG g l cc nL y ret d h0 zc zs Z pc lv (.int a :: st) h := Ev.up k fun C _ w => lv_i2l C.1 C.2.1 hd rfl w
theorem ev_l2i {a : Int64} (hd : decode cc pc = .ok (.l2i, 1)) (k : EvG g l cc nL y ret d h0 zc zs Z (pc + 1) lv (.int a.toInt32 :: st) h) : EvG g l cc nL y ret d h0 zc zs Z pc lv (.long a :: st) h := Ev.up k fun C _ w => lv_l2i C.1 C.2.1 hd rfl w
theorem ev_dup {v : Value} (hd : decode cc pc = .ok (.dup, 1)) (hv : v.category = 1) (k : EvG g l cc nL y ret d h0 zc zs Z (pc + 1) lv (v :: v :: st) h) : EvG g l cc nL y ret d h0 zc zs Z pc lv (v :: st) h := Ev.up k fun C _ w => lv_dup C.1 C.2.1 hd hv w
theorem ev_pop {v : Value} (hd : decode cc pc = .ok (.pop, 1)) (hv : v.category = 1) (k : EvG g l cc nL y ret d h0 zc zs Z (pc + 1) lv st h) : EvG g l cc nL y ret d h0 zc zs Z pc lv (v :: st) h := Ev.up k fun C _ w => lv_pop C.1 C.2.1 hd hv w
theorem ev_dup2 {v u : Value} (hd : decode cc pc = .ok (.dup2, 1)) (hv : v.category = 1) (hu : u.category = 1) (k : EvG g l cc nL y ret d h0 zc zs Z (pc + 1) lv (v :: u :: v :: u :: st) h) : EvG g l cc nL y ret d h0 zc zs Z pc lv (v :: u :: st) h := Ev.up k fun C _ w => lv_dup2_11 C.1 C.2.1 hd hv hu w
theorem ev_dup_x1 {v u : Value} (hd : decode cc pc = .ok (.dup_x1, 1)) (hv : v.category = 1) (hu : u.category = 1) (k : EvG g l cc nL y ret d h0 zc zs Z (pc + 1) lv (v :: u :: v :: st) h) : EvG g l cc nL y ret d h0 zc zs Z pc lv (v :: u :: st) h := Ev.up k fun C _ w => lv_dup_x1 C.1 C.2.1 hd hv hu w
theorem ev_goto {off : Int} {tgt : Nat} (hd : decode cc pc = .ok (.goto off, 3)) (ht : (pc : Int) + off = (tgt : Int)) (k : EvG g l cc nL y ret d h0 zc zs Z tgt lv st h) : EvG g l cc nL y ret d h0 zc zs Z pc lv st h := Ev.up k fun C _ w => lv_goto C.1 C.2.1 hd ht w
theorem ev_if_eqT {a : Int32} {off : Int} {tgt : Nat} (hd : decode cc pc = .ok (.ifCond .eq off, 3)) (ht : (pc : Int) + off = (tgt : Int)) (hc : a = 0) (k : EvG g l cc nL y ret d h0 zc zs Z tgt lv st h) : EvG g l cc nL y ret d h0 zc zs Z pc lv (.int a :: st) h := Ev.up k fun C _ w => lv_if_eq C.1 C.2.1 hd ht (fun _ => w) (fun q => absurd hc q)
theorem ev_if_eqF {a : Int32} {off : Int} {tgt : Nat} (hd : decode cc pc = .ok (.ifCond .eq off, 3)) (ht : (pc : Int) + off = (tgt : Int)) (hc : ¬ (a = 0)) (k : EvG g l cc nL y ret d h0 zc zs Z (pc + 3) lv st h) : EvG g l cc nL y ret d h0 zc zs Z pc lv (.int a :: st) h := Ev.up k fun C _ w => lv_if_eq C.1 C.2.1 hd ht (fun q => absurd q hc) (fun _ => w)
theorem ev_icmp_eqT {a b : Int32} {off : Int} {tgt : Nat} (hd : decode cc pc = .ok (.if_icmp .eq off, 3)) (ht : (pc : Int) + off = (tgt : Int)) (hc : a = b) (k : EvG g l cc nL y ret d h0 zc zs Z tgt lv st h) : EvG g l cc nL y ret d h0 zc zs Z pc lv (.int b :: .int a :: st) h := Ev.up k fun C _ w => lv_icmp_eq C.1 C.2.1 hd ht (fun _ => w) (fun q => absurd hc q)
theorem ev_icmp_eqF {a b : Int32} {off : Int} {tgt : Nat} (hd : decode cc pc = .ok (.if_icmp .eq off, 3)) (ht : (pc : Int) + off = (tgt : Int)) (hc : ¬ (a = b)) (k : EvG g l cc nL y ret d h0 zc zs Z (pc + 3) lv st h) : EvG g l cc nL y ret d h0 zc zs Z pc lv (.int b :: .int a :: st) h := Ev.up k fun C _ w => lv_icmp_eq C.1 C.2.1 hd ht (fun q => absurd q hc) (fun _ => w)
theorem ev_if_neT {a : Int32} {off : Int} {tgt : Nat} (hd : decode cc pc = .ok (.ifCond .ne off, 3)) (ht : (pc : Int) + off = (tgt : Int)) (hc : ¬ a = 0) (k : EvG g l cc nL y ret d h0 zc zs Z tgt lv st h) : EvG g l cc nL y ret d h0 zc zs Z pc lv (.int a :: st) h := Ev.up k fun C _ w => lv_if_ne C.1 C.2.1 hd ht (fun _ => w) (fun q => absurd q hc)
theorem ev_if_neF {a : Int32} {off : Int} {tgt : Nat} (hd : decode cc pc = .ok (.ifCond .ne off, 3)) (ht : (pc : Int) + off = (tgt : Int)) (hc : a = 0) (k : EvG g l cc nL y ret d h0 zc zs Z (pc + 3) lv st h) : EvG g l cc nL y ret d h0 zc zs Z pc lv (.int a :: st) h := Ev.up k fun C _ w => lv_if_ne C.1 C.2.1 hd ht (fun q => absurd hc q) (fun _ => w)
theorem ev_icmp_neT {a b : Int32} {off : Int} {tgt : Nat} (hd : decode cc pc = .ok (.if_icmp .ne off, 3)) (ht : (pc : Int) + off = (tgt : Int)) (hc : ¬ a = b) (k : EvG g l cc nL y ret d h0 zc zs Z tgt lv st h) : EvG g l cc nL y ret d h0 zc zs Z pc lv (.int b :: .int a :: st) h := Ev.up k fun C _ w => lv_icmp_ne C.1 C.2.1 hd ht (fun _ => w) (fun q => absurd q hc)
theorem ev_icmp_neF {a b : Int32} {off : Int} {tgt : Nat} (hd : decode cc pc = .ok (.if_icmp .ne off, 3)) (ht : (pc : Int) + off = (tgt : Int)) (hc : a = b) (k : EvG g l cc nL y ret d h0 zc zs Z (pc + 3) lv st h) : EvG g l cc nL y ret d h0 zc zs Z pc lv (.int b :: .int a :: st) h := Ev.up k fun C _ w => lv_icmp_ne C.1 C.2.1 hd ht (fun q => absurd hc q) (fun _ => w)
theorem ev_if_ltT {a : Int32} {off : Int} {tgt : Nat} (hd : decode cc pc = .ok (.ifCond .lt off, 3)) (ht : (pc : Int) + off = (tgt : Int)) (hc : a < 0) (k : EvG g l cc nL y ret d h0 zc zs Z tgt lv st h) : EvG g l cc nL y ret d h0 zc zs Z pc lv (.int a :: st) h := Ev.up k fun C _ w => lv_if_lt C.1 C.2.1 hd ht (fun _ => w) (fun q => absurd hc q)
theorem ev_if_ltF {a : Int32} {off : Int} {tgt : Nat} (hd : decode cc pc = .ok (.ifCond .lt off, 3)) (ht : (pc : Int) + off = (tgt : Int)) (hc : ¬ (a < 0)) (k : EvG g l cc nL y ret d h0 zc zs Z (pc + 3) lv st h) : EvG g l cc nL y ret d h0 zc zs Z pc lv (.int a :: st) h := Ev.up k fun C _ w => lv_if_lt C.1 C.2.1 hd ht (fun q => absurd q hc) (fun _ => w)
theorem ev_icmp_ltT {a b : Int32} {off : Int} {tgt : Nat} (hd : decode cc pc = .ok (.if_icmp .lt off, 3)) (ht : (pc : Int) + off = (tgt : Int)) (hc : a < b) (k : EvG g l cc nL y ret d h0 zc zs Z tgt lv st h) : EvG g l cc nL y ret d h0 zc zs Z pc lv (.int b :: .int a :: st) h := Ev.up k fun C _ w => lv_icmp_lt C.1 C.2.1 hd ht (fun _ => w) (fun q => absurd hc q)
theorem ev_icmp_ltF {a b : Int32} {off : Int} {tgt : Nat} (hd : decode cc pc = .ok (.if_icmp .lt off, 3)) (ht : (pc : Int) + off = (tgt : Int)) (hc : ¬ (a < b)) (k : EvG g l cc nL y ret d h0 zc zs Z (pc + 3) lv st h) : EvG g l cc nL y ret d h0 zc zs Z pc lv (.int b :: .int a :: st) h := Ev.up k fun C _ w => lv_icmp_lt C.1 C.2.1 hd ht (fun q => absurd q hc) (fun _ => w)
theorem ev_if_geT {a : Int32} {off : Int} {tgt : Nat} (hd : decode cc pc = .ok (.ifCond .ge off, 3)) (ht : (pc : Int) + off = (tgt : Int)) (hc : 0 ≤ a) (k : EvG g l cc nL y ret d h0 zc zs Z tgt lv st h) : EvG g l cc nL y ret d h0 zc zs Z pc lv (.int a :: st) h := Ev.up k fun C _ w => lv_if_ge C.1 C.2.1 hd ht (fun _ => w) (fun q => absurd hc q)
theorem ev_if_geF {a : Int32} {off : Int} {tgt : Nat} (hd : decode cc pc = .ok (.ifCond .ge off, 3)) (ht : (pc : Int) + off = (tgt : Int)) (hc : ¬ (0 ≤ a)) (k : EvG g l cc nL y ret d h0 zc zs Z (pc + 3) lv st h) : EvG g l cc nL y ret d h0 zc zs Z pc lv (.int a :: st) h := Ev.up k fun C _ w => lv_if_ge C.1 C.2.1 hd ht (fun q => absurd q hc) (fun _ => w)
theorem ev_icmp_geT {a b : Int32} {off : Int} {tgt : Nat} (hd : decode cc pc = .ok (.if_icmp .ge off, 3)) (ht : (pc : Int) + off = (tgt : Int)) (hc : b ≤ a) (k : EvG g l cc nL y ret d h0 zc zs Z tgt lv st h) : EvG g l cc nL y ret d h0 zc zs Z pc lv (.int b :: .int a :: st) h := Ev.up k fun C _ w => lv_icmp_ge C.1 C.2.1 hd ht (fun _ => w) (fun q => absurd hc q)
theorem ev_icmp_geF {a b : Int32} {off : Int} {tgt : Nat} (hd : decode cc pc = .ok (.if_icmp .ge off, 3)) (ht : (pc : Int) + off = (tgt : Int)) (hc : ¬ (b ≤ a)) (k : EvG g l cc nL y ret d h0 zc zs Z (pc + 3) lv st h) : EvG g l cc nL y ret d h0 zc zs Z pc lv (.int b :: .int a :: st) h := Ev.up k fun C _ w => lv_icmp_ge C.1 C.2.1 hd ht (fun q => absurd q hc) (fun _ => w)
theorem ev_if_gtT {a : Int32} {off : Int} {tgt : Nat} (hd : decode cc pc = .ok (.ifCond .gt off, 3)) (ht : (pc : Int) + off = (tgt : Int)) (hc : 0 < a) (k : EvG g l cc nL y ret d h0 zc zs Z tgt lv st h) : EvG g l cc nL y ret d h0 zc zs Z pc lv (.int a :: st) h := Ev.up k fun C _ w => lv_if_gt C.1 C.2.1 hd ht (fun _ => w) (fun q => absurd hc q)
theorem ev_if_gtF {a : Int32} {off : Int} {tgt : Nat} (hd : decode cc pc = .ok (.ifCond .gt off, 3)) (ht : (pc : Int) + off = (tgt : Int)) (hc : ¬ (0 < a)) (k : EvG g l cc nL y ret d h0 zc zs Z (pc + 3) lv st h) : EvG g l cc nL y ret d h0 zc zs Z pc lv (.int a :: st) h := Ev.up k fun C _ w => lv_if_gt C.1 C.2.1 hd ht (fun q => absurd q hc) (fun _ => w)
theorem ev_icmp_gtT {a b : Int32} {off : Int} {tgt : Nat} (hd : decode cc pc = .ok (.if_icmp .gt off, 3)) (ht : (pc : Int) + off = (tgt : Int)) (hc : b < a) (k : EvG g l cc nL y ret d h0 zc zs Z tgt lv st h) : EvG g l cc nL y ret d h0 zc zs Z pc lv (.int b :: .int a :: st) h := Ev.up k fun C _ w => lv_icmp_gt C.1 C.2.1 hd ht (fun _ => w) (fun q => absurd hc q)
theorem ev_icmp_gtF {a b : Int32} {off : Int} {tgt : Nat} (hd : decode cc pc = .ok (.if_icmp .gt off, 3)) (ht : (pc : Int) + off = (tgt : Int)) (hc : ¬ (b < a)) (k : EvG g l cc nL y ret d h0 zc zs Z (pc + 3) lv st h) : EvG g l cc nL y ret d h0 zc zs Z pc lv (.int b :: .int a :: st) h := Ev.up k fun C _ w => lv_icmp_gt C.1 C.2.1 hd ht (fun q => absurd q hc) (fun _ => w)
theorem ev_if_leT {a : Int32} {off : Int} {tgt : Nat} (hd : decode cc pc = .ok (.ifCond .le off, 3)) (ht : (pc : Int) + off = (tgt : Int)) (hc : a ≤ 0) (k : EvG g l cc nL y ret d h0 zc zs Z tgt lv st h) : EvG g l cc nL y ret d h0 zc zs Z pc lv (.int a :: st) h := Ev.up k fun C _ w => lv_if_le C.1 C.2.1 hd ht (fun _ => w) (fun q => absurd hc q)
theorem ev_if_leF {a : Int32} {off : Int} {tgt : Nat} (hd : decode cc pc = .ok (.ifCond .le off, 3)) (ht : (pc : Int) + off = (tgt : Int)) (hc : ¬ (a ≤ 0)) (k : EvG g l cc nL y ret d h0 zc zs Z (pc + 3) lv st h) : EvG g l cc nL y ret d h0 zc zs Z pc lv (.int a :: st) h := Ev.up k fun C _ w => lv_if_le C.1 C.2.1 hd ht (fun q => absurd q hc) (fun _ => w)
theorem ev_icmp_leT {a b : Int32} {off : Int} {tgt : Nat} (hd : decode cc pc = .ok (.if_icmp .le off, 3)) (ht : (pc : Int) + off = (tgt : Int)) (hc : a ≤ b) (k : EvG g l cc nL y ret d h0 zc zs Z tgt lv st h) : EvG g l cc nL y ret d h0 zc zs Z pc lv (.int b :: .int a :: st) h := Ev.up k fun C _ w => lv_icmp_le C.1 C.2.1 hd ht (fun _ => w) (fun q => absurd hc q)
theorem ev_icmp_leF {a b : Int32} {off : Int} {tgt : Nat} (hd : decode cc pc = .ok (.if_icmp .le off, 3)) (ht : (pc : Int) + off = (tgt : Int)) (hc : ¬ (a ≤ b)) (k : EvG g l cc nL y ret d h0 zc zs Z (pc + 3) lv st h) : EvG g l cc nL y ret d h0 zc zs Z pc lv (.int b :: .int a :: st) h := Ev.up k fun C _ w => lv_icmp_le C.1 C.2.1 hd ht (fun q => absurd q hc) (fun _ => w)
theorem ev_ifnullS {x : Nat} {off : Int} (hd : decode cc pc = .ok (.ifnull off, 3)) (k : EvG g l cc nL y ret d h0 zc zs Z (pc + 3) lv st h) : EvG g l cc nL y ret d h0 zc zs Z pc lv (.ref x :: st) h := Ev.up k fun C _ w => lv_ifnull C.1 C.2.1 hd w
theorem ev_ifnullN {off : Int} {tgt : Nat} (hd : decode cc pc = .ok (.ifnull off, 3)) (ht : (pc : Int) + off = (tgt : Int)) (k : EvG g l cc nL y ret d h0 zc zs Z tgt lv st h) : EvG g l cc nL y ret d h0 zc zs Z pc lv (va_rf none :: st) h := Ev.up k fun C _ w => lv_ifnullN C.1 C.2.1 hd ht w
theorem ev_ifnonnullS {x : Nat} {off : Int} {tgt : Nat} (hd : decode cc pc = .ok (.ifnonnull off, 3)) (ht : (pc : Int) + off = (tgt : Int)) (k : EvG g l cc nL y ret d h0 zc zs Z tgt lv st h) : EvG g l cc nL y ret d h0 zc zs Z pc lv (.ref x :: st) h := Ev.up k fun C _ w => lv_ifnonnull C.1 C.2.1 hd ht w
theorem ev_ifnonnullN {off : Int} (hd : decode cc pc = .ok (.ifnonnull off, 3)) (k : EvG g l cc nL y ret d h0 zc zs Z (pc + 3) lv st h) : EvG g l cc nL y ret d h0 zc zs Z pc lv (va_rf none :: st) h := Ev.up k fun C _ w => lv_ifnonnullN C.1 C.2.1 hd w
theorem ev_tableIn {dflt lo hi : Int} {offs : Array Int} {len : Nat} {x : Int32} {off : Int} {tgt : Nat} (hd : decode cc pc = .ok (.tableswitch dflt lo hi offs, len)) (h1 : ¬ x.toInt < lo) (h2 : ¬ hi < x.toInt) (ho : offs[(x.toInt - lo).toNat]? = some off) (ht : (pc : Int) + off = (tgt : Int)) (k : EvG g l cc nL y ret d h0 zc zs Z tgt lv st h) : EvG g l cc nL y ret d h0 zc zs Z pc lv (.int x :: st) h := Ev.up k fun C _ w => lv_tableIn C.1 C.2.1 hd h1 h2 ho ht w
theorem ev_tableOut {dflt lo hi : Int} {offs : Array Int} {len : Nat} {x : Int32} {tgt : Nat} (hd : decode cc pc = .ok (.tableswitch dflt lo hi offs, len)) (hx : x.toInt < lo ∨ hi < x.toInt) (ht : (pc : Int) + dflt = (tgt : Int)) (k : EvG g l cc nL y ret d h0 zc zs Z tgt lv st h) : EvG g l cc nL y ret d h0 zc zs Z pc lv (.int x :: st) h := Ev.up k fun C _ w => lv_tableOut C.1 C.2.1 hd hx ht w
theorem ev_lookup {dflt : Int} {ps : Array (Int × Int)} {len : Nat} {x : Int32} {off : Int} {tgt : Nat} (hd : decode cc pc = .ok (.lookupswitch dflt ps, len)) (hp : (ps.toList.zip (ps.toList.drop 1)).all (fun (a, next) => a.1 < next.1) = true) (ho : Op.lookupswitch.offset ps.toList dflt x.toInt = off) (ht : (pc : Int) + off = (tgt : Int)) (k : EvG g l cc nL y ret d h0 zc zs Z tgt lv st h) : EvG g l cc nL y ret d h0 zc zs Z pc lv (.int x :: st) h := Ev.up k fun C _ w => lv_lookup C.1 C.2.1 hd hp ho ht w
end Rows
