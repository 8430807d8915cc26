theorem W.size {p : Program} {l : Launch} {e : Env} {R : Room} {s : State} {m : MethodId} {args : Array Value} {below : List Frame} {meth : Method} {c : Code} {H : Heap} {locs : List Loc} {cells slots : Nat} {Q : State → Prop} {g : JFrame} (f : H.size ≤ s.heap.size + cells → W p l e R s m args below meth c H locs cells slots Q g) : W p l e R s m args below meth c H locs cells slots Q g :=
  fun T hT X => f (by rw [← hT]; exact X.heapSize) T hT X
theorem cf_obj {g : aG} {h : aH} {a ci : Nat} (hk : hK h a = ci + 1) (hc : ci < 19) : cf g h a = .inr (ci, fl ci h a) := by
  unfold cf
  rw [hk, if_pos (by omega), Nat.add_sub_cancel]
theorem fn_of {ci N : Nat} {C : String} {T : u_T} (hc : vwCl[ci]? = some (C, T, N)) : fn ci = N := by unfold fn; rw [hc]
theorem fl_get {ci N k : Nat} {C : String} {T : u_T} {h : aH} {a : Nat} (hc : vwCl[ci]? = some (C, T, N)) (hk : k < N) : (fl ci h a)[k]? = some (fv ci h a k) := by
  unfold fl
  rw [fn_of hc, List.getElem?_map, List.getElem?_range hk]
  rfl
theorem fl_len {ci N : Nat} {C : String} {T : u_T} {h : aH} {a : Nat} (hc : vwCl[ci]? = some (C, T, N)) : (fl ci h a).length = N := by
  unfold fl
  rw [fn_of hc, List.length_map, List.length_range]
theorem fl_ext {ci : Nat} {h h' : aH} {a : Nat} (e : ∀ k, fv ci h' a k = fv ci h a k) : fl ci h' a = fl ci h a := by
  unfold fl
  exact List.map_congr_left (fun k _ => e k)
theorem fl_set {ci N k : Nat} {C : String} {T : u_T} {h h' : aH} {a : Nat} {v : Value} (hc : vwCl[ci]? = some (C, T, N)) (hk : k < N) (e1 : fv ci h' a k = v) (e2 : ∀ j, j ≠ k → fv ci h' a j = fv ci h a j) : (fl ci h a).set k v = fl ci h' a := by
  apply List.ext_getElem?
  intro j
  by_cases hj : j = k
  · subst hj
    rw [List.getElem?_set_self (by rw [fl_len hc]; exact hk), fl_get hc hk, e1]
  · rw [List.getElem?_set_ne (Ne.symm hj)]
    by_cases hjn : j < N
    · rw [fl_get hc hjn, fl_get hc hjn, e2 j hj]
    · rw [List.getElem?_eq_none (by rw [fl_len hc]; omega), List.getElem?_eq_none (by rw [fl_len hc]; omega)]
theorem up2_eq {α : Type} {f : Nat → Nat → α} {i a : Nat} {v : α} : up2 f i a v i a = v := by simp [up2]
theorem up2_ne1 {α : Type} {f : Nat → Nat → α} {i a j b : Nat} {v : α} (hj : j ≠ i) : up2 f i a v j b = f j b := by simp [up2, hj]
theorem up2_ne2 {α : Type} {f : Nat → Nat → α} {i a j b : Nat} {v : α} (hb : b ≠ a) : up2 f i a v j b = f j b := by simp [up2, hb]
theorem cf_sF {g : aG} {h : aH} {a ci k N : Nat} {C : String} {T : u_T} {v : Int32} (hc : vwCl[ci]? = some (C, T, N)) (hk : k < N) (hi : fI ci k = true) (hK' : hK h a = ci + 1) (hci : ci < 19) : va_up (cf g h) a (.inr (ci, (fl ci h a).set k (.int v))) = cf g (sF h (100 * ci + k) a v) := by
  funext b
  by_cases hb : b = a
  · subst hb
    rw [va_up_self, cf_obj (h := sF h (100 * ci + k) b v) hK' hci]
    rw [fl_set (h' := sF h (100 * ci + k) b v) hc hk]
    · unfold fv; rw [if_pos hi]; show Value.int (up2 _ _ _ _ _ _) = _; rw [up2_eq]
    · intro j hj; unfold fv
      show (if fI ci j = true then Value.int (up2 (hF h) _ _ _ _ _) else va_rf (hG h (100 * ci + j) b)) = _
      rw [up2_ne1 (by omega)]
  · rw [va_up_ne _ _ hb]
    have e : ∀ cj, fl cj (sF h (100 * ci + k) a v) b = fl cj h b := fun cj => fl_ext (fun j => by
      unfold fv
      show (if fI cj j = true then Value.int (up2 (hF h) _ _ _ _ _) else va_rf (hG h (100 * cj + j) b)) = _
      rw [up2_ne2 hb])
    unfold cf
    show _ = if hK h b < 20 then _ else _
    rw [e]
    rfl
theorem cf_sG {g : aG} {h : aH} {a ci k N : Nat} {C : String} {T : u_T} {v : Option Nat} (hc : vwCl[ci]? = some (C, T, N)) (hk : k < N) (hi : fI ci k = false) (hK' : hK h a = ci + 1) (hci : ci < 19) : va_up (cf g h) a (.inr (ci, (fl ci h a).set k (va_rf v))) = cf g (sG h (100 * ci + k) a v) := by
  funext b
  by_cases hb : b = a
  · subst hb
    rw [va_up_self, cf_obj (h := sG h (100 * ci + k) b v) hK' hci]
    rw [fl_set (h' := sG h (100 * ci + k) b v) hc hk]
    · unfold fv; rw [if_neg (by rw [hi]; decide)]; show va_rf (up2 _ _ _ _ _ _) = _; rw [up2_eq]
    · intro j hj; unfold fv
      show (if fI ci j = true then Value.int (hF h (100 * ci + j) b) else va_rf (up2 (hG h) _ _ _ _ _)) = _
      rw [up2_ne1 (by omega)]
  · rw [va_up_ne _ _ hb]
    have e : ∀ cj, fl cj (sG h (100 * ci + k) a v) b = fl cj h b := fun cj => fl_ext (fun j => by
      unfold fv
      show (if fI cj j = true then Value.int (hF h (100 * cj + j) b) else va_rf (up2 (hG h) _ _ _ _ _)) = _
      rw [up2_ne2 hb])
    unfold cf
    show _ = if hK h b < 20 then _ else _
    rw [e]
    rfl
theorem cf_I {g : aG} {h : aH} {a k : Nat} (hk : hK h a = k) (h1 : k = 21 ∨ k = 22) : cf g h a = .inl (gC g k, hN h a, .inl (hI h a)) := by
  unfold cf; rw [hk, if_neg (by omega), if_pos (by omega)]
theorem cf_J {g : aG} {h : aH} {a : Nat} (hk : hK h a = 23) : cf g h a = .inl (gC g 23, hN h a, .inr (.inl (hJ h a))) := by
  unfold cf; rw [hk, if_neg (by omega), if_neg (by omega), if_pos rfl]
theorem cf_O {g : aG} {h : aH} {a k : Nat} (hk : hK h a = k) (h1 : 23 < k) : cf g h a = .inl (gC g k, hN h a, .inr (.inr (.inr (.inr (hO h a))))) := by
  unfold cf; rw [hk, if_neg (by omega), if_neg (by omega), if_neg (by omega)]
theorem up2_row {α : Type} {f : Nat → Nat → α} {a i : Nat} {v : α} : up2 f a i v a = (fun j => if j = i then v else f a j) := by
  funext j; simp [up2]
theorem up2_rowne {α : Type} {f : Nat → Nat → α} {a i b : Nat} {v : α} (hb : b ≠ a) : up2 f a i v b = f b := by
  funext j; simp [up2, hb]
theorem cf_sI {g : aG} {h : aH} {a k i : Nat} {v : Int32} (hk : hK h a = k) (h1 : k = 21 ∨ k = 22) : va_up (cf g h) a (.inl (gC g k, hN h a, .inl (upd (hI h a) i v))) = cf g (sI h a i v) := by
  funext b
  by_cases hb : b = a
  · subst hb
    rw [va_up_self, cf_I (h := sI h b i v) hk h1]
    show _ = Sum.inl (gC g k, hN h b, Sum.inl (up2 (hI h) b i v b))
    rw [up2_row]
    rfl
  · rw [va_up_ne _ _ hb]
    unfold cf
    show _ = if hK h b < 20 then _ else if hK h b < 23 then Sum.inl (gC g (hK h b), hN h b, Sum.inl (up2 (hI h) a i v b)) else _
    rw [up2_rowne hb]
    rfl
theorem cf_sJ {g : aG} {h : aH} {a i : Nat} {v : Int64} (hk : hK h a = 23) : va_up (cf g h) a (.inl (gC g 23, hN h a, .inr (.inl (vp_updL (hJ h a) i v)))) = cf g (sJ h a i v) := by
  funext b
  by_cases hb : b = a
  · subst hb
    rw [va_up_self, cf_J (h := sJ h b i v) hk]
    show _ = Sum.inl (gC g 23, hN h b, Sum.inr (Sum.inl (up2 (hJ h) b i v b)))
    rw [up2_row]
    rfl
  · rw [va_up_ne _ _ hb]
    unfold cf
    show _ = if hK h b < 20 then _ else if hK h b < 23 then _ else if hK h b = 23 then Sum.inl (gC g 23, hN h b, Sum.inr (Sum.inl (up2 (hJ h) a i v b))) else _
    rw [up2_rowne hb]
    rfl
theorem cf_sO {g : aG} {h : aH} {a k i : Nat} {v : Option Nat} (hk : hK h a = k) (h1 : 23 < k) : va_up (cf g h) a (.inl (gC g k, hN h a, .inr (.inr (.inr (.inr (va_up (hO h a) i v)))))) = cf g (sO h a i v) := by
  funext b
  by_cases hb : b = a
  · subst hb
    rw [va_up_self, cf_O (h := sO h b i v) hk h1]
    show _ = Sum.inl (gC g k, hN h b, Sum.inr (Sum.inr (Sum.inr (Sum.inr (up2 (hO h) b i v b)))))
    rw [up2_row]
    rfl
  · rw [va_up_ne _ _ hb]
    unfold cf
    show _ = if hK h b < 20 then _ else if hK h b < 23 then _ else if hK h b = 23 then _ else Sum.inl (gC g (hK h b), hN h b, Sum.inr (Sum.inr (Sum.inr (Sum.inr (up2 (hO h) a i v b)))))
    rw [up2_rowne hb]
    rfl

/-- a class by its number: its row in vwCl, its words, its fields' types and names -/
def ClF (ci : Nat) (C : String) (T : u_T) (N : Nat) (ty : Nat → FieldType) : Prop := vwCl[ci]? = some (C, T, N) ∧ (∀ w ∈ u_ws C T N, w ∈ lw_gd) ∧ (∀ k, k < N → parseFieldDescriptor (T k).2.2.1 = some (ty k)) ∧ (∀ a, a < N → ∀ b, b < N → a ≠ b → (T a).2.1 ≠ (T b).2.1) ∧ ci < 19
theorem HW.at {g : aG} {h : aH} {H : Heap} {L : List Nat} {a : Nat} (hL : ∀ a, hK h a ≠ 0 → a ∈ L) (ha : hK h a ≠ 0) : ∃ k : Nat, (va_pl L (cf g h))[k]? = some (a, cf g h a) := by
  obtain ⟨k, hk⟩ := va_pl_get (X := []) (f := cf g h) (hL a ha)
  exact ⟨k, hk⟩
theorem va_S.self {A : Nat → Prop} {H0 H : Heap} {locs : List Loc} (h : va_S A H0 H locs) : va_S A H H locs := ⟨Nat.le_refl _, fun _ _ _ => rfl, h.2.2⟩
theorem va_S.tr {A : Nat → Prop} {H0 H H1 : Heap} {locs locs1 : List Loc} (h : va_S A H0 H locs) (h1 : va_S A H H1 locs1) : va_S A H0 H1 locs1 := ⟨Nat.le_trans h.1 h1.1, fun q hq hA => (h1.2.1 q (Nat.lt_of_lt_of_le hq h.1) hA).trans (h.2.1 q hq hA), h1.2.2⟩
/-- the heap behind a store: the same addresses, the same kinds -/
theorem HW.upd {g : aG} {h h' : aH} {H H1 : Heap} {L : List Nat} (hP : va_P (gD g) vwCl (va_pl L (cf g h')) H1) (hD : va_D (gA g) (va_pl L (cf g h'))) (hL : ∀ a, hK h a ≠ 0 → a ∈ L) (hzz : hz h ≤ H.size) (hB : gB g ≤ hz h ∧ hE h = gE g ∧ gE g < gB g) (hL2 : ∀ a, a ∈ L → hK h a ≠ 0 ∧ a < hz h) (hsz : H.size ≤ H1.size) (eK : hK h' = hK h) (eZ : hz h' = hz h) (eE : hE h' = hE h := by rfl) : HW g h' H1 := by
  refine ⟨L, hP, hD, ?_, ?_, ?_, ?_⟩
  · rw [eK]; exact hL
  · rw [eZ]; omega
  · rw [eZ, eE]; exact hB
  · rw [eK, eZ]; exact hL2
section RowsH
variable {g : aG} {l : Launch} {cc : ByteArray} {nL : Nat} {y : MethodName} {ret : Option FieldType} {d : Nat} {h0 : aH} {zc zs : Nat} {Z : List Frame → Array Value → State → State → Prop} {pc : Nat} {lv : List (Nat × Value)} {st : List Value} {h : aH}
variable {ci k N : Nat} {C : String} {T : u_T} {ty : Nat → FieldType} {a idx : Nat}
theorem ev_get (cl : ClF ci C T N ty) (hk : k < N) (hw : Cond.fieldLink y.cls idx (T k).1 (T k).2.1 (T k).2.2.1 ∈ lw_gd) (hd : decode cc pc = .ok (.getfield idx, 3)) (hKa : hK h a = ci + 1) (kk : EvG g l cc nL y ret d h0 zc zs Z (pc + 3) lv (fv ci h a k :: st) h) : EvG g l cc nL y ret d h0 zc zs Z pc lv (.ref a :: st) h := by
  refine ⟨kk.1, kk.2.1, fun p e s m args below meth c X H locs ls hl hH hS hsz h1 h2 => ?_⟩
  have w := kk.2.2 p e s m args below meth c X H locs ls hl hH hS hsz h1 h2
  obtain ⟨hx, hb, hml, hown, hts, hr, hlk, hnm, hKs, hro, hnw, hao, hnd⟩ := X
  obtain ⟨L, hP, hD, hL, hzz, hB, hL2⟩ := hH
  obtain ⟨q0, he⟩ := HW.at (g := g) (H := H) hL (a := a) (by omega)
  rw [cf_obj hKa cl.2.2.2.2] at he
  exact va_get hx hb hts cl.2.1 hown hKs hP q0 he cl.1 k hk (hts _ hw) (fun _ q => q) (fl_get cl.1 hk) hd w
theorem ev_getN {host : String} (cl : ClF ci C T N ty) (hk : k < N) (hw : Cond.fieldLinkNest y.cls idx (T k).1 (T k).2.1 (T k).2.2.1 host ∈ lw_nw) (hd : decode cc pc = .ok (.getfield idx, 3)) (hKa : hK h a = ci + 1) (kk : EvG g l cc nL y ret d h0 zc zs Z (pc + 3) lv (fv ci h a k :: st) h) : EvG g l cc nL y ret d h0 zc zs Z pc lv (.ref a :: st) h := by
  refine ⟨kk.1, kk.2.1, fun p e s m args below meth c X H locs ls hl hH hS hsz h1 h2 => ?_⟩
  have w := kk.2.2 p e s m args below meth c X H locs ls hl hH hS hsz h1 h2
  obtain ⟨hx, hb, hml, hown, hts, hr, hlk, hnm, hKs, hro, hnw, hao, hnd⟩ := X
  obtain ⟨L, hP, hD, hL, hzz, hB, hL2⟩ := hH
  obtain ⟨q0, he⟩ := HW.at (g := g) (H := H) hL (a := a) (by omega)
  rw [cf_obj hKa cl.2.2.2.2] at he
  exact va_getN hx hb hts cl.2.1 hown hKs hP q0 he cl.1 k hk (va_Nw.use rfl (hnw.1 _ hw)) (fun _ q => q) (fl_get cl.1 hk) hd w
theorem ev_putI {v : Int32} (cl : ClF ci C T N ty) (hk : k < N) (hi : fI ci k = true) (hw : Cond.fieldLink y.cls idx (T k).1 (T k).2.1 (T k).2.2.1 ∈ lw_gd) (hfin : (T k).2.2.2 = false) (hn : narrow (ty k) (.int v) = .int v) (hf : fits (ty k) (.int v) = true) (hd : decode cc pc = .ok (.putfield idx, 3)) (hKa : hK h a = ci + 1) (kk : EvG g l cc nL y ret d h0 zc zs Z (pc + 3) lv st (sF h (100 * ci + k) a v)) : EvG g l cc nL y ret d h0 zc zs Z pc lv (.int v :: .ref a :: st) h := by
  refine ⟨kk.1, kk.2.1, fun p e s m args below meth c X H locs ls hl hH hS hsz h1 h2 => ?_⟩
  have w := fun H1 locs1 hH hS => kk.2.2 p e s m args below meth c X H1 locs1 ls hl hH hS hsz h1 h2
  obtain ⟨hx, hb, hml, hown, hts, hr, hlk, hnm, hKs, hro, hnw, hao, hnd⟩ := X
  obtain ⟨L, hP, hD, hL, hzz, hB, hL2⟩ := hH
  obtain ⟨q0, he⟩ := HW.at (g := g) (H := H) hL (a := a) (by omega)
  have he' := he
  rw [cf_obj hKa cl.2.2.2.2] at he
  refine va_put hx hb hts cl.2.1 ty cl.2.2.1 cl.2.2.2.1 hown hKs hP hD hS.self q0 he cl.1 k hk (hts _ hw) (fun _ q => q) hfin (cl.2.2.1 k hk) hn hf (by rw [fl_len cl.1]; exact hk) hd fun H1 locs1 hP1 hD1 hS1 => ?_
  have e := (va_pl_set (X := []) (e := .inr (ci, (fl ci h a).set k (.int v))) hD (hL a (by omega)) he').trans (by rw [cf_sF cl.1 hk hi hKa cl.2.2.2.2])
  simp only [List.nil_append] at e
  rw [e] at hP1 hD1
  exact w H1 locs1 (HW.upd hP1 hD1 hL hzz hB hL2 hS1.1 rfl rfl) (hS.tr hS1)
theorem ev_putIN {host : String} {v : Int32} (cl : ClF ci C T N ty) (hk : k < N) (hi : fI ci k = true) (hw : Cond.fieldLinkNest y.cls idx (T k).1 (T k).2.1 (T k).2.2.1 host ∈ lw_nw) (hfin : (T k).2.2.2 = false) (hn : narrow (ty k) (.int v) = .int v) (hf : fits (ty k) (.int v) = true) (hd : decode cc pc = .ok (.putfield idx, 3)) (hKa : hK h a = ci + 1) (kk : EvG g l cc nL y ret d h0 zc zs Z (pc + 3) lv st (sF h (100 * ci + k) a v)) : EvG g l cc nL y ret d h0 zc zs Z pc lv (.int v :: .ref a :: st) h := by
  refine ⟨kk.1, kk.2.1, fun p e s m args below meth c X H locs ls hl hH hS hsz h1 h2 => ?_⟩
  have w := fun H1 locs1 hH hS => kk.2.2 p e s m args below meth c X H1 locs1 ls hl hH hS hsz h1 h2
  obtain ⟨hx, hb, hml, hown, hts, hr, hlk, hnm, hKs, hro, hnw, hao, hnd⟩ := X
  obtain ⟨L, hP, hD, hL, hzz, hB, hL2⟩ := hH
  obtain ⟨q0, he⟩ := HW.at (g := g) (H := H) hL (a := a) (by omega)
  have he' := he
  rw [cf_obj hKa cl.2.2.2.2] at he
  refine va_putN hx hb hts cl.2.1 ty cl.2.2.1 cl.2.2.2.1 hown hKs hP hD hS.self q0 he cl.1 k hk (va_Nw.use rfl (hnw.1 _ hw)) (fun _ q => q) hfin (cl.2.2.1 k hk) hn hf (by rw [fl_len cl.1]; exact hk) hd fun H1 locs1 hP1 hD1 hS1 => ?_
  have e := (va_pl_set (X := []) (e := .inr (ci, (fl ci h a).set k (.int v))) hD (hL a (by omega)) he').trans (by rw [cf_sF cl.1 hk hi hKa cl.2.2.2.2])
  simp only [List.nil_append] at e
  rw [e] at hP1 hD1
  exact w H1 locs1 (HW.upd hP1 hD1 hL hzz hB hL2 hS1.1 rfl rfl) (hS.tr hS1)
theorem ev_putIF {v : Int32} (cl : ClF ci C T N ty) (hk : k < N) (hi : fI ci k = true) (hw : Cond.fieldLink y.cls idx (T k).1 (T k).2.1 (T k).2.2.1 ∈ lw_gd) (hfin : (T k).2.2.2 = true) (hin : y.name = "<init>") (hdc : (T k).1 = y.cls) (hn : narrow (ty k) (.int v) = .int v) (hf : fits (ty k) (.int v) = true) (hd : decode cc pc = .ok (.putfield idx, 3)) (hKa : hK h a = ci + 1) (kk : EvG g l cc nL y ret d h0 zc zs Z (pc + 3) lv st (sF h (100 * ci + k) a v)) : EvG g l cc nL y ret d h0 zc zs Z pc lv (.int v :: .ref a :: st) h := by
  refine ⟨kk.1, kk.2.1, fun p e s m args below meth c X H locs ls hl hH hS hsz h1 h2 => ?_⟩
  have w := fun H1 locs1 hH hS => kk.2.2 p e s m args below meth c X H1 locs1 ls hl hH hS hsz h1 h2
  obtain ⟨hx, hb, hml, hown, hts, hr, hlk, hnm, hKs, hro, hnw, hao, hnd⟩ := X
  obtain ⟨L, hP, hD, hL, hzz, hB, hL2⟩ := hH
  obtain ⟨q0, he⟩ := HW.at (g := g) (H := H) hL (a := a) (by omega)
  have he' := he
  rw [cf_obj hKa cl.2.2.2.2] at he
  refine va_putF hx hb hts cl.2.1 ty cl.2.2.1 cl.2.2.2.1 hown hKs hP hD hS.self q0 he cl.1 k hk (hts _ hw) (fun _ q => q) hfin (hnm.trans hin) hdc (cl.2.2.1 k hk) hn hf (by rw [fl_len cl.1]; exact hk) hd fun H1 locs1 hP1 hD1 hS1 => ?_
  have e := (va_pl_set (X := []) (e := .inr (ci, (fl ci h a).set k (.int v))) hD (hL a (by omega)) he').trans (by rw [cf_sF cl.1 hk hi hKa cl.2.2.2.2])
  simp only [List.nil_append] at e
  rw [e] at hP1 hD1
  exact w H1 locs1 (HW.upd hP1 hD1 hL hzz hB hL2 hS1.1 rfl rfl) (hS.tr hS1)
theorem ev_putG {v : Option Nat} (cl : ClF ci C T N ty) (hk : k < N) (hi : fI ci k = false) (hw : Cond.fieldLink y.cls idx (T k).1 (T k).2.1 (T k).2.2.1 ∈ lw_gd) (hfin : (T k).2.2.2 = false) (hn : narrow (ty k) (va_rf v) = va_rf v) (hf : fits (ty k) (va_rf v) = true) (hd : decode cc pc = .ok (.putfield idx, 3)) (hKa : hK h a = ci + 1) (kk : EvG g l cc nL y ret d h0 zc zs Z (pc + 3) lv st (sG h (100 * ci + k) a v)) : EvG g l cc nL y ret d h0 zc zs Z pc lv (va_rf v :: .ref a :: st) h := by
  refine ⟨kk.1, kk.2.1, fun p e s m args below meth c X H locs ls hl hH hS hsz h1 h2 => ?_⟩
  have w := fun H1 locs1 hH hS => kk.2.2 p e s m args below meth c X H1 locs1 ls hl hH hS hsz h1 h2
  obtain ⟨hx, hb, hml, hown, hts, hr, hlk, hnm, hKs, hro, hnw, hao, hnd⟩ := X
  obtain ⟨L, hP, hD, hL, hzz, hB, hL2⟩ := hH
  obtain ⟨q0, he⟩ := HW.at (g := g) (H := H) hL (a := a) (by omega)
  have he' := he
  rw [cf_obj hKa cl.2.2.2.2] at he
  refine va_put hx hb hts cl.2.1 ty cl.2.2.1 cl.2.2.2.1 hown hKs hP hD hS.self q0 he cl.1 k hk (hts _ hw) (fun _ q => q) hfin (cl.2.2.1 k hk) hn hf (by rw [fl_len cl.1]; exact hk) hd fun H1 locs1 hP1 hD1 hS1 => ?_
  have e := (va_pl_set (X := []) (e := .inr (ci, (fl ci h a).set k (va_rf v))) hD (hL a (by omega)) he').trans (by rw [cf_sG cl.1 hk hi hKa cl.2.2.2.2])
  simp only [List.nil_append] at e
  rw [e] at hP1 hD1
  exact w H1 locs1 (HW.upd hP1 hD1 hL hzz hB hL2 hS1.1 rfl rfl) (hS.tr hS1)
theorem ev_putGN {host : String} {v : Option Nat} (cl : ClF ci C T N ty) (hk : k < N) (hi : fI ci k = false) (hw : Cond.fieldLinkNest y.cls idx (T k).1 (T k).2.1 (T k).2.2.1 host ∈ lw_nw) (hfin : (T k).2.2.2 = false) (hn : narrow (ty k) (va_rf v) = va_rf v) (hf : fits (ty k) (va_rf v) = true) (hd : decode cc pc = .ok (.putfield idx, 3)) (hKa : hK h a = ci + 1) (kk : EvG g l cc nL y ret d h0 zc zs Z (pc + 3) lv st (sG h (100 * ci + k) a v)) : EvG g l cc nL y ret d h0 zc zs Z pc lv (va_rf v :: .ref a :: st) h := by
  refine ⟨kk.1, kk.2.1, fun p e s m args below meth c X H locs ls hl hH hS hsz h1 h2 => ?_⟩
  have w := fun H1 locs1 hH hS => kk.2.2 p e s m args below meth c X H1 locs1 ls hl hH hS hsz h1 h2
  obtain ⟨hx, hb, hml, hown, hts, hr, hlk, hnm, hKs, hro, hnw, hao, hnd⟩ := X
  obtain ⟨L, hP, hD, hL, hzz, hB, hL2⟩ := hH
  obtain ⟨q0, he⟩ := HW.at (g := g) (H := H) hL (a := a) (by omega)
  have he' := he
  rw [cf_obj hKa cl.2.2.2.2] at he
  refine va_putN hx hb hts cl.2.1 ty cl.2.2.1 cl.2.2.2.1 hown hKs hP hD hS.self q0 he cl.1 k hk (va_Nw.use rfl (hnw.1 _ hw)) (fun _ q => q) hfin (cl.2.2.1 k hk) hn hf (by rw [fl_len cl.1]; exact hk) hd fun H1 locs1 hP1 hD1 hS1 => ?_
  have e := (va_pl_set (X := []) (e := .inr (ci, (fl ci h a).set k (va_rf v))) hD (hL a (by omega)) he').trans (by rw [cf_sG cl.1 hk hi hKa cl.2.2.2.2])
  simp only [List.nil_append] at e
  rw [e] at hP1 hD1
  exact w H1 locs1 (HW.upd hP1 hD1 hL hzz hB hL2 hS1.1 rfl rfl) (hS.tr hS1)
theorem ev_putGF {v : Option Nat} (cl : ClF ci C T N ty) (hk : k < N) (hi : fI ci k = false) (hw : Cond.fieldLink y.cls idx (T k).1 (T k).2.1 (T k).2.2.1 ∈ lw_gd) (hfin : (T k).2.2.2 = true) (hin : y.name = "<init>") (hdc : (T k).1 = y.cls) (hn : narrow (ty k) (va_rf v) = va_rf v) (hf : fits (ty k) (va_rf v) = true) (hd : decode cc pc = .ok (.putfield idx, 3)) (hKa : hK h a = ci + 1) (kk : EvG g l cc nL y ret d h0 zc zs Z (pc + 3) lv st (sG h (100 * ci + k) a v)) : EvG g l cc nL y ret d h0 zc zs Z pc lv (va_rf v :: .ref a :: st) h := by
  refine ⟨kk.1, kk.2.1, fun p e s m args below meth c X H locs ls hl hH hS hsz h1 h2 => ?_⟩
  have w := fun H1 locs1 hH hS => kk.2.2 p e s m args below meth c X H1 locs1 ls hl hH hS hsz h1 h2
  obtain ⟨hx, hb, hml, hown, hts, hr, hlk, hnm, hKs, hro, hnw, hao, hnd⟩ := X
  obtain ⟨L, hP, hD, hL, hzz, hB, hL2⟩ := hH
  obtain ⟨q0, he⟩ := HW.at (g := g) (H := H) hL (a := a) (by omega)
  have he' := he
  rw [cf_obj hKa cl.2.2.2.2] at he
  refine va_putF hx hb hts cl.2.1 ty cl.2.2.1 cl.2.2.2.1 hown hKs hP hD hS.self q0 he cl.1 k hk (hts _ hw) (fun _ q => q) hfin (hnm.trans hin) hdc (cl.2.2.1 k hk) hn hf (by rw [fl_len cl.1]; exact hk) hd fun H1 locs1 hP1 hD1 hS1 => ?_
  have e := (va_pl_set (X := []) (e := .inr (ci, (fl ci h a).set k (va_rf v))) hD (hL a (by omega)) he').trans (by rw [cf_sG cl.1 hk hi hKa cl.2.2.2.2])
  simp only [List.nil_append] at e
  rw [e] at hP1 hD1
  exact w H1 locs1 (HW.upd hP1 hD1 hL hzz hB hL2 hS1.1 rfl rfl) (hS.tr hS1)
end RowsH
