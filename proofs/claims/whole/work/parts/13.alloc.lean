theorem cf_nO {g : aG} {h : aH} {ci N : Nat} (hci : ci < 19) : va_up (cf g h) (hz h) (.inr (ci, fl ci (nO h (ci + 1) N) (hz h))) = cf g (nO h (ci + 1) N) := by
  funext b
  by_cases hb : b = hz h
  · subst hb
    rw [va_up_self, cf_obj (h := nO h (ci + 1) N) (ci := ci) (by show va_up (hK h) _ _ _ = _; rw [va_up_self]) hci]
  · rw [va_up_ne _ _ hb]
    have eK : hK (nO h (ci + 1) N) b = hK h b := va_up_ne _ _ hb
    have e : ∀ cj, fl cj (nO h (ci + 1) N) b = fl cj h b := fun cj => fl_ext (fun j => by
      unfold fv
      show (if fI cj j = true then Value.int (if b = hz h then 0 else hF h (100 * cj + j) b) else va_rf (if b = hz h then none else hG h (100 * cj + j) b)) = _
      rw [if_neg hb, if_neg hb])
    unfold cf
    rw [eK, e]
    rfl
theorem cf_nA {g : aG} {h : aH} {k n : Nat} (hk : 20 < k) : va_up (cf g h) (hz h) (cf g (nA h k n) (hz h)) = cf g (nA h k n) := by
  funext b
  by_cases hb : b = hz h
  · subst hb
    rw [va_up_self]
  · rw [va_up_ne _ _ hb]
    have eK : hK (nA h k n) b = hK h b := va_up_ne _ _ hb
    have eN : hN (nA h k n) b = hN h b := va_up_ne _ _ hb
    have eI : hI (nA h k n) b = hI h b := by funext j; show (if b = hz h then 0 else hI h b j) = _; rw [if_neg hb]
    have eJ : hJ (nA h k n) b = hJ h b := by funext j; show (if b = hz h then 0 else hJ h b j) = _; rw [if_neg hb]
    have eO : hO (nA h k n) b = hO h b := by funext j; show (if b = hz h then none else hO h b j) = _; rw [if_neg hb]
    have e : ∀ cj, fl cj (nA h k n) b = fl cj h b := fun cj => rfl
    unfold cf
    rw [eK, eN, eI, eJ, eO, e]
theorem nA_self {h : aH} {k n : Nat} : hK (nA h k n) (hz h) = k ∧ hN (nA h k n) (hz h) = n ∧ hI (nA h k n) (hz h) = (fun _ => 0) ∧ hJ (nA h k n) (hz h) = (fun _ => 0) ∧ hO (nA h k n) (hz h) = (fun _ => none) := by
  refine ⟨va_up_self _ _ _, va_up_self _ _ _, ?_, ?_, ?_⟩ <;> (funext j; exact if_pos rfl)
/-- the heap behind a making -/
theorem HW.new {g : aG} {h h' : aH} {H H1 : Heap} {L : List Nat} {k : Nat} (hP : va_P (gD g) vwCl (va_pl L (cf g h)) H) (hD : va_D (gA g) (va_pl L (cf g h))) (hL : ∀ a, hK h a ≠ 0 → a ∈ L) (hB : gB g ≤ hz h ∧ hE h = gE g ∧ gE g < gB g) (hL2 : ∀ a, a ∈ L → hK h a ≠ 0 ∧ a < hz h)
    (hH : H.size = hz h) (z1 : H1.size = hz h + 1) (o1 : ∀ q, q < hz h → H1[q]? = H[q]?) (eK : hK h' = va_up (hK h) (hz h) k) (hk0 : k ≠ 0) (eZ : hz h' = hz h + 1) (eE : hE h' = hE h) (ec : va_up (cf g h) (hz h) (cf g h' (hz h)) = cf g h') (hat : va_at (gD g) vwCl (hz h, cf g h' (hz h)) H1) : HW g h' H1 := by
  have hn : hz h ∉ L := fun q => Nat.lt_irrefl _ (hL2 _ q).2
  have e : va_pl L (cf g h) ++ [(hz h, cf g h' (hz h))] = va_pl (L ++ [hz h]) (cf g h') := by rw [va_pl_push hn, ec]
  refine ⟨L ++ [hz h], ?_, ?_, ?_, ?_, ?_, ?_⟩
  · rw [← e]
    refine (hP.kept (fun k x hx => o1 x.1 ?_)).app (fun k x hx => ?_)
    · have := (hP k x hx).lt; omega
    · have hz' : k < 1 := (List.getElem?_eq_some_iff.mp hx).1
      rw [show k = 0 by omega] at hx
      cases hx
      exact hat
  · rw [← e]
    exact hD.push hP hH.symm hB.1
  · intro a ha
    by_cases hb : a = hz h
    · exact List.mem_append_right _ (by rw [hb]; exact List.mem_singleton.mpr rfl)
    · rw [eK, va_up_ne _ _ hb] at ha
      exact List.mem_append_left _ (hL a ha)
  · rw [eZ, z1]; exact Nat.le_refl _
  · rw [eZ, eE]; exact ⟨by omega, hB.2⟩
  · intro a ha
    rw [eK, eZ]
    rcases List.mem_append.mp ha with q | q
    · have := hL2 a q
      have hb : a ≠ hz h := by omega
      rw [va_up_ne _ _ hb]
      omega
    · rw [List.mem_singleton.mp q, va_up_self]
      exact ⟨hk0, Nat.lt_succ_self _⟩
section RowsN
variable {g : aG} {l : Launch} {cc : ByteArray} {nL : Nat} {y : MethodName} {ret : Option FieldType} {d : Nat} {h0 : aH} {zc zs : Nat} {Z : List Frame → Array Value → State → State → Prop} {pc : Nat} {lv : List (Nat × Value)} {st : List Value} {h : aH}
variable {ci N : Nat} {C : String} {T : u_T} {ty : Nat → FieldType} {idx : Nat}
theorem ev_new (cl : ClF ci C T N ty) (hcw : Cond.classLink y.cls idx C ∈ lw_gd) (hiw : Cond.instantiable C N ∈ lw_gd) (hnw : Cond.initialized C ∈ lw_gd) (hfs : ∀ j, j < N → defaultValue (ty j) = if fI ci j = true then .int 0 else .null) (hd : decode cc pc = .ok (.new idx, 3))
    (kk : EvG g l cc nL y ret d h0 zc zs Z (pc + 3) lv (.ref (hz h) :: st) (nO h (ci + 1) N)) : EvG g l cc nL y ret d h0 zc zs Z pc lv st h := by
  have k1 : hz h + 1 ≤ zc := kk.1
  have k2 : hs h + N ≤ zs := kk.2.1
  refine ⟨by omega, by omega, fun p e s m args below meth c X H locs ls hl hH hS hsz h1 h2 => W.size fun hsz2 => ?_⟩
  have w := fun H1 hH hS => kk.2.2 p e s m args below meth c X H1 locs ls hl hH hS hsz (by show hz h0 ≤ hz h + 1; omega) (by show hs h0 ≤ hs h + N; omega)
  have ec : hz (nO h (ci + 1) N) - hz h0 = (hz h - hz h0) + 1 := by show hz h + 1 - hz h0 = _; omega
  have es : hs (nO h (ci + 1) N) - hs h0 = (hs h - hs h0) + N := by show hs h + N - hs h0 = _; omega
  rw [ec, es] at w
  obtain ⟨hx, hb, hml, hown, hts, hr, hlk, hnm, hKs, hro, hnw', hao, hnd⟩ := X
  obtain ⟨L, hP, hD, hL, hzz, hB, hL2⟩ := hH
  have hHz : H.size = hz h := by omega
  have hKn := hKs.1 ci _ cl.1
  refine W.newcK hx hb hown (hts _ hcw) (hts _ hiw) (hts _ hnw) rfl hd (by show hz h - hz h0 + 1 ≤ zc - hz h0; omega) (by show hs h - hs h0 + N ≤ zs - hs h0; omega) hKn.2.1 hHz fun H1 kC hkC e1 z1 o1 => ?_
  have eK0 : hK (nO h (ci + 1) N) = va_up (hK h) (hz h) (ci + 1) := rfl
  have ea : cf g (nO h (ci + 1) N) (hz h) = .inr (ci, fl ci (nO h (ci + 1) N) (hz h)) := cf_obj (by rw [eK0, va_up_self]) cl.2.2.2.2
  refine w H1 (HW.new hP hD hL hB hL2 hHz z1 o1 eK0 (by omega) rfl rfl (by rw [ea]; exact cf_nO cl.2.2.2.2) ?_) ⟨by have := hS.1; omega, fun q q1 q2 => (o1 q (by have := hS.1; omega)).trans (hS.2.1 q q1 q2), hS.2.2⟩
  rw [ea]
  refine ⟨_, cl.1, (u_born ty hts cl.2.1 hKn hkC e1 cl.2.2.1).to fun j hj => ?_⟩
  rw [hfs j hj]
  show _ = (fl ci (nO h (ci + 1) N) (hz h)).getD j .null
  rw [List.getD_eq_getElem?_getD, fl_get cl.1 hj]
  show _ = fv ci (nO h (ci + 1) N) (hz h) j
  unfold fv
  show _ = if fI ci j = true then Value.int (if hz h = hz h then 0 else hF h _ _) else va_rf (if hz h = hz h then none else hG h _ _)
  rw [if_pos rfl, if_pos rfl]
  rfl
theorem ev_newI {n : Int32} {n' : Nat} (haw : Cond.arrayClass .int ∈ lw_gd) (hd : decode cc pc = .ok (.newarray .int, 2)) (hn0 : ¬ n < 0) (hn : n.toNatClampNeg = n') (hb4 : n' ≤ 100000000)
    (kk : EvG g l cc nL y ret d h0 zc zs Z (pc + 2) lv (.ref (hz h) :: st) (nA h 21 n')) : EvG g l cc nL y ret d h0 zc zs Z pc lv (.int n :: st) h := by
  have k1 : hz h + 1 ≤ zc := kk.1
  have k2 : hs h + n' ≤ zs := kk.2.1
  refine ⟨by omega, by omega, fun p e s m args below meth c X H locs ls hl hH hS hsz h1 h2 => W.size fun hsz2 => ?_⟩
  have w := fun H1 hH hS => kk.2.2 p e s m args below meth c X H1 locs ls hl hH hS hsz (by show hz h0 ≤ hz h + 1; omega) (by show hs h0 ≤ hs h + n'; omega)
  have ec : hz (nA h 21 n') - hz h0 = (hz h - hz h0) + 1 := by show hz h + 1 - hz h0 = _; omega
  have es : hs (nA h 21 n') - hs h0 = (hs h - hs h0) + n' := by show hs h + n' - hs h0 = _; omega
  rw [ec, es] at w
  obtain ⟨hx, hb, hml, hown, hts, hr, hlk, hnm, hKs, hro, hnw', hao, hnd⟩ := X
  obtain ⟨L, hP, hD, hL, hzz, hB, hL2⟩ := hH
  have hHz : H.size = hz h := by omega
  refine va_newaK (atype := .int) hx hb (hts _ haw) rfl hd rfl hn0 hn (by show n' * 4 ≤ _; omega) (by show hz h - hz h0 + 1 ≤ zc - hz h0; omega) (by show hs h - hs h0 + n' ≤ zs - hs h0; omega) hHz fun H1 cA e1 z1 o1 hAr hNm => ?_
  have hcA : cA = gC g 21 := Option.some.inj (hNm.symm.trans (hKs.2 0 _ (show (gtys g)[0]? = some (gC g 21, .int) from rfl)).2)
  obtain ⟨s1, s2, s3, s4, s5⟩ := nA_self (h := h) (k := 21) (n := n')
  refine w H1 (HW.new hP hD hL hB hL2 hHz z1 o1 rfl (by decide) rfl rfl (cf_nA (by decide)) ?_) ⟨by have := hS.1; omega, fun q q1 q2 => (o1 q (by have := hS.1; omega)).trans (hS.2.1 q q1 q2), hS.2.2⟩
  rw [cf_I s1 (Or.inl rfl), s2, s3]
  show H1[hz h]? = _
  rw [e1, hcA]
  rfl
theorem ev_newZ {n : Int32} {n' : Nat} (haw : Cond.arrayClass .boolean ∈ lw_gd) (hd : decode cc pc = .ok (.newarray .boolean, 2)) (hn0 : ¬ n < 0) (hn : n.toNatClampNeg = n') (hb4 : n' ≤ 100000000)
    (kk : EvG g l cc nL y ret d h0 zc zs Z (pc + 2) lv (.ref (hz h) :: st) (nA h 22 n')) : EvG g l cc nL y ret d h0 zc zs Z pc lv (.int n :: st) h := by
  have k1 : hz h + 1 ≤ zc := kk.1
  have k2 : hs h + n' ≤ zs := kk.2.1
  refine ⟨by omega, by omega, fun p e s m args below meth c X H locs ls hl hH hS hsz h1 h2 => W.size fun hsz2 => ?_⟩
  have w := fun H1 hH hS => kk.2.2 p e s m args below meth c X H1 locs ls hl hH hS hsz (by show hz h0 ≤ hz h + 1; omega) (by show hs h0 ≤ hs h + n'; omega)
  have ec : hz (nA h 22 n') - hz h0 = (hz h - hz h0) + 1 := by show hz h + 1 - hz h0 = _; omega
  have es : hs (nA h 22 n') - hs h0 = (hs h - hs h0) + n' := by show hs h + n' - hs h0 = _; omega
  rw [ec, es] at w
  obtain ⟨hx, hb, hml, hown, hts, hr, hlk, hnm, hKs, hro, hnw', hao, hnd⟩ := X
  obtain ⟨L, hP, hD, hL, hzz, hB, hL2⟩ := hH
  have hHz : H.size = hz h := by omega
  refine va_newaK (atype := .boolean) hx hb (hts _ haw) rfl hd rfl hn0 hn (by show n' * 1 ≤ _; omega) (by show hz h - hz h0 + 1 ≤ zc - hz h0; omega) (by show hs h - hs h0 + n' ≤ zs - hs h0; omega) hHz fun H1 cA e1 z1 o1 hAr hNm => ?_
  have hcA : cA = gC g 22 := Option.some.inj (hNm.symm.trans (hKs.2 1 _ (show (gtys g)[1]? = some (gC g 22, .boolean) from rfl)).2)
  obtain ⟨s1, s2, s3, s4, s5⟩ := nA_self (h := h) (k := 22) (n := n')
  refine w H1 (HW.new hP hD hL hB hL2 hHz z1 o1 rfl (by decide) rfl rfl (cf_nA (by decide)) ?_) ⟨by have := hS.1; omega, fun q q1 q2 => (o1 q (by have := hS.1; omega)).trans (hS.2.1 q q1 q2), hS.2.2⟩
  rw [cf_I s1 (Or.inr rfl), s2, s3]
  show H1[hz h]? = _
  rw [e1, hcA]
  rfl
theorem ev_newJ {n : Int32} {n' : Nat} (haw : Cond.arrayClass .long ∈ lw_gd) (hd : decode cc pc = .ok (.newarray .long, 2)) (hn0 : ¬ n < 0) (hn : n.toNatClampNeg = n') (hb4 : n' ≤ 50000000)
    (kk : EvG g l cc nL y ret d h0 zc zs Z (pc + 2) lv (.ref (hz h) :: st) (nA h 23 n')) : EvG g l cc nL y ret d h0 zc zs Z pc lv (.int n :: st) h := by
  have k1 : hz h + 1 ≤ zc := kk.1
  have k2 : hs h + n' ≤ zs := kk.2.1
  refine ⟨by omega, by omega, fun p e s m args below meth c X H locs ls hl hH hS hsz h1 h2 => W.size fun hsz2 => ?_⟩
  have w := fun H1 hH hS => kk.2.2 p e s m args below meth c X H1 locs ls hl hH hS hsz (by show hz h0 ≤ hz h + 1; omega) (by show hs h0 ≤ hs h + n'; omega)
  have ec : hz (nA h 23 n') - hz h0 = (hz h - hz h0) + 1 := by show hz h + 1 - hz h0 = _; omega
  have es : hs (nA h 23 n') - hs h0 = (hs h - hs h0) + n' := by show hs h + n' - hs h0 = _; omega
  rw [ec, es] at w
  obtain ⟨hx, hb, hml, hown, hts, hr, hlk, hnm, hKs, hro, hnw', hao, hnd⟩ := X
  obtain ⟨L, hP, hD, hL, hzz, hB, hL2⟩ := hH
  have hHz : H.size = hz h := by omega
  refine va_newaK (atype := .long) hx hb (hts _ haw) rfl hd rfl hn0 hn (by show n' * 8 ≤ _; omega) (by show hz h - hz h0 + 1 ≤ zc - hz h0; omega) (by show hs h - hs h0 + n' ≤ zs - hs h0; omega) hHz fun H1 cA e1 z1 o1 hAr hNm => ?_
  have hcA : cA = gC g 23 := Option.some.inj (hNm.symm.trans (hKs.2 2 _ (show (gtys g)[2]? = some (gC g 23, .long) from rfl)).2)
  obtain ⟨s1, s2, s3, s4, s5⟩ := nA_self (h := h) (k := 23) (n := n')
  refine w H1 (HW.new hP hD hL hB hL2 hHz z1 o1 rfl (by decide) rfl rfl (cf_nA (by decide)) ?_) ⟨by have := hS.1; omega, fun q q1 q2 => (o1 q (by have := hS.1; omega)).trans (hS.2.1 q q1 q2), hS.2.2⟩
  rw [cf_J s1, s2, s4]
  show H1[hz h]? = _
  rw [e1, hcA]
  rfl
theorem ev_anew {k : Nat} {n : Int32} {n' : Nat} (hk : 23 < k) (hk2 : k < 27) (hcw : Cond.classLink y.cls idx (okd k) ∈ lw_gd) (hd : decode cc pc = .ok (.anewarray idx, 3)) (hn0 : ¬ n < 0) (hn : n.toNatClampNeg = n') (hb4 : n' ≤ 100000000)
    (kk : EvG g l cc nL y ret d h0 zc zs Z (pc + 3) lv (.ref (hz h) :: st) (nA h k n')) : EvG g l cc nL y ret d h0 zc zs Z pc lv (.int n :: st) h := by
  have k1 : hz h + 1 ≤ zc := kk.1
  have k2 : hs h + n' ≤ zs := kk.2.1
  refine ⟨by omega, by omega, fun p e s m args below meth c X H locs ls hl hH hS hsz h1 h2 => W.size fun hsz2 => ?_⟩
  have w := fun H1 hH hS => kk.2.2 p e s m args below meth c X H1 locs ls hl hH hS hsz (by show hz h0 ≤ hz h + 1; omega) (by show hs h0 ≤ hs h + n'; omega)
  have ec : hz (nA h k n') - hz h0 = (hz h - hz h0) + 1 := by show hz h + 1 - hz h0 = _; omega
  have es : hs (nA h k n') - hs h0 = (hs h - hs h0) + n' := by show hs h + n' - hs h0 = _; omega
  rw [ec, es] at w
  obtain ⟨hx, hb, hml, hown, hts, hr, hlk, hnm, hKs, hro, hnw', hao, hnd⟩ := X
  obtain ⟨L, hP, hD, hL, hzz, hB, hL2⟩ := hH
  have hHz : H.size = hz h := by omega
  have hover : va_AO (okd k) s := by
    rcases (show k = 24 ∨ k = 25 ∨ k = 26 by omega) with rfl | rfl | rfl
    · exact hao.1
    · exact hao.2.1
    · exact hao.2.2
  subst hn
  refine W.anew hx hb hown (hts _ hcw) (va_AO.use hover) rfl hd rfl hn0 (by omega) (by show hz h - hz h0 + 1 ≤ zc - hz h0; omega) (by show hs h - hs h0 + n.toNatClampNeg ≤ zs - hs h0; omega) fun cA kA comp f1 f2 f3 f4 => ?_
  rw [hHz]
  have hcA : cA = gC g k := Option.some.inj (f1.symm.trans (by obtain ⟨-, -, -, -, -, f5⟩ := (hKs.2 (k - 21) _ (okd_t g hk hk2)).2; exact f5))
  generalize hH1 : H.push ({ cls := cA, slots := Array.replicate n.toNatClampNeg .null, vm := .none } : Cell) = H1
  have z1 : H1.size = hz h + 1 := by rw [← hH1, Array.size_push, hHz]
  have e1 : H1[hz h]? = some (arrV cA n.toNatClampNeg (fun _ => .null)) := by rw [← hH1, ← hHz, Array.getElem?_push_size, ← arrV_new]
  have o1 : ∀ q : Nat, q < hz h → H1[q]? = H[q]? := fun q hq => by rw [← hH1, Array.getElem?_push, if_neg (by omega)]
  obtain ⟨s1, s2, s3, s4, s5⟩ := nA_self (h := h) (k := k) (n := n.toNatClampNeg)
  refine w H1 (HW.new hP hD hL hB hL2 hHz z1 o1 rfl (by omega) rfl rfl (cf_nA (by omega)) ?_) ⟨by have := hS.1; omega, fun q q1 q2 => (o1 q (by have := hS.1; omega)).trans (hS.2.1 q q1 q2), hS.2.2⟩
  rw [cf_O s1 hk, s2, s5]
  show H1[hz h]? = _
  rw [e1, hcA]
  rfl
/-- Object.<init> -/
theorem ev_obj {a : Nat} (hw : Cond.methodLink y.cls idx Lib.objectInit ∈ lw_gd) (hw2 : Cond.instanceMethod Lib.objectInit ∈ lw_gd) (hw3 : Cond.code Lib.objectInit ⟨#[0xb1]⟩ 1 none ∈ lw_gd) (hd : decode cc pc = .ok (.invokespecial idx, 3)) (hdd : 1 ≤ d) (hst : (st.map fun v => v.category).sum ≤ 8)
    (kk : EvG g l cc nL y ret d h0 zc zs Z (pc + 3) lv st h) : EvG g l cc nL y ret d h0 zc zs Z pc lv (.ref a :: st) h := by
  refine ⟨kk.1, kk.2.1, fun p e s m args below meth c X H locs ls hl hH hS hsz h1 h2 => ?_⟩
  have w := kk.2.2 p e s m args below meth c X H locs ls hl hH hS hsz h1 h2
  obtain ⟨hx, hb, hml, hown, hts, hr, hlk, hnm, hKs, hro, hnw', hao, hnd⟩ := X
  have hrm := lv_room (m := m) (pc := pc) (ls := ls) (rest := .ref a :: st) hst
  exact W.objInit hx hb hown (hts _ hw) (hts _ hw2) (hts _ hw3) rfl (hl.1.trans hml.symm) rfl hd hdd (by show _ ≤ 38 * d + 12; omega) w
end RowsN
