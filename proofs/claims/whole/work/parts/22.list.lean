/-! rows that the lists' code needs: statics, the empty row, arrays of Object -/
def lvLi (k : Nat) : Int32 := ([0, 0, 0, 0, 0, 0, 1, 0, 1, 0] : List Int32).getD k 0
def lvMi (k : Nat) : Int32 := ([6, 4, 6, 3, 7, 15, 4, 15, 15, 0] : List Int32).getD k 0
def alen (h : aH) (a : Nat) : Int32 := if a = hE h then 0 else Int32.ofNat (hN h a)
/-- a row of references, given anew whole -/
def sR (h : aH) (a : Nat) (f : Nat → Option Nat) : aH := (h.1, h.2.1, h.2.2.1, h.2.2.2.1, h.2.2.2.2.1, h.2.2.2.2.2.1, va_up h.2.2.2.2.2.2.1 a f, h.2.2.2.2.2.2.2)
theorem cf_sR {g : aG} {h : aH} {a k : Nat} {f : Nat → Option Nat} (hk : hK h a = k) (h1 : 23 < k) : va_up (cf g h) a (.inl (gC g k, hN h a, .inr (.inr (.inr (.inr f))))) = cf g (sR h a f) := by
  funext b
  by_cases hb : b = a
  · subst hb
    rw [va_up_self, cf_O (h := sR h b f) hk h1]
    show _ = Sum.inl (gC g k, hN h b, Sum.inr (Sum.inr (Sum.inr (Sum.inr (va_up (hO h) b f b)))))
    rw [va_up_self]
  · rw [va_up_ne _ _ hb]
    unfold cf
    show _ = if hK h b < 20 then _ else if hK h b < 23 then _ else if hK h b = 23 then _ else Sum.inl (gC g (hK h b), hN h b, Sum.inr (Sum.inr (Sum.inr (Sum.inr (va_up (hO h) a f b)))))
    rw [va_up_ne _ _ hb]
    rfl
/-- own objects' kinds -/
abbrev ownK (h : aH) (v : Nat) : Prop := 2 ≤ hK h v ∧ hK h v ≤ 14
section RowsL
variable {g : aG} {l : Launch} {cc : ByteArray} {nL : Nat} {y : MethodName} {ret : Option FieldType} {d : Nat} {h0 : aH} {zc zs : Nat} {Z : List Frame → Array Value → State → State → Prop} {pc : Nat} {lv : List (Nat × Value)} {st : List Value} {h : aH} {a b idx : Nat} {i : Int32}
theorem ev_gstE (hw : Cond.fieldLink y.cls idx "java/util/ArrayList" "DEFAULTCAPACITY_EMPTY_ELEMENTDATA" "[Ljava/lang/Object;" ∈ lw_gd) (hd : decode cc pc = .ok (.getstatic idx, 3)) (kk : EvG g l cc nL y ret d h0 zc zs Z (pc + 3) lv (.ref (hE h) :: st) h) : EvG g l cc nL y ret d h0 zc zs Z pc lv st h := by
  refine ⟨kk.1, kk.2.1, fun p e s m args below meth c X H locs ls hl hH hS hsz h1 h2 => ?_⟩
  have w := kk.2.2 p e s m args below meth c X H locs ls hl hH hS hsz h1 h2
  obtain ⟨hx, hb, hml, hown, hts, hr, hlk, hnm, hKs, hro, hnw, hao, hnd⟩ := X
  obtain ⟨L, hP, hD, hL, hzz, hB, hL2⟩ := hH
  rw [hB.2.1] at w
  exact va_gets hx hb hro.2.2.2.2.1 hS hown (hts _ hw) (fun _ q => q) hd w
theorem ev_gst1 {host : String} (hw : Cond.fieldLinkNest y.cls idx "BallBook" "LEAST_V" "[I" host ∈ lw_nw) (hd : decode cc pc = .ok (.getstatic idx, 3)) (kk : EvG g l cc nL y ret d h0 zc zs Z (pc + 3) lv (.ref (gT1 g) :: st) h) : EvG g l cc nL y ret d h0 zc zs Z pc lv st h := by
  refine ⟨kk.1, kk.2.1, fun p e s m args below meth c X H locs ls hl hH hS hsz h1 h2 => ?_⟩
  have w := kk.2.2 p e s m args below meth c X H locs ls hl hH hS hsz h1 h2
  obtain ⟨hx, hb, hml, hown, hts, hr, hlk, hnm, hKs, hro, hnw, hao, hnd⟩ := X
  exact va_getsN hx hb hro.1 hS hown (va_Nw.use rfl (hnw.1 _ hw)) (fun _ q => q) hd w
theorem ev_gst2 {host : String} (hw : Cond.fieldLinkNest y.cls idx "BallBook" "MOST_V" "[I" host ∈ lw_nw) (hd : decode cc pc = .ok (.getstatic idx, 3)) (kk : EvG g l cc nL y ret d h0 zc zs Z (pc + 3) lv (.ref (gT2 g) :: st) h) : EvG g l cc nL y ret d h0 zc zs Z pc lv st h := by
  refine ⟨kk.1, kk.2.1, fun p e s m args below meth c X H locs ls hl hH hS hsz h1 h2 => ?_⟩
  have w := kk.2.2 p e s m args below meth c X H locs ls hl hH hS hsz h1 h2
  obtain ⟨hx, hb, hml, hown, hts, hr, hlk, hnm, hKs, hro, hnw, hao, hnd⟩ := X
  exact va_getsN hx hb hro.2.2.1 hS hown (va_Nw.use rfl (hnw.1 _ hw)) (fun _ q => q) hd w
theorem ev_tl1 (hd : decode cc pc = .ok (.iaload, 1)) (hi : inR i 10) (kk : EvG g l cc nL y ret d h0 zc zs Z (pc + 1) lv (.int (lvLi i.toNatClampNeg) :: st) h) : EvG g l cc nL y ret d h0 zc zs Z pc lv (.int i :: .ref (gT1 g) :: st) h := by
  refine ⟨kk.1, kk.2.1, fun p e s m args below meth c X H locs ls hl hH hS hsz h1 h2 => ?_⟩
  have w := kk.2.2 p e s m args below meth c X H locs ls hl hH hS hsz h1 h2
  obtain ⟨hx, hb, hml, hown, hts, hr, hlk, hnm, hKs, hro, hnw, hao, hnd⟩ := X
  exact va_ti hx hb hro.2.1 hS hi rfl hd w
theorem ev_tl2 (hd : decode cc pc = .ok (.iaload, 1)) (hi : inR i 10) (kk : EvG g l cc nL y ret d h0 zc zs Z (pc + 1) lv (.int (lvMi i.toNatClampNeg) :: st) h) : EvG g l cc nL y ret d h0 zc zs Z pc lv (.int i :: .ref (gT2 g) :: st) h := by
  refine ⟨kk.1, kk.2.1, fun p e s m args below meth c X H locs ls hl hH hS hsz h1 h2 => ?_⟩
  have w := kk.2.2 p e s m args below meth c X H locs ls hl hH hS hsz h1 h2
  obtain ⟨hx, hb, hml, hown, hts, hr, hlk, hnm, hKs, hro, hnw, hao, hnd⟩ := X
  exact va_ti hx hb hro.2.2.2.1 hS hi rfl hd w
theorem ev_xld {LL : Nat} {XX : Nat → Int32} (eL : gXL g = LL) (eX : gXf g = XX) (hd : decode cc pc = .ok (.iaload, 1)) (hi : inR i LL) (kk : EvG g l cc nL y ret d h0 zc zs Z (pc + 1) lv (.int (XX i.toNatClampNeg) :: st) h) : EvG g l cc nL y ret d h0 zc zs Z pc lv (.int i :: .ref (gXb g) :: st) h := by
  subst eL eX
  refine ⟨kk.1, kk.2.1, fun p e s m args below meth c X H locs ls hl hH hS hsz h1 h2 => ?_⟩
  have w := kk.2.2 p e s m args below meth c X H locs ls hl hH hS hsz h1 h2
  obtain ⟨hx, hb, hml, hown, hts, hr, hlk, hnm, hKs, hro, hnw, hao, hnd⟩ := X
  exact va_ti hx hb hro.2.2.2.2.2.2.2.2.2 hS hi rfl hd w
theorem ev_xlen {LL : Nat} (eL : gXL g = LL) (hd : decode cc pc = .ok (.arraylength, 1)) (kk : EvG g l cc nL y ret d h0 zc zs Z (pc + 1) lv (.int (Int32.ofNat LL) :: st) h) : EvG g l cc nL y ret d h0 zc zs Z pc lv (.ref (gXb g) :: st) h := by
  subst eL
  refine ⟨kk.1, kk.2.1, fun p e s m args below meth c X H locs ls hl hH hS hsz h1 h2 => ?_⟩
  have w := kk.2.2 p e s m args below meth c X H locs ls hl hH hS hsz h1 h2
  obtain ⟨hx, hb, hml, hown, hts, hr, hlk, hnm, hKs, hro, hnw, hao, hnd⟩ := X
  exact va_tlen hx hb hro.2.2.2.2.2.2.2.2.2 hS rfl hd w
theorem ev_alenE (hd : decode cc pc = .ok (.arraylength, 1)) (hc : a = hE h ∨ hK h a = 26) (kk : EvG g l cc nL y ret d h0 zc zs Z (pc + 1) lv (.int (alen h a) :: st) h) : EvG g l cc nL y ret d h0 zc zs Z pc lv (.ref a :: st) h := by
  by_cases he : a = hE h
  · have e0 : alen h a = 0 := if_pos he
    rw [e0] at kk
    refine ⟨kk.1, kk.2.1, fun p e s m args below meth c X H locs ls hl hH hS hsz h1 h2 => ?_⟩
    have w := kk.2.2 p e s m args below meth c X H locs ls hl hH hS hsz h1 h2
    obtain ⟨hx, hb, hml, hown, hts, hr, hlk, hnm, hKs, hro, hnw, hao, hnd⟩ := X
    obtain ⟨L, hP, hD, hL, hzz, hB, hL2⟩ := hH
    rw [he, hB.2.1]
    exact va_tlen hx hb hro.2.2.2.2.2.1 hS rfl hd w
  · have e0 : alen h a = Int32.ofNat (hN h a) := if_neg he
    rw [e0] at kk
    exact ev_alen hd (by decide) (by decide) (hc.resolve_left he) rfl kk
theorem ev_acmp_eqT {off : Int} {tgt : Nat} (hd : decode cc pc = .ok (.if_acmp .eq off, 3)) (ht : (pc : Int) + off = (tgt : Int)) (hc : a = b) (kk : EvG g l cc nL y ret d h0 zc zs Z tgt lv st h) : EvG g l cc nL y ret d h0 zc zs Z pc lv (.ref b :: .ref a :: st) h := Ev.up kk fun C _ w => lv_acmp_eq (rx := some a) (ry := some b) C.1 C.2.1 hd ht (fun _ => w) (fun q => absurd (by rw [hc]) q)
theorem ev_acmp_eqF {off : Int} {tgt : Nat} (hd : decode cc pc = .ok (.if_acmp .eq off, 3)) (ht : (pc : Int) + off = (tgt : Int)) (hc : ¬ a = b) (kk : EvG g l cc nL y ret d h0 zc zs Z (pc + 3) lv st h) : EvG g l cc nL y ret d h0 zc zs Z pc lv (.ref b :: .ref a :: st) h := Ev.up kk fun C _ w => lv_acmp_eq (rx := some a) (ry := some b) C.1 C.2.1 hd ht (fun q => absurd (Option.some.inj q) hc) (fun _ => w)
theorem ev_acmp_neF {off : Int} {tgt : Nat} (hd : decode cc pc = .ok (.if_acmp .ne off, 3)) (ht : (pc : Int) + off = (tgt : Int)) (hc : a = b) (kk : EvG g l cc nL y ret d h0 zc zs Z (pc + 3) lv st h) : EvG g l cc nL y ret d h0 zc zs Z pc lv (.ref b :: .ref a :: st) h := Ev.up kk fun C _ w => lv_acmp_ne (rx := some a) (ry := some b) C.1 C.2.1 hd ht (fun q => absurd (by rw [hc]) q) (fun _ => w)
theorem own_cl {k : Nat} (h1 : 2 ≤ k) (h2 : k ≤ 14) : ∃ (C : String) (T : u_T) (N : Nat) (ty : Nat → FieldType), ClF (k - 1) C T N ty ∧ Cond.castable C "java/lang/Object" ∈ lw_nw := by
  rcases (show k = 2 ∨ k = 3 ∨ k = 4 ∨ k = 5 ∨ k = 6 ∨ k = 7 ∨ k = 8 ∨ k = 9 ∨ k = 10 ∨ k = 11 ∨ k = 12 ∨ k = 13 ∨ k = 14 by omega) with rfl | rfl | rfl | rfl | rfl | rfl | rfl | rfl | rfl | rfl | rfl | rfl | rfl
  · exact ⟨_, _, _, _, cl_X0, co_X0⟩
  · exact ⟨_, _, _, _, cl_X1, co_X1⟩
  · exact ⟨_, _, _, _, cl_X2, co_X2⟩
  · exact ⟨_, _, _, _, cl_X3, co_X3⟩
  · exact ⟨_, _, _, _, cl_X4, co_X4⟩
  · exact ⟨_, _, _, _, cl_X5, co_X5⟩
  · exact ⟨_, _, _, _, cl_X6, co_X6⟩
  · exact ⟨_, _, _, _, cl_X7, co_X7⟩
  · exact ⟨_, _, _, _, cl_X8, co_X8⟩
  · exact ⟨_, _, _, _, cl_X9, co_X9⟩
  · exact ⟨_, _, _, _, cl_X10, co_X10⟩
  · exact ⟨_, _, _, _, cl_X11, co_X11⟩
  · exact ⟨_, _, _, _, cl_X12, co_X12⟩
theorem ev_aastO {v : Nat} (hd : decode cc pc = .ok (.aastore, 1)) (hKa : hK h a = 26) (hKv : ownK h v) (hi : inR i (hN h a)) (kk : EvG g l cc nL y ret d h0 zc zs Z (pc + 1) lv st (sO h a i.toNatClampNeg (some v))) : EvG g l cc nL y ret d h0 zc zs Z pc lv (.ref v :: .int i :: .ref a :: st) h := by
  obtain ⟨C, T, N, ty, cl, hca⟩ := own_cl hKv.1 hKv.2
  have hKv2 := hKv
  have hKv' : hK h v = (hK h v - 1) + 1 := by omega
  refine ⟨kk.1, kk.2.1, fun p e s m args below meth c X H locs ls hl hH hS hsz h1 h2 => ?_⟩
  have w := fun H1 locs1 hH hS => kk.2.2 p e s m args below meth c X H1 locs1 ls hl hH hS hsz h1 h2
  obtain ⟨hx, hb, hml, hown, hts, hr, hlk, hnm, hKs, hro, hnw, hao, hnd⟩ := X
  obtain ⟨L, hP, hD, hL, hzz, hB, hL2⟩ := hH
  obtain ⟨q0, he⟩ := HW.at (g := g) (H := H) hL (a := a) (by omega)
  obtain ⟨q1, hv⟩ := HW.at (g := g) (H := H) hL (a := v) (by omega)
  have he' := he
  rw [cf_O hKa (by decide)] at he
  rw [cf_obj hKv' cl.2.2.2.2] at hv
  refine va_astqO hx hb hKs hP hD hS.self q0 5 q1 (hK h v - 1) he (okd_t g (k := 26) (by decide) (by decide)) (hnw.1 _ hca) hv cl.1 hi hd fun H1 locs1 hP1 hD1 hS1 => ?_
  have e := (va_pl_set (X := []) (e := .inl (gC g 26, hN h a, .inr (.inr (.inr (.inr (va_up (hO h a) i.toNatClampNeg (some v))))))) hD (hL a (by omega)) he').trans (by rw [cf_sO hKa (by decide)])
  simp only [List.nil_append] at e
  rw [e] at hP1 hD1
  exact w H1 locs1 (HW.upd hP1 hD1 hL hzz hB hL2 hS1.1 rfl rfl) (hS.tr hS1)
theorem ev_aastN (hd : decode cc pc = .ok (.aastore, 1)) (hKa : hK h a = 26) (hi : inR i (hN h a)) (kk : EvG g l cc nL y ret d h0 zc zs Z (pc + 1) lv st (sO h a i.toNatClampNeg none)) : EvG g l cc nL y ret d h0 zc zs Z pc lv (va_rf none :: .int i :: .ref a :: st) h := by
  refine ⟨kk.1, kk.2.1, fun p e s m args below meth c X H locs ls hl hH hS hsz h1 h2 => ?_⟩
  have w := fun H1 locs1 hH hS => kk.2.2 p e s m args below meth c X H1 locs1 ls hl hH hS hsz h1 h2
  obtain ⟨hx, hb, hml, hown, hts, hr, hlk, hnm, hKs, hro, hnw, hao, hnd⟩ := X
  obtain ⟨L, hP, hD, hL, hzz, hB, hL2⟩ := hH
  obtain ⟨q0, he⟩ := HW.at (g := g) (H := H) hL (a := a) (by omega)
  have he' := he
  rw [cf_O hKa (by decide)] at he
  refine va_astqN hx hb hKs hP hD hS.self q0 5 he (okd_t g (k := 26) (by decide) (by decide)) hi hd fun H1 locs1 hP1 hD1 hS1 => ?_
  have e := (va_pl_set (X := []) (e := .inl (gC g 26, hN h a, .inr (.inr (.inr (.inr (va_up (hO h a) i.toNatClampNeg none)))))) hD (hL a (by omega)) he').trans (by rw [cf_sO hKa (by decide)])
  simp only [List.nil_append] at e
  rw [e] at hP1 hD1
  exact w H1 locs1 (HW.upd hP1 hD1 hL hzz hB hL2 hS1.1 rfl rfl) (hS.tr hS1)
/-- modCount, by the name of ArrayList -/
theorem ev_gIM (hw : Cond.fieldLink y.cls idx "java/util/ArrayList" "modCount" "I" ∈ lw_gd) (hd : decode cc pc = .ok (.getfield idx, 3)) (hKa : hK h a = 1) (kk : EvG g l cc nL y ret d h0 zc zs Z (pc + 3) lv (.int (hF h 0 a) :: st) h) : EvG g l cc nL y ret d h0 zc zs Z pc lv (.ref a :: st) h := by
  refine ⟨kk.1, kk.2.1, fun p e s m args below meth c X H locs ls hl hH hS hsz h1 h2 => ?_⟩
  have w := kk.2.2 p e s m args below meth c X H locs ls hl hH hS hsz h1 h2
  obtain ⟨hx, hb, hml, hown, hts, hr, hlk, hnm, hKs, hro, hnw, hao, hnd⟩ := X
  obtain ⟨L, hP, hD, hL, hzz, hB, hL2⟩ := hH
  obtain ⟨q0, he⟩ := HW.at (g := g) (H := H) hL (a := a) (by omega)
  rw [cf_obj (ci := 0) hKa (by decide)] at he
  refine va_get hx hb hts cl_Jx4a65c.2.1 hown hKs hP q0 he cl_Jx4a65c.1 0 (by decide) (hts _ hw) (u_same (hts _ sf_mod)) (fl_get cl_Jx4a65c.1 (by decide)) hd ?_
  unfold fv; rw [if_pos fi_Jx4a65c_0]; exact w
theorem ev_pIM {v : Int32} (hw : Cond.fieldLink y.cls idx "java/util/ArrayList" "modCount" "I" ∈ lw_gd) (hd : decode cc pc = .ok (.putfield idx, 3)) (hKa : hK h a = 1) (kk : EvG g l cc nL y ret d h0 zc zs Z (pc + 3) lv st (sF h 0 a v)) : EvG g l cc nL y ret d h0 zc zs Z pc lv (.int v :: .ref a :: st) h := by
  refine ⟨kk.1, kk.2.1, fun p e s m args below meth c X H locs ls hl hH hS hsz h1 h2 => ?_⟩
  have w := fun H1 locs1 hH hS => kk.2.2 p e s m args below meth c X H1 locs1 ls hl hH hS hsz h1 h2
  obtain ⟨hx, hb, hml, hown, hts, hr, hlk, hnm, hKs, hro, hnw, hao, hnd⟩ := X
  obtain ⟨L, hP, hD, hL, hzz, hB, hL2⟩ := hH
  obtain ⟨q0, he⟩ := HW.at (g := g) (H := H) hL (a := a) (by omega)
  have he' := he
  have cl := cl_Jx4a65c
  rw [cf_obj (ci := 0) hKa (by decide)] at he
  refine va_put hx hb hts cl.2.1 tyJx4a65c cl.2.2.1 cl.2.2.2.1 hown hKs hP hD hS.self q0 he cl.1 0 (by decide) (hts _ hw) (u_same (hts _ sf_mod)) rfl (cl.2.2.1 0 (by decide)) rfl rfl (by rw [fl_len cl.1]; decide) hd fun H1 locs1 hP1 hD1 hS1 => ?_
  have e := (va_pl_set (X := []) (e := .inr (0, (fl 0 h a).set 0 (.int v))) hD (hL a (by omega)) he').trans (by rw [cf_sF cl.1 (by decide) fi_Jx4a65c_0 hKa (by decide)])
  simp only [List.nil_append] at e
  rw [e] at hP1 hD1
  exact w H1 locs1 (HW.upd hP1 hD1 hL hzz hB hL2 hS1.1 rfl rfl) (hS.tr hS1)
/-- all that a row holds in its first n places are own objects -/
def ownR (h : aH) (a n : Nat) : Bool := (List.range n).all (fun i => match hO h a i with | none => true | some v => decide (ownK h v))
theorem ev_copy {b : Nat} {n : Int32} (hlk : Cond.methodLink y.cls idx arraycopyName ∈ lw_gd) (hnat : Cond.native arraycopyName ∈ lw_gd) (hsta : Cond.static arraycopyName ∈ lw_gd) (hini : Cond.initialized "java/lang/System" ∈ lw_gd) (hd : decode cc pc = .ok (.invokestatic idx, 3)) (hKa : hK h a = 26) (hKb : hK h b = 26) (h3 : ¬ n < 0) (h4 : n.toNatClampNeg ≤ hN h a) (h5 : n.toNatClampNeg ≤ hN h b) (hel : ownR h a n.toNatClampNeg = true) (hdd : 1 ≤ d) (hst : (st.map fun v => v.category).sum ≤ 8)
    (kk : EvG g l cc nL y ret d h0 zc zs Z (pc + 3) lv st (sR h b (va_cpy (hO h a) (hO h b) 0 0 n.toNatClampNeg))) : EvG g l cc nL y ret d h0 zc zs Z pc lv (.int n :: .int 0 :: .ref b :: .int 0 :: .ref a :: st) h := by
  refine ⟨kk.1, kk.2.1, fun p e s m args below meth c X H locs ls hl hH hS hsz h1 h2 => ?_⟩
  have w := fun H1 locs1 hH hS => kk.2.2 p e s m args below meth c X H1 locs1 ls hl hH hS hsz h1 h2
  obtain ⟨hx, hb, hml, hown, hts, hr, hlk', hnm, hKs, hro, hnw, hao, hnd⟩ := X
  obtain ⟨L, hP, hD, hL, hzz, hB, hL2⟩ := hH
  obtain ⟨q0, ha⟩ := HW.at (g := g) (H := H) hL (a := a) (by omega)
  obtain ⟨q1, hbb⟩ := HW.at (g := g) (H := H) hL (a := b) (by omega)
  have he' := hbb
  rw [cf_O hKa (by decide)] at ha
  rw [cf_O hKb (by decide)] at hbb
  have e0 : (0 : Int32).toNatClampNeg = 0 := by decide
  refine va_copyM hx hb (hml.trans hl.1.symm) hown (hts _ hlk) (hts _ hnat) (hts _ hsta) (hts _ hini) hKs hP hD hS.self q0 q1 5 5 ha hbb (okd_t g (k := 26) (by decide) (by decide)) (okd_t g (k := 26) (by decide) (by decide)) (sp := 0) (dp := 0) (n := n) (by decide) (by decide) h3 (by rw [e0, Nat.zero_add]; exact h4) (by rw [e0, Nat.zero_add]; exact h5) (fun i hi v hv => ?_) hdd ?_ hd fun H1 locs1 hP1 hD1 hS1 => ?_
  · rw [e0, Nat.zero_add] at hv
    have hq := List.all_eq_true.mp hel i (List.mem_range.mpr hi)
    rw [hv] at hq
    have hKv : ownK h v := of_decide_eq_true hq
    obtain ⟨C, T, N, ty, cl, hca⟩ := own_cl hKv.1 hKv.2
    obtain ⟨q2, hv2⟩ := HW.at (g := g) (H := H) hL (a := v) (by omega)
    rw [cf_obj (ci := hK h v - 1) (by omega) cl.2.2.2.2] at hv2
    exact va_rAny hKs hP hv2 cl.1 (fun comp c0 f1 f2 => by
      obtain ⟨c1, c2, g1, g2, g3⟩ := Cond.castable_spec (hnw.1 _ hca)
      have : c0 = c1 := Option.some.inj (f2.symm.trans g1)
      have : comp = c2 := Option.some.inj (f1.symm.trans g2)
      subst_vars
      exact g3)
  · have : nativeFrameWords "java/lang/System" "arraycopy" 5 + 11 ≤ 30 := by decide +kernel
    show _ ≤ 38 * d + 12
    omega
  · rw [e0] at hP1 hD1
    have e := (va_pl_set (X := []) (e := .inl (gC g 26, hN h b, .inr (.inr (.inr (.inr (va_cpy (hO h a) (hO h b) 0 0 n.toNatClampNeg)))))) hD (hL b (by omega)) he').trans (by rw [cf_sR hKb (by decide)])
    simp only [List.nil_append] at e
    rw [e] at hP1 hD1
    exact w H1 locs1 (HW.upd hP1 hD1 hL hzz hB hL2 hS1.1 rfl rfl) (hS.tr hS1)
end RowsL
section RowsMM
variable {g : aG} {l : Launch} {cc : ByteArray} {nL : Nat} {y : MethodName} {ret : Option FieldType} {d : Nat} {h0 : aH} {zc zs : Nat} {Z : List Frame → Array Value → State → State → Prop} {pc : Nat} {lv : List (Nat × Value)} {st : List Value} {h : aH} {idx : Nat} {a b : Int32}
theorem ev_max (hw : Cond.methodLink y.cls idx Lib.Math.max.name ∈ lw_gd) (hd : decode cc pc = .ok (.invokestatic idx, 3)) (hdd : 1 ≤ d) (hst : (st.map fun v => v.category).sum ≤ 8) (kk : EvG g l cc nL y ret d h0 zc zs Z (pc + 3) lv (.int (if a < b then b else a) :: st) h) : EvG g l cc nL y ret d h0 zc zs Z pc lv (.int b :: .int a :: st) h := by
  refine ⟨kk.1, kk.2.1, fun p e s m args below meth c X H locs ls hl hH hS hsz h1 h2 => ?_⟩
  have w := kk.2.2 p e s m args below meth c X H locs ls hl hH hS hsz h1 h2
  have k1 := kk.1
  have k2 := kk.2.1
  obtain ⟨hx, hb, hml, hown, hts, hr, hlk, hnm, hKs, hro, hnw, hao, hnd⟩ := X
  exact va_mmax hx hb (hml.trans hl.1.symm) hown (hts _ hw) (hts _ max_st) (hts _ in_mth) (hts _ max_cd) hdd (by show _ ≤ 38 * d + 12; omega) (by show hz h - hz h0 ≤ zc - hz h0; omega) (by show hs h - hs h0 ≤ zs - hs h0; omega) hd w
theorem ev_min (hw : Cond.methodLink y.cls idx Lib.Math.min.name ∈ lw_gd) (hd : decode cc pc = .ok (.invokestatic idx, 3)) (hdd : 1 ≤ d) (hst : (st.map fun v => v.category).sum ≤ 8) (kk : EvG g l cc nL y ret d h0 zc zs Z (pc + 3) lv (.int (if b < a then b else a) :: st) h) : EvG g l cc nL y ret d h0 zc zs Z pc lv (.int b :: .int a :: st) h := by
  refine ⟨kk.1, kk.2.1, fun p e s m args below meth c X H locs ls hl hH hS hsz h1 h2 => ?_⟩
  have w := kk.2.2 p e s m args below meth c X H locs ls hl hH hS hsz h1 h2
  have k1 := kk.1
  have k2 := kk.2.1
  obtain ⟨hx, hb, hml, hown, hts, hr, hlk, hnm, hKs, hro, hnw, hao, hnd⟩ := X
  exact va_mmin hx hb (hml.trans hl.1.symm) hown (hts _ hw) (hts _ min_st) (hts _ in_mth) (hts _ min_cd) hdd (by show _ ≤ 38 * d + 12; omega) (by show hz h - hz h0 ≤ zc - hz h0; omega) (by show hs h - hs h0 ≤ zs - hs h0; omega) hd w
end RowsMM
section RowsT
variable {g : aG} {l : Launch} {cc : ByteArray} {nL : Nat} {y : MethodName} {ret : Option FieldType} {d : Nat} {h0 : aH} {zc zs : Nat} {Z : List Frame → Array Value → State → State → Prop} {pc : Nat} {lv : List (Nat × Value)} {st : List Value} {h : aH}
theorem bd_n {α β : Type} {x : α} {f : α → Option β} {r : β} (h : bd x f = some r) : ∃ z, z = x ∧ f z = some r := ⟨x, rfl, h⟩
theorem ev_topI {x z : Int32} (e : z = x) (kk : EvG g l cc nL y ret d h0 zc zs Z pc lv (.int z :: st) h) : EvG g l cc nL y ret d h0 zc zs Z pc lv (.int x :: st) h := e ▸ kk
theorem ev_topJ {x z : Int64} (e : z = x) (kk : EvG g l cc nL y ret d h0 zc zs Z pc lv (.long z :: st) h) : EvG g l cc nL y ret d h0 zc zs Z pc lv (.long x :: st) h := e ▸ kk
theorem ev_topR {x z : Nat} (e : z = x) (kk : EvG g l cc nL y ret d h0 zc zs Z pc lv (.ref z :: st) h) : EvG g l cc nL y ret d h0 zc zs Z pc lv (.ref x :: st) h := e ▸ kk
theorem ev_topO {x z : Option Nat} (e : z = x) (kk : EvG g l cc nL y ret d h0 zc zs Z pc lv (va_rf z :: st) h) : EvG g l cc nL y ret d h0 zc zs Z pc lv (va_rf x :: st) h := e ▸ kk
theorem ev_heap {z : aH} (e : z = h) (kk : EvG g l cc nL y ret d h0 zc zs Z pc lv st z) : EvG g l cc nL y ret d h0 zc zs Z pc lv st h := e ▸ kk
end RowsT
