section RowsA
variable {g : aG} {l : Launch} {cc : ByteArray} {nL : Nat} {y : MethodName} {ret : Option FieldType} {d : Nat} {h0 : aH} {zc zs : Nat} {Z : List Frame → Array Value → State → State → Prop} {pc : Nat} {lv : List (Nat × Value)} {st : List Value} {h : aH} {a : Nat} {i : Int32}
/-- an index that lies in a row of n places -/
abbrev inR (i : Int32) (n : Nat) : Prop := ¬ (i < 0 ∨ n ≤ i.toNatClampNeg)
theorem ev_iald (hd : decode cc pc = .ok (.iaload, 1)) (hKa : hK h a = 21) (hi : inR i (hN h a)) (kk : EvG g l cc nL y ret d h0 zc zs Z (pc + 1) lv (.int (hI h a i.toNatClampNeg) :: st) h) : EvG g l cc nL y ret d h0 zc zs Z pc lv (.int i :: .ref a :: st) h := by
  refine ⟨kk.1, kk.2.1, fun p e s m args below meth c X H locs ls hl hH hS hsz h1 h2 => ?_⟩
  have w := kk.2.2 p e s m args below meth c X H locs ls hl hH hS hsz h1 h2
  obtain ⟨hx, hb, hml, hown, hts, hr, hlk, hnm, hKs, hro, hnw, hao, hnd⟩ := X
  obtain ⟨L, hP, hD, hL, hzz, hB, hL2⟩ := hH
  obtain ⟨q0, he⟩ := HW.at (g := g) (H := H) hL (a := a) (by omega)
  rw [cf_I hKa (Or.inl rfl)] at he
  exact va_iald hx hb hKs hP q0 0 he rfl hi hd w
theorem ev_bald (hd : decode cc pc = .ok (.baload, 1)) (hKa : hK h a = 22) (hi : inR i (hN h a)) (kk : EvG g l cc nL y ret d h0 zc zs Z (pc + 1) lv (.int (hI h a i.toNatClampNeg) :: st) h) : EvG g l cc nL y ret d h0 zc zs Z pc lv (.int i :: .ref a :: st) h := by
  refine ⟨kk.1, kk.2.1, fun p e s m args below meth c X H locs ls hl hH hS hsz h1 h2 => ?_⟩
  have w := kk.2.2 p e s m args below meth c X H locs ls hl hH hS hsz h1 h2
  obtain ⟨hx, hb, hml, hown, hts, hr, hlk, hnm, hKs, hro, hnw, hao, hnd⟩ := X
  obtain ⟨L, hP, hD, hL, hzz, hB, hL2⟩ := hH
  obtain ⟨q0, he⟩ := HW.at (g := g) (H := H) hL (a := a) (by omega)
  rw [cf_I hKa (Or.inr rfl)] at he
  exact va_zald hx hb hKs hP q0 1 he rfl hi hd w
theorem ev_lald (hd : decode cc pc = .ok (.laload, 1)) (hKa : hK h a = 23) (hi : inR i (hN h a)) (kk : EvG g l cc nL y ret d h0 zc zs Z (pc + 1) lv (.long (hJ h a i.toNatClampNeg) :: st) h) : EvG g l cc nL y ret d h0 zc zs Z pc lv (.int i :: .ref a :: st) h := by
  refine ⟨kk.1, kk.2.1, fun p e s m args below meth c X H locs ls hl hH hS hsz h1 h2 => ?_⟩
  have w := kk.2.2 p e s m args below meth c X H locs ls hl hH hS hsz h1 h2
  obtain ⟨hx, hb, hml, hown, hts, hr, hlk, hnm, hKs, hro, hnw, hao, hnd⟩ := X
  obtain ⟨L, hP, hD, hL, hzz, hB, hL2⟩ := hH
  obtain ⟨q0, he⟩ := HW.at (g := g) (H := H) hL (a := a) (by omega)
  rw [cf_J hKa] at he
  exact va_lald hx hb hKs hP q0 2 he rfl hi hd w
/-- the kinds of arrays of references: their elements' names -/
def okd (k : Nat) : String := if k = 24 then "BallBook$Change" else if k = 25 then "BallBook$Tally" else "java/lang/Object"
theorem okd_t (g : aG) {k : Nat} (hk : 23 < k) (hk2 : k < 27) : (gtys g)[k - 21]? = some (gC g k, .object (okd k)) := by
  rcases (show k = 24 ∨ k = 25 ∨ k = 26 by omega) with rfl | rfl | rfl <;> rfl
theorem ev_aald (k : Nat) (hd : decode cc pc = .ok (.aaload, 1)) (hk : 23 < k) (hk2 : k < 27) (hKa : hK h a = k) (hi : inR i (hN h a)) (kk : EvG g l cc nL y ret d h0 zc zs Z (pc + 1) lv (va_rf (hO h a i.toNatClampNeg) :: st) h) : EvG g l cc nL y ret d h0 zc zs Z pc lv (.int i :: .ref a :: st) h := by
  refine ⟨kk.1, kk.2.1, fun p e s m args below meth c X H locs ls hl hH hS hsz h1 h2 => ?_⟩
  have w := kk.2.2 p e s m args below meth c X H locs ls hl hH hS hsz h1 h2
  obtain ⟨hx, hb, hml, hown, hts, hr, hlk, hnm, hKs, hro, hnw, hao, hnd⟩ := X
  obtain ⟨L, hP, hD, hL, hzz, hB, hL2⟩ := hH
  obtain ⟨q0, he⟩ := HW.at (g := g) (H := H) hL (a := a) (by omega)
  rw [cf_O hKa hk] at he
  exact va_aldq hx hb hKs hP q0 (k - 21) he (okd_t g hk hk2) hi hd w
theorem ev_alen {k : Nat} {v : Int32} (hd : decode cc pc = .ok (.arraylength, 1)) (hk : 20 < k) (hk2 : k < 27) (hKa : hK h a = k) (hv : Int32.ofNat (hN h a) = v) (kk : EvG g l cc nL y ret d h0 zc zs Z (pc + 1) lv (.int v :: st) h) : EvG g l cc nL y ret d h0 zc zs Z pc lv (.ref a :: st) h := by
  refine ⟨kk.1, kk.2.1, fun p e s m args below meth c X H locs ls hl hH hS hsz h1 h2 => ?_⟩
  have w := kk.2.2 p e s m args below meth c X H locs ls hl hH hS hsz h1 h2
  obtain ⟨hx, hb, hml, hown, hts, hr, hlk, hnm, hKs, hro, hnw, hao, hnd⟩ := X
  obtain ⟨L, hP, hD, hL, hzz, hB, hL2⟩ := hH
  obtain ⟨q0, he⟩ := HW.at (g := g) (H := H) hL (a := a) (by omega)
  rcases (show k = 21 ∨ k = 22 ∨ k = 23 ∨ 23 < k by omega) with rfl | rfl | rfl | hk3
  · rw [cf_I hKa (Or.inl rfl)] at he
    exact va_alen hx hb hKs hP q0 0 he rfl hv hd w
  · rw [cf_I hKa (Or.inr rfl)] at he
    exact va_alen hx hb hKs hP q0 1 he rfl hv hd w
  · rw [cf_J hKa] at he
    exact va_alen hx hb hKs hP q0 2 he rfl hv hd w
  · rw [cf_O hKa hk3] at he
    exact va_alen hx hb hKs hP q0 (k - 21) he (okd_t g hk3 hk2) hv hd w
theorem ev_iast {x : Int32} (hd : decode cc pc = .ok (.iastore, 1)) (hKa : hK h a = 21) (hi : inR i (hN h a)) (kk : EvG g l cc nL y ret d h0 zc zs Z (pc + 1) lv st (sI h a i.toNatClampNeg x)) : EvG g l cc nL y ret d h0 zc zs Z pc lv (.int x :: .int i :: .ref a :: st) h := by
  refine ⟨kk.1, kk.2.1, fun p e s m args below meth c X H locs ls hl hH hS hsz h1 h2 => ?_⟩
  have w := fun H1 locs1 hH hS => kk.2.2 p e s m args below meth c X H1 locs1 ls hl hH hS hsz h1 h2
  obtain ⟨hx, hb, hml, hown, hts, hr, hlk, hnm, hKs, hro, hnw, hao, hnd⟩ := X
  obtain ⟨L, hP, hD, hL, hzz, hB, hL2⟩ := hH
  obtain ⟨q0, he⟩ := HW.at (g := g) (H := H) hL (a := a) (by omega)
  have he' := he
  rw [cf_I hKa (Or.inl rfl)] at he
  refine va_iast hx hb hKs hP hD hS.self q0 0 he rfl hi hd fun H1 locs1 hP1 hD1 hS1 => ?_
  have e := (va_pl_set (X := []) (e := .inl (gC g 21, hN h a, .inl (upd (hI h a) i.toNatClampNeg x))) hD (hL a (by omega)) he').trans (by rw [cf_sI hKa (Or.inl rfl)])
  simp only [List.nil_append] at e
  rw [e] at hP1 hD1
  exact w H1 locs1 (HW.upd hP1 hD1 hL hzz hB hL2 hS1.1 rfl rfl) (hS.tr hS1)
theorem ev_bast {x : Int32} (hd : decode cc pc = .ok (.bastore, 1)) (hKa : hK h a = 22) (hi : inR i (hN h a)) (hx01 : vp_nar .boolean x = x) (kk : EvG g l cc nL y ret d h0 zc zs Z (pc + 1) lv st (sI h a i.toNatClampNeg x)) : EvG g l cc nL y ret d h0 zc zs Z pc lv (.int x :: .int i :: .ref a :: st) h := by
  refine ⟨kk.1, kk.2.1, fun p e s m args below meth c X H locs ls hl hH hS hsz h1 h2 => ?_⟩
  have w := fun H1 locs1 hH hS => kk.2.2 p e s m args below meth c X H1 locs1 ls hl hH hS hsz h1 h2
  obtain ⟨hx, hb, hml, hown, hts, hr, hlk, hnm, hKs, hro, hnw, hao, hnd⟩ := X
  obtain ⟨L, hP, hD, hL, hzz, hB, hL2⟩ := hH
  obtain ⟨q0, he⟩ := HW.at (g := g) (H := H) hL (a := a) (by omega)
  have he' := he
  rw [cf_I hKa (Or.inr rfl)] at he
  refine va_zast hx hb hKs hP hD hS.self q0 1 he rfl hi hd fun H1 locs1 hP1 hD1 hS1 => ?_
  rw [hx01] at hP1 hD1
  have e := (va_pl_set (X := []) (e := .inl (gC g 22, hN h a, .inl (upd (hI h a) i.toNatClampNeg x))) hD (hL a (by omega)) he').trans (by rw [cf_sI hKa (Or.inr rfl)])
  simp only [List.nil_append] at e
  rw [e] at hP1 hD1
  exact w H1 locs1 (HW.upd hP1 hD1 hL hzz hB hL2 hS1.1 rfl rfl) (hS.tr hS1)
theorem ev_last {x : Int64} (hd : decode cc pc = .ok (.lastore, 1)) (hKa : hK h a = 23) (hi : inR i (hN h a)) (kk : EvG g l cc nL y ret d h0 zc zs Z (pc + 1) lv st (sJ h a i.toNatClampNeg x)) : EvG g l cc nL y ret d h0 zc zs Z pc lv (.long x :: .int i :: .ref a :: st) h := by
  refine ⟨kk.1, kk.2.1, fun p e s m args below meth c X H locs ls hl hH hS hsz h1 h2 => ?_⟩
  have w := fun H1 locs1 hH hS => kk.2.2 p e s m args below meth c X H1 locs1 ls hl hH hS hsz h1 h2
  obtain ⟨hx, hb, hml, hown, hts, hr, hlk, hnm, hKs, hro, hnw, hao, hnd⟩ := X
  obtain ⟨L, hP, hD, hL, hzz, hB, hL2⟩ := hH
  obtain ⟨q0, he⟩ := HW.at (g := g) (H := H) hL (a := a) (by omega)
  have he' := he
  rw [cf_J hKa] at he
  refine va_last hx hb hKs hP hD hS.self q0 2 he rfl hi hd fun H1 locs1 hP1 hD1 hS1 => ?_
  have e := (va_pl_set (X := []) (e := .inl (gC g 23, hN h a, .inr (.inl (vp_updL (hJ h a) i.toNatClampNeg x)))) hD (hL a (by omega)) he').trans (by rw [cf_sJ hKa])
  simp only [List.nil_append] at e
  rw [e] at hP1 hD1
  exact w H1 locs1 (HW.upd hP1 hD1 hL hzz hB hL2 hS1.1 rfl rfl) (hS.tr hS1)
/-- a reference into an array of its own class: kinds 24, 25 -/
theorem ev_aast {k ci v N : Nat} {C : String} {T : u_T} {ty : Nat → FieldType} (cl : ClF ci C T N ty) (hd : decode cc pc = .ok (.aastore, 1)) (hk : 23 < k) (hk2 : k < 27) (hC : okd k = C) (hKa : hK h a = k) (hKv : hK h v = ci + 1) (hi : inR i (hN h a)) (kk : EvG g l cc nL y ret d h0 zc zs Z (pc + 1) lv st (sO h a i.toNatClampNeg (some v))) : EvG g l cc nL y ret d h0 zc zs Z pc lv (.ref v :: .int i :: .ref a :: st) h := by
  refine ⟨kk.1, kk.2.1, fun p e s m args below meth c X H locs ls hl hH hS hsz h1 h2 => ?_⟩
  have w := fun H1 locs1 hH hS => kk.2.2 p e s m args below meth c X H1 locs1 ls hl hH hS hsz h1 h2
  obtain ⟨hx, hb, hml, hown, hts, hr, hlk, hnm, hKs, hro, hnw, hao, hnd⟩ := X
  obtain ⟨L, hP, hD, hL, hzz, hB, hL2⟩ := hH
  obtain ⟨q0, he⟩ := HW.at (g := g) (H := H) hL (a := a) (by omega)
  obtain ⟨q1, hv⟩ := HW.at (g := g) (H := H) hL (a := v) (by omega)
  have he' := he
  rw [cf_O hKa hk] at he
  rw [cf_obj hKv cl.2.2.2.2] at hv
  subst hC
  refine va_astq hx hb hKs hP hD hS.self q0 (k - 21) q1 ci he (okd_t g hk hk2) hv cl.1 hi hd fun H1 locs1 hP1 hD1 hS1 => ?_
  have e := (va_pl_set (X := []) (e := .inl (gC g k, hN h a, .inr (.inr (.inr (.inr (va_up (hO h a) i.toNatClampNeg (some v))))))) hD (hL a (by omega)) he').trans (by rw [cf_sO hKa hk])
  simp only [List.nil_append] at e
  rw [e] at hP1 hD1
  exact w H1 locs1 (HW.upd hP1 hD1 hL hzz hB hL2 hS1.1 rfl rfl) (hS.tr hS1)
end RowsA
