/-! rows of fields by the fields' numbers; switches -/
theorem nar_o (t : FieldType) (r : Option Nat) : narrow t (va_rf r) = va_rf r := by cases r <;> cases t <;> rfl
def isRf : FieldType → Bool
  | .object _ => true
  | .array _ => true
  | _ => false
theorem fit_o (t : FieldType) (r : Option Nat) (h : isRf t = true) : fits t (va_rf r) = true := by
  cases t <;> first | (cases h; done) | (cases r <;> rfl)
theorem nar_z {x : Int32} (h : x = 0 ∨ x = 1) : narrow .boolean (.int x) = .int x := by
  rcases h with rfl | rfl <;> rfl
theorem fit_z {x : Int32} (h : x = 0 ∨ x = 1) : fits .boolean (.int x) = true := by
  rcases h with rfl | rfl <;> rfl
theorem nar_v {x : Int32} (h : x = 0 ∨ x = 1) : vp_nar .boolean x = x := by
  rcases h with rfl | rfl <;> rfl
section RowsW
variable {g : aG} {l : Launch} {cc : ByteArray} {nL : Nat} {y : MethodName} {ret : Option FieldType} {d : Nat} {h0 : aH} {zc zs : Nat} {Z : List Frame → Array Value → State → State → Prop} {pc : Nat} {lv : List (Nat × Value)} {st : List Value} {h : aH}
variable {ci k N f : Nat} {C : String} {T : u_T} {ty : Nat → FieldType} {a idx b : Nat} {host : String}
theorem ev_gI (cl : ClF ci C T N ty) (hk : k < N) (hi : fI ci k = true) (hf : 100 * ci + k = f) (hw : Cond.fieldLink y.cls idx (T k).1 (T k).2.1 (T k).2.2.1 ∈ lw_gd) (hd : decode cc pc = .ok (.getfield idx, 3)) (hKa : hK h a = ci + 1) (kk : EvG g l cc nL y ret d h0 zc zs Z (pc + 3) lv (.int (hF h f a) :: st) h) : EvG g l cc nL y ret d h0 zc zs Z pc lv (.ref a :: st) h := by
  refine ev_get cl hk hw hd hKa ?_
  unfold fv; rw [if_pos hi, hf]; exact kk
theorem ev_gIN (cl : ClF ci C T N ty) (hk : k < N) (hi : fI ci k = true) (hf : 100 * ci + k = f) (hw : Cond.fieldLinkNest y.cls idx (T k).1 (T k).2.1 (T k).2.2.1 host ∈ lw_nw) (hd : decode cc pc = .ok (.getfield idx, 3)) (hKa : hK h a = ci + 1) (kk : EvG g l cc nL y ret d h0 zc zs Z (pc + 3) lv (.int (hF h f a) :: st) h) : EvG g l cc nL y ret d h0 zc zs Z pc lv (.ref a :: st) h := by
  refine ev_getN cl hk hw hd hKa ?_
  unfold fv; rw [if_pos hi, hf]; exact kk
theorem ev_gG (cl : ClF ci C T N ty) (hk : k < N) (hi : fI ci k = false) (hf : 100 * ci + k = f) (hw : Cond.fieldLink y.cls idx (T k).1 (T k).2.1 (T k).2.2.1 ∈ lw_gd) (hd : decode cc pc = .ok (.getfield idx, 3)) (hKa : hK h a = ci + 1) (kk : EvG g l cc nL y ret d h0 zc zs Z (pc + 3) lv (va_rf (hG h f a) :: st) h) : EvG g l cc nL y ret d h0 zc zs Z pc lv (.ref a :: st) h := by
  refine ev_get cl hk hw hd hKa ?_
  unfold fv; rw [if_neg (by rw [hi]; decide), hf]; exact kk
theorem ev_gGN (cl : ClF ci C T N ty) (hk : k < N) (hi : fI ci k = false) (hf : 100 * ci + k = f) (hw : Cond.fieldLinkNest y.cls idx (T k).1 (T k).2.1 (T k).2.2.1 host ∈ lw_nw) (hd : decode cc pc = .ok (.getfield idx, 3)) (hKa : hK h a = ci + 1) (kk : EvG g l cc nL y ret d h0 zc zs Z (pc + 3) lv (va_rf (hG h f a) :: st) h) : EvG g l cc nL y ret d h0 zc zs Z pc lv (.ref a :: st) h := by
  refine ev_getN cl hk hw hd hKa ?_
  unfold fv; rw [if_neg (by rw [hi]; decide), hf]; exact kk
theorem ev_gS (cl : ClF ci C T N ty) (hk : k < N) (hi : fI ci k = false) (hf : 100 * ci + k = f) (hw : Cond.fieldLink y.cls idx (T k).1 (T k).2.1 (T k).2.2.1 ∈ lw_gd) (hd : decode cc pc = .ok (.getfield idx, 3)) (hKa : hK h a = ci + 1) (hv : hG h f a = some b) (kk : EvG g l cc nL y ret d h0 zc zs Z (pc + 3) lv (.ref b :: st) h) : EvG g l cc nL y ret d h0 zc zs Z pc lv (.ref a :: st) h := ev_gG cl hk hi hf hw hd hKa (by rw [hv]; exact kk)
theorem ev_gSN (cl : ClF ci C T N ty) (hk : k < N) (hi : fI ci k = false) (hf : 100 * ci + k = f) (hw : Cond.fieldLinkNest y.cls idx (T k).1 (T k).2.1 (T k).2.2.1 host ∈ lw_nw) (hd : decode cc pc = .ok (.getfield idx, 3)) (hKa : hK h a = ci + 1) (hv : hG h f a = some b) (kk : EvG g l cc nL y ret d h0 zc zs Z (pc + 3) lv (.ref b :: st) h) : EvG g l cc nL y ret d h0 zc zs Z pc lv (.ref a :: st) h := ev_gGN cl hk hi hf hw hd hKa (by rw [hv]; exact kk)
theorem ev_pI {v : Int32} (cl : ClF ci C T N ty) (hk : k < N) (hi : fI ci k = true) (hf : 100 * ci + k = f) (hw : Cond.fieldLink y.cls idx (T k).1 (T k).2.1 (T k).2.2.1 ∈ lw_gd) (hfin : (T k).2.2.2 = false) (hn : narrow (ty k) (.int v) = .int v) (hft : fits (ty k) (.int v) = true) (hd : decode cc pc = .ok (.putfield idx, 3)) (hKa : hK h a = ci + 1) (kk : EvG g l cc nL y ret d h0 zc zs Z (pc + 3) lv st (sF h f a v)) : EvG g l cc nL y ret d h0 zc zs Z pc lv (.int v :: .ref a :: st) h := ev_putI cl hk hi hw hfin hn hft hd hKa (by rw [hf]; exact kk)
theorem ev_pIN {v : Int32} (cl : ClF ci C T N ty) (hk : k < N) (hi : fI ci k = true) (hf : 100 * ci + k = f) (hw : Cond.fieldLinkNest y.cls idx (T k).1 (T k).2.1 (T k).2.2.1 host ∈ lw_nw) (hfin : (T k).2.2.2 = false) (hn : narrow (ty k) (.int v) = .int v) (hft : fits (ty k) (.int v) = true) (hd : decode cc pc = .ok (.putfield idx, 3)) (hKa : hK h a = ci + 1) (kk : EvG g l cc nL y ret d h0 zc zs Z (pc + 3) lv st (sF h f a v)) : EvG g l cc nL y ret d h0 zc zs Z pc lv (.int v :: .ref a :: st) h := ev_putIN cl hk hi hw hfin hn hft hd hKa (by rw [hf]; exact kk)
theorem ev_pIF {v : Int32} (cl : ClF ci C T N ty) (hk : k < N) (hi : fI ci k = true) (hf : 100 * ci + k = f) (hw : Cond.fieldLink y.cls idx (T k).1 (T k).2.1 (T k).2.2.1 ∈ lw_gd) (hfin : (T k).2.2.2 = true) (hin : y.name = "<init>") (hdc : (T k).1 = y.cls) (hn : narrow (ty k) (.int v) = .int v) (hft : fits (ty k) (.int v) = true) (hd : decode cc pc = .ok (.putfield idx, 3)) (hKa : hK h a = ci + 1) (kk : EvG g l cc nL y ret d h0 zc zs Z (pc + 3) lv st (sF h f a v)) : EvG g l cc nL y ret d h0 zc zs Z pc lv (.int v :: .ref a :: st) h := ev_putIF cl hk hi hw hfin hin hdc hn hft hd hKa (by rw [hf]; exact kk)
theorem ev_pG {v : Option Nat} (cl : ClF ci C T N ty) (hk : k < N) (hi : fI ci k = false) (hf : 100 * ci + k = f) (hw : Cond.fieldLink y.cls idx (T k).1 (T k).2.1 (T k).2.2.1 ∈ lw_gd) (hfin : (T k).2.2.2 = false) (hft : isRf (ty k) = true) (hd : decode cc pc = .ok (.putfield idx, 3)) (hKa : hK h a = ci + 1) (kk : EvG g l cc nL y ret d h0 zc zs Z (pc + 3) lv st (sG h f a v)) : EvG g l cc nL y ret d h0 zc zs Z pc lv (va_rf v :: .ref a :: st) h := ev_putG cl hk hi hw hfin (nar_o _ _) (fit_o _ _ hft) hd hKa (by rw [hf]; exact kk)
theorem ev_pGF {v : Option Nat} (cl : ClF ci C T N ty) (hk : k < N) (hi : fI ci k = false) (hf : 100 * ci + k = f) (hw : Cond.fieldLink y.cls idx (T k).1 (T k).2.1 (T k).2.2.1 ∈ lw_gd) (hfin : (T k).2.2.2 = true) (hin : y.name = "<init>") (hdc : (T k).1 = y.cls) (hft : isRf (ty k) = true) (hd : decode cc pc = .ok (.putfield idx, 3)) (hKa : hK h a = ci + 1) (kk : EvG g l cc nL y ret d h0 zc zs Z (pc + 3) lv st (sG h f a v)) : EvG g l cc nL y ret d h0 zc zs Z pc lv (va_rf v :: .ref a :: st) h := ev_putGF cl hk hi hw hfin hin hdc (nar_o _ _) (fit_o _ _ hft) hd hKa (by rw [hf]; exact kk)
theorem ev_pS (cl : ClF ci C T N ty) (hk : k < N) (hi : fI ci k = false) (hf : 100 * ci + k = f) (hw : Cond.fieldLink y.cls idx (T k).1 (T k).2.1 (T k).2.2.1 ∈ lw_gd) (hfin : (T k).2.2.2 = false) (hft : isRf (ty k) = true) (hd : decode cc pc = .ok (.putfield idx, 3)) (hKa : hK h a = ci + 1) (kk : EvG g l cc nL y ret d h0 zc zs Z (pc + 3) lv st (sG h f a (some b))) : EvG g l cc nL y ret d h0 zc zs Z pc lv (.ref b :: .ref a :: st) h := ev_pG (v := some b) cl hk hi hf hw hfin hft hd hKa kk
theorem ev_pSF (cl : ClF ci C T N ty) (hk : k < N) (hi : fI ci k = false) (hf : 100 * ci + k = f) (hw : Cond.fieldLink y.cls idx (T k).1 (T k).2.1 (T k).2.2.1 ∈ lw_gd) (hfin : (T k).2.2.2 = true) (hin : y.name = "<init>") (hdc : (T k).1 = y.cls) (hft : isRf (ty k) = true) (hd : decode cc pc = .ok (.putfield idx, 3)) (hKa : hK h a = ci + 1) (kk : EvG g l cc nL y ret d h0 zc zs Z (pc + 3) lv st (sG h f a (some b))) : EvG g l cc nL y ret d h0 zc zs Z pc lv (.ref b :: .ref a :: st) h := ev_pGF (v := some b) cl hk hi hf hw hfin hin hdc hft hd hKa kk
theorem ev_swT {dflt lo hi : Int} {offs : Array Int} {len : Nat} {x kk : Int32} {tgt : Nat} (hd : decode cc pc = .ok (.tableswitch dflt lo hi offs, len)) (hx : x = kk) (hin : ¬ kk.toInt < lo ∧ ¬ hi < kk.toInt) (ho : offs[(kk.toInt - lo).toNat]? = some ((tgt : Int) - (pc : Int))) (k : EvG g l cc nL y ret d h0 zc zs Z tgt lv st h) : EvG g l cc nL y ret d h0 zc zs Z pc lv (.int x :: st) h := by
  subst hx
  exact ev_tableIn hd hin.1 hin.2 ho (by omega) k
theorem ev_swTd {dflt lo hi : Int} {offs : Array Int} {len : Nat} {x : Int32} {tgt : Nat} {ks : List Int32} (hd : decode cc pc = .ok (.tableswitch dflt lo hi offs, len)) (hne : ∀ k ∈ ks, ¬ x = k) (hcov : (hi - lo + 1).toNat = offs.size ∧ (List.range offs.size).all (fun i => offs[i]? == some dflt || ks.contains (Int32.ofInt (lo + i))) = true) (ht : (pc : Int) + dflt = (tgt : Int)) (k : EvG g l cc nL y ret d h0 zc zs Z tgt lv st h) : EvG g l cc nL y ret d h0 zc zs Z pc lv (.int x :: st) h := by
  by_cases h1 : x.toInt < lo ∨ hi < x.toInt
  · exact ev_tableOut hd h1 ht k
  · have hi' : (x.toInt - lo).toNat < offs.size := by omega
    have h2 := List.all_eq_true.mp hcov.2 (x.toInt - lo).toNat (List.mem_range.mpr hi')
    rw [Bool.or_eq_true] at h2
    rcases h2 with h2 | h2
    · exact ev_tableIn hd (by omega) (by omega) (eq_of_beq h2) ht k
    · have h3 := List.contains_iff_mem.mp h2
      exact absurd (by rw [show lo + (((x.toInt - lo).toNat : Nat) : Int) = x.toInt by omega, Int32.ofInt_toInt]) (hne _ h3)
theorem ev_swL {dflt : Int} {ps : Array (Int × Int)} {len : Nat} {x kk : Int32} {tgt : Nat} (hd : decode cc pc = .ok (.lookupswitch dflt ps, len)) (hx : x = kk) (hp : (ps.toList.zip (ps.toList.drop 1)).all (fun (a, next) => a.1 < next.1) = true) (ho : Op.lookupswitch.offset ps.toList dflt kk.toInt = (tgt : Int) - (pc : Int)) (k : EvG g l cc nL y ret d h0 zc zs Z tgt lv st h) : EvG g l cc nL y ret d h0 zc zs Z pc lv (.int x :: st) h := by
  subst hx
  exact ev_lookup hd hp ho (by omega) k
theorem off_df (dflt v : Int) : ∀ ps : List (Int × Int), (∀ p ∈ ps, ¬ v = p.1) → Op.lookupswitch.offset ps dflt v = dflt := by
  intro ps
  induction ps with
  | nil => intro _; rfl
  | cons q r ih =>
    intro hq
    obtain ⟨a, o⟩ := q
    rw [Op.lookupswitch.offset_cons, if_neg (fun e => hq (a, o) List.mem_cons_self e.symm)]
    exact ih (fun p hp => hq p (List.mem_cons_of_mem _ hp))
theorem ev_swLd {dflt : Int} {ps : Array (Int × Int)} {len : Nat} {x : Int32} {tgt : Nat} {ks : List Int32} (hd : decode cc pc = .ok (.lookupswitch dflt ps, len)) (hne : ∀ k ∈ ks, ¬ x = k) (hcov : (ps.toList.zip (ps.toList.drop 1)).all (fun (a, next) => a.1 < next.1) = true ∧ ps.toList.all (fun q => ks.contains (Int32.ofInt q.1)) = true) (ht : (pc : Int) + dflt = (tgt : Int)) (k : EvG g l cc nL y ret d h0 zc zs Z tgt lv st h) : EvG g l cc nL y ret d h0 zc zs Z pc lv (.int x :: st) h := by
  refine ev_lookup hd hcov.1 (off_df dflt x.toInt _ (fun q hq e => ?_)) ht k
  have h3 := List.contains_iff_mem.mp (List.all_eq_true.mp hcov.2 q hq)
  exact absurd (by rw [← e, Int32.ofInt_toInt]) (hne _ h3)
end RowsW
