/-! The law: what holds between two calls -/
section Elw
variable {x : Nat} {h h' : aH} {lb : Nat → Lab} {ad cp : Adr} {A B : Bk}
theorem CRp.far (r : CRp x h lb ad cp A) (c : ∀ b, b < x + 173 ∨ x + 229 ≤ b → cel h h' b) (z : hz h ≤ hz h') (e : hE h' = hE h) : CRp x h' lb ad cp A := by
  have lo : ∀ k, k < 173 → cel h h' (x + k) := fun k hk => c _ (by omega)
  have c0 : cel h h' x := c x (by omega)
  refine ⟨r.fx.mv (fun b _ b1 _ => (c b (Or.inl b1)).scl) (fun b hb f => (c b (by omega)).F f) (r.fx.2.2.2.2.2.1.cl (fun b b0 b1 => c b (by omega))) e z, ?_, r.ci.mv ⟨c0.F _, c0.F _⟩ (lo 1 (by decide)) (lo 3 (by decide)) (lo 4 (by decide)) (lo 5 (by decide)) (lo 6 (by decide)), r.hc.mv (lo 7 (by decide)) (fun k k0 k1 => lo k (by omega)), ?_, r.rc.mv (c0.F _) (lo 168 (by decide))⟩
  · obtain ⟨r1, r2, r3, r4⟩ := r.pl
    have k : kpL lb (fun L => L.1 ≠ 0) h h' := ⟨z, e, fun b _ hb => c b (Or.inr (Nat.le_of_not_lt (fun q => hb (r1 b q))))⟩
    refine ⟨r1, r2.mv2 k.1 k.2.1 (lo 2 (by decide)) (fun hc => k.2.2 _ r2.1.2.2.2.2 (by rw [r3 hc]; decide)) (fun i i0 i1 => (c _ (Or.inr (gm_hi (r4 i i0 i1) r1))).K) (fun _ _ _ => rfl), r3, fun g g0 g1 => ?_⟩
    exact (r4 g g0 g1).mv k (fun _ _ => rfl) (fun k t o hk _ => by show k ≠ 0; omega) (fun _ _ _ _ _ => ⟨rfl, rfl⟩)
  · have p := r.pc
    unfold PC at p ⊢
    rw [c0.F, psOf_cl (fun b b0 b1 => c b (by omega))]
    exact p
theorem CR.far (r : CR x h A) (c : ∀ b, b < x + 173 ∨ x + 229 ≤ b → cel h h' b) (z : hz h ≤ hz h') (e : hE h' = hE h) : CR x h' A := by
  obtain ⟨lb, ad, cp, r⟩ := r
  exact ⟨lb, ad, cp, r.far c z e⟩
theorem fr.cel {t : Nat} (f : fr t h h') {b : Nat} (hb : ¬ (t ≤ b ∧ b < t + 55)) : cel h h' b := by
  obtain ⟨f1, f2, f3, f4, f5⟩ := f
  have kK : hK h' = hK h := f1
  have kG : hG h' = hG h := f2
  have kN : hN h' = hN h := f3
  have kJ : hJ h' = hJ h := congrArg (fun q => q.1) f4
  have kO : hO h' = hO h := congrArg (fun q => q.2.1) f4
  exact ⟨by rw [kK], (f5 b hb).1, fun f => by rw [kG], by rw [kN], (f5 b hb).2, fun i => by rw [kJ], fun i => by rw [kO]⟩
theorem fr.zse {t : Nat} (f : fr t h h') : hz h' = hz h ∧ hs h' = hs h ∧ hE h' = hE h := ⟨congrArg (fun q => q.2.2.1) f.2.2.2.1, congrArg (fun q => q.2.2.2.1) f.2.2.2.1, congrArg (fun q => q.2.2.2.2) f.2.2.2.1⟩
theorem ms_cls (c : ∀ k, 173 ≤ k → k < 228 → cel h h' (x + k)) (m : MS (x + 173) h) : MS (x + 173) h' ∧ menv (x + 173) h' = menv (x + 173) h := by
  have ct := c 173 (by decide) (by decide)
  have cm : ∀ k, cel h h' (x + 173 + mo k) := fun k => by
    have := mo_le k
    rw [Nat.add_assoc]
    exact c _ (by omega) (by omega)
  refine ⟨⟨by rw [ct.K]; exact m.1, fun k hk => ?_⟩, ?_⟩
  · obtain ⟨m1, m2, m3⟩ := m.2 k hk
    exact ⟨by rw [ct.G]; exact m1, by rw [(cm k).K]; exact m2, by rw [(cm k).N]; exact m3⟩
  · refine Prod.ext (funext fun k => ct.F _) (funext fun k => funext fun i => ?_)
    show (if 0 ≤ i then hI h' (x + 173 + mo k) i.toNatClampNeg else 0) = if 0 ≤ i then hI h (x + 173 + mo k) i.toNatClampNeg else 0
    rw [(cm k).I]
/-- between two calls: both hold the same book, within their room -/
def LI (x S0 k : Nat) (h : aH) (A : Bk) : Prop := CR x h A ∧ MS (x + 173) h ∧ MR (menv (x + 173) h) A ∧ BkOK A ∧ (hK h (x + 228) = 23 ∧ hN h (x + 228) = 1) ∧ (hz h : Int) + 2 * A.taped.toInt ≤ x + 229 + 100 * k ∧ (hs h : Int) + 26 * A.taped.toInt ≤ S0 + 2000 * k ∧ 2 * ((menv (x + 173) h).1 11).toInt + A.taped.toInt ≤ 20 * k
theorem LI.k13 {S0 k : Nat} (I : LI x S0 k h A) : hK h x = 13 := by
  obtain ⟨lb, ad, cp, r⟩ := I.1
  exact r.k0
/-- what a call leaves -/
def CaQ (x : Nat) (h : aH) (A : Bk) (P12 : mE → Option (Int32 × mE)) (q : Int32 × aH) : Prop := ∃ B, CR x q.2 B ∧ (∀ k, 173 ≤ k → k < 229 → cel h q.2 (x + k)) ∧ (hz q.2 : Int) + 2 * B.taped.toInt ≤ hz h + 2 * A.taped.toInt + 100 ∧ (hs q.2 : Int) + 26 * B.taped.toInt ≤ hs h + 26 * A.taped.toInt + 2000 ∧ BkOK B ∧ Rn (P12 (menv (x + 173) h)) (fun w => w.1 = q.1 ∧ MR w.2 B ∧ 2 * (w.2.1 11).toInt + B.taped.toInt ≤ 2 * ((menv (x + 173) h).1 11).toInt + A.taped.toInt + 20)
/-- the reference's step -/
theorem lw_ref {α : Type} {h4 : aH} {S0 k : Nat} {F12 : aH → Option (α × aH)} {P12 : mE → Option (α × mE)} {R : α × mE → Prop} (c4 : CR x h4 B) (m4 : MS (x + 173) h4) (okB : BkOK B) (j4 : hK h4 (x + 228) = 23 ∧ hN h4 (x + 228) = 1) (z4 : (hz h4 : Int) + 2 * B.taped.toInt ≤ x + 229 + 100 * k) (s4 : (hs h4 : Int) + 26 * B.taped.toInt ≤ S0 + 2000 * k) (P : Rn (P12 (menv (x + 173) h4)) R) (hR : ∀ w, R w → MR w.2 B ∧ 2 * (w.2.1 11).toInt + B.taped.toInt ≤ 20 * k) (pl : ∀ r e', P12 (menv (x + 173) h4) = some (r, e') → Gl (x + 173) h4 (F12 h4) r e') : Rn (F12 h4) (fun q => R (q.1, menv (x + 173) q.2) ∧ LI x S0 k q.2 B ∧ hJ q.2 (x + 228) = hJ h4 (x + 228)) := by
  obtain ⟨⟨r, e'⟩, ep, rr⟩ := P
  obtain ⟨h9, e9, em, ms, f⟩ := pl r e' ep
  have hr := hR _ rr
  have zs := f.zse
  have c228 := f.cel (b := x + 228) (by omega)
  refine ⟨(r, h9), e9, ?_, ⟨c4.far (fun b hb => f.cel (by omega)) (by rw [zs.1]; exact Nat.le_refl _) zs.2.2, ms, ?_, okB, ⟨by rw [c228.K]; exact j4.1, by rw [c228.N]; exact j4.2⟩, ?_, ?_, ?_⟩, funext fun i => c228.J i⟩
  · show R (r, menv (x + 173) h9)
    rw [em]; exact rr
  · show MR (menv (x + 173) h9) B
    rw [em]; exact hr.1
  · show (hz h9 : Int) + _ ≤ _
    rw [zs.1]; exact z4
  · show (hs h9 : Int) + _ ≤ _
    rw [zs.2.1]; exact s4
  · show 2 * ((menv (x + 173) h9).1 11).toInt + _ ≤ _
    rw [em]; exact hr.2
theorem lw_call {S0 k : Nat} {F11 F12 K : aH → Option (Int32 × aH)} {P12 : mE → Option (Int32 × mE)} {Q : Int32 × aH → Prop} (I : LI x S0 k h A) (hc : Rn (F11 h) (CaQ x h A P12)) (pl : ∀ h4 r e', MS (x + 173) h4 → P12 (menv (x + 173) h4) = some (r, e') → Gl (x + 173) h4 (F12 h4) r e') (go : ∀ h9 B, LI x S0 (k + 1) h9 B → Rn (K h9) Q) : Rn ((ck (hK h x = 13)).bind fun _ => (F11 h).bind fun q6 => bd q6.1 fun z5 => bd q6.2 fun h4 => (ck (hK h4 (x + 173) = 14)).bind fun _ => (F12 h4).bind fun q11 => bd q11.1 fun z10 => bd q11.2 fun h9 => if z5 = z10 then K h9 else some (0, h9)) Q := by
  refine rn_ck I.k13 (rn_c hc ?_)
  rintro ⟨v, h4⟩ ⟨B, c4, cc, z4, s4, okB, P⟩
  dsimp only at c4 cc z4 s4 P
  obtain ⟨i1, i2, i3, i4, i5, i6, i7, i8⟩ := I
  obtain ⟨m4, em⟩ := ms_cls (fun k k0 k1 => cc k k0 (by omega)) i2
  have c228 := cc 228 (by decide) (by decide)
  refine rn_bd (rn_bd (rn_ck m4.1 ?_))
  rw [← em] at P i8
  refine rn_c (lw_ref (h4 := h4) (S0 := S0) (k := k + 1) (F12 := F12) c4 m4 okB ⟨by rw [c228.K]; exact i5.1, by rw [c228.N]; exact i5.2⟩ (by omega) (by omega) P (fun w hw => ⟨hw.2.1, by have := hw.2.2; omega⟩) (fun r e' => pl h4 r e' m4)) ?_
  rintro ⟨w, h9⟩ ⟨⟨q1, -, -⟩, L9, -⟩
  dsimp only at q1 L9
  refine rn_bd (rn_bd ?_)
  exact rn_p q1.symm (go h9 B L9)
/-- the class's answer has been kept, or its throw caught -/
def AsQ {α : Type} (x : Nat) (h : aH) (A : Bk) (cv : α → Int64) (o : Option α) (q : Int32 × aH) : Prop := ((o = none ∧ q.1 = 1) ∨ ∃ v, o = some v ∧ q.1 = 0 ∧ hJ q.2 (x + 228) 0 = cv v) ∧ CR x q.2 A ∧ (∀ k, 173 ≤ k → k < 228 → cel h q.2 (x + k)) ∧ (hK q.2 (x + 228) = hK h (x + 228) ∧ hN q.2 (x + 228) = hN h (x + 228)) ∧ hz q.2 ≤ hz h + 1 ∧ hs q.2 ≤ hs h + 6
theorem as_none {α : Type} {cv : α → Int64} {h1 : aH} (p : Pst x h 0 0 A h1) : AsQ x h A cv none (1, nX h1) := by
  obtain ⟨p1, p2, p3, p4⟩ := p
  have c : ∀ b, cel h1 (nX h1) b := fun b => ⟨rfl, fun _ => rfl, fun _ => rfl, rfl, fun _ => rfl, fun _ => rfl, fun _ => rfl⟩
  have c228 := p2 228 (by decide) (by decide)
  exact ⟨Or.inl ⟨rfl, rfl⟩, p1.far (fun b _ => c b) (Nat.le_succ _) rfl, fun k k0 k1 => (p2 k k0 (by omega)).trans (c _), ⟨c228.K, c228.N⟩, by show hz h1 + 1 ≤ _; omega, by show hs h1 + 6 ≤ _; omega⟩
theorem as_some {α : Type} {cv : α → Int64} {h1 : aH} (p : Pst x h 0 0 A h1) (v : α) : AsQ x h A cv (some v) (0, sJ h1 (x + 228) (0 : Int32).toNatClampNeg (cv v)) := by
  obtain ⟨p1, p2, p3, p4⟩ := p
  have c : ∀ b, b ≠ x + 228 → cel h1 (sJ h1 (x + 228) (0 : Int32).toNatClampNeg (cv v)) b := fun b hb => cel_sJ hb
  have c228 := p2 228 (by decide) (by decide)
  exact ⟨Or.inr ⟨v, rfl, rfl, if_pos ⟨rfl, rfl⟩⟩, p1.far (fun b hb => c b (by omega)) (Nat.le_refl _) rfl, fun k k0 k1 => (p2 k k0 (by omega)).trans (c _ (by omega)), ⟨c228.K, c228.N⟩, by show hz h1 ≤ _; omega, by show hs h1 ≤ _; omega⟩
theorem lg_c0 (a : Int64) : lg_cmp a a = 0 := by
  unfold lg_cmp
  rw [if_neg (show ¬ a > a from Int64.lt_irrefl), if_pos rfl]
theorem lw_ask {α : Type} {S0 k : Nat} {FL : aH → Option (Int32 × aH)} {F12 : aH → Option (α × aH)} {P12 : mE → Option (α × mE)} {K : aH → Option (Int32 × aH)} {cv : α → Int64} {Q : Int32 × aH → Prop} (I : LI x S0 k h A) (hc : Rn (FL h) (fun q => ∃ o, AsQ x h A cv o q ∧ Rn (P12 (menv (x + 173) h)) (MQ1 (menv (x + 173) h) A o))) (pl : ∀ h4 r e', MS (x + 173) h4 → P12 (menv (x + 173) h4) = some (r, e') → Gl (x + 173) h4 (F12 h4) r e') (go : ∀ h9, LI x S0 (k + 1) h9 A → Rn (K h9) Q) : Rn ((FL h).bind fun q6 => bd q6.1 fun z5 => bd q6.2 fun h4 => (ck (hK h4 (x + 173) = 14)).bind fun _ => (F12 h4).bind fun q11 => bd q11.1 fun z10 => bd q11.2 fun h9 => (ck (hK h9 (x + 173) = 14)).bind fun _ => (F_X12_thrown (x + 173) h9).bind fun q16 => bd q16.1 fun z15 => bd q16.2 fun h14 => if z15 = z5 then (if z5 = 0 then (ck (hK h14 (x + 228) = 23 ∧ inR 0 (hN h14 (x + 228)))).bind fun _ => (if lg_cmp (hJ h14 (x + 228) (0 : Int32).toNatClampNeg) (cv z10) = 0 then K h14 else some (0, h14)) else K h14) else some (0, h14)) Q := by
  refine rn_c hc ?_
  rintro ⟨v, h4⟩ ⟨o, ⟨ov, c4, cc, j4, z4, s4⟩, P⟩
  dsimp only at ov c4 cc j4 z4 s4
  obtain ⟨i1, i2, i3, i4, i5, i6, i7, i8⟩ := I
  obtain ⟨m4, em⟩ := ms_cls cc i2
  refine rn_bd (rn_bd (rn_ck m4.1 ?_))
  rw [← em] at P i8
  refine rn_c (lw_ref (h4 := h4) (S0 := S0) (k := k + 1) (F12 := F12) c4 m4 i4 ⟨by rw [j4.1]; exact i5.1, by rw [j4.2]; exact i5.2⟩ (by omega) (by omega) P (fun w hw => ⟨hw.2.2.1, by rw [hw.2.2.2]; omega⟩) (fun r e' => pl h4 r e' m4)) ?_
  rintro ⟨w, h9⟩ ⟨⟨q1, q2, -, -⟩, L9, J9⟩
  dsimp only at q1 q2 L9 J9
  refine rn_bd (rn_bd (rn_ck L9.2.1.1 ?_))
  have th : F_X12_thrown (x + 173) h9 = some ((menv (x + 173) h9).1 0, h9) := rfl
  refine rn_o th (rn_bd (rn_bd ?_))
  dsimp only
  rcases ov with ⟨o1, o2⟩ | ⟨u, o1, o2, o3⟩
  · rw [q1 o1, o2]
    exact rn_p rfl (rn_n (by decide) (go h9 L9))
  · obtain ⟨y1, y2⟩ := q2 u o1
    rw [y2, o2]
    refine rn_p rfl (rn_p rfl (rn_ck ⟨L9.2.2.2.2.1.1, by rw [L9.2.2.2.2.1.2]; decide⟩ ?_))
    have eJ : hJ h9 (x + 228) (0 : Int32).toNatClampNeg = cv w := by
      rw [J9, y1]; exact o3
    rw [eJ]
    exact rn_p (lg_c0 _) (go h9 L9)
end Elw
