/-! One turn less, one over less; what stands fixed: the book, its rows, its play, its records, its reader -/
section Dn
variable {h0 : aH} {lb : Nat → Lab} {ad cp : Adr} {g sd0 sd1 : Int32} {st : Int32 → Int32 → Int32} {G : Pg}
theorem i32_pred {n : Int32} (hn : 0 < n) : (n - 1).toInt = n.toInt - 1 := by
  have z : (0 : Int32).toInt = 0 := by decide
  have hn' := Int32.lt_iff_toInt_lt.mp hn
  rw [Int32.toInt_sub]
  have e1 : (1 : Int32).toInt = 1 := by decide
  have := Int32.toInt_lt n
  rw [e1]
  apply Int.bmod_eq_of_le <;> omega
theorem lt_pred {n i : Int32} (hn : 0 < n) (h : i < n - 1) : i < n := by
  have := i32_pred hn
  have := Int32.lt_iff_toInt_lt.mp h
  exact Int32.lt_iff_toInt_lt.mpr (by omega)
theorem gm_subT (r : GmL h0 lb ad cp g sd0 sd1 st G) (tl : 0 < G.turns) : Rn (F_Jx4a65c_remove_915e3 (ad 1 g 0 0 + 3) (G.turns - 1) h0) (fun q => GmL q.2 lb ad cp g sd0 sd1 st G.subT ∧ UpQ h0 q.2 lb lb ad ad cp cp g ∧ hz q.2 = hz h0 ∧ hs q.2 = hs h0) := by
  obtain ⟨r1, r2, r3, r4, r5, r6⟩ := r
  refine (ls_drop r3 tl).imp ?_
  rintro ⟨o, h2⟩ ⟨L2, fr, e2, z2, s2⟩
  dsimp only at L2 fr e2 z2 s2 ⊢
  have z := r4.1
  have la : cp 5 g 0 0 ≠ 0 → ∀ b, lb b ≠ (5, g, 0, 0) → b ≠ ad 5 g 0 0 := fun hc b hb e => hb (by rw [e]; exact r5 hc)
  have z0 : (0 : Int32).toInt = 0 := by decide
  have tl' := Int32.lt_iff_toInt_lt.mp tl
  have cn : cp 5 g 0 0 ≠ 0 := fun q => by
    have := r3.2.1.2.1
    rw [q] at this
    omega
  have kp : kpL lb (fun L => L ≠ (1, g, 0, 0) ∧ L ≠ (5, g, 0, 0)) h0 h2 := ⟨by omega, e2, fun b hb q => fr b (fun e => q.1 (by rw [e]; exact r4.2 3 (by decide))) (la cn b q.2)⟩
  have n5 : ∀ i, i < 4 → ad 1 g 0 0 + i ≠ ad 5 g 0 0 := fun i hi => la cn _ (by rw [r4.2 i hi]; exact lab_k (by decide))
  have c : ∀ i, i < 3 → cel h0 h2 (ad 1 g 0 0 + i) := fun i hi => fr _ (by omega) (n5 i (by omega))
  have c0 : cel h0 h2 (ad 1 g 0 0) := c 0 (by decide)
  refine ⟨⟨by rw [c0.K, c0.F, c0.F, c0.F, c0.F, c0.G, c0.G]; exact r1, ⟨r2.1.mv2 (c 1 (by decide)) (c 2 (by decide)), by rw [gv_cel (c 2 (by decide))]; exact r2.2⟩, L2, r4.mv (by omega) (fun _ _ => rfl) rfl, r5, ?_⟩, ⟨kp.wk ?_, fun _ _ => rfl, fun _ _ _ _ _ => ⟨rfl, rfl⟩⟩, z2, s2⟩
  · intro t t0 t1
    have tt : t < G.turns := lt_pred tl t1
    exact (r6 t t0 tt).mv kp (fun _ _ => rfl) ⟨lab_k (by decide), lab_k (by decide)⟩ ⟨lab_k (by decide), lab_k (by decide)⟩ (fun o => ⟨lab_k (by decide), lab_k (by decide)⟩) rfl ⟨rfl, rfl⟩ (fun _ _ _ => rfl)
  · intro L q
    refine ⟨fun e => ?_, fun e => ?_⟩
    · rw [e] at q
      rcases q with q | q | q
      · exact q rfl
      · exact absurd (show (1 : Nat) = 0 from q) (by decide)
      · exact absurd (show (1 : Nat) = 4 from q) (by decide)
    · rw [e] at q
      rcases q with q | q | q
      · exact q rfl
      · exact absurd (show (5 : Nat) = 0 from q) (by decide)
      · exact absurd (show (5 : Nat) = 4 from q) (by decide)
theorem gm_subO (r : GmL h0 lb ad cp g sd0 sd1 st G) {t : Int32} (ct : inL G.turns t) (tl : 0 < G.many t) : Rn (F_X10_dropOver (ad 2 g t 0) h0) (fun h2 => GmL h2 lb ad cp g sd0 sd1 st (G.subO t) ∧ UpQ h0 h2 lb lb ad ad cp cp g ∧ hz h2 = hz h0 ∧ hs h2 = hs h0) := by
  obtain ⟨r1, r2, r3, r4, r5, r6⟩ := r
  obtain ⟨u1, u2, u3, u4, u5⟩ := r6 t ct.1 ct.2
  unfold F_X10_dropOver F_Jx4a65c_isEmpty_aae02
  refine rn_o u1.2 (rn_ck u2.1.1 ?_)
  rw [u2.1.2.2.1, if_neg (fun e => by rw [e] at tl; exact absurd tl (by decide)), Option.bind_some]
  refine rn_bd (rn_bd (rn_p rfl (rn_ck u1.1 (rn_o u1.2 (rn_o u1.2 (rn_ck u2.1.1 (rn_o u2.size (rn_bd (rn_bd (rn_ck u2.1.1 ?_))))))))))
  refine rn_c (ls_drop u2 tl) ?_
  rintro ⟨o, h2⟩ ⟨L2, fr, e2, z2, s2⟩
  dsimp only at L2 fr e2 z2 s2 ⊢
  refine rn_bd (rn_bd (rn_s ?_))
  have z := r4.1
  have zt := u3.1
  have la : cp 6 g t 0 ≠ 0 → ∀ b, lb b ≠ (6, g, t, 0) → b ≠ ad 6 g t 0 := fun hc b hb e => hb (by rw [e]; exact u4 hc)
  have z0 : (0 : Int32).toInt = 0 := by decide
  have tl' := Int32.lt_iff_toInt_lt.mp tl
  have cn : cp 6 g t 0 ≠ 0 := fun q => by
    have := u2.2.1.2.1
    rw [q] at this
    omega
  have kp : kpL lb (fun L => L ≠ (2, g, t, 0) ∧ L ≠ (6, g, t, 0)) h0 h2 := ⟨by omega, e2, fun b hb q => fr b (fun e => q.1 (by rw [e]; exact u3.2 1 (by decide))) (la cn b q.2)⟩
  have c : ∀ i, i < 4 → cel h0 h2 (ad 1 g 0 0 + i) := fun i hi => kp.2.2 _ (by omega) (by rw [r4.2 i hi]; exact ⟨lab_k (by decide), lab_k (by decide)⟩)
  have c0 : cel h0 h2 (ad 1 g 0 0) := c 0 (by decide)
  have d0 : cel h0 h2 (ad 2 g t 0) := fr _ (by omega) (la cn _ (by rw [show lb (ad 2 g t 0) = (2, g, t, 0) from u3.2 0 (by decide)]; exact lab_k (by decide)))
  refine ⟨⟨by rw [c0.K, c0.F, c0.F, c0.F, c0.F, c0.G, c0.G]; exact r1, ⟨r2.1.mv2 (c 1 (by decide)) (c 2 (by decide)), by rw [gv_cel (c 2 (by decide))]; exact r2.2⟩, ?_, r4.mv (by omega) (fun _ _ => rfl) rfl, r5, ?_⟩, ⟨kp.wk ?_, fun _ _ => rfl, fun _ _ _ _ _ => ⟨rfl, rfl⟩⟩, z2, s2⟩
  · refine r3.mv2 (by omega) e2 (c 3 (by decide)) (fun hc => kp.2.2 _ r3.1.2.2.2.2 (by rw [r5 hc]; exact ⟨lab_k (by decide), lab_k (by decide)⟩)) ?_ (fun i _ _ => rfl)
    intro i i0 i1
    by_cases e : i = t
    · rw [e]; exact d0.K
    · have q := (r6 i i0 i1).2.2.1
      have := q.1
      exact (kp.2.2 _ (by omega) (by rw [show lb (ad 2 g i 0) = (2, g, i, 0) from q.2 0 (by decide)]; exact ⟨lab_t e, lab_k (by decide)⟩)).K
  · intro t' t0 t1
    have t1 : t' < G.turns := t1
    by_cases e : t' = t
    · subst e
      rw [show (G.subO t').many t' = G.many t' - 1 from if_pos rfl]
      refine ⟨by rw [d0.K, d0.G]; exact u1, L2, u3.mv (by omega) (fun _ _ => rfl) rfl, u4, ?_⟩
      intro o o0 o1
      have q := u5 o o0 (lt_pred tl o1)
      have qz := q.2.1
      have cc : ∀ i, i < 2 → cel h0 h2 (ad 3 g t' o + i) := fun i hi => kp.2.2 _ (by omega) (by rw [q.2.2 i hi]; exact ⟨lab_k (by decide), lab_k (by decide)⟩)
      exact ⟨q.1.mv (cc 0 (by decide)) (cc 1 (by decide)), q.2.mv (by omega) (fun _ _ => rfl) rfl⟩
    · rw [show (G.subO t).many t' = G.many t' from if_neg e]
      exact (r6 t' t0 t1).mv kp (fun _ _ => rfl) ⟨lab_t e, lab_k (by decide)⟩ ⟨lab_k (by decide), lab_t e⟩ (fun o => ⟨lab_k (by decide), lab_k (by decide)⟩) rfl ⟨rfl, rfl⟩ (fun _ _ _ => rfl)
  · intro L q
    refine ⟨fun e => ?_, fun e => ?_⟩
    · rw [e] at q
      rcases q with q | q | q
      · exact q rfl
      · exact absurd (show (2 : Nat) = 0 from q) (by decide)
      · exact absurd (show (2 : Nat) = 4 from q) (by decide)
    · rw [e] at q
      rcases q with q | q | q
      · exact q rfl
      · exact absurd (show (6 : Nat) = 0 from q) (by decide)
      · exact absurd (show (6 : Nat) = 4 from q) (by decide)
end Dn
/-! the play's cells -/
theorem TS.cl {a : Nat} {h h' : aH} (r : TS a h) (c : ∀ b, a ≤ b → b < a + 7 → cel h h' b) : TS a h' := by
  obtain ⟨r1, r2, r3, r4, r5, r6, r7⟩ := r
  have c0 := c a (by omega) (by omega)
  exact ⟨by rw [c0.K]; exact r1, by rw [c0.G]; exact r2, by rw [c0.G]; exact r3, by rw [c0.G]; exact r4, r5.mv2 (c _ (by omega) (by omega)) (c _ (by omega) (by omega)), r6.mv2 (c _ (by omega) (by omega)) (c _ (by omega) (by omega)), r7.mv2 (c _ (by omega) (by omega)) (c _ (by omega) (by omega))⟩
theorem tyOf_cl {a : Nat} {h h' : aH} (c : ∀ b, a ≤ b → b < a + 7 → cel h h' b) : tyOf a h' = tyOf a h := by
  refine Ty.ext2 (fun j => ?_) (fun j => ?_)
  · show (if j < 16 then hF h' (1003 + j) a else 0) = if j < 16 then hF h (1003 + j) a else 0
    rw [(c a (by omega) (by omega)).F]
  · show (if j = 0 then gv h' (a + 2) 11 3 else if j = 1 then gv h' (a + 4) 11 3 else if j = 2 then gv h' (a + 6) 120 5 else fun _ _ => 0) = if j = 0 then gv h (a + 2) 11 3 else if j = 1 then gv h (a + 4) 11 3 else if j = 2 then gv h (a + 6) 120 5 else fun _ _ => 0
    rw [gv_cel (c (a + 2) (by omega) (by omega)), gv_cel (c (a + 4) (by omega) (by omega)), gv_cel (c (a + 6) (by omega) (by omega))]
theorem PS.cl {p : Nat} {h h' : aH} (r : PS p h) (c : ∀ b, p ≤ b → b < p + 37 → cel h h' b) : PS p h' := by
  obtain ⟨r1, r2, r3, r4, r5, r6, r7⟩ := r
  have c0 := c p (by omega) (by omega)
  have c1 := c (p + 1) (by omega) (by omega)
  refine ⟨by rw [c0.K]; exact r1, by rw [c0.G]; exact r2, by rw [c0.G]; exact r3, by rw [c1.K]; exact r4, by rw [c1.N]; exact r5, by rw [c1.O, c1.O, c1.O, c1.O]; exact r6, fun t => (r7 t).cl ?_⟩
  intro b b0 b1
  have := ta_in p t
  exact c b (by omega) (by omega)
theorem psOf_cl {p : Nat} {h h' : aH} (c : ∀ b, p ≤ b → b < p + 37 → cel h h' b) : psOf p h' = psOf p h := by
  refine Prod.ext (funext fun j => ?_) (funext fun t => ?_)
  · show (if j < 8 then hF h' (702 + j) p else 0) = if j < 8 then hF h (702 + j) p else 0
    rw [(c p (by omega) (by omega)).F]
  · refine tyOf_cl (fun b b0 b1 => ?_)
    have := ta_in p t
    exact c b (by omega) (by omega)
theorem tyN_tyOf (a : Nat) (h : aH) : TyN (tyOf a h) := by
  refine ⟨fun k hk => ?_, fun j hj => ?_⟩
  · show (if k < 16 then hF h (1003 + k) a else 0) = 0
    rw [if_neg (by omega)]
  · show (if j = 0 then gv h (a + 2) 11 3 else if j = 1 then gv h (a + 4) 11 3 else if j = 2 then gv h (a + 6) 120 5 else fun _ _ => 0) = fun _ _ => 0
    rw [if_neg (by omega), if_neg (by omega), if_neg (by omega)]
theorem tyN_ps (p : Nat) (h : aH) (q : Int32) : TyN ((psOf p h).ty q) := tyN_tyOf _ _
/-! what stands fixed -/
def BtL (h : aH) (a n : Nat) : Prop := hK h a = 2 ∧ hG h 100 a = some (a + 1) ∧ hK h (a + 1) = 21 ∧ hN h (a + 1) = n
def RgL (h : aH) (x j : Nat) : Prop := hO h (x + 8) j = some (x + 9 + 3 * j) ∧ (hK h (x + 9 + 3 * j) = 3 ∧ hG h 200 (x + 9 + 3 * j) = some (x + 9 + 3 * j + 1)) ∧ hK h (x + 9 + 3 * j + 1) = 7 ∧ hG h 600 (x + 9 + 3 * j + 1) = some (x + 9 + 3 * j + 2) ∧ hK h (x + 9 + 3 * j + 2) = 21 ∧ hN h (x + 9 + 3 * j + 2) = 40
def FX (x : Nat) (h : aH) : Prop :=
  (hK h x = 13 ∧ hG h 1200 x = some (x + 1) ∧ hG h 1201 x = some (x + 2) ∧ hG h 1202 x = some (x + 3) ∧ hG h 1203 x = some (x + 5) ∧ hG h 1204 x = some (x + 7) ∧ hG h 1205 x = some (x + 129) ∧ hG h 1206 x = some (x + 166) ∧ hG h 1207 x = some (x + 171)) ∧ (hK h (x + 1) = 21 ∧ hN h (x + 1) = 60) ∧ BtL h (x + 3) 6000 ∧ BtL h (x + 5) 8000 ∧
  ((hK h (x + 7) = 4 ∧ hG h 300 (x + 7) = some (x + 8) ∧ hK h (x + 8) = 24 ∧ hN h (x + 8) = 40) ∧ ∀ j, j < 40 → RgL h x j) ∧ PS (x + 129) h ∧ ((hK h (x + 166) = 10 ∧ hG h 900 (x + 166) = some (x + 167) ∧ hG h 901 (x + 166) = some (x + 169)) ∧ GrS h (x + 167) 4 6 24 ∧ GrS h (x + 169) 60 30 1800) ∧
  (hK h (x + 171) = 9 ∧ hG h 800 (x + 171) = some (x + 172) ∧ hK h (x + 172) = 21 ∧ hN h (x + 172) = 4) ∧ hE h < x ∧ x + 229 ≤ hz h
/-- the structure of a fixed cell stays -/
def scl (h h' : aH) (b : Nat) : Prop := hK h' b = hK h b ∧ hN h' b = hN h b ∧ (∀ i, hO h' b i = hO h b i) ∧ ∀ f, f ≠ 801 → f ≠ 1 → hG h' f b = hG h f b
theorem cel.scl {h h' : aH} {b : Nat} (c : cel h h' b) : scl h h' b := ⟨c.K, c.N, c.O, fun f _ _ => c.G f⟩
theorem scl.refl {h : aH} {b : Nat} : scl h h b := ⟨rfl, rfl, fun _ => rfl, fun _ _ _ => rfl⟩
theorem scl.trans {h h1 h2 : aH} {b : Nat} (p : scl h h1 b) (q : scl h1 h2 b) : scl h h2 b := ⟨q.1.trans p.1, q.2.1.trans p.2.1, fun i => (q.2.2.1 i).trans (p.2.2.1 i), fun f a c => (q.2.2.2 f a c).trans (p.2.2.2 f a c)⟩
theorem GrS.sc {h h' : aH} {a : Nat} {R C N : Int32} (r : GrS h a R C N) (c1 : scl h h' a) (c2 : scl h h' (a + 1)) (cf : ∀ f, hF h' f a = hF h f a) : GrS h' a R C N := by
  obtain ⟨g1, g2, g3, g4, g5, g6⟩ := r
  exact ⟨by rw [c1.1]; exact g1, by rw [cf]; exact g2, by rw [cf]; exact g3, by rw [c1.2.2.2 502 (by decide) (by decide)]; exact g4, by rw [c2.1]; exact g5, by rw [c2.2.1]; exact g6⟩
theorem BtL.sc {h h' : aH} {a n : Nat} (r : BtL h a n) (c1 : scl h h' a) (c2 : scl h h' (a + 1)) : BtL h' a n := ⟨by rw [c1.1]; exact r.1, by rw [c1.2.2.2 100 (by decide) (by decide)]; exact r.2.1, by rw [c2.1]; exact r.2.2.1, by rw [c2.2.1]; exact r.2.2.2⟩
theorem FX.mv {x : Nat} {h h' : aH} (r : FX x h) (c : ∀ b, x ≤ b → b < x + 173 → b ≠ x + 2 → scl h h' b) (gf : ∀ b, b = x + 167 ∨ b = x + 169 → ∀ f, hF h' f b = hF h f b) (p : PS (x + 129) h') (he : hE h' = hE h) (z : hz h ≤ hz h') : FX x h' := by
  obtain ⟨⟨a0, a1, a2, a3, a4, a5, a6, a7, a8⟩, b, d, e, ⟨f, fj⟩, -, ⟨⟨i1, i2, i3⟩, i4, i5⟩, j, k, l⟩ := r
  have cc : ∀ k, k < 173 ∧ k ≠ 2 → scl h h' (x + k) := fun k hk => c _ (by omega) (by omega) (by omega)
  have c0 : scl h h' x := cc 0 (by decide)
  have g : ∀ f, f ≠ 801 → f ≠ 1 → hG h' f x = hG h f x := c0.2.2.2
  refine ⟨⟨by rw [c0.1]; exact a0, by rw [g _ (by decide) (by decide)]; exact a1, by rw [g _ (by decide) (by decide)]; exact a2, by rw [g _ (by decide) (by decide)]; exact a3, by rw [g _ (by decide) (by decide)]; exact a4, by rw [g _ (by decide) (by decide)]; exact a5, by rw [g _ (by decide) (by decide)]; exact a6, by rw [g _ (by decide) (by decide)]; exact a7, by rw [g _ (by decide) (by decide)]; exact a8⟩, ⟨by rw [(cc 1 (by decide)).1]; exact b.1, by rw [(cc 1 (by decide)).2.1]; exact b.2⟩, d.sc (cc 3 (by decide)) (cc 4 (by decide)), e.sc (cc 5 (by decide)) (cc 6 (by decide)), ⟨⟨by rw [(cc 7 (by decide)).1]; exact f.1, by rw [(cc 7 (by decide)).2.2.2 _ (by decide) (by decide)]; exact f.2.1, by rw [(cc 8 (by decide)).1]; exact f.2.2.1, by rw [(cc 8 (by decide)).2.1]; exact f.2.2.2⟩, ?_⟩, p, ⟨⟨by rw [(cc 166 (by decide)).1]; exact i1, by rw [(cc 166 (by decide)).2.2.2 _ (by decide) (by decide)]; exact i2, by rw [(cc 166 (by decide)).2.2.2 _ (by decide) (by decide)]; exact i3⟩, i4.sc (cc 167 (by decide)) (cc 168 (by decide)) (gf _ (Or.inl rfl)), i5.sc (cc 169 (by decide)) (cc 170 (by decide)) (gf _ (Or.inr rfl))⟩, ⟨by rw [(cc 171 (by decide)).1]; exact j.1, by rw [(cc 171 (by decide)).2.2.2 _ (by decide) (by decide)]; exact j.2.1, by rw [(cc 172 (by decide)).1]; exact j.2.2.1, by rw [(cc 172 (by decide)).2.1]; exact j.2.2.2⟩, by rw [he]; exact k, by omega⟩
  intro q hq
  obtain ⟨q1, q2, q3, q4, q5, q6⟩ := fj q hq
  have w0 : scl h h' (x + 9 + 3 * q) := c _ (by omega) (by omega) (by omega)
  have w1 : scl h h' (x + 9 + 3 * q + 1) := c _ (by omega) (by omega) (by omega)
  have w2 : scl h h' (x + 9 + 3 * q + 2) := c _ (by omega) (by omega) (by omega)
  exact ⟨by rw [(cc 8 (by decide)).2.2.1]; exact q1, ⟨by rw [w0.1]; exact q2.1, by rw [w0.2.2.2 _ (by decide) (by decide)]; exact q2.2⟩, by rw [w1.1]; exact q3, by rw [w1.2.2.2 _ (by decide) (by decide)]; exact q4, by rw [w2.1]; exact q5, by rw [w2.2.1]; exact q6⟩
