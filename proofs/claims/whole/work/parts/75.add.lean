/-! One turn more, one over more; one less -/
/-- only cells of the game g have changed, or new ones have come -/
def UpQ (h0 h2 : aH) (lb lb' : Nat → Lab) (ad ad' cp cp' : Adr) (g : Int32) : Prop := kpL lb (fun L => L.2.1 ≠ g ∨ L.1 = 0 ∨ L.1 = 4) h0 h2 ∧ (∀ b, b < hz h0 → lb' b = lb b) ∧ ∀ k g' t o, (g' ≠ g ∨ k = 4) → ad' k g' t o = ad k g' t o ∧ cp' k g' t o = cp k g' t o
theorem kpL.wk {lb : Nat → Lab} {P R : Lab → Prop} {h h' : aH} (k : kpL lb P h h') (f : ∀ L, R L → P L) : kpL lb R h h' := ⟨k.1, k.2.1, fun b hb q => k.2.2 b hb (f _ q)⟩
theorem UpQ.refl {h : aH} {lb : Nat → Lab} {ad cp : Adr} {g : Int32} : UpQ h h lb lb ad ad cp cp g := ⟨⟨Nat.le_refl _, rfl, fun b _ _ => cel.refl _ _⟩, fun _ _ => rfl, fun _ _ _ _ _ => ⟨rfl, rfl⟩⟩
theorem UpQ.trans {h0 h1 h2 : aH} {lb lb1 lb2 : Nat → Lab} {ad ad1 ad2 cp cp1 cp2 : Adr} {g : Int32} (a : UpQ h0 h1 lb lb1 ad ad1 cp cp1 g) (b : UpQ h1 h2 lb1 lb2 ad1 ad2 cp1 cp2 g) : UpQ h0 h2 lb lb2 ad ad2 cp cp2 g := by
  have z := a.1.1
  refine ⟨⟨Nat.le_trans a.1.1 b.1.1, b.1.2.1.trans a.1.2.1, fun x hx hP => (a.1.2.2 x hx hP).trans (b.1.2.2 x (by omega) (by rw [a.2.1 x hx]; exact hP))⟩, fun x hx => (b.2.1 x (by omega)).trans (a.2.1 x hx), fun k g' t o c => ⟨(b.2.2 k g' t o c).1.trans (a.2.2 k g' t o c).1, (b.2.2 k g' t o c).2.trans (a.2.2 k g' t o c).2⟩⟩
theorem UpQ.gm {h0 h2 : aH} {lb lb' : Nat → Lab} {ad ad' cp cp' : Adr} {g g' sd0 sd1 : Int32} {st : Int32 → Int32 → Int32} {G : Pg} (u : UpQ h0 h2 lb lb' ad ad' cp cp' g) (r : GmL h0 lb ad cp g' sd0 sd1 st G) (n : g' ≠ g) : GmL h2 lb' ad' cp' g' sd0 sd1 st G := r.mv u.1 u.2.1 (fun _ _ _ _ _ => Or.inl n) (fun k t o _ _ => u.2.2 k g' t o (Or.inl n))
section Up
variable {h0 h1 : aH} {lb : Nat → Lab} {ad cp : Adr} {g sd0 sd1 : Int32} {st : Int32 → Int32 → Int32} {G : Pg}
theorem gm_addT (r : GmL h0 lb ad cp g sd0 sd1 st G) (nw : NewT h0 h1) (he : hE h0 < hz h0) (tl : G.turns < 4) : Rn (F_X3_addTurn (ad 1 g 0 0) (hz h0) h1) (fun h2 => ∃ lb' ad' cp', GmL h2 lb' ad' cp' g sd0 sd1 st G.addT ∧ UpQ h0 h2 lb lb' ad ad' cp cp' g ∧ ad' 1 g 0 0 = ad 1 g 0 0 ∧ ad' 2 g G.turns 0 = hz h0 ∧ cp' 6 g G.turns 0 = 0 ∧ hz h2 ≤ hz h0 + 3 ∧ hs h2 ≤ hs h0 + 30) := by
  obtain ⟨r1, r2, r3, r4, r5, r6⟩ := r
  obtain ⟨w1, w2, w3, w4, w5, w6⟩ := nw
  have z := r4.1
  have z4 : (4 : Int32).toInt = 4 := by decide
  have tl' := Int32.lt_iff_toInt_lt.mp tl
  have e0 : cel h0 h1 (ad 1 g 0 0) := w4 _ (by omega)
  have L1 : Ls h1 (ad 1 g 0 0 + 3) (ad 5 g 0 0) (cp 5 g 0 0) G.turns (fun t => ad 2 g t 0) 12 := r3.mv2 (by omega) w3 (w4 _ (by omega)) (fun _ => w4 _ r3.1.2.2.2.2) (fun i i0 i1 => (w4 _ (r3.2.2.2 i i0 i1).2.2).K) (fun _ _ _ => rfl)
  unfold F_X3_addTurn
  refine rn_o (by rw [e0.G]; exact r1.2.2.2.2.2.2) (rn_ck L1.1.1 ?_)
  refine rn_c (ls_add (v := hz h0) L1 (Int32.lt_of_lt_of_le tl (by decide)) (by omega) (by show 2 ≤ hK h1 (hz h0) ∧ hK h1 (hz h0) ≤ 14; rw [w5.1]; decide) w5.1 (by omega)) ?_
  rintro ⟨z6, h2⟩ ⟨-, a', c', L2, fr, e2, cost⟩
  refine rn_bd (rn_bd (rn_s ?_))
  dsimp only at L2 fr e2 cost ⊢
  have la : cp 5 g 0 0 ≠ 0 → ∀ b, lb b ≠ (5, g, 0, 0) → b ≠ ad 5 g 0 0 := fun hc b hb e => hb (by rw [e]; exact r5 hc)
  have z12 : hz h1 ≤ hz h2 := by rcases cost with q | q <;> omega
  have f2 : ∀ b, b < hz h1 → b ≠ ad 1 g 0 0 + 3 → (cp 5 g 0 0 ≠ 0 → b ≠ ad 5 g 0 0) → cel h1 h2 b := fr
  have f02 : ∀ b, b < hz h0 → b ≠ ad 1 g 0 0 + 3 → (cp 5 g 0 0 ≠ 0 → b ≠ ad 5 g 0 0) → cel h0 h2 b := fun b hb n1 n2 => (w4 b hb).trans (fr b (by omega) n1 n2)
  have kp : kpL lb (fun L => L ≠ (1, g, 0, 0) ∧ L ≠ (5, g, 0, 0)) h0 h2 := ⟨by omega, e2.trans w3, fun b hb q => f02 b hb (fun e => q.1 (by rw [e]; exact r4.2 3 (by decide))) (fun hc => la hc b q.2)⟩
  have n5 : cp 5 g 0 0 ≠ 0 → ∀ i, i < 4 → ad 1 g 0 0 + i ≠ ad 5 g 0 0 := fun hc i hi => la hc _ (by rw [r4.2 i hi]; exact lab_k (by decide))
  have c : ∀ i, i < 3 → cel h0 h2 (ad 1 g 0 0 + i) := fun i hi => f02 _ (by omega) (by omega) (fun hc => n5 hc i (by omega))
  have c0 : cel h0 h2 (ad 1 g 0 0) := c 0 (by decide)
  have hl : ∀ b, b < hz h0 → (fun b => if hz h0 ≤ b ∧ b < hz h0 + 2 then ((2, g, G.turns, 0) : Lab) else if b = hz h0 + 2 then (5, g, 0, 0) else lb b) b = lb b := fun b hb => by
    dsimp only
    rw [if_neg (by omega), if_neg (by omega)]
  refine ⟨fun b => if hz h0 ≤ b ∧ b < hz h0 + 2 then (2, g, G.turns, 0) else if b = hz h0 + 2 then (5, g, 0, 0) else lb b, adS (adS (adS ad 2 g G.turns 0 (hz h0)) 6 g G.turns 0 (hE h0)) 5 g 0 0 a', adS (adS cp 6 g G.turns 0 0) 5 g 0 0 c', ?_, ?_, ?_, ?_, ?_, ?_, ?_⟩
  · have a1 : adS (adS (adS ad 2 g G.turns 0 (hz h0)) 6 g G.turns 0 (hE h0)) 5 g 0 0 a' 1 g 0 0 = ad 1 g 0 0 := by rw [adS_k (by decide), adS_k (by decide), adS_k (by decide)]
    refine ⟨?_, ?_, ?_, r4.mv (by omega) hl a1, ?_, ?_⟩
    · rw [a1, c0.K, c0.F, c0.F, c0.F, c0.F, c0.G, c0.G]; exact r1
    · rw [a1]
      exact ⟨r2.1.mv2 (c 1 (by decide)) (c 2 (by decide)), by rw [gv_cel (c 2 (by decide))]; exact r2.2⟩
    · rw [a1, adS_at, adS_at]
      refine L2.mv2 (Nat.le_refl _) rfl (cel.refl _ _) (fun _ => cel.refl _ _) (fun _ _ _ => rfl) ?_
      intro i _ _
      rw [adS_k (by decide), adS_k (by decide)]
      unfold adS
      by_cases e : i = G.turns
      · rw [if_pos e, if_pos ⟨rfl, rfl, e, rfl⟩]
      · rw [if_neg e, if_neg (fun q => e q.2.2.1)]
    · rw [adS_at, adS_at]
      intro hc
      rcases cost with q | q
      · rw [q.1, hl _ r3.1.2.2.2.2]
        exact r5 (by rw [← q.2.1]; exact hc)
      · dsimp only
        rw [q.1, w1, if_neg (by omega), if_pos rfl]
    · intro t t0 t1
      have t1 : t < G.turns + 1 := t1
      by_cases e : t = G.turns
      · subst e
        have a2 : adS (adS (adS ad 2 g G.turns 0 (hz h0)) 6 g G.turns 0 (hE h0)) 5 g 0 0 a' 2 g G.turns 0 = hz h0 := by rw [adS_k (by decide), adS_k (by decide), adS_at]
        have a6 : adS (adS (adS ad 2 g G.turns 0 (hz h0)) 6 g G.turns 0 (hE h0)) 5 g 0 0 a' 6 g G.turns 0 = hE h0 := by rw [adS_k (by decide), adS_at]
        have p6 : adS (adS cp 6 g G.turns 0 0) 5 g 0 0 c' 6 g G.turns 0 = 0 := by rw [adS_k (by decide), adS_at]
        have m0 : G.addT.many G.turns = 0 := if_pos rfl
        have d0 : cel h1 h2 (hz h0) := f2 _ (by omega) (by omega) (fun hc => by have := r3.1.2.2.2.2; omega)
        have d1 : cel h1 h2 (hz h0 + 1) := f2 _ (by omega) (by omega) (fun hc => by have := r3.1.2.2.2.2; omega)
        rw [m0]
        refine ⟨?_, ?_, ?_, ?_, ?_⟩
        · rw [a2, d0.K, d0.G]; exact w5
        · rw [a2, a6, p6]
          exact (w6 _).mv2 z12 e2 d1 (fun q => absurd rfl q) (fun i i0 i1 => absurd i0 (Int32.not_le.mpr i1)) (fun _ _ _ => rfl)
        · refine ⟨by rw [a2]; omega, fun i hi => ?_⟩
          rw [a2]
          dsimp only
          rw [if_pos ⟨by omega, by omega⟩]
        · rw [p6]
          exact fun q => absurd rfl q
        · intro o o0 o1
          exact absurd o0 (Int32.not_le.mpr o1)
      · have tt : t < G.turns := ((i32_ls tl).mp t1).resolve_right e
        have m0 : G.addT.many t = G.many t := if_neg e
        rw [m0]
        refine (r6 t t0 tt).mv kp hl ⟨lab_k (by decide), lab_k (by decide)⟩ ⟨lab_k (by decide), lab_k (by decide)⟩ (fun o => ⟨lab_k (by decide), lab_k (by decide)⟩) ?_ ⟨?_, ?_⟩ ?_
        · rw [adS_k (by decide), adS_k (by decide), adS_t e]
        · rw [adS_k (by decide), adS_t e, adS_k (by decide)]
        · rw [adS_k (by decide), adS_t e]
        · intro o _ _
          rw [adS_k (by decide), adS_k (by decide), adS_k (by decide)]
  · refine ⟨kp.wk ?_, hl, ?_⟩
    · intro L q
      refine ⟨fun e => ?_, fun e => ?_⟩
      · rw [e] at q
        rcases q with q | q | q
        · exact q rfl
        · exact absurd (show (1 : Nat) = 0 from q) (by decide)
        · exact absurd (show (1 : Nat) = 4 from q) (by decide)
      · rw [e] at q
        rcases q with q | q | q
        · exact q rfl
        · exact absurd (show (5 : Nat) = 0 from q) (by decide)
        · exact absurd (show (5 : Nat) = 4 from q) (by decide)
    · intro k g' t o cc
      rcases cc with q | q
      · exact ⟨by rw [adS_g q, adS_g q, adS_g q], by rw [adS_g q, adS_g q]⟩
      · subst q
        exact ⟨by rw [adS_k (by decide), adS_k (by decide), adS_k (by decide)], by rw [adS_k (by decide), adS_k (by decide)]⟩
  · rw [adS_k (by decide), adS_k (by decide), adS_k (by decide)]
  · rw [adS_k (by decide), adS_k (by decide), adS_at]
  · rw [adS_k (by decide), adS_at]
  · rcases cost with q | q <;> omega
  · rcases cost with q | q <;> omega
theorem gm_addO (r : GmL h0 lb ad cp g sd0 sd1 st G) {b s : Int32} (nw : NewO h0 h1 b s) {e' : Int32 → Int32} (v' : OvL h1 (hz h0) b s e') (he : hE h0 < hz h0) {t : Int32} (ct : inL G.turns t) (tl : G.many t < 450) : Rn (F_X10_addOver (ad 2 g t 0) (hz h0) h1) (fun h2 => ∃ lb' ad' cp', GmL h2 lb' ad' cp' g sd0 sd1 st (G.addO t b s e') ∧ UpQ h0 h2 lb lb' ad ad' cp cp' g ∧ (∀ t', ad' 2 g t' 0 = ad 2 g t' 0) ∧ ad' 1 g 0 0 = ad 1 g 0 0 ∧ ad' 3 g t (G.many t) = hz h0 ∧ (∀ t', t' ≠ t → cp' 6 g t' 0 = cp 6 g t' 0) ∧ hz h2 ≤ hz h0 + 3 ∧ hs h2 + 4 * cp 6 g t 0 ≤ hs h0 + 43 + 4 * cp' 6 g t 0 ∧ (cp' 6 g t 0 = cp 6 g t 0 ∨ (cp' 6 g t 0 : Int) ≤ 10 + 2 * (G.many t).toInt)) := by
  obtain ⟨r1, r2, r3, r4, r5, r6⟩ := r
  obtain ⟨w1, w2, w3, w4, -⟩ := nw
  have T := r6 t ct.1 ct.2
  obtain ⟨u1, u2, u3, u4, u5⟩ := T
  have z := r4.1
  have zt := u3.1
  have e0 : cel h0 h1 (ad 2 g t 0) := w4 _ (by omega)
  have L1 : Ls h1 (ad 2 g t 0 + 1) (ad 6 g t 0) (cp 6 g t 0) (G.many t) (fun o => ad 3 g t o) 7 := u2.mv2 (by omega) w3 (w4 _ (by omega)) (fun _ => w4 _ u2.1.2.2.2.2) (fun i i0 i1 => (w4 _ (u2.2.2.2 i i0 i1).2.2).K) (fun _ _ _ => rfl)
  unfold F_X10_addOver
  refine rn_o (by rw [e0.G]; exact u1.2) (rn_ck L1.1.1 ?_)
  refine rn_c (ls_add (v := hz h0) L1 tl (by omega) (by show 2 ≤ hK h1 (hz h0) ∧ hK h1 (hz h0) ≤ 14; rw [v'.1]; decide) v'.1 (by omega)) ?_
  rintro ⟨z6, h2⟩ ⟨-, a', c', L2, fr, e2, cost⟩
  refine rn_bd (rn_bd (rn_s ?_))
  dsimp only at L2 fr e2 cost ⊢
  have la : cp 6 g t 0 ≠ 0 → ∀ b, lb b ≠ (6, g, t, 0) → b ≠ ad 6 g t 0 := fun hc b hb e => hb (by rw [e]; exact u4 hc)
  have z12 : hz h1 ≤ hz h2 := by rcases cost with q | q <;> omega
  have f2 : ∀ b, b < hz h1 → b ≠ ad 2 g t 0 + 1 → (cp 6 g t 0 ≠ 0 → b ≠ ad 6 g t 0) → cel h1 h2 b := fr
  have f02 : ∀ b, b < hz h0 → b ≠ ad 2 g t 0 + 1 → (cp 6 g t 0 ≠ 0 → b ≠ ad 6 g t 0) → cel h0 h2 b := fun b hb n1 n2 => (w4 b hb).trans (fr b (by omega) n1 n2)
  have kp : kpL lb (fun L => L ≠ (2, g, t, 0) ∧ L ≠ (6, g, t, 0)) h0 h2 := ⟨by omega, e2.trans w3, fun b hb q => f02 b hb (fun e => q.1 (by rw [e]; exact u3.2 1 (by decide))) (fun hc => la hc b q.2)⟩
  have c : ∀ i, i < 4 → cel h0 h2 (ad 1 g 0 0 + i) := fun i hi => kp.2.2 _ (by omega) (by rw [r4.2 i hi]; exact ⟨lab_k (by decide), lab_k (by decide)⟩)
  have c0 : cel h0 h2 (ad 1 g 0 0) := c 0 (by decide)
  have d0 : cel h0 h2 (ad 2 g t 0) := f02 _ (by omega) (by omega) (fun hc => la hc _ (by rw [show lb (ad 2 g t 0) = (2, g, t, 0) from u3.2 0 (by decide)]; exact lab_k (by decide)))
  have hl : ∀ b, b < hz h0 → (fun b => if hz h0 ≤ b ∧ b < hz h0 + 2 then ((3, g, t, G.many t) : Lab) else if b = hz h0 + 2 then (6, g, t, 0) else lb b) b = lb b := fun b hb => by
    dsimp only
    rw [if_neg (by omega), if_neg (by omega)]
  have a1 : adS (adS ad 3 g t (G.many t) (hz h0)) 6 g t 0 a' 1 g 0 0 = ad 1 g 0 0 := by rw [adS_k (by decide), adS_k (by decide)]
  have a5 : adS (adS ad 3 g t (G.many t) (hz h0)) 6 g t 0 a' 5 g 0 0 = ad 5 g 0 0 := by rw [adS_k (by decide), adS_k (by decide)]
  have p5 : adS cp 6 g t 0 c' 5 g 0 0 = cp 5 g 0 0 := by rw [adS_k (by decide)]
  have a2 : ∀ t', adS (adS ad 3 g t (G.many t) (hz h0)) 6 g t 0 a' 2 g t' 0 = ad 2 g t' 0 := fun t' => by rw [adS_k (by decide), adS_k (by decide)]
  refine ⟨fun b => if hz h0 ≤ b ∧ b < hz h0 + 2 then (3, g, t, G.many t) else if b = hz h0 + 2 then (6, g, t, 0) else lb b, adS (adS ad 3 g t (G.many t) (hz h0)) 6 g t 0 a', adS cp 6 g t 0 c', ?_, ?_, a2, a1, ?_, ?_, ?_, ?_, ?_⟩
  · refine ⟨?_, ?_, ?_, r4.mv (by omega) hl a1, ?_, ?_⟩
    · rw [a1, c0.K, c0.F, c0.F, c0.F, c0.F, c0.G, c0.G]; exact r1
    · rw [a1]
      exact ⟨r2.1.mv2 (c 1 (by decide)) (c 2 (by decide)), by rw [gv_cel (c 2 (by decide))]; exact r2.2⟩
    · rw [a1, a5, p5]
      refine r3.mv2 (by omega) (e2.trans w3) (c 3 (by decide)) (fun hc => kp.2.2 _ r3.1.2.2.2.2 (by rw [r5 hc]; exact ⟨lab_k (by decide), lab_k (by decide)⟩)) ?_ (fun i _ _ => a2 i)
      intro i i0 i1
      by_cases e : i = t
      · rw [e]; exact d0.K
      · have q := (r6 i i0 i1).2.2.1
        have := q.1
        exact (kp.2.2 _ (by omega) (by rw [show lb (ad 2 g i 0) = (2, g, i, 0) from q.2 0 (by decide)]; exact ⟨lab_t e, lab_k (by decide)⟩)).K
    · rw [a5, p5]
      intro hc
      rw [hl _ r3.1.2.2.2.2]
      exact r5 hc
    · intro t' t0 t1
      have t1 : t' < G.turns := t1
      by_cases e : t' = t
      · subst e
        have m0 : (G.addO t' b s e').many t' = G.many t' + 1 := if_pos rfl
        have a6 : adS (adS ad 3 g t' (G.many t') (hz h0)) 6 g t' 0 a' 6 g t' 0 = a' := adS_at
        have p6 : adS cp 6 g t' 0 c' 6 g t' 0 = c' := adS_at
        have a3 : ∀ o, adS (adS ad 3 g t' (G.many t') (hz h0)) 6 g t' 0 a' 3 g t' o = if o = G.many t' then hz h0 else ad 3 g t' o := by
          intro o
          rw [adS_k (by decide)]
          unfold adS
          by_cases e : o = G.many t'
          · rw [if_pos e, if_pos ⟨rfl, rfl, rfl, e⟩]
          · rw [if_neg e, if_neg (fun q => e q.2.2.2)]
        rw [m0]
        refine ⟨by rw [a2, d0.K, d0.G]; exact u1, ?_, u3.mv (by omega) hl (a2 t'), ?_, ?_⟩
        · rw [a2, a6, p6]
          exact L2.mv2 (Nat.le_refl _) rfl (cel.refl _ _) (fun _ => cel.refl _ _) (fun _ _ _ => rfl) (fun i _ _ => a3 i)
        · rw [a6, p6]
          intro hc
          rcases cost with q | q
          · rw [q.1, hl _ u2.1.2.2.2.2]
            exact u4 (by rw [← q.2.1]; exact hc)
          · dsimp only
            rw [q.1, w1, if_neg (by omega), if_pos rfl]
        · intro o o0 o1
          show OvL h2 _ (if t' = t' ∧ o = G.many t' then b else G.bow t' o) (if t' = t' ∧ o = G.many t' then s else G.siz t' o) (if t' = t' ∧ o = G.many t' then e' else G.ent t' o) ∧ _
          unfold lbR
          rw [a3]
          by_cases eo : o = G.many t'
          · rw [if_pos eo, if_pos ⟨rfl, eo⟩, if_pos ⟨rfl, eo⟩, if_pos ⟨rfl, eo⟩]
            refine ⟨v'.mv (f2 _ (by omega) (by omega) (fun hc => by have := u2.1.2.2.2.2; omega)) (f2 _ (by omega) (by omega) (fun hc => by have := u2.1.2.2.2.2; omega)), by omega, fun i hi => ?_⟩
            dsimp only
            rw [if_pos ⟨by omega, by omega⟩, eo]
          · rw [if_neg eo, if_neg (fun q => eo q.2), if_neg (fun q => eo q.2), if_neg (fun q => eo q.2)]
            have om : o < G.many t' := ((i32_ls tl).mp o1).resolve_right eo
            have q := u5 o o0 om
            have qz := q.2.1
            have cc : ∀ i, i < 2 → cel h0 h2 (ad 3 g t' o + i) := fun i hi => kp.2.2 _ (by omega) (by rw [q.2.2 i hi]; exact ⟨lab_k (by decide), lab_k (by decide)⟩)
            refine ⟨q.1.mv (cc 0 (by decide)) (cc 1 (by decide)), by omega, fun i hi => ?_⟩
            rw [hl _ (by omega)]
            exact q.2.2 i hi
      · have m0 : (G.addO t b s e').many t' = G.many t' := if_neg e
        rw [m0]
        refine ((r6 t' t0 t1).mv kp hl ⟨lab_t e, lab_k (by decide)⟩ ⟨lab_k (by decide), lab_t e⟩ (fun o => ⟨lab_k (by decide), lab_k (by decide)⟩) (a2 t') ⟨?_, ?_⟩ ?_).cg ?_
        · rw [adS_t e, adS_k (by decide)]
        · rw [adS_t e]
        · intro o _ _
          rw [adS_k (by decide), adS_t e]
        · intro o _ _
          exact ⟨if_neg (fun q => e q.1), if_neg (fun q => e q.1), if_neg (fun q => e q.1)⟩
  · refine ⟨kp.wk ?_, hl, ?_⟩
    · intro L q
      refine ⟨fun e => ?_, fun e => ?_⟩
      · rw [e] at q
        rcases q with q | q | q
        · exact q rfl
        · exact absurd (show (2 : Nat) = 0 from q) (by decide)
        · exact absurd (show (2 : Nat) = 4 from q) (by decide)
      · rw [e] at q
        rcases q with q | q | q
        · exact q rfl
        · exact absurd (show (6 : Nat) = 0 from q) (by decide)
        · exact absurd (show (6 : Nat) = 4 from q) (by decide)
    · intro k g' t o cc
      rcases cc with q | q
      · exact ⟨by rw [adS_g q, adS_g q], by rw [adS_g q]⟩
      · subst q
        exact ⟨by rw [adS_k (by decide), adS_k (by decide)], by rw [adS_k (by decide)]⟩
  · rw [adS_k (by decide), adS_at]
  · intro t' n
    rw [adS_t n]
  · rcases cost with q | q <;> omega
  · rw [adS_at]
    rcases cost with q | q <;> omega
  · rw [adS_at]
    rcases cost with q | q
    · exact Or.inl q.2.1
    · exact Or.inr q.2.2.2.2
end Up
