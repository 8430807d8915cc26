/-! Reading on the class's side -/
section Up
variable {h0 h1 : aH} {lb : Nat → Lab} {ad cp : Adr} {g sd0 sd1 : Int32} {st : Int32 → Int32 → Int32} {G : Pg}
theorem gm_addO2 (r : GmL h0 lb ad cp g sd0 sd1 st G) {b s : Int32} (w1 : hz h1 = hz h0 + 2) (w2 : hs h1 = hs h0 + 43) (w3 : hE h1 = hE h0) (w4' : ∀ b, b < hz h0 → (lb b).1 ≠ 0 → cel h0 h1 b) {e' : Int32 → Int32} (v' : OvL h1 (hz h0) b s e') (he : hE h0 < hz h0) {t : Int32} (ct : inL G.turns t) (tl : G.many t < 450) : Rn (F_X10_addOver (ad 2 g t 0) (hz h0) h1) (fun h2 => ∃ lb' ad' cp', GmL h2 lb' ad' cp' g sd0 sd1 st (G.addO t b s e') ∧ (kpL lb (fun L => L.1 ≠ 0 ∧ (L.2.1 ≠ g ∨ L.1 = 4)) h0 h2 ∧ (∀ b, b < hz h0 → (lb b).1 = 0 → cel h1 h2 b) ∧ (∀ b, b < hz h0 → lb' b = lb b) ∧ ∀ k g' t o, (g' ≠ g ∨ k = 4) → ad' k g' t o = ad k g' t o ∧ cp' k g' t o = cp k g' t o) ∧ (∀ t', ad' 2 g t' 0 = ad 2 g t' 0) ∧ ad' 1 g 0 0 = ad 1 g 0 0 ∧ ad' 3 g t (G.many t) = hz h0 ∧ (∀ t', t' ≠ t → cp' 6 g t' 0 = cp 6 g t' 0) ∧ hz h2 ≤ hz h0 + 3 ∧ hs h2 + 4 * cp 6 g t 0 ≤ hs h0 + 43 + 4 * cp' 6 g t 0 ∧ (cp' 6 g t 0 = cp 6 g t 0 ∨ (cp' 6 g t 0 : Int) ≤ 10 + 2 * (G.many t).toInt)) := by
  obtain ⟨r1, r2, r3, r4, r5, r6⟩ := r
  have T := r6 t ct.1 ct.2
  obtain ⟨u1, u2, u3, u4, u5⟩ := T
  have z := r4.1
  have zt := u3.1
  have e0 : cel h0 h1 (ad 2 g t 0) := w4' _ (by omega) (by rw [show lb (ad 2 g t 0) = (2, g, t, 0) from u3.2 0 (by decide)]; exact lab_1 (by decide))
  have L1 : Ls h1 (ad 2 g t 0 + 1) (ad 6 g t 0) (cp 6 g t 0) (G.many t) (fun o => ad 3 g t o) 7 := u2.mv2 (by omega) w3 (w4' _ (by omega) (by rw [u3.2 1 (by decide)]; exact lab_1 (by decide))) (fun hc => w4' _ u2.1.2.2.2.2 (by rw [u4 hc]; exact lab_1 (by decide))) (fun i i0 i1 => (w4' _ (u2.2.2.2 i i0 i1).2.2 (by rw [show lb (ad 3 g t i) = (3, g, t, i) from (u5 i i0 i1).2.2 0 (by decide)]; exact lab_1 (by decide))).K) (fun _ _ _ => rfl)
  unfold F_X10_addOver
  refine rn_o (by rw [e0.G]; exact u1.2) (rn_ck L1.1.1 ?_)
  refine rn_c (ls_add (v := hz h0) L1 tl (by omega) (by show 2 ≤ hK h1 (hz h0) ∧ hK h1 (hz h0) ≤ 14; rw [v'.1]; decide) v'.1 (by omega)) ?_
  rintro ⟨z6, h2⟩ ⟨-, a', c', L2, fr, e2, cost⟩
  refine rn_bd (rn_bd (rn_s ?_))
  dsimp only at L2 fr e2 cost ⊢
  have la : cp 6 g t 0 ≠ 0 → ∀ b, lb b ≠ (6, g, t, 0) → b ≠ ad 6 g t 0 := fun hc b hb e => hb (by rw [e]; exact u4 hc)
  have z12 : hz h1 ≤ hz h2 := by rcases cost with q | q <;> omega
  have f2 : ∀ b, b < hz h1 → b ≠ ad 2 g t 0 + 1 → (cp 6 g t 0 ≠ 0 → b ≠ ad 6 g t 0) → cel h1 h2 b := fr
  have f02 : ∀ b, b < hz h0 → (lb b).1 ≠ 0 → b ≠ ad 2 g t 0 + 1 → (cp 6 g t 0 ≠ 0 → b ≠ ad 6 g t 0) → cel h0 h2 b := fun b hb nl n1 n2 => (w4' b hb nl).trans (fr b (by omega) n1 n2)
  have kp : kpL lb (fun L => L.1 ≠ 0 ∧ L ≠ (2, g, t, 0) ∧ L ≠ (6, g, t, 0)) h0 h2 := ⟨by omega, e2.trans w3, fun b hb q => f02 b hb q.1 (fun e => q.2.1 (by rw [e]; exact u3.2 1 (by decide))) (fun hc => la hc b q.2.2)⟩
  have c : ∀ i, i < 4 → cel h0 h2 (ad 1 g 0 0 + i) := fun i hi => kp.2.2 _ (by omega) (by rw [r4.2 i hi]; exact ⟨lab_1 (by decide), lab_k (by decide), lab_k (by decide)⟩)
  have c0 : cel h0 h2 (ad 1 g 0 0) := c 0 (by decide)
  have d0 : cel h0 h2 (ad 2 g t 0) := f02 _ (by omega) (by rw [show lb (ad 2 g t 0) = (2, g, t, 0) from u3.2 0 (by decide)]; exact lab_1 (by decide)) (by omega) (fun hc => la hc _ (by rw [show lb (ad 2 g t 0) = (2, g, t, 0) from u3.2 0 (by decide)]; exact lab_k (by decide)))
  have hl : ∀ b, b < hz h0 → (fun b => if hz h0 ≤ b ∧ b < hz h0 + 2 then ((3, g, t, G.many t) : Lab) else if b = hz h0 + 2 then (6, g, t, 0) else lb b) b = lb b := fun b hb => by
    dsimp only
    rw [if_neg (by omega), if_neg (by omega)]
  have a1 : adS (adS ad 3 g t (G.many t) (hz h0)) 6 g t 0 a' 1 g 0 0 = ad 1 g 0 0 := by rw [adS_k (by decide), adS_k (by decide)]
  have a5 : adS (adS ad 3 g t (G.many t) (hz h0)) 6 g t 0 a' 5 g 0 0 = ad 5 g 0 0 := by rw [adS_k (by decide), adS_k (by decide)]
  have p5 : adS cp 6 g t 0 c' 5 g 0 0 = cp 5 g 0 0 := by rw [adS_k (by decide)]
  have a2 : ∀ t', adS (adS ad 3 g t (G.many t) (hz h0)) 6 g t 0 a' 2 g t' 0 = ad 2 g t' 0 := fun t' => by rw [adS_k (by decide), adS_k (by decide)]
  refine ⟨fun b => if hz h0 ≤ b ∧ b < hz h0 + 2 then (3, g, t, G.many t) else if b = hz h0 + 2 then (6, g, t, 0) else lb b, adS (adS ad 3 g t (G.many t) (hz h0)) 6 g t 0 a', adS cp 6 g t 0 c', ?_, ?_, a2, a1, ?_, ?_, ?_, ?_, ?_⟩
  · refine ⟨?_, ?_, ?_, r4.mv (by omega) hl a1, ?_, ?_⟩
    · rw [a1, c0.K, c0.F, c0.F, c0.F, c0.F, c0.G, c0.G]; exact r1
    · rw [a1]
      exact ⟨r2.1.mv2 (c 1 (by decide)) (c 2 (by decide)), by rw [gv_cel (c 2 (by decide))]; exact r2.2⟩
    · rw [a1, a5, p5]
      refine r3.mv2 (by omega) (e2.trans w3) (c 3 (by decide)) (fun hc => kp.2.2 _ r3.1.2.2.2.2 (by rw [r5 hc]; exact ⟨lab_1 (by decide), lab_k (by decide), lab_k (by decide)⟩)) ?_ (fun i _ _ => a2 i)
      intro i i0 i1
      by_cases e : i = t
      · rw [e]; exact d0.K
      · have q := (r6 i i0 i1).2.2.1
        have := q.1
        exact (kp.2.2 _ (by omega) (by rw [show lb (ad 2 g i 0) = (2, g, i, 0) from q.2 0 (by decide)]; exact ⟨lab_1 (by decide), lab_t e, lab_k (by decide)⟩)).K
    · rw [a5, p5]
      intro hc
      rw [hl _ r3.1.2.2.2.2]
      exact r5 hc
    · intro t' t0 t1
      have t1 : t' < G.turns := t1
      by_cases e : t' = t
      · subst e
        have m0 : (G.addO t' b s e').many t' = G.many t' + 1 := if_pos rfl
        have a6 : adS (adS ad 3 g t' (G.many t') (hz h0)) 6 g t' 0 a' 6 g t' 0 = a' := adS_at
        have p6 : adS cp 6 g t' 0 c' 6 g t' 0 = c' := adS_at
        have a3 : ∀ o, adS (adS ad 3 g t' (G.many t') (hz h0)) 6 g t' 0 a' 3 g t' o = if o = G.many t' then hz h0 else ad 3 g t' o := by
          intro o
          rw [adS_k (by decide)]
          unfold adS
          by_cases e : o = G.many t'
          · rw [if_pos e, if_pos ⟨rfl, rfl, rfl, e⟩]
          · rw [if_neg e, if_neg (fun q => e q.2.2.2)]
        rw [m0]
        refine ⟨by rw [a2, d0.K, d0.G]; exact u1, ?_, u3.mv (by omega) hl (a2 t'), ?_, ?_⟩
        · rw [a2, a6, p6]
          exact L2.mv2 (Nat.le_refl _) rfl (cel.refl _ _) (fun _ => cel.refl _ _) (fun _ _ _ => rfl) (fun i _ _ => a3 i)
        · rw [a6, p6]
          intro hc
          rcases cost with q | q
          · rw [q.1, hl _ u2.1.2.2.2.2]
            exact u4 (by rw [← q.2.1]; exact hc)
          · dsimp only
            rw [q.1, w1, if_neg (by omega), if_pos rfl]
        · intro o o0 o1
          show OvL h2 _ (if t' = t' ∧ o = G.many t' then b else G.bow t' o) (if t' = t' ∧ o = G.many t' then s else G.siz t' o) (if t' = t' ∧ o = G.many t' then e' else G.ent t' o) ∧ _
          unfold lbR
          rw [a3]
          by_cases eo : o = G.many t'
          · rw [if_pos eo, if_pos ⟨rfl, eo⟩, if_pos ⟨rfl, eo⟩, if_pos ⟨rfl, eo⟩]
            refine ⟨v'.mv (f2 _ (by omega) (by omega) (fun hc => by have := u2.1.2.2.2.2; omega)) (f2 _ (by omega) (by omega) (fun hc => by have := u2.1.2.2.2.2; omega)), by omega, fun i hi => ?_⟩
            dsimp only
            rw [if_pos ⟨by omega, by omega⟩, eo]
          · rw [if_neg eo, if_neg (fun q => eo q.2), if_neg (fun q => eo q.2), if_neg (fun q => eo q.2)]
            have om : o < G.many t' := ((i32_ls tl).mp o1).resolve_right eo
            have q := u5 o o0 om
            have qz := q.2.1
            have cc : ∀ i, i < 2 → cel h0 h2 (ad 3 g t' o + i) := fun i hi => kp.2.2 _ (by omega) (by rw [q.2.2 i hi]; exact ⟨lab_1 (by decide), lab_k (by decide), lab_k (by decide)⟩)
            refine ⟨q.1.mv (cc 0 (by decide)) (cc 1 (by decide)), by omega, fun i hi => ?_⟩
            rw [hl _ (by omega)]
            exact q.2.2 i hi
      · have m0 : (G.addO t b s e').many t' = G.many t' := if_neg e
        rw [m0]
        refine ((r6 t' t0 t1).mv kp hl ⟨lab_1 (by decide), lab_t e, lab_k (by decide)⟩ ⟨lab_1 (by decide), lab_k (by decide), lab_t e⟩ (fun o => ⟨lab_1 (by decide), lab_k (by decide), lab_k (by decide)⟩) (a2 t') ⟨?_, ?_⟩ ?_).cg ?_
        · rw [adS_t e, adS_k (by decide)]
        · rw [adS_t e]
        · intro o _ _
          rw [adS_k (by decide), adS_t e]
        · intro o _ _
          exact ⟨if_neg (fun q => e q.1), if_neg (fun q => e q.1), if_neg (fun q => e q.1)⟩
  · refine ⟨kp.wk ?_, ?_, hl, ?_⟩
    · intro L q
      refine ⟨q.1, fun e => ?_, fun e => ?_⟩
      · rw [e] at q
        rcases q.2 with q | q
        · exact q rfl
        · exact absurd (show (2 : Nat) = 4 from q) (by decide)
      · rw [e] at q
        rcases q.2 with q | q
        · exact q rfl
        · exact absurd (show (6 : Nat) = 4 from q) (by decide)
    · intro b hb h0'
      refine f2 b (by omega) (fun e => ?_) (fun hc e => ?_)
      · rw [e, u3.2 1 (by decide)] at h0'
        exact absurd h0' (lab_1 (by decide))
      · rw [e, u4 hc] at h0'
        exact absurd h0' (lab_1 (by decide))
    · intro k g' t o cc
      rcases cc with q | q
      · exact ⟨by rw [adS_g q, adS_g q], by rw [adS_g q]⟩
      · subst q
        exact ⟨by rw [adS_k (by decide), adS_k (by decide)], by rw [adS_k (by decide)]⟩
  · rw [adS_k (by decide), adS_at]
  · intro t' n
    rw [adS_t n]
  · rcases cost with q | q <;> omega
  · rw [adS_at]
    rcases cost with q | q <;> omega
  · rw [adS_at]
    rcases cost with q | q
    · exact Or.inl q.2.1
    · exact Or.inr q.2.2.2.2
end Up
