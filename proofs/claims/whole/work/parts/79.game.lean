/-! A new table; a new game; one more game in the book -/
theorem new_grid {h0 : aH} {R C N : Int32} {n : Nat} (r0 : ¬ R < 0) (c0 : ¬ C < 0) (e : R * C = N) (n0 : 0 ≤ N) (en : N.toNatClampNeg = n) (nb : n ≤ 10000000) : Rn (F_X4_init (hz h0) R C (nO h0 6 3)) (fun h1 => hz h1 = hz h0 + 2 ∧ hs h1 = hs h0 + 3 + n ∧ hE h1 = hE h0 ∧ (∀ b, b < hz h0 → cel h0 h1 b) ∧ GrS h1 (hz h0) R C N ∧ ∀ i, rdA h1 (hz h0 + 1) i = 0) := by
  unfold F_X4_init
  rw [if_neg r0, if_neg c0]
  refine rn_bd (rn_bd (rn_bd (rn_bd ?_)))
  have z1 : hz (nO h0 6 3) = hz h0 + 1 := rfl
  have s1 : hs (nO h0 6 3) = hs h0 + 3 := rfl
  have e1 : hE (nO h0 6 3) = hE h0 := rfl
  have k1 : hK (nO h0 6 3) (hz h0) = 6 := if_pos rfl
  have c1 : ∀ b, b < hz h0 → cel h0 (nO h0 6 3) b := fun b hb => cel_nO hb
  generalize nO h0 6 3 = hx at *
  have f0 : hF (sF (sF hx 500 (hz h0) R) 501 (hz h0) C) 500 (hz h0) = R := by rw [rF_sF, if_neg (by omega), rF_sF, if_pos ⟨rfl, rfl⟩]
  have f1 : hF (sF (sF hx 500 (hz h0) R) 501 (hz h0) C) 501 (hz h0) = C := if_pos ⟨rfl, rfl⟩
  have z2 : hz (sF (sF hx 500 (hz h0) R) 501 (hz h0) C) = hz h0 + 1 := z1
  have s2 : hs (sF (sF hx 500 (hz h0) R) 501 (hz h0) C) = hs h0 + 3 := s1
  have e2 : hE (sF (sF hx 500 (hz h0) R) 501 (hz h0) C) = hE h0 := e1
  have k2 : hK (sF (sF hx 500 (hz h0) R) 501 (hz h0) C) (hz h0) = 6 := k1
  have c2 : ∀ b, b < hz h0 → cel h0 (sF (sF hx 500 (hz h0) R) 501 (hz h0) C) b := fun b hb => ((c1 b hb).trans (cel_sF (by omega))).trans (cel_sF (by omega))
  generalize sF (sF hx 500 (hz h0) R) 501 (hz h0) C = hy at *
  rw [f0, f1, e, en]
  refine rn_ck ⟨Int32.not_lt.mpr n0, nb⟩ (rn_bd (rn_bd ?_))
  have k3 : hK (nA hy 21 n) (hz h0) = 6 := (if_neg (by omega)).trans k2
  have k4 : hK (nA hy 21 n) (hz h0 + 1) = 21 := if_pos z2.symm
  have n4 : hN (nA hy 21 n) (hz h0 + 1) = n := if_pos z2.symm
  refine rn_ck k3 (rn_bd (rn_s ⟨by show hz hy + 1 = _; omega, by show hs hy + n = _; omega, e2, ?_, ⟨k3, f0, f1, ?_, k4, ?_⟩, ?_⟩))
  · intro b hb
    exact ((c2 b hb).trans (cel_nA (by omega))).trans (cel_sG (by omega))
  · rw [← z2]
    exact if_pos ⟨rfl, rfl⟩
  · show (hN (nA hy 21 n) (hz h0 + 1) : Int) = N.toInt
    rw [n4, ← en]
    exact tnc_i n0
  · intro i
    unfold rdA
    by_cases c : 0 ≤ i
    · rw [if_pos c]
      exact if_pos z2.symm
    · rw [if_neg c]
def seat0 (s k : Int32) : Int32 := if gin 2 11 s k then k else 0
def NewG (h0 h1 : aH) (a b n t : Int32) : Prop := hz h1 = hz h0 + 4 ∧ hs h1 = hs h0 + 34 ∧ hE h1 = hE h0 ∧ (∀ c, c < hz h0 → cel h0 h1 c) ∧ (hK h1 (hz h0) = 5 ∧ hF h1 400 (hz h0) = a ∧ hF h1 401 (hz h0) = b ∧ hF h1 402 (hz h0) = n ∧ hF h1 403 (hz h0) = t ∧ hG h1 404 (hz h0) = some (hz h0 + 1) ∧ hG h1 405 (hz h0) = some (hz h0 + 3)) ∧ (GrS h1 (hz h0 + 1) 2 11 22 ∧ gv h1 (hz h0 + 2) 2 11 = seat0) ∧ ∀ f, Ls h1 (hz h0 + 3) (hE h0) 0 0 f 12
theorem g_loop {h1 : aH} {a : Nat} (k5 : hK h1 a = 5) (k6 : hG h1 404 a = some (a + 1)) (gr : GrS h1 (a + 1) 2 11 22) : ∀ n k, ((11 : Int32).toInt - k.toInt).toNat < n → ∀ h, 0 ≤ k → k ≤ 11 → frn (a + 2) 1 h1 h → gv h (a + 2) 2 11 = (fun s j => if gin 2 11 s j ∧ j < k then j else 0) → Rn (F_X3_init_53 n a k h) (fun h' => frn (a + 2) 1 h1 h' ∧ gv h' (a + 2) 2 11 = seat0) := by
  refine i32_up ?_ ?_
  · intro n k hc h k0 k11 f e
    unfold F_X3_init_53
    refine rn_p hc (rn_s ⟨f, ?_⟩)
    rw [e]
    funext s j
    unfold seat0
    have : k = 11 := Int32.le_antisymm k11 hc
    subst this
    by_cases c : gin 2 11 s j
    · rw [if_pos ⟨c, c.2.2.2⟩, if_pos c]
    · rw [if_neg (fun q => c q.1), if_neg c]
  · intro n k hc ih h k0 k11 f e
    unfold F_X3_init_53
    refine rn_n (Int32.not_le.mpr hc) ?_
    have K5 : hK h a = 5 := by rw [f.1.K]; exact k5
    have G4 : hG h 404 a = some (a + 1) := by rw [f.1.G]; exact k6
    have gr1 : GrS h (a + 1) 2 11 22 := gr.mv f.1 (fun x => f.F (by omega) x)
    have g0 : gin 2 11 0 k := ⟨by decide, by decide, k0, hc⟩
    have g1 : gin 2 11 1 k := ⟨by decide, by decide, k0, hc⟩
    refine rn_ck K5 (rn_o G4 (rn_ck gr1.1 ?_))
    rw [gr_set gr1 gix_2_11, if_pos g0, Option.bind_some]
    have gr2 : GrS (wrA h (a + 1 + 1) (0 * 11 + k) k) (a + 1) 2 11 22 := gr1.wr
    refine rn_ck K5 (rn_o G4 (rn_ck gr2.1 ?_))
    rw [gr_set gr2 gix_2_11, if_pos g1, Option.bind_some]
    refine rn_bd (ih _ (i32_ps k0 hc) ?_ ?_ ?_)
    · have := i32_succ hc
      have := Int32.lt_iff_toInt_lt.mp hc
      exact Int32.le_iff_toInt_le.mpr (by omega)
    · exact (f.trans (frn_wr ⟨by omega, by omega⟩)).trans (frn_wr ⟨by omega, by omega⟩)
    · rw [show a + 1 + 1 = a + 2 from rfl, gv_set gix_2_11 gij_2_11 g1, gv_set gix_2_11 gij_2_11 g0, e]
      funext s j
      unfold gS
      dsimp only
      have kk := i32_ls (j := j) hc
      by_cases c1 : gin 2 11 s j
      · have s01 : s = 0 ∨ s = 1 := by
          have := c1.1
          have := c1.2.1
          clear kk e ih f gr1 gr2 g0 g1 K5 G4 c1
          grind
        by_cases cj : j = k
        · rw [if_pos (show gin 2 11 s j ∧ j < k + 1 from ⟨c1, kk.mpr (Or.inr cj)⟩), cj]
          rcases s01 with q | q
          · rw [if_neg (show ¬ (gin 2 11 1 k ∧ s = 1 ∧ k = k) from fun z => by rw [q] at z; exact absurd z.2.1 (by decide)), if_pos ⟨g0, q, rfl⟩]
          · rw [if_pos ⟨g1, q, rfl⟩]
        · rw [if_neg (fun z => cj z.2.2), if_neg (fun z => cj z.2.2)]
          by_cases cl : j < k
          · rw [if_pos (show gin 2 11 s j ∧ j < k from ⟨c1, cl⟩), if_pos (show gin 2 11 s j ∧ j < k + 1 from ⟨c1, kk.mpr (Or.inl cl)⟩)]
          · rw [if_neg (show ¬ (gin 2 11 s j ∧ j < k) from fun z => cl z.2), if_neg (show ¬ (gin 2 11 s j ∧ j < k + 1) from fun z => (kk.mp z.2).elim cl cj)]
      · rw [if_neg (fun z => c1 (by rw [z.2.1, z.2.2]; exact g1)), if_neg (fun z => c1 (by rw [z.2.1, z.2.2]; exact g0)), if_neg (show ¬ (gin 2 11 s j ∧ j < k) from fun z => c1 z.1), if_neg (show ¬ (gin 2 11 s j ∧ j < k + 1) from fun z => c1 z.1)]
theorem new_game {h0 : aH} (he : hE h0 < hz h0) (a b n t : Int32) : Rn (F_X3_init (hz h0) a b n t (nO h0 5 6)) (fun h1 => NewG h0 h1 a b n t) := by
  unfold F_X3_init
  have z1 : hz (nO h0 5 6) = hz h0 + 1 := rfl
  have s1 : hs (nO h0 5 6) = hs h0 + 6 := rfl
  have e1 : hE (nO h0 5 6) = hE h0 := rfl
  have k1 : hK (nO h0 5 6) (hz h0) = 5 := if_pos rfl
  have c1 : ∀ b, b < hz h0 → cel h0 (nO h0 5 6) b := fun b hb => cel_nO hb
  generalize nO h0 5 6 = hx at *
  refine rn_bd (rn_bd (rn_ck (if_pos rfl) ?_))
  refine rn_c (new_grid (h0 := hx) (R := 2) (C := 11) (N := 22) (n := 22) (by decide) (by decide) (by decide) (by decide) (by decide) (by decide)) (fun h5 q => ?_)
  obtain ⟨q1, q2, q3, q4, q5, q6⟩ := q
  rw [z1] at q4 q5 q6
  have k5 : hK h5 (hz h0) = 5 := by rw [(q4 _ (by omega)).K]; exact k1
  refine rn_ck k5 (rn_bd ?_)
  have c5 : ∀ b, b < hz h0 → cel h0 (sG h5 404 (hz h0) (some (hz hx))) b := fun b hb => ((c1 b hb).trans (q4 b (by omega))).trans (cel_sG (by omega))
  have d5 : ∀ b, b ≠ hz h0 → cel h5 (sG h5 404 (hz h0) (some (hz hx))) b := fun b hb => cel_sG hb
  have g5 : hG (sG h5 404 (hz h0) (some (hz hx))) 404 (hz h0) = some (hz h0 + 1) := by rw [← z1]; exact if_pos ⟨rfl, rfl⟩
  have z5 : hz (sG h5 404 (hz h0) (some (hz hx))) = hz h0 + 3 := by show hz h5 = _; omega
  have s5 : hs (sG h5 404 (hz h0) (some (hz hx))) = hs h0 + 31 := by show hs h5 = _; omega
  have e5 : hE (sG h5 404 (hz h0) (some (hz hx))) = hE h0 := by show hE h5 = _; rw [q3]; exact e1
  have k5' : hK (sG h5 404 (hz h0) (some (hz hx))) (hz h0) = 5 := k5
  generalize sG h5 404 (hz h0) (some (hz hx)) = hy at *
  refine rn_bd (rn_bd (rn_ck (if_pos rfl) ?_))
  refine rn_c (new_list (h0 := hy) (by omega)) (fun h14 w => ?_)
  obtain ⟨w1, w2, w3, w4, w5⟩ := w
  have k14 : hK h14 (hz h0) = 5 := by rw [(w4 _ (by omega)).K]; exact k5'
  refine rn_ck k14 (rn_bd (rn_bd (rn_bd (rn_bd (rn_bd ?_)))))
  have A0 : ∀ f, (sF (sF (sF (sF (sG h14 405 (hz h0) (some (hz hy))) 400 (hz h0) a) 401 (hz h0) b) 402 (hz h0) n) 403 (hz h0) t) = f → hK f (hz h0) = 5 ∧ hF f 400 (hz h0) = a ∧ hF f 401 (hz h0) = b ∧ hF f 402 (hz h0) = n ∧ hF f 403 (hz h0) = t ∧ hG f 404 (hz h0) = some (hz h0 + 1) ∧ hG f 405 (hz h0) = some (hz h0 + 3) ∧ hz f = hz h14 ∧ hs f = hs h14 ∧ hE f = hE h14 ∧ ∀ c, c ≠ hz h0 → cel h14 f c := by
    rintro f rfl
    refine ⟨k14, ?_, ?_, ?_, if_pos ⟨rfl, rfl⟩, ?_, ?_, rfl, rfl, rfl, fun c hc => ((((cel_sG hc).trans (cel_sF hc)).trans (cel_sF hc)).trans (cel_sF hc)).trans (cel_sF hc)⟩
    · rw [rF_sF, if_neg (by omega), rF_sF, if_neg (by omega), rF_sF, if_neg (by omega), rF_sF, if_pos ⟨rfl, rfl⟩]
    · rw [rF_sF, if_neg (by omega), rF_sF, if_neg (by omega), rF_sF, if_pos ⟨rfl, rfl⟩]
    · rw [rF_sF, if_neg (by omega), rF_sF, if_pos ⟨rfl, rfl⟩]
    · rw [rG_sF, rG_sF, rG_sF, rG_sF, rG_sG, if_neg (by omega)]
      exact ((w4 _ (by omega)).G 404).trans g5
    · rw [← z5]
      exact if_pos ⟨rfl, rfl⟩
  obtain ⟨a1, a2, a3, a4, a5, a6, a7, a8, a9, a10, a11⟩ := A0 _ rfl
  generalize sF (sF (sF (sF (sG h14 405 (hz h0) (some (hz hy))) 400 (hz h0) a) 401 (hz h0) b) 402 (hz h0) n) 403 (hz h0) t = hw at *
  have cy : ∀ c, hz h0 < c → c < hz h0 + 3 → cel h5 hw c := fun c p1 p2 => ((d5 c (by omega)).trans (w4 c (by omega))).trans (a11 c (by omega))
  have gr : GrS hw (hz h0 + 1) 2 11 22 := q5.mv2 (cy _ (by omega) (by omega)) (cy _ (by omega) (by omega))
  have gz : gv hw (hz h0 + 2) 2 11 = fun s j => if gin 2 11 s j ∧ j < 0 then j else 0 := by
    funext s j
    unfold gv
    rw [(cy _ (by omega) (by omega)).A, show hz h0 + 2 = hz h0 + 1 + 1 from rfl, q6]
    by_cases c : gin 2 11 s j
    · rw [if_pos c, if_neg (fun q => absurd c.2.2.1 (Int32.not_le.mpr q.2))]
    · rw [if_neg c, if_neg (fun q => c q.1)]
  refine (g_loop (a := hz h0) a1 a6 gr fu 0 (by decide) hw (by decide) (by decide) (frn.refl _ _ _) gz).imp ?_
  rintro h1 ⟨f, fg⟩
  have o : ∀ c, c ≠ hz h0 + 2 → cel hw h1 c := fun c hc => cel_frn f (by omega)
  have o0 := o (hz h0) (by omega)
  refine ⟨by rw [f.1.z]; omega, by rw [f.1.s]; omega, by rw [f.1.E, a10, w3]; exact e5, fun c hc => (((c5 c hc).trans (w4 c (by omega))).trans (a11 c (by omega))).trans (o c (by omega)), ?_, ⟨gr.mv f.1 (fun x => f.F (by omega) x), fg⟩, fun g => ?_⟩
  · rw [o0.K, o0.F, o0.F, o0.F, o0.F, o0.G, o0.G]
    exact ⟨a1, a2, a3, a4, a5, a6, a7⟩
  · have L := w5 g 12
    rw [z5, e5] at L
    exact L.mv2 (by rw [f.1.z]; omega) (by rw [f.1.E, a10]) ((a11 _ (by omega)).trans (o _ (by omega))) (fun q => absurd rfl q) (fun i i0 i1 => absurd i0 (Int32.not_le.mpr i1)) (fun _ _ _ => rfl)
def Pg.new (n t : Int32) : Pg := (n, t, 0, fun _ => 0, fun _ _ => 0, fun _ _ => 0, fun _ _ _ => 0)
/-- a new game, under the number g -/
theorem gm_new {h0 h1 : aH} {a b n t : Int32} (nw : NewG h0 h1 a b n t) (lb : Nat → Lab) (ad cp : Adr) (g : Int32) : ∃ lb' ad' cp', GmL h1 lb' ad' cp' g a b seat0 (Pg.new n t) ∧ UpQ h0 h1 lb lb' ad ad' cp cp' g ∧ ad' 1 g 0 0 = hz h0 := by
  obtain ⟨w1, w2, w3, w4, w5, w6, w7⟩ := nw
  have hl : ∀ b, b < hz h0 → (fun b => if hz h0 ≤ b ∧ b < hz h0 + 4 then ((1, g, 0, 0) : Lab) else lb b) b = lb b := fun b hb => by
    dsimp only
    rw [if_neg (by omega)]
  have a1 : adS (adS ad 1 g 0 0 (hz h0)) 5 g 0 0 (hE h0) 1 g 0 0 = hz h0 := by rw [adS_k (by decide), adS_at]
  refine ⟨fun b => if hz h0 ≤ b ∧ b < hz h0 + 4 then (1, g, 0, 0) else lb b, adS (adS ad 1 g 0 0 (hz h0)) 5 g 0 0 (hE h0), adS cp 5 g 0 0 0, ⟨?_, ?_, ?_, ?_, ?_, ?_⟩, ⟨⟨by omega, w3, fun b hb _ => w4 b hb⟩, hl, ?_⟩, a1⟩
  · rw [a1]; exact w5
  · rw [a1]; exact w6
  · rw [a1, adS_at, adS_at]; exact w7 _
  · refine ⟨by rw [a1]; omega, fun i hi => ?_⟩
    rw [a1]
    dsimp only
    rw [if_pos ⟨by omega, by omega⟩]
  · rw [adS_at]
    exact fun q => absurd rfl q
  · intro t t0 t1
    exact absurd t0 (Int32.not_le.mpr t1)
  · intro k g' t o cc
    rcases cc with q | q
    · exact ⟨by rw [adS_g q, adS_g q], by rw [adS_g q]⟩
    · subst q
      exact ⟨by rw [adS_k (by decide), adS_k (by decide)], by rw [adS_k (by decide)]⟩
/-- the page cells of all other games stay: the book's pages stay -/
theorem PL.up {x : Nat} {h h' : aH} {lb lb' : Nat → Lab} {ad ad' cp cp' : Adr} {A B : Bk} {g : Int32} (r : PL x h lb ad cp A) (zx : x + 229 ≤ hz h) (k : kpL lb (fun L => L.1 ≠ 0 ∧ (L.2.1 ≠ g ∨ L.1 = 4)) h h') (c2 : cel h h' (x + 2)) (hl : ∀ b, b < hz h → lb' b = lb b) (ha : ∀ k g' t o, (g' ≠ g ∨ k = 4) → ad' k g' t o = ad k g' t o ∧ cp' k g' t o = cp k g' t o) (a1 : ad' 1 g 0 0 = ad 1 g 0 0) (n : inL A.games g → GmL h' lb' ad' cp' g (B.sd0 g) (B.sd1 g) (B.st g) (B.pg g)) (e1 : B.games = A.games) (e2 : ∀ g', g' ≠ g → B.sd0 g' = A.sd0 g' ∧ B.sd1 g' = A.sd1 g' ∧ B.st g' = A.st g' ∧ B.pg g' = A.pg g') : PL x h' lb' ad' cp' B := by
  obtain ⟨r1, r2, r3, r4⟩ := r
  have a4 := ha 4 0 0 0 (Or.inr rfl)
  have aa : ∀ g', ad' 1 g' 0 0 = ad 1 g' 0 0 := fun g' => by
    by_cases e : g' = g
    · rw [e]; exact a1
    · exact (ha 1 g' 0 0 (Or.inl e)).1
  have gm : ∀ g', 0 ≤ g' → g' < A.games → GmL h' lb' ad' cp' g' (B.sd0 g') (B.sd1 g') (B.st g') (B.pg g') := by
    intro g' g0 g1
    by_cases e : g' = g
    · rw [e]
      rw [e] at g0 g1
      exact n ⟨g0, g1⟩
    · obtain ⟨q1, q2, q3, q4⟩ := e2 g' e
      rw [q1, q2, q3, q4]
      exact (r4 g' g0 g1).mv k hl (fun k t o hk _ => ⟨by show k ≠ 0; omega, Or.inl e⟩) (fun k t o _ _ => ha k g' t o (Or.inl e))
  refine ⟨fun a h => by rw [hl a (by omega)]; exact r1 a h, ?_, ?_, ?_⟩
  · rw [a4.1, a4.2, e1]
    refine r2.mv2 k.1 k.2.1 c2 (fun hc => k.2.2 _ r2.1.2.2.2.2 (by rw [r3 hc]; exact ⟨by decide, Or.inr rfl⟩)) ?_ (fun i _ _ => aa i)
    intro i i0 i1
    rw [← aa i, (gm i i0 i1).1.1, aa i]
    exact (r4 i i0 i1).1.1.symm
  · rw [a4.1, a4.2]
    intro hc
    rw [hl _ r2.1.2.2.2.2]
    exact r3 hc
  · rw [e1]
    exact gm
/-- one more game -/
def Bk.addG (A : Bk) (a b : Int32) (st : Int32 → Int32 → Int32) (P : Pg) : Bk := (((((A.sR 3 (fun g => if g = A.games then a else A.sd0 g)).sR 4 (fun g => if g = A.games then b else A.sd1 g)).sS A.games st).sP A.games P).sI 1 (A.games + 1))
theorem pl_addG {x : Nat} {h : aH} {lb : Nat → Lab} {ad cp : Adr} {A : Bk} {a b : Int32} {st : Int32 → Int32 → Int32} {P : Pg} (r : PL x h lb ad cp A) (zx : x + 229 ≤ hz h ∧ hE h < hz h) (n : GmL h lb ad cp A.games a b st P) (hn : A.games < 400) : Rn (F_Jx4a65c_add_9ea2d (x + 2) (ad 1 A.games 0 0) h) (fun q => ∃ lb' ad' cp', PL x q.2 lb' ad' cp' (A.addG a b st P) ∧ (∀ k, k < 229 → k ≠ 2 → cel h q.2 (x + k)) ∧ hE q.2 = hE h ∧ hz h ≤ hz q.2 ∧ hz q.2 ≤ hz h + 1 ∧ hs q.2 ≤ hs h + 1000 ∧ hF q.2 2 (x + 2) = A.games + 1) := by
  obtain ⟨r1, r2, r3, r4⟩ := r
  have nz := n.2.2.2.1.1
  have g0 := r2.2.1.1
  have h400 : (400 : Int32).toInt = 400 := by decide
  have hn' := Int32.lt_iff_toInt_lt.mp hn
  refine (ls_add (v := ad 1 A.games 0 0) r2 (Int32.lt_of_lt_of_le hn (by decide)) zx.2 (by show 2 ≤ hK h _ ∧ hK h _ ≤ 14; rw [n.1.1]; decide) n.1.1 (by omega)).imp ?_
  rintro ⟨z6, h2⟩ ⟨-, a', c', L2, fr, e2, cost⟩
  dsimp only at L2 fr e2 cost ⊢
  have z12 : hz h ≤ hz h2 := by rcases cost with q | q <;> omega
  have kp : kpL lb (fun L => L.1 ≠ 0 ∧ L ≠ (4, 0, 0, 0)) h h2 := ⟨z12, e2, fun b hb q => fr b hb (fun e => q.1 (r1 b (by omega))) (fun hc e => q.2 (by rw [e]; exact r3 hc))⟩
  have hl : ∀ b, b < hz h → (fun b => if b = hz h then ((4, 0, 0, 0) : Lab) else lb b) b = lb b := fun b hb => by
    dsimp only
    rw [if_neg (by omega)]
  refine ⟨fun b => if b = hz h then (4, 0, 0, 0) else lb b, adS ad 4 0 0 0 a', adS cp 4 0 0 0 c', ⟨fun a h => by rw [hl a (by omega)]; exact r1 a h, ?_, ?_, ?_⟩, ?_, e2, z12, by rcases cost with q | q <;> omega, by rcases cost with q | q <;> omega, L2.1.2.2.1⟩
  · rw [adS_at, adS_at]
    refine L2.mv2 (Nat.le_refl _) rfl (cel.refl _ _) (fun _ => cel.refl _ _) (fun _ _ _ => rfl) ?_
    intro i _ _
    rw [adS_k (by decide)]
    by_cases e : i = A.games
    · rw [if_pos e, e]
    · rw [if_neg e]
  · rw [adS_at, adS_at]
    intro hc
    rcases cost with q | q
    · rw [q.1, hl _ r2.1.2.2.2.2]
      exact r3 (by rw [← q.2.1]; exact hc)
    · dsimp only
      rw [q.1, if_pos rfl]
  · intro g' p0 p1
    have p1 : g' < A.games + 1 := p1
    show GmL h2 _ _ _ g' (if g' = A.games then a else A.sd0 g') (if g' = A.games then b else A.sd1 g') (if g' = A.games then st else A.st g') (if g' = A.games then P else A.pg g')
    by_cases e : g' = A.games
    · rw [if_pos e, if_pos e, if_pos e, if_pos e, e]
      exact n.mv kp hl (fun k t o hk k4 => ⟨by show k ≠ 0; omega, lab_k k4⟩) (fun k t o _ k4 => ⟨adS_k k4, adS_k k4⟩)
    · rw [if_neg e, if_neg e, if_neg e, if_neg e]
      exact (r4 g' p0 (((i32_ls hn).mp p1).resolve_right e)).mv kp hl (fun k t o hk k4 => ⟨by show k ≠ 0; omega, lab_k k4⟩) (fun k t o _ k4 => ⟨adS_k k4, adS_k k4⟩)
  · intro k k1 k2
    exact fr _ (by omega) (by omega) (fun hc e => by have := r1 (x + k) (by omega); rw [e, r3 hc] at this; exact absurd this (by decide))
/-! toss -/
theorem BkOK.hi_lt {A : Bk} (ok : BkOK A) : ∀ q ∈ A.hi, q.1 ≠ A.games := fun q hq => lt_ne (ok.2.2.2.2.2.2.2.2 q hq).1.2
theorem c_addGame {x : Nat} {h0 h : aH} {lb : Nat → Lab} {ad cp : Adr} {A : Bk} {a b : Int32} {st : Int32 → Int32 → Int32} {P : Pg} (r : CRp x h lb ad cp A) (ok : BkOK A) (n : GmL h lb ad cp A.games a b st P) (hn : A.games < 400) : Rn (F_X11_addGame x (ad 1 A.games 0 0) h) (fun q => q.1 = A.games ∧ Pst x h 1 1000 (A.addG a b st P) q.2) := by
  unfold F_X11_addGame
  have zx := r.fx.2.2.2.2.2.2.2.2
  refine rn_o r.fx.1.2.2.1 (rn_ck r.pl.2.1.1.1 ?_)
  refine rn_c (pl_addG r.pl ⟨zx.2, r.fx.zE⟩ n hn) ?_
  rintro ⟨z6, h5⟩ ⟨lb', ad', cp', p1, p2, p3, p4, p5, p6, p7⟩
  dsimp only at p1 p2 p3 p4 p5 p6 p7 ⊢
  have fx5 : FX x h5 := r.fx.mv (fun b b0 b1 b2 => by
    have := p2 (b - x) (by omega) (by omega)
    rw [show x + (b - x) = b by omega] at this
    exact this.scl) (fun b hb f => by
    have := (p2 (b - x) (by omega) (by omega)).F f
    rw [show x + (b - x) = b by omega] at this
    exact this) (r.fx.2.2.2.2.2.1.cl (fun b b0 b1 => by
    have := p2 (b - x) (by omega) (by omega)
    rw [show x + (b - x) = b by omega] at this
    exact this)) p3 p4
  have F : frs (fun k => k = 0) x h5 (sF h5 1211 x 1) := frs_sF0 rfl (by decide)
  have fx9 : FX x (sF h5 1211 x 1) := fx5.fs F (fun k hk => by omega)
  have p9 : PL x (sF h5 1211 x 1) lb' ad' cp' (A.addG a b st P) := p1.fs F (fun k hk => by omega)
  refine rn_bd (rn_bd (rn_ck fx5.1.1 (rn_bd (rn_o fx9.1.2.2.1 (rn_ck p9.2.1.1.1 (rn_o p9.2.1.size (rn_bd (rn_bd (rn_s ⟨pred1, ⟨lb', ad', cp', fx9, p9, ?_, ?_, ?_, RC.old (if_pos ⟨rfl, rfl⟩)⟩, ?_, p5, p6⟩)))))))))
  · have eo : ∀ f, f ≠ 1211 → hF (sF h5 1211 x 1) f x = hF h f x := fun f n => (if_neg (fun q => n q.1)).trans ((p2 0 (by omega) (by omega)).F f)
    exact r.ci.mv ⟨eo _ (by decide), eo _ (by decide)⟩ ((p2 1 (by omega) (by omega)).trans (F.c (by omega))) ((p2 3 (by omega) (by omega)).trans (F.c (by omega))) ((p2 4 (by omega) (by omega)).trans (F.c (by omega))) ((p2 5 (by omega) (by omega)).trans (F.c (by omega))) ((p2 6 (by omega) (by omega)).trans (F.c (by omega)))
  · refine (r.hc.mv ((p2 7 (by omega) (by omega)).trans (F.c (by omega))) (fun k a b => (p2 k (by omega) (by omega)).trans (F.c (by omega)))).cg rfl (fun q hq => ?_)
    exact if_neg (ok.hi_lt q hq)
  · have e10 : hF (sF h5 1211 x 1) 1210 x = hF h 1210 x := by rw [rF_sF, if_neg (by omega)]; exact (p2 0 (by omega) (by omega)).F 1210
    refine (r.pc.mv e10 (psOf_cl (fun b b0 b1 => ?_))).cg (fun g hg => ⟨⟨hg.1, (i32_ls hn).mpr (Or.inl hg.2)⟩, if_neg (lt_ne hg.2)⟩)
    have := p2 (b - x) (by omega) (by omega)
    rw [show x + (b - x) = b by omega] at this
    exact this.trans (F.2 b (fun k hk e => by omega))
  · intro k k0 k1
    exact (p2 k k1 (by omega)).trans (F.c (by omega))
def aToss (a b n t : Int32) (A : Bk) : Int32 × Bk := if A.games < 400 ∧ inL A.sides a ∧ inL A.sides b ∧ a ≠ b ∧ 1 ≤ n ∧ n ≤ 120 ∧ 1 ≤ t ∧ t ≤ 2 then (A.games, A.addG a b seat0 (Pg.new n t)) else (-1, A)
theorem c_toss {x : Nat} {h : aH} {lb : Nat → Lab} {ad cp : Adr} {A : Bk} (r : CRp x h lb ad cp A) (ok : BkOK A) (a b n t : Int32) : Rn (F_X11_toss x a b n t h) (fun q => q.1 = (aToss a b n t A).1 ∧ Pst x h 5 1034 (aToss a b n t A).2 q.2) := by
  unfold F_X11_toss aToss
  refine rn_o r.fx.1.2.2.1 (rn_ck r.pl.2.1.1.1 (rn_o r.pl.2.1.size (rn_bd (rn_bd ?_))))
  dsimp only
  refine rn_i (fun c => ?_) (fun c => ?_)
  · rw [if_neg (fun q => absurd q.1 (Int32.not_lt.mpr c))]
    exact rn_s ⟨rfl, r.same _ _⟩
  have c := Int32.not_le.mp c
  refine rn_ck r.k0 (rn_o (c_hasSide r ok a) (rn_bd (rn_bd ?_)))
  dsimp only
  by_cases c1 : inL A.sides a
  rotate_left
  · rw [if_neg c1, if_neg (show ¬ (A.games < 400 ∧ inL A.sides a ∧ inL A.sides b ∧ a ≠ b ∧ 1 ≤ n ∧ n ≤ 120 ∧ 1 ≤ t ∧ t ≤ 2) from fun q => c1 q.2.1)]
    exact rn_p rfl (rn_s ⟨rfl, r.same _ _⟩)
  rw [if_pos c1]
  refine rn_n (by decide) (rn_ck r.k0 (rn_o (c_hasSide r ok b) (rn_bd (rn_bd ?_))))
  dsimp only
  by_cases c2 : inL A.sides b
  rotate_left
  · rw [if_neg c2, if_neg (show ¬ (A.games < 400 ∧ inL A.sides a ∧ inL A.sides b ∧ a ≠ b ∧ 1 ≤ n ∧ n ≤ 120 ∧ 1 ≤ t ∧ t ≤ 2) from fun q => c2 q.2.2.1)]
    exact rn_p rfl (rn_s ⟨rfl, r.same _ _⟩)
  rw [if_pos c2]
  refine rn_n (by decide) (rn_i (fun c3 => ?_) (fun c3 => ?_))
  · rw [if_neg (fun q => q.2.2.2.1 c3)]
    exact rn_s ⟨rfl, r.same _ _⟩
  refine rn_i (fun c4 => ?_) (fun c4 => ?_)
  · rw [if_neg (fun q => absurd q.2.2.2.2.1 (Int32.not_le.mpr c4))]
    exact rn_s ⟨rfl, r.same _ _⟩
  refine rn_i (fun c5 => ?_) (fun c5 => ?_)
  · rw [if_neg (fun q => absurd q.2.2.2.2.2.1 (Int32.not_le.mpr c5))]
    exact rn_s ⟨rfl, r.same _ _⟩
  refine rn_i (fun c6 => ?_) (fun c6 => ?_)
  · rw [if_neg (fun q => absurd q.2.2.2.2.2.2.1 (Int32.not_le.mpr c6))]
    exact rn_s ⟨rfl, r.same _ _⟩
  refine rn_i (fun c7 => ?_) (fun c7 => ?_)
  rotate_left
  · rw [if_neg (fun q => c7 q.2.2.2.2.2.2.2)]
    exact rn_s ⟨rfl, r.same _ _⟩
  rw [if_pos ⟨c, c1, c2, c3, Int32.not_lt.mp c4, Int32.not_lt.mp c5, Int32.not_lt.mp c6, c7⟩]
  refine rn_bd (rn_bd (rn_ck (if_pos rfl) ?_))
  refine rn_c (new_game r.fx.zE a b n t) (fun h1 w => ?_)
  obtain ⟨lb1, ad1, cp1, m1, m2, m3⟩ := gm_new w lb ad cp A.games
  obtain ⟨w1, w2, w3, w4, -⟩ := w
  have zx := r.fx.2.2.2.2.2.2.2.2
  have cx : ∀ k, k < 229 → cel h h1 (x + k) := fun k hk => w4 _ (by omega)
  have fx1 : FX x h1 := r.fx.mv (fun b b0 b1 _ => (w4 b (by omega)).scl) (fun b hb f => (w4 b (by omega)).F f) (r.fx.2.2.2.2.2.1.cl (fun b b0 b1 => w4 b (by omega))) w3 (by omega)
  have p1 : PL x h1 lb1 ad1 cp1 A := by
    obtain ⟨r1, r2, r3, r4⟩ := r.pl
    have a4 := m2.2.2 4 0 0 0 (Or.inr rfl)
    refine ⟨fun a h => by rw [m2.2.1 a (by omega)]; exact r1 a h, ?_, ?_, ?_⟩
    · rw [a4.1, a4.2]
      refine r2.mv2 (by omega) w3 (cx 2 (by omega)) (fun _ => w4 _ r2.1.2.2.2.2) (fun i i0 i1 => (w4 _ (r2.2.2.2 i i0 i1).2.2).K) (fun i i0 i1 => (m2.2.2 1 i 0 0 (Or.inl (lt_ne i1))).1)
    · rw [a4.1, a4.2]
      intro hc
      rw [m2.2.1 _ r2.1.2.2.2.2]
      exact r3 hc
    · intro g g0 g1
      exact m2.gm (r4 g g0 g1) (lt_ne g1)
  have q : CRp x h1 lb1 ad1 cp1 A := by
    have c0 := cx 0 (by omega)
    refine ⟨fx1, p1, r.ci.mv ⟨c0.F _, c0.F _⟩ (cx 1 (by omega)) (cx 3 (by omega)) (cx 4 (by omega)) (cx 5 (by omega)) (cx 6 (by omega)), r.hc.mv (cx 7 (by omega)) (fun k _ _ => cx k (by omega)), r.pc.mv (c0.F _) (psOf_cl (fun b b0 b1 => w4 b (by omega))), r.rc.mv (c0.F _) (cx 168 (by omega))⟩
  refine rn_ck q.k0 ?_
  rw [← m3]
  refine rn_c (c_addGame (h0 := h) q ok m1 c) ?_
  rintro ⟨z, h9⟩ ⟨e1, e2, e3, e4, e5⟩
  dsimp only at e1 e2 e3 e4 e5 ⊢
  refine rn_bd (rn_bd (rn_s ⟨e1, e2, fun k k0 k1 => (cx k k1).trans (e3 k k0 k1), ?_, ?_⟩))
  · show hz h9 ≤ _
    omega
  · show hs h9 ≤ _
    omega
