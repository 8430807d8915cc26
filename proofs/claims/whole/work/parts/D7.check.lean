/-! check of the reference -/
section Mck
variable {e e0 E D F : mE} {A : Bk} {s : Ps} {n : Int32}
theorem out22 {g j : Int32} (g0 : 0 ≤ g) (g1 : g < 399) (j0 : inL 22 j) : ¬ (22 * 399 ≤ 22 * g + j ∧ 22 * g + j < 22 * 399 + 22) := by
  obtain ⟨a, b⟩ := j0
  grind
theorem out4 {g j : Int32} (g0 : 0 ≤ g) (g1 : g < 399) (j0 : inL 4 j) : ¬ (4 * 399 ≤ 4 * g + j ∧ 4 * g + j < 4 * 399 + 4) := by
  obtain ⟨a, b⟩ := j0
  grind
theorem out520 {g t o : Int32} (g0 : 0 ≤ g) (g1 : g < 399) (t0 : inL 4 t) (o0 : inL 130 o) : ¬ (520 * 399 ≤ 130 * (4 * g + t) + o ∧ 130 * (4 * g + t) + o < 520 * 399 + 520) := by
  have z : (0 : Int32).toInt = 0 := by decide
  have a1 := Int32.le_iff_toInt_le.mp g0
  have a2 := Int32.lt_iff_toInt_lt.mp g1
  have b1 := Int32.le_iff_toInt_le.mp t0.1
  have b2 := Int32.lt_iff_toInt_lt.mp t0.2
  have c1 := Int32.le_iff_toInt_le.mp o0.1
  have c2 := Int32.lt_iff_toInt_lt.mp o0.2
  have e1 : (399 : Int32).toInt = 399 := by decide
  have e2 : (4 : Int32).toInt = 4 := by decide
  have e3 : (130 : Int32).toInt = 130 := by decide
  have e4 : (520 * 399 : Int32).toInt = 207480 := by decide
  have m : (4 * g).toInt = 4 * g.toInt := by
    rw [Int32.toInt_mul, e2]
    apply Int.bmod_eq_of_le <;> omega
  have m2 : (4 * g + t).toInt = 4 * g.toInt + t.toInt := by
    rw [Int32.toInt_add, m]
    apply Int.bmod_eq_of_le <;> omega
  have x : (0 : Int32) ≤ 4 * g + t ∧ 4 * g + t < 1600 := by
    have e5 : (1600 : Int32).toInt = 1600 := by decide
    exact ⟨Int32.le_iff_toInt_le.mpr (by omega), Int32.lt_iff_toInt_lt.mpr (by omega)⟩
  have l := lin130 x o0
  intro q
  have := Int32.le_iff_toInt_le.mp q.1
  omega
theorem in520 {t o : Int32} (t0 : inL 4 t) (o0 : inL 130 o) : inL 520 (130 * t + o) ∧ 130 * (4 * 399 + t) + o = 520 * 399 + (130 * t + o) := by
  obtain ⟨a, b⟩ := t0
  obtain ⟨c, d⟩ := o0
  have ht : t = 0 ∨ t = 1 ∨ t = 2 ∨ t = 3 := by clear c d; grind
  rcases ht with y | y | y | y <;> subst y <;> refine ⟨⟨?_, ?_⟩, ?_⟩ <;> grind
/-- behind a full book's reading: all is as it was -/
theorem m_full {j : Nat} (hs : TyNs s) (ok : BkOK A) (S : Sv D) (h2 : D.1 2 = 400) (r0 : 0 ≤ D.1 11) (HR : 2 * (D.1 11).toInt + n.toInt ≤ 11600) (hsd : D.1 1 = A.sides) (hpl : ∀ i, inL A.sides i → D.2 3 i = A.pl i) (n0 : 0 ≤ n) (n6 : n ≤ 6000) (tp : ∀ i, inL n i → D.2 15 i = A.tape i) : Rn (P_X12_readFull_130 (j + 1) n 399 520 D) (fun q => q.1 = rWrong s n A + 1 ∧ FrR D 400 q.2) := by
  unfold P_X12_readFull_130
  refine rn_p (by decide) (rn_bd ?_)
  rw [h2]
  have IM := m_img (e0 := mS D 2 (400 - 1)) (g := 399) (A := A) (s := s) (n := n) hs ok ⟨by decide, by decide⟩ (by show (400 - 1 : Int32) = 399; decide) r0 HR hsd hpl n0 n6 tp
  refine rn_c IM ?_
  rintro ⟨z, F⟩ ⟨q1, FF, -, -⟩
  dsimp only at q1 FF
  refine rn_bd (rn_bd ?_)
  dsimp only
  have I3 : ∀ k, k ≠ 2 → (mS D 2 (400 - 1)).1 k = D.1 k := fun k hk => if_neg hk
  have R3 : ∀ k i, (mS D 2 (400 - 1)).2 k i = D.2 k i := fun _ _ => rfl
  have R3t : ∀ g t o, rwT (mS D 2 (400 - 1)) g t o = rwT D g t o := fun _ _ _ => rfl
  generalize mS D 2 (400 - 1) = e3 at FF I3 R3 R3t IM
  clear IM
  refine rn_bd (rn_ck (by decide) (rn_ck (by decide) (rn_bd (rn_ck (by decide) (rn_ck (by decide) (rn_bd (rn_ck (by decide) (rn_ck (by decide) (rn_bd (rn_ck (by decide) (rn_ck (by decide) (rn_bd (rn_ck (by decide) (rn_ck (by decide) (rn_bd ?_)))))))))))))))
  have I10 : ∀ k, (mS F 2 400).1 k = if k = 2 then 400 else F.1 k := fun _ => rfl
  have R10 : (mS F 2 400).2 = F.2 := rfl
  generalize mS F 2 400 = e10 at I10 R10 ⊢
  have C : ∃ G, G = mA (mA (mA (mA (mA e10 4 (2 * 399) (e10.2 71 0)) 4 (2 * 399 + 1) (e10.2 71 1)) 5 399 (e10.2 71 2)) 6 399 (e10.2 71 3)) 8 399 (e10.2 71 4) ∧ G.1 = e10.1 ∧ (∀ k, k ≠ 4 → k ≠ 5 → k ≠ 6 → k ≠ 8 → ∀ i, G.2 k i = e10.2 k i) ∧ ((∀ i, G.2 4 i = if i = 2 * 399 + 1 then e10.2 71 1 else if i = 2 * 399 then e10.2 71 0 else e10.2 4 i) ∧ (∀ i, G.2 5 i = if i = 399 then e10.2 71 2 else e10.2 5 i) ∧ (∀ i, G.2 6 i = if i = 399 then e10.2 71 3 else e10.2 6 i) ∧ ∀ i, G.2 8 i = if i = 399 then e10.2 71 4 else e10.2 8 i) := by
    refine ⟨_, rfl, rfl, fun k n1 n2 n3 n4 i => by rw [mA_ne n4, mA_ne n3, mA_ne n2, mA_ne n1, mA_ne n1], fun i => ?_, fun i => ?_, fun i => ?_, fun i => ?_⟩
    · rw [mA_ne (by decide), mA_ne (by decide), mA_ne (by decide), mA_at, mA_at]
    · rw [mA_ne (by decide), mA_ne (by decide), mA_at, mA_ne (by decide), mA_ne (by decide)]
    · rw [mA_ne (by decide), mA_at, mA_ne (by decide), mA_ne (by decide), mA_ne (by decide)]
    · rw [mA_at, mA_ne (by decide), mA_ne (by decide), mA_ne (by decide), mA_ne (by decide)]
  obtain ⟨G, eG, G1, G2, G4, G5, G6, G8⟩ := C
  simp only [mA_ne (show (71 : Nat) ≠ 4 by decide), mA_ne (show (71 : Nat) ≠ 5 by decide), mA_ne (show (71 : Nat) ≠ 6 by decide), mA_ne (show (71 : Nat) ≠ 8 by decide)]
  rw [← eG]
  clear eG
  refine m_back3 (fun E1 E2 E3 c1 c2 c3 => ⟨q1, ?_⟩)
  obtain ⟨f1, f2, f3, f4, f5⟩ := FF
  obtain ⟨⟨s0, s1, s2, s3, s4⟩, s7, s9, s10⟩ := S
  have f71 : ∀ i, F.2 71 i = D.2 71 i := fun i => (f3 71 (by omega) i).trans (R3 71 i)
  have I : ∀ k, E3.1 k = if k = 2 then 400 else F.1 k := fun k => by rw [c3.1, c2.1, c1.1, G1, I10]
  have W : ∀ k, k ≠ 4 → k ≠ 5 → k ≠ 6 → k ≠ 7 → k ≠ 8 → k ≠ 9 → k ≠ 10 → ∀ i, E3.2 k i = F.2 k i := fun k n4 n5 n6 n7 n8 n9 n10 i => by rw [c3.2.1 k n10, c2.2.1 k n9, c1.2.1 k n7, G2 k n4 n5 n6 n8, R10]
  have W4 : ∀ i, E3.2 4 i = if i = 2 * 399 + 1 then D.2 71 1 else if i = 2 * 399 then D.2 71 0 else F.2 4 i := fun i => by rw [c3.2.1 4 (by decide), c2.2.1 4 (by decide), c1.2.1 4 (by decide), G4, R10, f71, f71]
  have W5 : ∀ i, E3.2 5 i = if i = 399 then D.2 71 2 else F.2 5 i := fun i => by rw [c3.2.1 5 (by decide), c2.2.1 5 (by decide), c1.2.1 5 (by decide), G5, R10, f71]
  have W6 : ∀ i, E3.2 6 i = if i = 399 then D.2 71 3 else F.2 6 i := fun i => by rw [c3.2.1 6 (by decide), c2.2.1 6 (by decide), c1.2.1 6 (by decide), G6, R10, f71]
  have W8 : ∀ i, E3.2 8 i = if i = 399 then D.2 71 4 else F.2 8 i := fun i => by rw [c3.2.1 8 (by decide), c2.2.1 8 (by decide), c1.2.1 8 (by decide), G8, R10, f71]
  have X7 : ∀ i, E3.2 7 i = E1.2 7 i := fun i => by rw [c3.2.1 7 (by decide), c2.2.1 7 (by decide)]
  have X9 : ∀ i, E3.2 9 i = E2.2 9 i := fun i => by rw [c3.2.1 9 (by decide)]
  have Y7 : ∀ i, G.2 7 i = F.2 7 i := fun i => by rw [G2 7 (by decide) (by decide) (by decide) (by decide), R10]
  have Y9 : ∀ i, E1.2 9 i = F.2 9 i := fun i => by rw [c1.2.1 9 (by decide), G2 9 (by decide) (by decide) (by decide) (by decide), R10]
  have Y10 : ∀ i, E2.2 10 i = F.2 10 i := fun i => by rw [c2.2.1 10 (by decide), c1.2.1 10 (by decide), G2 10 (by decide) (by decide) (by decide) (by decide), R10]
  have T0 : ∀ i, G.2 71 i = D.2 71 i := fun i => by rw [G2 71 (by decide) (by decide) (by decide) (by decide), R10, f71]
  have T1 : ∀ i, E1.2 71 i = D.2 71 i := fun i => by rw [c1.2.1 71 (by decide), T0]
  have T2 : ∀ i, E2.2 71 i = D.2 71 i := fun i => by rw [c2.2.1 71 (by decide), T1]
  refine ⟨fun k k0 k1 k2 => ?_, ?_, fun k hk i => ?_, fun g' g4 _ => ?_, fun r r0 r1 => ?_⟩
  · show E3.1 k = D.1 k
    rw [I]
    by_cases c : k = 2
    · rw [if_pos c, c, h2]
    · rw [if_neg c, f1 k k0 k1 k2, I3 k c]
  · show D.1 11 ≤ E3.1 11
    rw [I, if_neg (by decide), ← I3 11 (by decide)]
    exact f2
  · show E3.2 k i = D.2 k i
    rw [W k (by omega) (by omega) (by omega) (by omega) (by omega) (by omega) (by omega), f3 k hk, R3]
  · dsimp only
    by_cases c : g' = 399
    · subst c
      refine ⟨⟨?_, ?_, ?_, ?_, ?_⟩, fun s k c => ?_, fun t ht => ⟨?_, fun o ho => ?_⟩⟩
      · rw [W4, if_neg (by decide), if_pos rfl, s0]
      · rw [W4, if_pos rfl, s1]
      · rw [W5, if_pos rfl, s2]
      · rw [W6, if_pos rfl, s3]
      · rw [W8, if_pos rfl, s4]
      · have sk := sk_22 c
        rw [sk.2, X7, c1.at (by decide) (by decide) sk.1 (by decide), T0, s7 _ sk.1]
      · rw [X9, c2.at (by decide) (by decide) ht (by decide), T1, s9 t ht]
      · obtain ⟨i5, e5⟩ := in520 ht ho
        show E3.2 10 (130 * (4 * 399 + t) + o) = D.2 10 (130 * (4 * 399 + t) + o)
        rw [e5, c3.at (by decide) (by decide) i5 (by decide), T2, s10 _ i5]
    · have g9 : g' < 399 := by
        obtain ⟨a, b⟩ := g4
        clear f1 f2 f3 f4 f5 I W W4 W5 W6 W8 X7 X9 Y7 Y9 Y10 T0 T1 T2 c1 c2 c3
        grind
      have i0 : inL 2 0 := ⟨by decide, by decide⟩
      have i1 : inL 2 1 := ⟨by decide, by decide⟩
      have m4 : (0 : Int32) ≤ 399 ∧ (399 : Int32) < 400 := ⟨by decide, by decide⟩
      have k0 : ¬ 2 * g' = 2 * 399 + 1 := fun h => c (inj2 g4 i0 m4 i1 (by rw [ad0]; exact h)).1
      have k1 : ¬ 2 * g' = 2 * 399 := fun h => c (inj2 g4 i0 m4 i0 (by rw [ad0]; exact h)).1
      have k2 : ¬ 2 * g' + 1 = 2 * 399 + 1 := fun h => c (inj2 g4 i1 m4 i1 h).1
      have k3 : ¬ 2 * g' + 1 = 2 * 399 := fun h => c (inj2 g4 i1 m4 i0 h).1
      obtain ⟨⟨z1, z2, z3, z4, z5⟩, z6, z7⟩ := f4 g' g4 c
      refine ⟨⟨?_, ?_, ?_, ?_, ?_⟩, fun s k c => ?_, fun t ht => ⟨?_, fun o ho => ?_⟩⟩
      · rw [W4, if_neg k0, if_neg k1, z1, R3]
      · rw [W4, if_neg k2, if_neg k3, z2, R3]
      · rw [W5, if_neg c, z3, R3]
      · rw [W6, if_neg c, z4, R3]
      · rw [W8, if_neg c, z5, R3]
      · have sk := sk_22 c
        have := z6 s k c
        rw [sk.2] at this ⊢
        rw [X7, c1.no (out22 g4.1 g9 sk.1), Y7, this, R3]
      · rw [X9, c2.no (out4 g4.1 g9 ht), Y9, (z7 t ht).1, R3]
      · have := (z7 t ht).2 o ho
        rw [R3t] at this
        show E3.2 10 (130 * (4 * g' + t) + o) = _
        rw [c3.no (out520 g4.1 g9 ht ho), Y10]
        exact this
  · dsimp only
    obtain ⟨w1, w2, w3⟩ := f5 r r0 (by rw [I3 11 (by decide)]; exact r1)
    refine ⟨?_, ?_, fun i hi => ?_⟩
    · rw [W 12 (by decide) (by decide) (by decide) (by decide) (by decide) (by decide) (by decide), w1, R3]
    · rw [W 13 (by decide) (by decide) (by decide) (by decide) (by decide) (by decide) (by decide), w2, R3]
    · rw [W 14 (by decide) (by decide) (by decide) (by decide) (by decide) (by decide) (by decide), w3 i hi, R3]
theorem FrR.mr11 {g : Int32} (F : FrR e0 g E) (r : MR e0 A) (ok : BkOK A) (hg : ∀ g', inL A.games g' → g' ≠ g) {v : Int32} (hv : v = e0.1 11) : MR (mS E 11 v) A := by
  subst hv
  have F' : FrR e0 g (mS E 11 (e0.1 11)) := by
    obtain ⟨f1, f2, f3, f4, f5⟩ := F
    exact ⟨fun k k0 k1 k2 => (if_neg k2).trans (f1 k k0 k1 k2), Int32.le_refl _, f3, f4, f5⟩
  exact F'.mr r ok hg r.2.2.2.1.2
theorem m_check (r : MR e A) (ok : BkOK A) (hs : TyNs s) (HR : 2 * (e.1 11).toInt + A.taped.toInt ≤ 11600) (n : Int32) : Rn (P_X12_check n e) (fun q => q.1 = (aCheck s n A).1 ∧ MP e (aCheck s n A).2 q.2) := by
  unfold P_X12_check
  have r0 := r.c0
  have i11 : (mS e 0 0).1 11 = e.1 11 := rfl
  refine rn_bd ?_
  have MPe : ∀ B e', MR e' B → e'.1 11 = (mS e 0 0).1 11 → MP e B e' := fun B e' a b => ⟨a, b.trans i11⟩
  generalize mS e 0 0 = e1 at r0 i11 MPe ⊢
  rw [← i11] at HR
  clear i11 r
  have no : ∀ (h : ¬ (0 ≤ n ∧ n ≤ A.taped)), Rn (some ((-1 : Int32), e1)) (fun q => q.1 = (aCheck s n A).1 ∧ MP e (aCheck s n A).2 q.2) := fun h => by
    have e3 : aCheck s n A = (-1, A) := if_neg h
    rw [e3]
    exact rn_s ⟨rfl, MPe _ _ r0 rfl⟩
  rw [r0.1.2.2.1]
  refine rn_i (fun c => no (fun y => absurd y.1 (Int32.not_le.mpr c))) (fun c0 => rn_i (fun nt => ?_) (fun c => no (fun y => c y.2)))
  have n0 := Int32.not_lt.mp c0
  clear no
  refine rn_bd (rn_bd ?_)
  have ntI := Int32.le_iff_toInt_le.mp nt
  have rt := r0.t0
  have okt := ok.tape0
  have e3 : aCheck s n A = (rWrong s n A + 1, A.sI 2 0) := if_pos ⟨n0, nt⟩
  rw [e3]
  have HR' : 2 * ((mS e1 16 0).1 11).toInt + n.toInt ≤ 11600 := by show 2 * (e1.1 11).toInt + n.toInt ≤ 11600; omega
  have hg : (mS e1 16 0).1 2 = A.games := r0.1.2.1
  have h1 : (mS e1 16 0).1 1 = A.sides := r0.1.1
  have h11 : (mS e1 16 0).1 11 = e1.1 11 := rfl
  have pl : ∀ i, inL A.sides i → (mS e1 16 0).2 3 i = A.pl i := r0.2.1.1
  have tp : ∀ i, inL n i → (mS e1 16 0).2 15 i = A.tape i := fun i hi => r0.2.1.2.1 i ⟨hi.1, Int32.lt_of_lt_of_le hi.2 nt⟩
  generalize mS e1 16 0 = e6 at rt HR' hg h1 h11 pl tp ⊢
  rw [hg]
  have n6 := i32_tr nt ok.2.2.1.2
  refine rn_i (fun c => ?_) (fun c => ?_)
  · refine rn_c (R := fun q => q.1 = rWrong s n A + 1 ∧ ∃ D : mE, MR D (A.sI 2 0) ∧ D.1 11 = e6.1 11 ∧ FrR D 400 q.2) ?_ ?_
    · refine m_save (fun D j D1 D2 S => ?_)
      have l : lowE e6 D := ⟨fun k _ _ => by rw [D1], fun k i hk => D2 k (by omega) i⟩
      have := m_full (s := s) (A := A) (n := n) (j := j) hs ok S (by rw [D1, hg]; exact c) (by rw [D1]; exact rt.2.2.2.1.1) (by rw [D1]; exact HR') (by rw [D1]; exact h1) (fun i hi => (D2 3 (by decide) i).trans (pl i hi)) n0 n6 (fun i hi => (D2 15 (by decide) i).trans (tp i hi))
      exact this.imp (fun q w => ⟨w.1, D, rt.low l, by rw [D1], w.2⟩)
    · rintro ⟨z, E⟩ ⟨q1, D, rD, j11, F⟩
      dsimp only at q1 F
      unfold P_X12_check_52
      refine rn_bd (rn_bd (rn_bd (rn_s ⟨q1, MPe _ _ ?_ rfl⟩)))
      dsimp only
      refine F.mr11 rD okt (fun g' h y => ?_) (by rw [j11, h11])
      have h : inL A.games g' := h
      rw [y, c] at h
      exact absurd h.2 (by decide)
  · have g4 : A.games < 400 := by
      have a := ok.2.1.2
      generalize A.games = v at a c
      clear r0 ok okt rt
      grind
    have IM := m_img (e0 := e6) (g := A.games) (A := A) (s := s) (n := n) hs ok ⟨ok.2.1.1, g4⟩ hg rt.2.2.2.1.1 HR' h1 pl n0 n6 tp
    refine rn_c IM ?_
    rintro ⟨z, E⟩ ⟨q1, F, -, -⟩
    dsimp only at q1 F
    unfold P_X12_check_52
    refine rn_bd (rn_bd (rn_bd (rn_s ⟨q1, MPe _ _ ?_ rfl⟩)))
    dsimp only
    exact F.mr11 rt okt (fun g' h => lt_ne h.2) h11.symm
end Mck
