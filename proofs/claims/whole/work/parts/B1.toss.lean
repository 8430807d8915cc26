/-! toss and seat of the reference -/
section Mts
variable {e e' : mE} {A B : Bk} {g : Int32}
theorem lin22 {g j : Int32} (g0 : 0 ≤ g ∧ g < 400) (j0 : inL 22 j) : (22 * g + j).toInt = 22 * g.toInt + j.toInt := by
  have z : (0 : Int32).toInt = 0 := by decide
  have a1 := Int32.le_iff_toInt_le.mp g0.1
  have a2 := Int32.lt_iff_toInt_lt.mp g0.2
  have b1 := Int32.le_iff_toInt_le.mp j0.1
  have b2 := Int32.lt_iff_toInt_lt.mp j0.2
  have e1 : (400 : Int32).toInt = 400 := by decide
  have e2 : (22 : Int32).toInt = 22 := by decide
  have m : (22 * g).toInt = 22 * g.toInt := by
    rw [Int32.toInt_mul, e2]
    apply Int.bmod_eq_of_le <;> omega
  rw [Int32.toInt_add, m]
  apply Int.bmod_eq_of_le <;> omega
theorem inj22 {g j g' j' : Int32} (g0 : 0 ≤ g ∧ g < 400) (j0 : inL 22 j) (g1 : 0 ≤ g' ∧ g' < 400) (j1 : inL 22 j') (h : 22 * g + j = 22 * g' + j') : g = g' ∧ j = j' := by
  have a := lin22 g0 j0
  have b := lin22 g1 j1
  rw [h, b] at a
  have z : (0 : Int32).toInt = 0 := by decide
  have b1 := Int32.le_iff_toInt_le.mp j0.1
  have b2 := Int32.lt_iff_toInt_lt.mp j0.2
  have c1 := Int32.le_iff_toInt_le.mp j1.1
  have c2 := Int32.lt_iff_toInt_lt.mp j1.2
  have e2 : (22 : Int32).toInt = 22 := by decide
  exact ⟨Int32.toInt_inj.mp (by omega), Int32.toInt_inj.mp (by omega)⟩
theorem sk_22 {s k : Int32} (h : gin 2 11 s k) : inL 22 (11 * s + k) ∧ ∀ g : Int32, 22 * g + 11 * s + k = 22 * g + (11 * s + k) := by
  obtain ⟨a, b, c, d⟩ := h
  refine ⟨⟨by grind, by grind⟩, fun g => by grind⟩
theorem sk_v {s k : Int32} (h : gin 2 11 s k) : (11 * s + k) - (11 * s + k) / 11 * 11 = k := by
  obtain ⟨a, b, c, d⟩ := h
  have hs : s = 0 ∨ s = 1 := by grind
  have hk : k = 0 ∨ k = 1 ∨ k = 2 ∨ k = 3 ∨ k = 4 ∨ k = 5 ∨ k = 6 ∨ k = 7 ∨ k = 8 ∨ k = 9 ∨ k = 10 := by clear hs a b; grind
  rcases hs with q | q <;> subst q <;> rcases hk with q | q | q | q | q | q | q | q | q | q | q <;> subst q <;> decide
theorem sk_inj {s k s' k' : Int32} (h : gin 2 11 s k) (h' : gin 2 11 s' k') (q : 11 * s + k = 11 * s' + k') : s = s' ∧ k = k' := by
  have a := sk_v h
  rw [q, sk_v h'] at a
  subst a
  obtain ⟨a, b, c, d⟩ := h
  obtain ⟨a', b', c', d'⟩ := h'
  refine ⟨?_, rfl⟩
  have hs : s = 0 ∨ s = 1 := by clear q; grind
  have hs' : s' = 0 ∨ s' = 1 := by clear q hs; grind
  rcases hs with y | y <;> rcases hs' with z | z <;> subst y <;> subst z
  · rfl
  · exfalso; clear a b a' b' c' d'; grind
  · exfalso; clear a b a' b' c' d'; grind
  · rfl
theorem m_ng60 {R : mE → Prop} (g0 : 0 ≤ g ∧ g < 400) (hg : e.1 2 = g) (K : ∀ E, E.1 = e.1 → (∀ k, k ≠ 7 → ∀ i, E.2 k i = e.2 k i) → (∀ j, inL 22 j → E.2 7 (22 * g + j) = j - j / 11 * 11) → (∀ g' j, (0 ≤ g' ∧ g' < 400) → g' ≠ g → inL 22 j → E.2 7 (22 * g' + j) = e.2 7 (22 * g' + j)) → R (mS E 2 (g + 1))) : ∀ n x, ((22 : Int32).toInt - x.toInt).toNat < n → ∀ E, 0 ≤ x → x ≤ 22 → E.1 = e.1 → (∀ k, k ≠ 7 → ∀ i, E.2 k i = e.2 k i) → (∀ j, inL x j → E.2 7 (22 * g + j) = j - j / 11 * 11) → (∀ g' j, (0 ≤ g' ∧ g' < 400) → g' ≠ g → inL 22 j → E.2 7 (22 * g' + j) = e.2 7 (22 * g' + j)) → Rn (P_X12_newGame_60 n x E) R := by
  refine i32_up ?_ ?_
  · intro n x hc E x0 x1 q1 q2 q3 q4
    have ex : x = 22 := Int32.le_antisymm x1 hc
    subst ex
    unfold P_X12_newGame_60
    rw [q1, hg]
    exact rn_p hc (rn_bd (rn_s (K E q1 q2 q3 q4)))
  · intro n x hc ih E x0 x1 q1 q2 q3 q4
    unfold P_X12_newGame_60
    rw [q1, hg]
    have xj : inL 22 x := ⟨x0, hc⟩
    have b : (0 : Int32) ≤ 22 * g + x ∧ 22 * g + x < 8800 := by
      have l := lin22 g0 xj
      have z : (0 : Int32).toInt = 0 := by decide
      have a1 := Int32.le_iff_toInt_le.mp g0.1
      have a2 := Int32.lt_iff_toInt_lt.mp g0.2
      have b1 := Int32.le_iff_toInt_le.mp xj.1
      have b2 := Int32.lt_iff_toInt_lt.mp xj.2
      have e1 : (400 : Int32).toInt = 400 := by decide
      have e2 : (22 : Int32).toInt = 22 := by decide
      have e3 : (8800 : Int32).toInt = 8800 := by decide
      exact ⟨Int32.le_iff_toInt_le.mpr (by omega), Int32.lt_iff_toInt_lt.mpr (by omega)⟩
    refine rn_n (Int32.not_le.mpr hc) (rn_ck b (rn_bd (rn_bd (ih _ (i32_ps x0 hc) ?_ q1 (fun k hk i => (mA_ne hk).trans (q2 k hk i)) (fun j hj => ?_) (fun g' j g1 n hj => ?_)))))
    · have := i32_succ hc
      have := Int32.lt_iff_toInt_lt.mp hc
      exact Int32.le_iff_toInt_le.mpr (by omega)
    · rw [mA_at]
      rcases (i32_ls hc).mp hj.2 with y | y
      · rw [if_neg (fun h => lt_ne y (inj22 g0 ⟨hj.1, Int32.lt_of_lt_of_le y (Int32.le_of_lt hc)⟩ g0 xj h).2)]
        exact q3 j ⟨hj.1, y⟩
      · rw [if_pos (by rw [y]), y]
    · rw [mA_at, if_neg (fun h => n (inj22 g1 hj g0 xj h).1)]
      exact q4 g' j g1 n hj
theorem lin2 {g j : Int32} (g0 : 0 ≤ g ∧ g < 400) (j0 : inL 2 j) : (0 ≤ 2 * g + j ∧ 2 * g + j < 800) ∧ (2 * g + j).toInt = 2 * g.toInt + j.toInt := by
  have z : (0 : Int32).toInt = 0 := by decide
  have a1 := Int32.le_iff_toInt_le.mp g0.1
  have a2 := Int32.lt_iff_toInt_lt.mp g0.2
  have b1 := Int32.le_iff_toInt_le.mp j0.1
  have b2 := Int32.lt_iff_toInt_lt.mp j0.2
  have e1 : (400 : Int32).toInt = 400 := by decide
  have e2 : (2 : Int32).toInt = 2 := by decide
  have e3 : (800 : Int32).toInt = 800 := by decide
  have m : (2 * g).toInt = 2 * g.toInt := by
    rw [Int32.toInt_mul, e2]
    apply Int.bmod_eq_of_le <;> omega
  have l : (2 * g + j).toInt = 2 * g.toInt + j.toInt := by
    rw [Int32.toInt_add, m]
    apply Int.bmod_eq_of_le <;> omega
  exact ⟨⟨Int32.le_iff_toInt_le.mpr (by omega), Int32.lt_iff_toInt_lt.mpr (by omega)⟩, l⟩
theorem inj2 {g j g' j' : Int32} (g0 : 0 ≤ g ∧ g < 400) (j0 : inL 2 j) (g1 : 0 ≤ g' ∧ g' < 400) (j1 : inL 2 j') (h : 2 * g + j = 2 * g' + j') : g = g' ∧ j = j' := by
  have a := (lin2 g0 j0).2
  have b := (lin2 g1 j1).2
  rw [h, b] at a
  have z : (0 : Int32).toInt = 0 := by decide
  have b1 := Int32.le_iff_toInt_le.mp j0.1
  have b2 := Int32.lt_iff_toInt_lt.mp j0.2
  have c1 := Int32.le_iff_toInt_le.mp j1.1
  have c2 := Int32.lt_iff_toInt_lt.mp j1.2
  have e2 : (2 : Int32).toInt = 2 := by decide
  exact ⟨Int32.toInt_inj.mp (by omega), Int32.toInt_inj.mp (by omega)⟩
theorem ad0 {g : Int32} : 2 * g + 0 = 2 * g := by grind
theorem m_newGame {a b n t : Int32} (r : MR e A) (ok : BkOK A) (cg : A.games < 400) : Rn (P_X12_newGame a b n t e) (fun E => MR E (A.addG a b seat0 (Pg.new n t)) ∧ E.1 11 = e.1 11 ∧ E.1 2 = A.games + 1) := by
  unfold P_X12_newGame
  have g0 : (0 : Int32) ≤ A.games ∧ A.games < 400 := ⟨ok.2.1.1, cg⟩
  have hg : e.1 2 = A.games := r.1.2.1
  have i0 : inL 2 0 := ⟨by decide, by decide⟩
  have i1 : inL 2 1 := ⟨by decide, by decide⟩
  have l0 := (lin2 g0 i0).1
  rw [ad0] at l0
  have l1 := (lin2 g0 i1).1
  rw [hg]
  refine rn_ck l0 (rn_bd (rn_ck (by rw [mA_f, hg]; exact l1) (rn_bd (rn_ck (by rw [mA_f, mA_f, hg]; exact g0) (rn_bd (rn_ck (by rw [mA_f, mA_f, mA_f, hg]; exact g0) (rn_bd (rn_ck (by rw [mA_f, mA_f, mA_f, mA_f, hg]; exact g0) (rn_bd ?_)))))))))
  simp only [mA_f, hg]
  have E1 : ∀ k, (mA (mA (mA (mA (mA e 4 (2 * A.games) a) 4 (2 * A.games + 1) b) 5 A.games n) 6 A.games t) 8 A.games 0).1 k = e.1 k := fun _ => rfl
  have E2 : ∀ k, k ≠ 4 → k ≠ 5 → k ≠ 6 → k ≠ 8 → ∀ i, (mA (mA (mA (mA (mA e 4 (2 * A.games) a) 4 (2 * A.games + 1) b) 5 A.games n) 6 A.games t) 8 A.games 0).2 k i = e.2 k i := fun k n1 n2 n3 n4 i => (mA_ne n4).trans ((mA_ne n3).trans ((mA_ne n2).trans ((mA_ne n1).trans (mA_ne n1))))
  have E4 : ∀ i, (mA (mA (mA (mA (mA e 4 (2 * A.games) a) 4 (2 * A.games + 1) b) 5 A.games n) 6 A.games t) 8 A.games 0).2 4 i = if i = 2 * A.games + 1 then b else if i = 2 * A.games then a else e.2 4 i := fun i => by rw [mA_ne (by decide), mA_ne (by decide), mA_ne (by decide), mA_at, mA_at]
  have E5 : ∀ i, (mA (mA (mA (mA (mA e 4 (2 * A.games) a) 4 (2 * A.games + 1) b) 5 A.games n) 6 A.games t) 8 A.games 0).2 5 i = if i = A.games then n else e.2 5 i := fun i => by rw [mA_ne (by decide), mA_ne (by decide), mA_at, mA_ne (by decide), mA_ne (by decide)]
  have E6 : ∀ i, (mA (mA (mA (mA (mA e 4 (2 * A.games) a) 4 (2 * A.games + 1) b) 5 A.games n) 6 A.games t) 8 A.games 0).2 6 i = if i = A.games then t else e.2 6 i := fun i => by rw [mA_ne (by decide), mA_at, mA_ne (by decide), mA_ne (by decide), mA_ne (by decide)]
  have E8 : ∀ i, (mA (mA (mA (mA (mA e 4 (2 * A.games) a) 4 (2 * A.games + 1) b) 5 A.games n) 6 A.games t) 8 A.games 0).2 8 i = if i = A.games then 0 else e.2 8 i := fun i => by rw [mA_at, mA_ne (by decide), mA_ne (by decide), mA_ne (by decide), mA_ne (by decide)]
  generalize mA (mA (mA (mA (mA e 4 (2 * A.games) a) 4 (2 * A.games + 1) b) 5 A.games n) 6 A.games t) 8 A.games 0 = D at E1 E2 E4 E5 E6 E8 ⊢
  have f22 : (22 : Int32).toInt = 22 := by decide
  have z : (0 : Int32).toInt = 0 := by decide
  refine m_ng60 (e := D) (R := fun E => MR E (A.addG a b seat0 (Pg.new n t)) ∧ E.1 11 = e.1 11 ∧ E.1 2 = A.games + 1) g0 (by rw [E1]; exact hg) (fun E q1 q2 q3 q4 => ⟨?_, ?_, rfl⟩) fu 0 (by show _ < 10000000; omega) D (by decide) (by decide) rfl (fun _ _ _ => rfl) (fun j hj => absurd hj.1 (Int32.not_le.mpr hj.2)) (fun _ _ _ _ _ => rfl)
  rotate_left
  · show E.1 11 = _
    rw [q1]; exact E1 11
  have I : ∀ k, k ≠ 2 → (mS E 2 (A.games + 1)).1 k = e.1 k := fun k hk => by
    show (if k = 2 then _ else E.1 k) = _
    rw [if_neg hk, q1]; exact E1 k
  have W : ∀ k, k ≠ 4 → k ≠ 5 → k ≠ 6 → k ≠ 7 → k ≠ 8 → ∀ i, (mS E 2 (A.games + 1)).2 k i = e.2 k i := fun k n1 n2 n3 n4 n5 i => (q2 k n4 i).trans (E2 k n1 n2 n3 n5 i)
  have W' : ∀ k, k ≠ 7 → ∀ i, (mS E 2 (A.games + 1)).2 k i = D.2 k i := fun k n i => q2 k n i
  have W7 : ∀ i, (mS E 2 (A.games + 1)).2 7 i = E.2 7 i := fun _ => rfl
  have i2 : (mS E 2 (A.games + 1)).1 2 = A.games + 1 := rfl
  have rw2 : ∀ g t o, rwT (mS E 2 (A.games + 1)) g t o = rwT e g t o := fun g t o => W 10 (by decide) (by decide) (by decide) (by decide) (by decide) _
  generalize mS E 2 (A.games + 1) = F at I W W' W7 i2 rw2 ⊢
  obtain ⟨⟨a1, a2, a3, a4, a5, a6⟩, ⟨b1, b2, b3⟩, d, w, u, v⟩ := r
  have gl : A.games < 2147483647 := Int32.lt_of_lt_of_le cg (by decide)
  have split : ∀ g', inL (A.games + 1) g' → inL A.games g' ∨ g' = A.games := fun g' h => ((i32_ls gl).mp h.2).imp (fun y => ⟨h.1, y⟩) id
  have ne : ∀ g', inL A.games g' → g' ≠ A.games := fun g' h => lt_ne h.2
  have vis : ∀ g' t' o', inO (A.addG a b seat0 (Pg.new n t)) g' t' o' → inO A g' t' o' := fun g' t' o' q => by
    have q1 : inL (A.games + 1) g' := q.1
    have q2 : inL (if g' = A.games then Pg.new n t else A.pg g').turns t' := q.2.1
    have q3 : inL ((if g' = A.games then Pg.new n t else A.pg g').many t') o' := q.2.2
    rcases split g' q1 with y | y
    · rw [if_neg (ne g' y)] at q2 q3
      exact ⟨y, q2, q3⟩
    · rw [if_pos y] at q2
      have q2 : inL 0 t' := q2
      exact absurd q2.1 (Int32.not_le.mpr q2.2)
  refine ⟨⟨(I 1 (by decide)).trans a1, i2, (I 16 (by decide)).trans a3, (I 18 (by decide)).trans a4, (I 19 (by decide)).trans a5, (I 20 (by decide)).trans a6⟩, ⟨fun i hi => (W 3 (by decide) (by decide) (by decide) (by decide) (by decide) i).trans (b1 i hi), fun i hi => (W 15 (by decide) (by decide) (by decide) (by decide) (by decide) i).trans (b2 i hi), fun i hi => (W 17 (by decide) (by decide) (by decide) (by decide) (by decide) i).trans (b3 i hi)⟩, fun g' hg' => ?_, by rw [I 11 (by decide)]; exact w, fun g1 t1 o1 g3 t3 o3 p q h => u _ _ _ _ _ _ (vis _ _ _ p) (vis _ _ _ q) (by rw [← rw2, ← rw2]; exact h), ?_⟩
  · show GmR F g' (if g' = A.games then a else A.sd0 g') (if g' = A.games then b else A.sd1 g') (if g' = A.games then seat0 else A.st g') (if g' = A.games then Pg.new n t else A.pg g')
    rcases split g' hg' with y | y
    · have n0 := ne g' y
      have g4 := g400 ok y
      rw [if_neg n0, if_neg n0, if_neg n0, if_neg n0]
      obtain ⟨y1, y2, y3, y4, y5, y6, y7⟩ := d g' y
      have k0 : ¬ 2 * g' = 2 * A.games + 1 := fun h => n0 (inj2 g4 i0 g0 i1 (by rw [ad0]; exact h)).1
      have k1 : ¬ 2 * g' = 2 * A.games := fun h => n0 (inj2 g4 i0 g0 i0 (by rw [ad0, ad0]; exact h)).1
      have k2 : ¬ 2 * g' + 1 = 2 * A.games + 1 := fun h => n0 (inj2 g4 i1 g0 i1 h).1
      have k3 : ¬ 2 * g' + 1 = 2 * A.games := fun h => n0 (inj2 g4 i1 g0 i0 (by rw [ad0]; exact h)).1
      refine ⟨by rw [W' 4 (by decide), E4, if_neg k0, if_neg k1]; exact y1, by rw [W' 4 (by decide), E4, if_neg k2, if_neg k3]; exact y2, fun s k c => ?_, by rw [W' 5 (by decide), E5, if_neg n0]; exact y4, by rw [W' 6 (by decide), E6, if_neg n0]; exact y5, by rw [W' 8 (by decide), E8, if_neg n0]; exact y6, fun t' ht' => ⟨(W 9 (by decide) (by decide) (by decide) (by decide) (by decide) _).trans (y7 t' ht').1, fun o ho => ?_⟩⟩
      · have sk := sk_22 c
        rw [W7, sk.2, q4 g' _ g4 n0 sk.1, E2 7 (by decide) (by decide) (by decide) (by decide), ← sk.2]
        exact y3 s k c
      · obtain ⟨z1, z2, z3, z4⟩ := (y7 t' ht').2 o ho
        rw [rw2, I 11 (by decide)]
        exact ⟨z1, (W 12 (by decide) (by decide) (by decide) (by decide) (by decide) _).trans z2, (W 13 (by decide) (by decide) (by decide) (by decide) (by decide) _).trans z3, fun i hi => (W 14 (by decide) (by decide) (by decide) (by decide) (by decide) _).trans (z4 i hi)⟩
    · rw [if_pos y, if_pos y, if_pos y, if_pos y, y]
      have k0 : ¬ 2 * A.games = 2 * A.games + 1 := fun h => absurd (inj2 g0 i0 g0 i1 (by rw [ad0]; exact h)).2 (by decide)
      refine ⟨by rw [W' 4 (by decide), E4, if_neg k0, if_pos rfl], by rw [W' 4 (by decide), E4, if_pos rfl], fun s k c => ?_, by rw [W' 5 (by decide), E5, if_pos rfl]; rfl, by rw [W' 6 (by decide), E6, if_pos rfl]; rfl, by rw [W' 8 (by decide), E8, if_pos rfl]; rfl, fun t' ht' => absurd ht'.1 (Int32.not_le.mpr ht'.2)⟩
      have sk := sk_22 c
      rw [W7, sk.2, q3 _ sk.1, sk_v c]
      unfold seat0
      rw [if_pos c]
  · refine HMo.pg _ A.pg _ (HMo.cg (e := e) (d := 0) _ _ (fun m _ => ⟨fun j j0 j1 => W j (by omega) (by omega) (by omega) (by omega) (by omega) _, fun i _ => W 27 (by decide) (by decide) (by decide) (by decide) (by decide) _⟩) (fun q _ t o _ _ => rw2 _ _ _) v) (fun q hq => ?_)
    show (if q.1 = A.games then Pg.new n t else A.pg q.1) = A.pg q.1
    rw [if_neg (ne q.1 (ok.2.2.2.2.2.2.2.2 q hq).1)]
theorem m_toss (r : MR e A) (ok : BkOK A) (a b n t : Int32) : Rn (P_X12_toss a b n t e) (fun q => q.1 = (aToss a b n t A).1 ∧ MP e (aToss a b n t A).2 q.2) := by
  unfold P_X12_toss aToss
  have r0 := r.c0
  refine rn_bd ?_
  rw [r0.1.2.1]
  have no : ∀ (h : ¬ (A.games < 400 ∧ inL A.sides a ∧ inL A.sides b ∧ a ≠ b ∧ 1 ≤ n ∧ n ≤ 120 ∧ 1 ≤ t ∧ t ≤ 2)), Rn (some ((-1 : Int32), mS e 0 0)) (fun q => q.1 = (if A.games < 400 ∧ inL A.sides a ∧ inL A.sides b ∧ a ≠ b ∧ 1 ≤ n ∧ n ≤ 120 ∧ 1 ≤ t ∧ t ≤ 2 then (A.games, A.addG a b seat0 (Pg.new n t)) else (-1, A)).1 ∧ MP e (if A.games < 400 ∧ inL A.sides a ∧ inL A.sides b ∧ a ≠ b ∧ 1 ≤ n ∧ n ≤ 120 ∧ 1 ≤ t ∧ t ≤ 2 then (A.games, A.addG a b seat0 (Pg.new n t)) else (-1, A)).2 q.2) := fun h => by
    rw [if_neg h]
    exact rn_s ⟨rfl, r0, rfl⟩
  by_cases c0 : A.games = 400
  · rw [if_pos c0]
    exact no (fun q => lt_ne q.1 c0)
  rw [if_neg c0]
  have g4 : A.games < 400 := by
    have a := ok.2.1.2
    generalize A.games = v at a c0
    clear r0 r ok no
    grind
  refine rn_o (m_isSide r0 a) (rn_bd (rn_bd ?_))
  dsimp only
  by_cases c1 : inL A.sides a
  rotate_left
  · rw [if_neg c1]
    exact rn_p rfl (no (fun q => c1 q.2.1))
  rw [if_pos c1]
  refine rn_n (by decide) (rn_o (m_isSide r0 b) (rn_bd (rn_bd ?_)))
  dsimp only
  by_cases c2 : inL A.sides b
  rotate_left
  · rw [if_neg c2]
    exact rn_p rfl (no (fun q => c2 q.2.2.1))
  rw [if_pos c2]
  have one : ∀ x : Int32, x < 1 ↔ ¬ 1 ≤ x := fun x => ⟨fun q => Int32.not_le.mpr q, fun q => Int32.not_le.mp q⟩
  refine rn_n (by decide) (rn_i (fun c3 => no (fun q => q.2.2.2.1 c3)) (fun c3 => rn_i (fun c4 => no (fun q => (one n).mp c4 q.2.2.2.2.1)) (fun c4 => rn_i (fun c5 => no (fun q => absurd q.2.2.2.2.2.1 (Int32.not_le.mpr c5))) (fun c5 => rn_i (fun c6 => no (fun q => (one t).mp c6 q.2.2.2.2.2.2.1)) (fun c6 => rn_i (fun c7 => ?_) (fun c7 => no (fun q => c7 q.2.2.2.2.2.2.2)))))))
  rw [if_pos (show A.games < 400 ∧ inL A.sides a ∧ inL A.sides b ∧ a ≠ b ∧ 1 ≤ n ∧ n ≤ 120 ∧ 1 ≤ t ∧ t ≤ 2 from ⟨g4, c1, c2, c3, Int32.not_lt.mp c4, Int32.not_lt.mp c5, Int32.not_lt.mp c6, c7⟩)]
  refine rn_c (m_newGame r0 ok g4) (fun E q => rn_s ⟨?_, q.1, q.2.1.trans rfl⟩)
  show E.1 2 - 1 = A.games
  rw [q.2.2, pred1]
end Mts
