/-! take of the reference -/
section Mtk
variable {e e0 E : mE} {g n a b : Int32} {A : Bk} {s : Ps} {G : Pg} {st : Int32 → Int32 → Int32}
theorem MR.t0 (r : MR e A) : MR (mS e 16 0) (A.sI 2 0) := by
  obtain ⟨⟨a1, a2, a3, a4, a5, a6⟩, ⟨b1, b2, b3⟩, c, d, f, w⟩ := r
  refine ⟨⟨a1, a2, rfl, a4, a5, a6⟩, ⟨b1, fun i hi => ?_, b3⟩, c, d, f, HMo.cg (e := e) (d := 0) _ _ (fun n _ => ⟨fun _ _ _ => rfl, fun _ _ => rfl⟩) (fun q _ t o _ _ => rfl) w⟩
  have hi : inL 0 i := hi
  exact absurd hi.1 (Int32.not_le.mpr hi.2)
/-- a game put behind the others, in rows of its own -/
theorem FrR.addG (F : FrR e0 A.games e) (r : MR e0 A) (ok : BkOK A) (cg : A.games < 400) (h11 : e.1 11 ≤ 5800) (P : PgX e0 A.games G e) (H : HdM e A.games a b G.ovs G.each G.turns st) : MR (mS e 2 (e.1 2 + 1)) (A.addG a b st G) := by
  have r1 := F.mr r ok (fun g' h => lt_ne h.2) h11
  have i2 : e.1 2 = A.games := r1.1.2.1
  have old : ∀ g' t o, inO A g' t o → rwT e g' t o < e0.1 11 := fun g' t o q => by
    rw [((F.2.2.2.1 g' (g400 ok q.1) (lt_ne q.1.2)).2.2 t ⟨q.2.1.1, t_lt4 ok q.1 q.2.1⟩).2 o (many130 ok q.1 q.2.1 q.2.2)]
    exact (((r.2.2.1 g' q.1).2.2.2.2.2.2 t q.2.1).2 o q.2.2).1.2
  have gl : A.games < 2147483647 := Int32.lt_of_lt_of_le cg (by decide)
  have split : ∀ g', inL (A.games + 1) g' → inL A.games g' ∨ g' = A.games := fun g' h => ((i32_ls gl).mp h.2).imp (fun y => ⟨h.1, y⟩) id
  have ne : ∀ g', inL A.games g' → g' ≠ A.games := fun g' h => lt_ne h.2
  have vis : ∀ g' t' o', inO (A.addG a b st G) g' t' o' → inO A g' t' o' ∨ (g' = A.games ∧ inL G.turns t' ∧ inL (G.many t') o') := fun g' t' o' q => by
    have q1 : inL (A.games + 1) g' := q.1
    have q2 : inL (if g' = A.games then G else A.pg g').turns t' := q.2.1
    have q3 : inL ((if g' = A.games then G else A.pg g').many t') o' := q.2.2
    rcases split g' q1 with y | y
    · rw [if_neg (ne g' y)] at q2 q3
      exact Or.inl ⟨y, q2, q3⟩
    · rw [if_pos y] at q2 q3
      exact Or.inr ⟨y, q2, q3⟩
  obtain ⟨⟨a1, a2, a3, a4, a5, a6⟩, ⟨b1, b2, b3⟩, d, w, u, v⟩ := r1
  have r11 : 0 ≤ e0.1 11 := r.2.2.2.1.1
  obtain ⟨P1, P2⟩ := P
  refine ⟨⟨a1, ?_, a3, a4, a5, a6⟩, ⟨b1, b2, b3⟩, fun g' hg' => ?_, w, fun g1 t1 o1 g3 t3 o3 p q h => ?_, ?_⟩
  · show e.1 2 + 1 = A.games + 1
    rw [i2]
  · show GmR (mS e 2 (e.1 2 + 1)) g' (if g' = A.games then a else A.sd0 g') (if g' = A.games then b else A.sd1 g') (if g' = A.games then st else A.st g') (if g' = A.games then G else A.pg g')
    rcases split g' hg' with y | y
    · have n0 := ne g' y
      rw [if_neg n0, if_neg n0, if_neg n0, if_neg n0]
      exact d g' y
    · rw [if_pos y, if_pos y, if_pos y, if_pos y, y]
      obtain ⟨H1, H2, H3, H4, H5, H6⟩ := H
      refine ⟨H1, H2, H3, H4, H5, H6, fun t ht => ⟨(P1 t ht).1, fun o ho => ?_⟩⟩
      obtain ⟨w1, w2, w3, w4⟩ := (P1 t ht).2 o ho
      exact ⟨⟨i32_tr r11 w1.1, w1.2⟩, w2, w3, w4⟩
  · have h : rwT e g1 t1 o1 = rwT e g3 t3 o3 := h
    rcases vis _ _ _ p with y | ⟨y1, y2, y3⟩
    · rcases vis _ _ _ q with z | ⟨z1, z2, z3⟩
      · exact u _ _ _ _ _ _ y z h
      · exfalso
        have l1 := old _ _ _ y
        have l2 := ((P1 t3 z2).2 o3 z3).1.1
        rw [h, z1] at l1
        exact absurd l1 (Int32.not_lt.mpr l2)
    · rcases vis _ _ _ q with z | ⟨z1, z2, z3⟩
      · exfalso
        have l1 := old _ _ _ z
        have l2 := ((P1 t1 y2).2 o1 y3).1.1
        rw [← h, y1] at l1
        exact absurd l1 (Int32.not_lt.mpr l2)
      · rw [y1, z1] at h
        exact ⟨y1.trans z1.symm, P2 t1 o1 t3 o3 y2 y3 z2 z3 h⟩
  · refine HMo.pg _ A.pg _ (HMo.cg (e := e) (d := 0) _ _ (fun m _ => ⟨fun j j0 j1 => rfl, fun i _ => rfl⟩) (fun q _ t o _ _ => rfl) v) (fun q hq => ?_)
    show (if q.1 = A.games then G else A.pg q.1) = A.pg q.1
    rw [if_neg (ne q.1 (ok.2.2.2.2.2.2.2.2 q hq).1)]
/-- all was right: so was all before -/
theorem rEnd_ok (f : Int32 → Int32) (n : Int32) (A : Bk) (h : (rEnd f n A).2 = 0) : (rBody f n A).1.2 = 0 ∧ (rTn f n A).2.2 = 0 ∧ (rS2 f n A).1.2 = 0 ∧ (rS1 f n A).1.2 = 0 ∧ (rH5 f n A.sides).2.2 = 0 := by
  have a5 : (rH5 f n A.sides).2.2 = 0 := Decidable.byContradiction (fun q => q (by rw [rEnd_h f n A q] at h; exact h))
  have a2 : (rTn f n A).2.2 = 0 := Decidable.byContradiction (fun q => q (by rw [rEnd_t f n A q] at h; exact h))
  have a1 : (rBody f n A).1.2 = 0 := Decidable.byContradiction (fun q => q (by rw [rEnd_e, if_neg (fun y => q y.1)] at h; exact h))
  have a3 : (rS2 f n A).1.2 = 0 := by
    rw [rTn_e] at a2
    exact ((rNext_lo).2 a2).2.1
  refine ⟨a1, a2, a3, ?_, a5⟩
  refine Decidable.byContradiction (fun q => ?_)
  have e2 := rS2_e f n A
  generalize rS1 f n A = X at q e2
  generalize A.pl (rH3 f n A.sides).1 = m at e2
  generalize rS2 f n A = Y at a3 e2
  rw [rSts_b1 f n m 1 11 0 X.1 X.2 q] at e2
  rw [e2] at a3
  exact q a3
theorem rS_pl (n : Int32) (ok : BkOK A) (h : (rEnd A.tape n A).2 = 0) : (inL A.sides (rH2 A.tape n A.sides).1 ∧ inL A.sides (rH3 A.tape n A.sides).1) ∧ ∀ k, inL 11 k → inL (A.pl (rH2 A.tape n A.sides).1) ((rS2 A.tape n A).2 0 k) ∧ inL (A.pl (rH3 A.tape n A.sides).1) ((rS2 A.tape n A).2 1 k) := by
  obtain ⟨-, -, a3, a4, a5⟩ := rEnd_ok A.tape n A h
  have sd := rH_sd A.tape n ok.1.1 a5
  refine ⟨sd, ?_⟩
  have p2 := i32_tr (a := 0) (b := 11) (by decide) (ok.2.2.2.2.1 _ sd.1).1
  have p3 := i32_tr (a := 0) (b := 11) (by decide) (ok.2.2.2.2.1 _ sd.2).1
  have E1 := rS1_e A.tape n A
  have E2 := rS2_e A.tape n A
  have n11 : ((11 : Int32).toInt - (0 : Int32).toInt).toNat = 11 := by decide
  generalize rS1 A.tape n A = X at a4 E1 E2
  generalize rS2 A.tape n A = Y at a3 E2 ⊢
  generalize A.pl (rH2 A.tape n A.sides).1 = m2 at E1 p2 ⊢
  generalize A.pl (rH3 A.tape n A.sides).1 = m3 at E2 p3 ⊢
  generalize (rH5 A.tape n A.sides).2 = r at E1
  have q1 := rSts_b (n := n) (m := m2) (s := 0) A.tape p2 ⟨by decide, by decide⟩ 12 0 (by rw [n11]; omega) (r, seat0) (by decide) (by decide) (fun i hi hk => absurd hi.1 (Int32.not_le.mpr hk)) (by rw [n11, ← E1]; exact a4)
  rw [n11, ← E1] at q1
  have q2 := rSts_b (n := n) (m := m3) (s := 1) A.tape p3 ⟨by decide, by decide⟩ 12 0 (by rw [n11]; omega) (X.1, X.2) (by decide) (by decide) (fun i hi hk => absurd hi.1 (Int32.not_le.mpr hk)) (by rw [n11, ← E2]; exact a3)
  rw [n11, ← E2] at q2
  refine fun k hk => ⟨?_, q2.1 k hk⟩
  rw [q2.2 0 (by decide)]
  exact q1.1 k hk
theorem m_take (r : MR e A) (ok : BkOK A) (hs : TyNs s) (HR : 2 * (e.1 11).toInt + A.taped.toInt ≤ 11600) (n : Int32) : Rn (P_X12_take n e) (fun q => q.1 = (aTake s n A).1 ∧ MR q.2 (aTake s n A).2 ∧ BkOK (aTake s n A).2 ∧ 2 * (q.2.1 11).toInt + (aTake s n A).2.taped.toInt ≤ 2 * (e.1 11).toInt + A.taped.toInt) := by
  unfold P_X12_take
  have r0 := r.c0
  have i11 : (mS e 0 0).1 11 = e.1 11 := rfl
  refine rn_bd ?_
  generalize mS e 0 0 = e1 at r0 i11 ⊢
  rw [← i11] at HR ⊢
  clear i11 r
  have no : ∀ (h : ¬ (0 ≤ n ∧ n ≤ A.taped ∧ A.games < 400)), Rn (some ((-1 : Int32), e1)) (fun q => q.1 = (aTake s n A).1 ∧ MR q.2 (aTake s n A).2 ∧ BkOK (aTake s n A).2 ∧ 2 * (q.2.1 11).toInt + (aTake s n A).2.taped.toInt ≤ 2 * (e1.1 11).toInt + A.taped.toInt) := fun h => by
    have e3 : aTake s n A = (-1, A) := if_neg h
    rw [e3]
    exact rn_s ⟨rfl, r0, ok, Int.le_refl _⟩
  rw [r0.1.2.2.1, r0.1.2.1]
  refine rn_i (fun c => no (fun y => absurd y.1 (Int32.not_le.mpr c))) (fun c0 => rn_i (fun c => no (fun y => absurd y.2.1 (Int32.not_le.mpr c))) (fun c1 => rn_i (fun c => no (fun y => lt_ne y.2.2 c)) (fun c2 => ?_)))
  have n0 := Int32.not_lt.mp c0
  have nt := Int32.not_lt.mp c1
  have g4 : A.games < 400 := by
    have a := ok.2.1.2
    generalize A.games = v at a c2
    clear r0 ok no
    grind
  clear no
  refine rn_bd (rn_bd ?_)
  have ntI := Int32.le_iff_toInt_le.mp nt
  have rt := r0.t0
  have okt := ok.tape0
  have z0 : (0 : Int32).toInt = 0 := by decide
  have tI := Int32.le_iff_toInt_le.mp ok.2.2.1.1
  have n0I := Int32.le_iff_toInt_le.mp n0
  have e3 : aTake s n A = if rWrong s n A = -1 then (A.games, (A.sI 2 0).addG (rH2 A.tape n A.sides).1 (rH3 A.tape n A.sides).1 (rS2 A.tape n A).2 (rBody A.tape n A).2.1) else (-2 - rWrong s n A, A.sI 2 0) := if_pos ⟨n0, nt, g4⟩
  have IM := m_img (e0 := mS e1 16 0) (g := A.games) (A := A) (s := s) (n := n) hs ok ⟨ok.2.1.1, g4⟩ r0.1.2.1 r0.2.2.2.1.1 (by show 2 * (e1.1 11).toInt + n.toInt ≤ 11600; omega) r0.1.1 r0.2.1.1 n0 (i32_tr nt ok.2.2.1.2) (fun i hi => r0.2.1.2.1 i ⟨hi.1, Int32.lt_of_lt_of_le hi.2 nt⟩)
  refine rn_c IM ?_
  rintro ⟨z, E⟩ ⟨q1, F, rin, good⟩
  dsimp only at q1 F good
  refine rn_bd (rn_bd ?_)
  dsimp only
  have BK := rBody_ok A.tape n A
  have SP := rS_pl n ok
  have WB := rWrong_b s n A
  rw [e3]
  generalize rWrong s n A = W at q1 WB ⊢
  generalize rEnd A.tape n A = R at rin good SP WB
  have e11 : (mS e1 16 0).1 11 = e1.1 11 := rfl
  by_cases cW : W = -1
  · have zz : z = 0 := by rw [q1, cW]; decide
    have RG : R.2 = 0 := Decidable.byContradiction (fun q => by
      have := WB q
      have y := rin.1
      rw [← this, cW] at y
      exact absurd y (by decide))
    obtain ⟨⟨gA, gB⟩, P, H⟩ := good RG
    obtain ⟨sd, sp⟩ := SP RG
    rw [if_pos zz, if_pos cW]
    refine rn_bd (rn_s ⟨?_, ?_, ?_, ?_⟩)
    · show E.1 2 + 1 - 1 = A.games
      rw [pred1, F.1 2 (by decide) (by decide) (by decide)]
      exact r0.1.2.1
    · have h58 : E.1 11 ≤ 5800 := by
        have i58 : (5800 : Int32).toInt = 5800 := by decide
        rw [e11] at gB
        exact Int32.le_iff_toInt_le.mpr (by omega)
      have H' : HdM E A.games (rH2 A.tape n A.sides).1 (rH3 A.tape n A.sides).1 (rBody A.tape n A).2.1.ovs (rBody A.tape n A).2.1.each (rBody A.tape n A).2.1.turns (rS2 A.tape n A).2 := by
        rw [BK.2.1, BK.2.2]; exact H
      exact FrR.addG (A := A.sI 2 0) F rt okt g4 h58 P H'
    · exact ok_addG (A := A.sI 2 0) okt g4 sd.1 sd.2 sp BK.1
    · show 2 * (E.1 11).toInt + (0 : Int32).toInt ≤ _
      rw [e11] at gB
      omega
  · have zz : ¬ z = 0 := fun y => cW (by
      rw [y] at q1
      clear WB IM e3 BK SP good
      grind)
    rw [if_neg zz, if_neg cW]
    have F' : FrR (mS e1 16 0) A.games (mS E 11 (e1.1 11)) := by
      obtain ⟨f1, f2, f3, f4, f5⟩ := F
      exact ⟨fun k k0 k1 k2 => (if_neg k2).trans (f1 k k0 k1 k2), Int32.le_refl _, f3, f4, f5⟩
    refine rn_bd (rn_s ⟨?_, F'.mr rt okt (fun g' h => lt_ne h.2) r0.2.2.2.1.2, okt, ?_⟩)
    · show -1 - z = -2 - W
      rw [q1]
      clear WB IM e3 BK SP good rin rt r0 ok okt
      grind
    · show 2 * (e1.1 11).toInt + (0 : Int32).toInt ≤ _
      omega
end Mtk
