/-! The reference reads a turn -/
theorem rEnts_pos (f : Int32 → Int32) {e : Int32} (e6 : e ≤ 6000) : ∀ n i (s : Rh × Int32 × (Int32 → Int32)), rIn e s.1 → (rEnts f e n i s).1.2 = 0 → s.1.2 = 0 ∧ s.1.1.toInt ≤ (rEnts f e n i s).1.1.toInt
  | 0, _, s, _, h => ⟨h, Int.le_refl _⟩
  | n + 1, i, s, hi, h => by
    by_cases c : s.1.2 = 0
    · rw [rEnts_s f c] at h ⊢
      have IN := rNext_in (f := f) (lo := 0) (hi := 255) hi
      have LO := (rNext_lo (f := f) (e := e) (lo := 0) (hi := 255) (r := s.1)).2
      generalize rNext f e 0 255 s.1 = X at h IN LO ⊢
      have q := rEnts_pos f e6 n (i + 1) (X.2, i + 1, rIns s.2.2 i X.1) IN h
      obtain ⟨-, -, l3, l4, -⟩ := LO q.1
      refine ⟨c, ?_⟩
      have q2 : X.2.1.toInt ≤ _ := q.2
      rw [l4] at q2
      have := i32_succ (Int32.lt_of_lt_of_le l3 e6)
      omega
    · rw [rEnts_bad f _ _ _ c] at h
      exact absurd h c
theorem m41 {w : Int32} (h0 : 0 ≤ w) (h1 : w ≤ 41) : w - 1 ≤ 40 := by grind
section Mrt
variable {e e0 eh : mE} {g n t : Int32} {f : Int32 → Int32}
def TuS (e0 eh : mE) (g n : Int32) (f : Int32 → Int32) (r : Rh) (G : Pg) (e : mE) : Prop := RdM e0 g n f r e ∧ (∀ k, (k < 9 ∨ k = 70) → ∀ i, e.2 k i = eh.2 k i) ∧ e.1 11 ≤ 5801 ∧ (r.2 = 0 → 2 * (e.1 11).toInt ≤ 2 * (e0.1 11).toInt + r.1.toInt ∧ PgX e0 g G e)
theorem m_23 {x3 : Int32} {Q : mE → Prop} (g0 : 0 ≤ g ∧ g < 400) (ht : inL 4 t) (x130 : x3 ≤ 130) (r0 : 0 ≤ e0.1 11) (HR : 2 * (e0.1 11).toInt + n.toInt ≤ 11600) : ∀ j o, (x3.toInt - o.toInt).toNat < j → ∀ e r G, 0 ≤ o → TuS e0 eh g n f r G e → PgOK G → inL G.turns t → G.many t = o → (∀ e', TuS e0 eh g n f (rOvs f n t (x3.toInt - o.toInt).toNat (r, G)).1 (rOvs f n t (x3.toInt - o.toInt).toNat (r, G)).2 e' → Rn (P_X12_readTurn_155 t e') Q) → Rn (P_X12_readTurn_23 j g t x3 o e) Q := by
  refine i32_up ?_ ?_
  · intro j o hc e r G o0 q ok ct em K
    unfold P_X12_readTurn_23
    rw [sub_none hc] at K
    exact rn_p hc (K e q)
  · intro j o hc ih e r G o0 q ok ct em K
    unfold P_X12_readTurn_23
    refine rn_n (Int32.not_le.mpr hc) ?_
    rw [show e.1 69 = r.2 from q.1.2.1.2.2]
    rw [sub_succ hc] at K
    by_cases c : r.2 = 0
    rotate_left
    · rw [if_neg c]
      have ev : rOvs f n t ((x3.toInt - (o + 1).toInt).toNat + 1) (r, G) = (r, G) := if_neg c
      rw [ev] at K
      exact K e q
    rw [if_pos c]
    have ev : rOvs f n t ((x3.toInt - (o + 1).toInt).toNat + 1) (r, G) = rOvs f n t (x3.toInt - (o + 1).toInt).toNat ((rOvE f n r).1, G.addO t (rOvB f n r).1 (rOvE f n r).2.1 (rOvE f n r).2.2) := if_pos c
    rw [ev] at K
    obtain ⟨R, fr, b58, cond⟩ := q
    obtain ⟨rb, PX⟩ := cond c
    have hin := R.2.2.1
    have n6 := R.2.2.2.1
    have z0 : (0 : Int32).toInt = 0 := by decide
    have i58 : (5800 : Int32).toInt = 5800 := by decide
    have i581 : (5801 : Int32).toInt = 5801 := by decide
    have i6 : (6000 : Int32).toInt = 6000 := by decide
    have pin := Int32.le_iff_toInt_le.mp hin.2
    have rl := Int32.le_iff_toInt_le.mp R.1.2.1
    have r0' := Int32.le_iff_toInt_le.mp r0
    have R6 : e.1 11 < 6000 := Int32.lt_iff_toInt_lt.mpr (by omega)
    have Rs := i32_succ R6
    have RK : (0 : Int32) ≤ e.1 11 ∧ e.1 11 < 6000 := ⟨i32_tr r0 R.1.2.1, R6⟩
    have o130 : inL 130 o := ⟨o0, Int32.lt_of_lt_of_le hc x130⟩
    -- the bowler
    have L1 := (rNext_lo (f := f) (e := n) (lo := 0) (hi := 15) (r := r)).2
    have S1 := rOvS_b f n r
    have B1 := rOvB_b f n r
    have OE := rOvE_ok f n r
    have EE := rOvE_e f n r
    have L2 := (rNext_lo (f := f) (e := n) (lo := 0) (hi := 41) (r := (rOvB f n r).2)).2
    have XS : rOvS f n r = rNext f n 0 41 (rOvB f n r).2 := rfl
    have XB : rOvB f n r = rNext f n 0 15 r := rfl
    refine rn_c (m_read (lo := 0) (hi := 15) R) ?_
    rintro ⟨v, e1⟩ ⟨ev1, R1, D1⟩
    dsimp only at ev1 R1 D1
    rw [← XB] at ev1 R1 L1
    refine rn_bd (rn_bd ?_)
    dsimp only
    have i11 : e1.1 11 = e.1 11 := D1.1 11 (by decide) (by decide)
    unfold P_X12_newRow
    refine rn_o (x := (e.1 11, mS (mA (mA e1 12 (e.1 11) v) 13 (e.1 11) 0) 11 (e.1 11 + 1))) ?_ (rn_bd (rn_bd ?_))
    · rw [i11, ck_t RK, bd_e, ck_t (show (0 : Int32) ≤ (mA e1 12 (e.1 11) v).1 11 ∧ (mA e1 12 (e.1 11) v).1 11 < 6000 from by rw [mA_f, i11]; exact RK), bd_e, bd_e]
      simp only [mA_f, i11]
      show some (e.1 11 + 1 - 1, _) = _
      rw [pred1]
    dsimp only
    have F2 : FrR e0 g (mS (mA (mA e1 12 (e.1 11) v) 13 (e.1 11) 0) 11 (e.1 11 + 1)) := ((R1.1.setR (Or.inl rfl) R.1.2.1).setR (Or.inr rfl) R.1.2.1).set11 (by
      show e1.1 11 ≤ _
      rw [i11]
      exact Int32.le_iff_toInt_le.mpr (by omega))
    have R2 : RdM e0 g n f (rOvB f n r).2 (mS (mA (mA e1 12 (e.1 11) v) 13 (e.1 11) 0) 11 (e.1 11 + 1)) := ⟨F2, R1.2⟩
    refine rn_c (m_read (lo := 0) (hi := 41) R2) ?_
    rintro ⟨x6, e3⟩ ⟨ev3, R3, D3⟩
    dsimp only at ev3 R3 D3
    rw [← XS] at ev3 R3 L2
    refine rn_bd (rn_bd (rn_ck RK (rn_bd ?_)))
    dsimp only
    subst ev1
    subst ev3
    have INS := R3.2.2.1
    have eb3 : e3.1 11 = e.1 11 + 1 := (D3.1 11 (by decide) (by decide)).trans rfl
    have rows3 : e3.2 = (mS (mA (mA e1 12 (e.1 11) (rOvB f n r).1) 13 (e.1 11) 0) 11 (e.1 11 + 1)).2 := D3.2
    have rows1 : e1.2 = e.2 := D1.2
    have PO := rEnts_pos f n6
    clear XS XB
    generalize rOvB f n r = XB at *
    generalize rOvS f n r = XS at *
    generalize rOvE f n r = XE at *
    have s41 := S1.2
    have s00 := S1.1
    have s40 : XS.1 - 1 ≤ 40 := m41 s00 s41
    have zz : ((XS.1 - 1).toInt - (0 : Int32).toInt).toNat = (XS.1 - 1).toInt.toNat := by rw [z0, Int.sub_zero]
    have t40 := tI40 s40
    have e3k : ∀ k, k ≠ 12 → k ≠ 13 → ∀ i, e3.2 k i = e.2 k i := fun k n1 n2 i => by
      rw [rows3]
      show (mA (mA e1 12 (e.1 11) XB.1) 13 (e.1 11) 0).2 k i = _
      rw [mA_ne n2, mA_ne n1, rows1]
    have e312 : ∀ i, e3.2 12 i = if i = e.1 11 then XB.1 else e.2 12 i := fun i => by
      rw [rows3]
      show (mA (mA e1 12 (e.1 11) XB.1) 13 (e.1 11) 0).2 12 i = _
      rw [mA_ne (by decide), mA_at, rows1]
    have e313 : ∀ i, i ≠ e.1 11 → e3.2 13 i = e.2 13 i := fun i hi => by
      rw [rows3]
      show (mA (mA e1 12 (e.1 11) XB.1) 13 (e.1 11) 0).2 13 i = _
      rw [mA_at, if_neg hi, mA_ne (by decide), rows1]
    refine m_73 (e := mA e3 13 (e.1 11) (XS.1 - 1)) R.1.2.1 RK s40 fu 0 (by rw [zz]; show _ < 10000000; omega) _ (XS.2, if 0 < XS.1 - 1 then 0 else XS.1 - 1, fun _ => 0) (by decide) ⟨R3.1.setR (Or.inr rfl) R.1.2.1, R3.2⟩ ⟨fun _ _ _ => rfl, fun _ _ _ => rfl, fun _ _ _ _ _ => rfl⟩ (fun _ h => ⟨?_, fun k hk => absurd hk.1 (Int32.not_le.mpr hk.2)⟩) (fun e5 R5 D5 H5 => ?_)
    · show (if 0 < XS.1 - 1 then 0 else XS.1 - 1) = 0
      split
      · rfl
      · exact Int32.le_antisymm (Int32.not_lt.mp (by assumption)) h
    rw [zz, ← EE] at R5 H5
    unfold P_X12_readTurn_116
    have l130 := lin130 (ix4 g0.1 g0.2 ht.1 ht.2) o130
    have i4 := ix4 g0.1 g0.2 ht.1 ht.2
    have i130 : (0 : Int32) ≤ 130 * (4 * g + t) + o ∧ 130 * (4 * g + t) + o < 208000 := by
      have a1 := Int32.le_iff_toInt_le.mp i4.1
      have a2 := Int32.lt_iff_toInt_lt.mp i4.2
      have b1 := Int32.le_iff_toInt_le.mp o130.1
      have b2 := Int32.lt_iff_toInt_lt.mp o130.2
      have e1 : (1600 : Int32).toInt = 1600 := by decide
      have e2 : (130 : Int32).toInt = 130 := by decide
      have e3 : (208000 : Int32).toInt = 208000 := by decide
      exact ⟨Int32.le_iff_toInt_le.mpr (by omega), Int32.lt_iff_toInt_lt.mpr (by omega)⟩
    have e5k : ∀ k, k ≠ 12 → k ≠ 13 → k ≠ 14 → ∀ i, e5.2 k i = e.2 k i := fun k n1 n2 n3 i => (D5.2.1 k n3 i).trans ((mA_ne n2).trans (e3k k n1 n2 i))
    have v9 : e5.2 9 (4 * g + t) = G.many t := (e5k 9 (by decide) (by decide) (by decide) _).trans (PX.1 t ct).1
    refine rn_ck i130 (rn_bd (rn_ck i4 (rn_bd ?_)))
    rw [mA_ne (show (9 : Nat) ≠ 10 by decide), v9]
    have h11 : e5.1 11 = e.1 11 + 1 := (D5.1 11 (by decide) (by decide)).trans eb3
    have am : (G.addO t XB.1 XE.2.1 XE.2.2).many t = o + 1 := by
      show (if t = t then G.many t + 1 else G.many t) = o + 1
      rw [if_pos rfl, em]
    have m130 : G.many t < 130 := by rw [em]; exact o130.2
    refine rn_bd (ih _ XE.1 (G.addO t XB.1 XE.2.1 XE.2.2) (i32_ps o0 hc) ⟨⟨(R5.1.set10 g0 ht o130).set9 g0 ht, R5.2⟩, fun k hk i => ?_, ?_, fun h => ⟨?_, ?_⟩⟩ (addO_ok ok ct m130 B1 OE.1 OE.2) ct am K)
    · rw [mA_ne (by omega), mA_ne (by omega), e5k k (by omega) (by omega) (by omega)]
      exact fr k hk i
    · show e5.1 11 ≤ 5801
      rw [h11]
      exact Int32.le_iff_toInt_le.mpr (by omega)
    · show 2 * (e5.1 11).toInt ≤ _
      rw [h11]
      have P := PO _ 0 (XS.2, if 0 < XS.1 - 1 then 0 else XS.1 - 1, fun _ => 0) INS (by rw [← EE]; exact h)
      rw [← EE] at P
      obtain ⟨-, x1, x2, x3', -⟩ := L2 P.1
      obtain ⟨-, -, y2, y3, -⟩ := L1 x1
      have P2 : XS.2.1.toInt ≤ XE.1.1.toInt := P.2
      have a1 := i32_succ (Int32.lt_of_lt_of_le x2 n6)
      have a2 := i32_succ (Int32.lt_of_lt_of_le y2 n6)
      rw [x3', a1, y3, a2] at P2
      omega
    · have siz : XE.2.1 = XS.1 - 1 ∧ ∀ k, inL (XS.1 - 1) k → e5.2 14 (40 * e.1 11 + k) = XE.2.2 k := by
        by_cases y : 0 ≤ XS.1 - 1
        · exact H5 h y
        · have y' := Int32.lt_iff_toInt_lt.mp (Int32.not_le.mp y)
          have nn : (XS.1 - 1).toInt.toNat = 0 := by omega
          have ny : ¬ 0 < XS.1 - 1 := fun w => y (Int32.le_of_lt w)
          refine ⟨?_, fun k hk => absurd (i32_tr hk.1 (Int32.le_of_lt hk.2)) y⟩
          rw [EE, nn]
          exact if_neg ny
      refine PX.addO (b := XB.1) (s := XE.2.1) (f := XE.2.2) ok g0 ct m130 r0 R.1.2.1 R6 h11 (fun i => ?_) (fun i => ?_) (fun i => ?_) (fun i => ?_) (fun r' i h1 h2 h3 => ?_) (fun i hi => ?_)
      · rw [mA_at, mA_ne (by decide), e5k 9 (by decide) (by decide) (by decide)]
      · rw [mA_ne (by decide), mA_at, em, e5k 10 (by decide) (by decide) (by decide)]
      · rw [mA_ne (by decide), mA_ne (by decide), D5.2.1 12 (by decide), mA_ne (by decide)]
        exact e312 i
      · rw [mA_ne (by decide), mA_ne (by decide), D5.2.1 13 (by decide), mA_at, siz.1]
        by_cases y : i = e.1 11
        · rw [if_pos y, if_pos y]
        · rw [if_neg y, if_neg y]; exact e313 i y
      · rw [mA_ne (by decide), mA_ne (by decide), D5.2.2 r' i h1 h2 h3, mA_ne (by decide)]
        exact e3k 14 (by decide) (by decide) _
      · rw [mA_ne (by decide), mA_ne (by decide)]
        rw [siz.1] at hi
        exact siz.2 i hi
end Mrt
