/-! The reference reads an image: its head -/
section Mih
variable {e e0 E : mE} {g n : Int32} {A : Bk} {s : Ps}
theorem m_ngr {a b ov ea : Int32} (g0 : 0 ≤ g ∧ g < 400) (hg : e.1 2 = g) : Rn (P_X12_newGame a b ov ea e) (fun E => ((∀ k, k ≠ 2 → E.1 k = e.1 k) ∧ E.1 2 = g + 1) ∧ (∀ k, k ≠ 4 → k ≠ 5 → k ≠ 6 → k ≠ 7 → k ≠ 8 → ∀ i, E.2 k i = e.2 k i) ∧ ((∀ i, E.2 4 i = if i = 2 * g + 1 then b else if i = 2 * g then a else e.2 4 i) ∧ (∀ i, E.2 5 i = if i = g then ov else e.2 5 i) ∧ (∀ i, E.2 6 i = if i = g then ea else e.2 6 i) ∧ ∀ i, E.2 8 i = if i = g then 0 else e.2 8 i) ∧ (∀ j, inL 22 j → E.2 7 (22 * g + j) = j - j / 11 * 11) ∧ ∀ g' j, (0 ≤ g' ∧ g' < 400) → g' ≠ g → inL 22 j → E.2 7 (22 * g' + j) = e.2 7 (22 * g' + j)) := by
  unfold P_X12_newGame
  have i0 : inL 2 0 := ⟨by decide, by decide⟩
  have i1 : inL 2 1 := ⟨by decide, by decide⟩
  have l0 := (lin2 g0 i0).1
  rw [ad0] at l0
  have l1 := (lin2 g0 i1).1
  rw [hg]
  refine rn_ck l0 (rn_bd (rn_ck (by rw [mA_f, hg]; exact l1) (rn_bd (rn_ck (by rw [mA_f, mA_f, hg]; exact g0) (rn_bd (rn_ck (by rw [mA_f, mA_f, mA_f, hg]; exact g0) (rn_bd (rn_ck (by rw [mA_f, mA_f, mA_f, mA_f, hg]; exact g0) (rn_bd ?_)))))))))
  simp only [mA_f, hg]
  have E1 : ∀ k, (mA (mA (mA (mA (mA e 4 (2 * g) a) 4 (2 * g + 1) b) 5 g ov) 6 g ea) 8 g 0).1 k = e.1 k := fun _ => rfl
  have E2 : ∀ k, k ≠ 4 → k ≠ 5 → k ≠ 6 → k ≠ 8 → ∀ i, (mA (mA (mA (mA (mA e 4 (2 * g) a) 4 (2 * g + 1) b) 5 g ov) 6 g ea) 8 g 0).2 k i = e.2 k i := fun k n1 n2 n3 n4 i => (mA_ne n4).trans ((mA_ne n3).trans ((mA_ne n2).trans ((mA_ne n1).trans (mA_ne n1))))
  have E4 : ∀ i, (mA (mA (mA (mA (mA e 4 (2 * g) a) 4 (2 * g + 1) b) 5 g ov) 6 g ea) 8 g 0).2 4 i = if i = 2 * g + 1 then b else if i = 2 * g then a else e.2 4 i := fun i => by rw [mA_ne (by decide), mA_ne (by decide), mA_ne (by decide), mA_at, mA_at]
  have E5 : ∀ i, (mA (mA (mA (mA (mA e 4 (2 * g) a) 4 (2 * g + 1) b) 5 g ov) 6 g ea) 8 g 0).2 5 i = if i = g then ov else e.2 5 i := fun i => by rw [mA_ne (by decide), mA_ne (by decide), mA_at, mA_ne (by decide), mA_ne (by decide)]
  have E6 : ∀ i, (mA (mA (mA (mA (mA e 4 (2 * g) a) 4 (2 * g + 1) b) 5 g ov) 6 g ea) 8 g 0).2 6 i = if i = g then ea else e.2 6 i := fun i => by rw [mA_ne (by decide), mA_at, mA_ne (by decide), mA_ne (by decide), mA_ne (by decide)]
  have E8 : ∀ i, (mA (mA (mA (mA (mA e 4 (2 * g) a) 4 (2 * g + 1) b) 5 g ov) 6 g ea) 8 g 0).2 8 i = if i = g then 0 else e.2 8 i := fun i => by rw [mA_at, mA_ne (by decide), mA_ne (by decide), mA_ne (by decide), mA_ne (by decide)]
  generalize mA (mA (mA (mA (mA e 4 (2 * g) a) 4 (2 * g + 1) b) 5 g ov) 6 g ea) 8 g 0 = D at E1 E2 E4 E5 E6 E8 ⊢
  have f22 : (22 : Int32).toInt = 22 := by decide
  have z : (0 : Int32).toInt = 0 := by decide
  refine m_ng60 (e := D) g0 (by rw [E1]; exact hg) (fun E q1 q2 q3 q4 => ⟨⟨fun k hk => ?_, rfl⟩, fun k n1 n2 n3 n4 n5 i => (q2 k n4 i).trans (E2 k n1 n2 n3 n5 i), ⟨fun i => (q2 4 (by decide) i).trans (E4 i), fun i => (q2 5 (by decide) i).trans (E5 i), fun i => (q2 6 (by decide) i).trans (E6 i), fun i => (q2 8 (by decide) i).trans (E8 i)⟩, q3, fun g' j g1 hn hj => (q4 g' j g1 hn hj).trans (E2 7 (by decide) (by decide) (by decide) (by decide) _)⟩) fu 0 (by show _ < 10000000; omega) D (by decide) (by decide) rfl (fun _ _ _ => rfl) (fun j hj => absurd hj.1 (Int32.not_le.mpr hj.2)) (fun _ _ _ _ _ => rfl)
  show (if k = 2 then _ else E.1 k) = _
  rw [if_neg hk, q1]; exact E1 k
/-- the game that is read, as it begins -/
theorem m_ngs {a b ov ea : Int32} {f : Int32 → Int32} {r : Rh} (g0 : 0 ≤ g ∧ g < 400) (hg : e0.1 2 = g) (R : RdM e0 g n f r e) (i11 : e.1 11 = e0.1 11) : Rn (P_X12_newGame a b ov ea e) (fun E => SeQ e0 g n a b ov ea f (r, seat0) (mS E 2 (E.1 2 - 1))) := by
  have hg1 : e.1 2 = g := (R.1.1 2 (by decide) (by decide) (by decide)).trans hg
  refine (m_ngr g0 hg1).imp ?_
  rintro E ⟨⟨q1, q2⟩, q3, ⟨q4, q5, q6, q8⟩, q7, q7'⟩
  have i0 : inL 2 0 := ⟨by decide, by decide⟩
  have i1 : inL 2 1 := ⟨by decide, by decide⟩
  have I : ∀ k, (mS E 2 (E.1 2 - 1)).1 k = e.1 k := fun k => by
    show (if k = 2 then E.1 2 - 1 else E.1 k) = _
    by_cases c : k = 2
    · rw [if_pos c, q2, pred1, c, hg1]
    · rw [if_neg c, q1 k c]
  have W : (mS E 2 (E.1 2 - 1)).2 = E.2 := rfl
  generalize mS E 2 (E.1 2 - 1) = D at I W ⊢
  obtain ⟨⟨f1, f2, f3, f4, f5⟩, ⟨h65, h66, h69⟩, rest⟩ := R
  have k0 : ¬ 2 * g = 2 * g + 1 := fun h => absurd (inj2 g0 i0 g0 i1 (by rw [ad0]; exact h)).2 (by decide)
  refine ⟨⟨⟨fun k a b c => (I k).trans (f1 k a b c), by rw [I]; exact f2, fun k hk i => ?_, fun g' g4 n0 => ?_, fun r r0 r1 => ?_⟩, ⟨(I 65).trans h65, (I 66).trans h66, (I 69).trans h69⟩, rest⟩, fun s k c => ?_, ?_, ?_, ?_, ?_, (I 11).trans i11⟩
  · rw [W, q3 k (by omega) (by omega) (by omega) (by omega) (by omega)]
    exact f3 k hk i
  · obtain ⟨⟨z1, z2, z3, z4, z5⟩, z6, z7⟩ := f4 g' g4 n0
    have k0 : ¬ 2 * g' = 2 * g + 1 := fun h => n0 (inj2 g4 i0 g0 i1 (by rw [ad0]; exact h)).1
    have k1 : ¬ 2 * g' = 2 * g := fun h => n0 (inj2 g4 i0 g0 i0 (by rw [ad0, ad0]; exact h)).1
    have k2 : ¬ 2 * g' + 1 = 2 * g + 1 := fun h => n0 (inj2 g4 i1 g0 i1 h).1
    have k3 : ¬ 2 * g' + 1 = 2 * g := fun h => n0 (inj2 g4 i1 g0 i0 (by rw [ad0]; exact h)).1
    refine ⟨⟨by rw [W, q4, if_neg k0, if_neg k1]; exact z1, by rw [W, q4, if_neg k2, if_neg k3]; exact z2, by rw [W, q5, if_neg n0]; exact z3, by rw [W, q6, if_neg n0]; exact z4, by rw [W, q8, if_neg n0]; exact z5⟩, fun s k c => ?_, fun t ht => ⟨?_, fun o ho => ?_⟩⟩
    · have sk := sk_22 c
      have := z6 s k c
      rw [sk.2] at this ⊢
      rw [W, q7' g' _ g4 n0 sk.1]
      exact this
    · rw [W, q3 9 (by decide) (by decide) (by decide) (by decide) (by decide)]
      exact (z7 t ht).1
    · unfold rwT
      rw [W, q3 10 (by decide) (by decide) (by decide) (by decide) (by decide)]
      exact (z7 t ht).2 o ho
  · obtain ⟨w1, w2, w3⟩ := f5 r r0 r1
    rw [W, q3 12 (by decide) (by decide) (by decide) (by decide) (by decide), q3 13 (by decide) (by decide) (by decide) (by decide) (by decide)]
    refine ⟨w1, w2, fun i hi => ?_⟩
    rw [q3 14 (by decide) (by decide) (by decide) (by decide) (by decide)]
    exact w3 i hi
  · have sk := sk_22 c
    show D.2 7 (22 * g + 11 * s + k) = seat0 s k
    rw [W, sk.2, q7 _ sk.1, sk_v c]
    unfold seat0
    rw [if_pos c]
  · rw [W, q4, if_neg k0, if_pos rfl]
  · rw [W, q4, if_pos rfl]
  · rw [W, q5, if_pos rfl]
  · rw [W, q6, if_pos rfl]
theorem rTurns0_b1 (f : Int32 → Int32) (n : Int32) (k : Nat) (t : Int32) (r : Rh) (G : Pg) (c : Int32 → Int32) (h : r.2 ≠ 0) : (rTurns0 f n k t (r, G, c)).1 = r := by rw [rTurns0_bad f k t (r, G, c) h]
theorem rSts_b1 (f : Int32 → Int32) (e m s : Int32) (n : Nat) (k : Int32) (r : Rh) (st : Int32 → Int32 → Int32) (h : r.2 ≠ 0) : rSts f e m s n k (r, st) = (r, st) := rSts_bad f n k (r, st) h
theorem rEnd_h (f : Int32 → Int32) (n : Int32) (A : Bk) (h : (rH5 f n A.sides).2.2 ≠ 0) : rEnd f n A = (rH5 f n A.sides).2 := by
  have a : (rS2 f n A).1 = (rH5 f n A.sides).2 := by
    have a1 : rS1 f n A = ((rH5 f n A.sides).2, seat0) := by
      rw [rS1_e]
      generalize A.pl (rH2 f n A.sides).1 = m
      generalize (rH5 f n A.sides).2 = X at h ⊢
      exact rSts_b1 f n m 0 11 0 X seat0 h
    rw [rS2_e, a1]
    clear a1
    generalize A.pl (rH3 f n A.sides).1 = m
    generalize (rH5 f n A.sides).2 = X at h ⊢
    rw [rSts_b1 f n m 1 11 0 X seat0 h]
  have b : rTn f n A = (0, (rH5 f n A.sides).2) := by rw [rTn_e, a, rNext_bad h]
  have c : (rBody f n A).1 = (rH5 f n A.sides).2 := by
    rw [rBody_e, b]
    generalize (rH5 f n A.sides).1 = y
    generalize (rH4 f n A.sides).1 = w
    clear a b
    generalize (rH5 f n A.sides).2 = X at h ⊢
    exact rTurns0_b1 f n _ 0 X (Pg.new w y) (fun _ => 0) h
  rw [rEnd_e, c, if_neg (fun q => h q.1)]
theorem rEnd_t (f : Int32 → Int32) (n : Int32) (A : Bk) (h : (rTn f n A).2.2 ≠ 0) : rEnd f n A = (rTn f n A).2 := by
  have c : (rBody f n A).1 = (rTn f n A).2 := by
    rw [rBody_e]
    generalize (rH5 f n A.sides).1 = y
    generalize (rH4 f n A.sides).1 = w
    generalize rTn f n A = X at h ⊢
    exact rTurns0_b1 f n _ 0 X.2 (Pg.new w y) (fun _ => 0) h
  rw [rEnd_e, c, if_neg (fun q => h q.1)]
theorem rS2_r (f : Int32 → Int32) (n : Int32) (A : Bk) : rSts f n (A.pl (rH3 f n A.sides).1) 1 11 0 (rSts f n (A.pl (rH2 f n A.sides).1) 0 11 0 ((rH5 f n A.sides).2, seat0)) = rS2 f n A := by
  rw [rS2_e, rS1_e, pair_e]
/-- from the count of overs on -/
theorem m_82 (hs : TyNs s) (ok : BkOK A) (g0 : 0 ≤ g ∧ g < 400) (hg : e0.1 2 = g) (r0 : 0 ≤ e0.1 11) (HR : 2 * (e0.1 11).toInt + n.toInt ≤ 11600) (hpl : ∀ i, inL A.sides i → e0.2 3 i = A.pl i) (R : RdM e0 g n A.tape (if (rH3 A.tape n A.sides).1 = (rH2 A.tape n A.sides).1 then rFail (rH3 A.tape n A.sides).2 else (rH3 A.tape n A.sides).2) e) (i11 : e.1 11 = e0.1 11) : Rn (P_X12_readImage_82 n g (rH2 A.tape n A.sides).1 (rH3 A.tape n A.sides).1 e) (ImQ e0 g n A s) := by
  unfold P_X12_readImage_82
  refine rn_c (m_read (lo := 1) (hi := 120) R) ?_
  rintro ⟨v4, e1⟩ ⟨ev, R1, D1⟩
  dsimp only at ev R1 D1
  rw [← rH4_e] at ev R1
  refine rn_bd (rn_bd ?_)
  dsimp only
  refine rn_c (m_read (lo := 1) (hi := 2) R1) ?_
  rintro ⟨v5, e2⟩ ⟨ev5, R2, D2⟩
  dsimp only at ev5 R2 D2
  rw [← rH5_e] at ev5 R2
  refine rn_bd (rn_bd ?_)
  dsimp only
  rw [ev, ev5]
  have h69 : e2.1 69 = (rH5 A.tape n A.sides).2.2 := R2.2.1.2.2
  have h65 : e2.1 65 = (rH5 A.tape n A.sides).2.1 := R2.2.1.1
  rw [h69]
  by_cases c : (rH5 A.tape n A.sides).2.2 = 0
  rotate_left
  · rw [if_neg c]
    have he := rEnd_h A.tape n A c
    have hb : (rEnd A.tape n A).2 ≠ 0 := by rw [he]; exact c
    refine rn_s ⟨?_, R2.1, by rw [he]; exact R2.2.2.1, fun q => absurd q hb⟩
    rw [rWrong_b s n A hb, he]
    show e2.1 65 + 1 = _
    rw [h65]
  rw [if_pos c]
  have j11 : e2.1 11 = e0.1 11 := ((D2.1 11 (by decide) (by decide)).trans (D1.1 11 (by decide) (by decide))).trans i11
  refine rn_c (m_ngs (a := (rH2 A.tape n A.sides).1) (b := (rH3 A.tape n A.sides).1) (ov := (rH4 A.tape n A.sides).1) (ea := (rH5 A.tape n A.sides).1) g0 hg R2 j11) (fun E q => rn_bd ?_)
  have sd := rH_sd A.tape n ok.1.1 c
  have s60 : ∀ i, inL A.sides i → inL 60 i := fun i hi => ⟨hi.1, Int32.lt_of_lt_of_le hi.2 ok.1.2⟩
  have n11 : ((11 : Int32).toInt - (0 : Int32).toInt).toNat = 11 := by decide
  have := m_137a (e0 := e0) (g := g) (n := n) (f := A.tape) (a := (rH2 A.tape n A.sides).1) (b := (rH3 A.tape n A.sides).1) (ov := (rH4 A.tape n A.sides).1) (ea := (rH5 A.tape n A.sides).1) (ma := A.pl (rH2 A.tape n A.sides).1) (mb := A.pl (rH3 A.tape n A.sides).1) (x1 := n) (x6 := (rH5 A.tape n A.sides).1) (Q := ImQ e0 g n A s) g0 (s60 _ sd.1) (hpl _ sd.1) (s60 _ sd.2) (hpl _ sd.2) 9999988 0 (by rw [n11]; omega) _ ((rH5 A.tape n A.sides).2, seat0) (by decide) (by decide) q ?_
  · exact this
  rw [n11, rS2_r]
  intro e3 q3
  have Z : ∀ eh : mE, eh.2 8 g = (rTn A.tape n A).1 → (∀ k, k < 8 → ∀ i, eh.2 k i = e3.2 k i) → HdM eh g (rH2 A.tape n A.sides).1 (rH3 A.tape n A.sides).1 (rH4 A.tape n A.sides).1 (rH5 A.tape n A.sides).1 (rTn A.tape n A).1 (rS2 A.tape n A).2 := fun eh h8 hk => by
    obtain ⟨-, st, h4a, h4b, h5, h6, -⟩ := q3
    exact ⟨(hk 4 (by decide) _).trans h4a, (hk 4 (by decide) _).trans h4b, fun s k c => (hk 7 (by decide) _).trans (st s k c), (hk 5 (by decide) _).trans h5, (hk 6 (by decide) _).trans h6, h8⟩
  have j3 := q3.2.2.2.2.2.2
  have := m_164 (Q := ImQ e0 g n A s) g0 r0 HR (rH4_b A.tape n A.sides) (rH5_b A.tape n A.sides) q3 j3 ?_ ?_
  · exact this
  · rw [← rTn_e, ← rBody_e]
    intro eh e' _ h8 hk T
    exact m_228 hs g0 r0 (Z eh h8 hk) T
  · rw [← rTn_e]
    intro e' c R'
    exact m_228b R' c (rEnd_t A.tape n A c)
/-- the image is read -/
theorem m_img (hs : TyNs s) (ok : BkOK A) (g0 : 0 ≤ g ∧ g < 400) (hg : e0.1 2 = g) (r0 : 0 ≤ e0.1 11) (HR : 2 * (e0.1 11).toInt + n.toInt ≤ 11600) (hsd : e0.1 1 = A.sides) (hpl : ∀ i, inL A.sides i → e0.2 3 i = A.pl i) (n0 : 0 ≤ n) (n6 : n ≤ 6000) (tp : ∀ i, inL n i → e0.2 15 i = A.tape i) : Rn (P_X12_readImage n e0) (ImQ e0 g n A s) := by
  unfold P_X12_readImage
  refine rn_bd (rn_bd (rn_bd (rn_bd ?_)))
  have hg1 : (mS (mS (mS e0 65 0) 66 n) 69 0).1 2 = g := hg
  rw [hg1]
  have R : RdM e0 g n A.tape (0, 0) (mS (mS (mS e0 65 0) 66 n) 69 0) := by
    refine ⟨?_, ⟨rfl, rfl, rfl⟩, ⟨by decide, n0⟩, n6, tp⟩
    have I : ∀ k, k < 28 → (mS (mS (mS e0 65 0) 66 n) 69 0).1 k = e0.1 k := fun k hk => by
      show (if k = 69 then _ else if k = 66 then _ else if k = 65 then _ else e0.1 k) = _
      rw [if_neg (by omega), if_neg (by omega), if_neg (by omega)]
    obtain ⟨f1, f2, f3, f4, f5⟩ := FrR.refl e0 g
    exact ⟨fun k a b c => I k b, by rw [I 11 (by decide)]; exact Int32.le_refl _, f3, f4, f5⟩
  have i11 : (mS (mS (mS e0 65 0) 66 n) 69 0).1 11 = e0.1 11 := rfl
  generalize mS (mS (mS e0 65 0) 66 n) 69 0 = e at R i11 ⊢
  refine rn_c (m_read (lo := 66) (hi := 66) R) ?_
  rintro ⟨v1, e1⟩ ⟨-, R1, D1⟩
  dsimp only at R1 D1
  refine rn_bd (rn_bd ?_)
  dsimp only
  have sd1 : e1.1 1 = A.sides := (R1.1.1 1 (by decide) (by decide) (by decide)).trans hsd
  rw [sd1]
  have R1 : RdM e0 g n A.tape (rH1 A.tape n).2 e1 := R1
  refine rn_c (m_read (lo := 0) (hi := A.sides - 1) R1) ?_
  rintro ⟨v2, e2⟩ ⟨ev2, R2, D2⟩
  dsimp only at ev2 R2 D2
  rw [← rH2_e] at ev2 R2
  refine rn_bd (rn_bd ?_)
  dsimp only
  have sd2 : e2.1 1 = A.sides := (R2.1.1 1 (by decide) (by decide) (by decide)).trans hsd
  rw [sd2]
  refine rn_c (m_read (lo := 0) (hi := A.sides - 1) R2) ?_
  rintro ⟨v3, e3⟩ ⟨ev3, R3, D3⟩
  dsimp only at ev3 R3 D3
  rw [← rH3_e] at ev3 R3
  refine rn_bd (rn_bd ?_)
  dsimp only
  rw [ev2, ev3]
  have j11 : e3.1 11 = e0.1 11 := (((D3.1 11 (by decide) (by decide)).trans (D2.1 11 (by decide) (by decide))).trans (D1.1 11 (by decide) (by decide))).trans i11
  have h69 : e3.1 69 = (rH3 A.tape n A.sides).2.2 := R3.2.1.2.2
  rw [h69]
  by_cases c : (rH3 A.tape n A.sides).2.2 = 0
  · rw [if_pos c]
    refine rn_i (fun c2 => rn_bd (rn_bd ?_)) (fun c2 => ?_)
    · obtain ⟨q', D'⟩ := R3.fail c (rH3_p A.tape n A.sides R2.2.2.1 c)
      exact m_82 hs ok g0 hg r0 HR hpl (by rw [if_pos c2.symm]; exact q') ((D'.1 11 (by decide) (by decide)).trans j11)
    · exact m_82 hs ok g0 hg r0 HR hpl (by rw [if_neg (fun y => c2 y.symm)]; exact R3) j11
  · rw [if_neg c]
    refine m_82 hs ok g0 hg r0 HR hpl ?_ j11
    have ef : rFail (rH3 A.tape n A.sides).2 = (rH3 A.tape n A.sides).2 := if_neg c
    rw [ef, show (if (rH3 A.tape n A.sides).1 = (rH2 A.tape n A.sides).1 then (rH3 A.tape n A.sides).2 else (rH3 A.tape n A.sides).2) = (rH3 A.tape n A.sides).2 by split <;> rfl]
    exact R3
end Mih
