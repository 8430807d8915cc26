/-! Behind the reading: the play and the place of the first wrong byte -/
section Mie
variable {e e0 eh E : mE} {g n : Int32} {A : Bk} {s : Ps}
theorem nOvs_mo {G : Pg} {t : Int32} : ∀ n d o, nOvs G t n o ≤ nOvs G t (n + d) o
  | 0, _, _ => Nat.zero_le _
  | n + 1, d, o => by
    have := nOvs_mo (G := G) (t := t) n d (o + 1)
    rw [show n + 1 + d = (n + d) + 1 by omega, nOvs_s, nOvs_s]
    omega
theorem FrR.low (F : FrR e0 g e) (h : lowE e E) (h71 : ∀ i, E.2 71 i = e.2 71 i) : FrR e0 g E := by
  obtain ⟨f1, f2, f3, f4, f5⟩ := F
  refine ⟨fun k k0 k1 k2 => (h.1 k k0 k1).trans (f1 k k0 k1 k2), by rw [h.1 11 (by decide) (by decide)]; exact f2, fun k hk i => ?_, fun g' h1 h2 => ?_, fun r r0 r1 => ?_⟩
  · by_cases c : k = 71
    · rw [c, h71]; exact f3 71 (by omega) i
    · rw [h.2 k i (by omega)]; exact f3 k hk i
  · obtain ⟨⟨z1, z2, z3, z4, z5⟩, z6, z7⟩ := f4 g' h1 h2
    exact ⟨⟨(h.2 4 _ (by decide)).trans z1, (h.2 4 _ (by decide)).trans z2, (h.2 5 _ (by decide)).trans z3, (h.2 6 _ (by decide)).trans z4, (h.2 8 _ (by decide)).trans z5⟩, fun s' k' c => (h.2 7 _ (by decide)).trans (z6 s' k' c), fun t ht => ⟨(h.2 9 _ (by decide)).trans (z7 t ht).1, fun o ho => (rwT_low h _ _ _).trans ((z7 t ht).2 o ho)⟩⟩
  · obtain ⟨w1, w2, w3⟩ := f5 r r0 r1
    exact ⟨(h.2 12 _ (by decide)).trans w1, (h.2 13 _ (by decide)).trans w2, fun i hi => (h.2 14 _ (by decide)).trans (w3 i hi)⟩
theorem PgX.low {G : Pg} (P : PgX e0 g G e) (h : lowE e E) : PgX e0 g G E := by
  obtain ⟨P1, P2⟩ := P
  refine ⟨fun t ht => ⟨(h.2 9 _ (by decide)).trans (P1 t ht).1, fun o ho => ?_⟩, fun t o t' o' a b c d w => P2 t o t' o' a b c d (by rw [← rwT_low h, ← rwT_low h]; exact w)⟩
  obtain ⟨w1, w2, w3, w4⟩ := (P1 t ht).2 o ho
  rw [rwT_low h, h.1 11 (by decide) (by decide)]
  exact ⟨w1, (h.2 12 _ (by decide)).trans w2, (h.2 13 _ (by decide)).trans w3, fun i hi => (h.2 14 _ (by decide)).trans (w4 i hi)⟩
/-- the head and the seats of the game that was read -/
def HdM (e : mE) (g a b ov ea tn : Int32) (st : Int32 → Int32 → Int32) : Prop := e.2 4 (2 * g) = a ∧ e.2 4 (2 * g + 1) = b ∧ (∀ s k, gin 2 11 s k → e.2 7 (22 * g + 11 * s + k) = st s k) ∧ e.2 5 g = ov ∧ e.2 6 g = ea ∧ e.2 8 g = tn
theorem HdM.cg {a b ov ea tn : Int32} {st : Int32 → Int32 → Int32} (H : HdM e g a b ov ea tn st) (h : ∀ k, k < 9 → ∀ i, E.2 k i = e.2 k i) : HdM E g a b ov ea tn st := by
  obtain ⟨h1, h2, h3, h4, h5, h6⟩ := H
  exact ⟨(h 4 (by decide) _).trans h1, (h 4 (by decide) _).trans h2, fun s k c => (h 7 (by decide) _).trans (h3 s k c), (h 5 (by decide) _).trans h4, (h 6 (by decide) _).trans h5, (h 8 (by decide) _).trans h6⟩
/-- behind the reading of an image -/
def ImQ (e0 : mE) (g n : Int32) (A : Bk) (s : Ps) (q : Int32 × mE) : Prop := q.1 = rWrong s n A + 1 ∧ FrR e0 g q.2 ∧ rIn n (rEnd A.tape n A) ∧ ((rEnd A.tape n A).2 = 0 → (q.2.1 11 ≤ 5801 ∧ 2 * (q.2.1 11).toInt ≤ 2 * (e0.1 11).toInt + n.toInt) ∧ PgX e0 g (rBody A.tape n A).2.1 q.2 ∧ HdM q.2 g (rH2 A.tape n A.sides).1 (rH3 A.tape n A.sides).1 (rH4 A.tape n A.sides).1 (rH5 A.tape n A.sides).1 (rBody A.tape n A).2.1.turns (rS2 A.tape n A).2)
theorem rWrong_b (s : Ps) (n : Int32) (A : Bk) (h : (rEnd A.tape n A).2 ≠ 0) : rWrong s n A = (rEnd A.tape n A).1 := if_neg h
theorem rWrong_g (s : Ps) (n : Int32) (A : Bk) (h : (rEnd A.tape n A).2 = 0) : rWrong s n A = rRes (s.play (rBody A.tape n A).2.1) (rBody A.tape n A).2.1 (rBody A.tape n A).2.2 := if_pos h
/-- something was wrong already -/
theorem m_228b {r : Rh} (R : RdM e0 g n A.tape r e) (hr : r.2 ≠ 0) (he : rEnd A.tape n A = r) : Rn (P_X12_readImage_228 n g e) (ImQ e0 g n A s) := by
  obtain ⟨F, ⟨h65, h66, h69⟩, hin, n6, hf⟩ := R
  unfold P_X12_readImage_228 P_X12_readImage_248
  have n69 : ¬ e.1 69 = 0 := by rw [h69]; exact hr
  rw [if_neg n69, if_neg n69]
  have hb : (rEnd A.tape n A).2 ≠ 0 := by rw [he]; exact hr
  refine rn_s ⟨?_, F, by rw [he]; exact hin, fun q => absurd q hb⟩
  rw [rWrong_b s n A hb, he]
  show e.1 65 + 1 = r.1 + 1
  rw [h65]
theorem plc_ne {G : Pg} {S : Ps} (ok : PgOK G) (h : inL G.turns S.bt ∧ ((S.bo = -1 ∧ S.be = -1) ∨ (inL (G.many S.bt) S.bo ∧ (S.be = -1 ∨ inL (G.siz S.bt S.bo) S.be)))) : plc G S.bt S.bo S.be ≠ -1 := by
  have b := plc_b ok h ?_
  · intro q
    rw [q] at b
    exact absurd b (by decide)
  · have m := nT_b ok h.1
    have tl : S.bt < 1000 := Int32.lt_of_lt_of_le h.1.2 (i32_tr ok.t4 (by decide))
    rw [nTurns_t h.1.1 tl] at m
    have k : nOvs G S.bt S.bo.toInt.toNat 0 ≤ nOvs G S.bt (G.many S.bt).toInt.toNat 0 := by
      have le : S.bo.toInt.toNat ≤ (G.many S.bt).toInt.toNat := by
        rcases h.2 with ⟨y, -⟩ | ⟨y, -⟩
        · rw [y]
          exact Nat.zero_le _
        · have := Int32.lt_iff_toInt_lt.mp y.2
          omega
      have := nOvs_mo (G := G) (t := S.bt) S.bo.toInt.toNat ((G.many S.bt).toInt.toNat - S.bo.toInt.toNat) 0
      rw [show S.bo.toInt.toNat + ((G.many S.bt).toInt.toNat - S.bo.toInt.toNat) = (G.many S.bt).toInt.toNat by omega] at this
      exact this
    omega
theorem rBody_n (f : Int32 → Int32) (n : Int32) (A : Bk) (h : (rBody f n A).1.2 = 0) : (rBody f n A).2.1.turns = (rTn f n A).1 := by
  rw [rBody_e] at h ⊢
  have z0 : (0 : Int32).toInt = 0 := by decide
  obtain ⟨b0, b1, b2⟩ := rTn_b f n A
  have H4 := rH4_b f n A.sides
  have H5 := rH5_b f n A.sides
  generalize rTn f n A = X at h b0 b1 b2 ⊢
  generalize (rH4 f n A.sides).1 = ov at h H4 ⊢
  generalize (rH5 f n A.sides).1 = ea at h H5 b1 b2 ⊢
  have zz : (X.1.toInt - (0 : Int32).toInt).toNat = X.1.toInt.toNat := by rw [z0, Int.sub_zero]
  have t4 := le_i (i32_tr b1 b2) (by decide : (4 : Int32).toInt = 4)
  have := rTurns0_n f (n := n) (m := X.1) 10 0 (by rw [zz]; omega) (X.2, Pg.new ov ea, fun _ => 0) (new_ok H4 H5) rfl b1 b0
  rw [zz] at this
  exact this h
/-- all was read: is it the end, and how the play goes -/
theorem m_228 (hs : TyNs s) (g0 : 0 ≤ g ∧ g < 400) (r0 : 0 ≤ e0.1 11) (H : HdM eh g (rH2 A.tape n A.sides).1 (rH3 A.tape n A.sides).1 (rH4 A.tape n A.sides).1 (rH5 A.tape n A.sides).1 (rTn A.tape n A).1 (rS2 A.tape n A).2) (q : TuT e0 eh g n A.tape (rBody A.tape n A) e) : Rn (P_X12_readImage_228 n g e) (ImQ e0 g n A s) := by
  have BN := rBody_n A.tape n A
  have BK := rBody_ok A.tape n A
  have EE := rEnd_e A.tape n A
  have WB := rWrong_b s n A
  have WG := rWrong_g s n A
  by_cases cb : (rBody A.tape n A).1.2 = 0
  rotate_left
  · exact m_228b q.1 cb (by rw [EE, if_neg (fun y => cb y.1)])
  unfold P_X12_readImage_228
  unfold ImQ
  generalize rBody A.tape n A = B at q BN BK EE WG cb ⊢
  generalize rEnd A.tape n A = R at EE WB WG ⊢
  generalize rWrong s n A = W at WB WG ⊢
  have BN := BN cb
  obtain ⟨ok, ov, ea⟩ := BK
  generalize (rTn A.tape n A).1 = tn at H BN
  generalize (rH2 A.tape n A.sides).1 = a at H ⊢
  generalize (rH3 A.tape n A.sides).1 = b at H ⊢
  generalize (rH4 A.tape n A.sides).1 = o4 at H ov ⊢
  generalize (rH5 A.tape n A.sides).1 = e5 at H ea ⊢
  generalize (rS2 A.tape n A).2 = st at H ⊢
  obtain ⟨⟨F, ⟨h65, h66, h69⟩, hin, n6, hf⟩, q9, q11, qg⟩ := q
  rw [if_pos (show e.1 69 = 0 by rw [h69]; exact cb), h65]
  by_cases c : n ≤ B.1.1
  rotate_left
  · rw [if_neg c]
    refine rn_bd ?_
    unfold P_X12_readImage_248
    rw [if_neg (show ¬ (mS e 69 1).1 69 = 0 by show ¬ (1 : Int32) = 0; decide)]
    have D : rdE e (mS e 69 1) := ⟨fun k _ n2 => if_neg n2, rfl⟩
    rw [if_pos (show B.1.2 = 0 ∧ B.1.1 < n from ⟨cb, Int32.not_le.mp c⟩)] at EE
    have n2 : R.2 ≠ 0 := by rw [EE]; show ¬ (1 : Int32) = 0; decide
    refine rn_s ⟨?_, F.rd D, by rw [EE]; exact hin, fun y => absurd y n2⟩
    rw [WB n2, EE]
    show e.1 65 + 1 = B.1.1 + 1
    rw [h65]
  rw [if_pos c]
  unfold P_X12_readImage_248
  rw [if_pos (show e.1 69 = 0 by rw [h69]; exact cb)]
  rw [if_neg (show ¬ (B.1.2 = 0 ∧ B.1.1 < n) from fun y => absurd y.2 (Int32.not_lt.mpr c))] at EE
  have g2 : R.2 = 0 := by rw [EE]; exact cb
  obtain ⟨gr, P, sc⟩ := qg cb
  obtain ⟨H1, H2, H3, H4, H5, H6⟩ := H
  have e8 : e.2 8 g = B.2.1.turns := ((q9 8 (by decide) g).trans H6).trans BN.symm
  have pw : PgW e g B.2.1 := P.pgW ok g0 r0 q11 (((q9 5 (by decide) g).trans H4).trans ov.symm) (((q9 6 (by decide) g).trans H5).trans ea.symm) e8
  obtain ⟨e2, p1, p2⟩ := r_play pw hs
  refine rn_o p1 ?_
  have tq := fun q q0 q1 => FR.tq pw p2 (q := q) q0 q1
  obtain ⟨t, t0, t1, t2, I⟩ := p2
  have l : lowE e e2 := ⟨fun k k0 k1 => I.2.1.2.2.2.2.2.2 k (Or.inl k1), fun k i hk => I.1 k i (Or.inl (by omega))⟩
  have pf : PlF e2 g B.2.1 (s.play B.2.1) B.2.2 := by
    refine ⟨g0, ok, (l.2 8 _ (by decide)).trans e8, ⟨I.2.1.1, I.2.1.2.1, I.2.1.2.2.1, I.2.1.2.2.2.1⟩, fun t ht => ?_⟩
    have T := tq t ht.1 ht.2
    have P' := P.low l
    refine ⟨⟨(P'.1 t ht).1, T.1 1 (by decide), T.2.2.2.2.2.2.2.1, (I.1 70 t (by omega)).trans (sc t ht)⟩, fun o ho => ?_⟩
    obtain ⟨w1, w2, w3, w4⟩ := (P'.1 t ht).2 o ho
    refine ⟨⟨i32_tr r0 w1.1, Int32.lt_of_lt_of_le w1.2 ?_⟩, w3⟩
    rw [l.1 11 (by decide) (by decide)]
    exact i32_tr q11 (by decide)
  have mw := m_wrong pf (fun y => ⟨play_bad ok s y, plc_ne ok (play_bad ok s y)⟩)
  refine rn_o mw (rn_bd (rn_bd (rn_s ⟨?_, F.low l (fun i => I.1 71 i (by omega)), by rw [EE]; exact hin, fun _ => ⟨⟨?_, ?_⟩, P.low l, ?_⟩⟩)))
  · rw [WG g2]
  · show e2.1 11 ≤ 5801
    rw [l.1 11 (by decide) (by decide)]
    exact q11
  · show 2 * (e2.1 11).toInt ≤ _
    rw [l.1 11 (by decide) (by decide)]
    have := Int32.le_iff_toInt_le.mp hin.2
    omega
  · rw [BN]
    exact HdM.cg (e := eh) ⟨H1, H2, H3, H4, H5, H6⟩ (fun k hk i => (l.2 k i (by omega)).trans (q9 k hk i))
end Mie
