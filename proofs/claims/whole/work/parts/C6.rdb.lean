/-! The reference reads all turns -/
section Mrb
variable {e e0 eh : mE} {g n : Int32} {f : Int32 → Int32} {Q : Int32 × mE → Prop}
theorem rTurns0_bad (f : Int32 → Int32) {e : Int32} : ∀ n t (s : Rh × Pg × (Int32 → Int32)), s.1.2 ≠ 0 → rTurns0 f e n t s = s
  | 0, _, _, _ => rfl
  | n + 1, t, s, h => if_neg h
theorem rTurns0_s (f : Int32 → Int32) {e t : Int32} {n : Nat} {s : Rh × Pg × (Int32 → Int32)} (h : s.1.2 = 0) : rTurns0 f e (n + 1) t s = rTurns0 f e n (t + 1) (rTurn1 f e t s) := if_pos h
theorem m_197 {tn ea : Int32} (g0 : 0 ≤ g ∧ g < 400) (r0 : 0 ≤ e0.1 11) (HR : 2 * (e0.1 11).toInt + n.toInt ≤ 11600) (h8 : eh.2 8 g = tn) (hea : tn ≤ 2 * ea) : ∀ j t, (tn.toInt - t.toInt).toNat < j → ∀ e s, 0 ≤ t → TuT e0 eh g n f s e → (s.1.2 = 0 → PgOK s.2.1 ∧ s.2.1.turns = t ∧ s.2.1.each = ea) → (∀ e', TuT e0 eh g n f (rTurns0 f n (tn.toInt - t.toInt).toNat t s) e' → Rn (P_X12_readImage_228 n g e') Q) → Rn (P_X12_readImage_197 j n g t e) Q := by
  refine i32_up ?_ ?_
  · intro j t hc e s t0 q H K
    unfold P_X12_readImage_197
    rw [q.2.1 8 (by decide) g, h8]
    rw [sub_none hc] at K
    exact rn_ck g0 (rn_p hc (K e q))
  · intro j t hc ih e s t0 q H K
    unfold P_X12_readImage_197
    rw [q.2.1 8 (by decide) g, h8]
    refine rn_ck g0 (rn_n (Int32.not_le.mpr hc) ?_)
    rw [show e.1 69 = s.1.2 from q.1.2.1.2.2]
    by_cases c : s.1.2 = 0
    rotate_left
    · rw [if_neg c]
      rw [rTurns0_bad f _ _ _ c] at K
      exact K e q
    rw [if_pos c]
    rw [sub_succ hc, rTurns0_s f c] at K
    obtain ⟨ok, et, ee⟩ := H c
    have tl : t < 2 * s.2.1.each := by rw [ee]; exact Int32.lt_of_lt_of_le hc hea
    have T1 := rT1_ok f n s ok et tl
    refine rn_c (m_readTurn g0 r0 HR q c ok et tl) (fun e1 q1 => rn_bd (ih e1 _ (i32_ps t0 hc) q1 (fun _ => ⟨?_, ?_, ?_⟩) K))
    · rw [rTurn1_e]; exact T1.1
    · rw [rTurn1_e]; exact T1.2.1
    · rw [rTurn1_e]; exact T1.2.2.2.trans ee
theorem FrR.set8 {v : Int32} (F : FrR e0 g e) : FrR e0 g (mA e 8 g v) := by
  obtain ⟨f1, f2, f3, f4, f5⟩ := F
  refine ⟨f1, f2, fun k' hk' i => (mA_ne (by omega)).trans (f3 k' hk' i), fun g' h1 h2 => ?_, fun r' r0 r1 => ?_⟩
  · obtain ⟨⟨z1, z2, z3, z4, z5⟩, z6, z7⟩ := f4 g' h1 h2
    exact ⟨⟨(mA_ne (by omega)).trans z1, (mA_ne (by omega)).trans z2, (mA_ne (by omega)).trans z3, (mA_ne (by omega)).trans z4, (if_neg (fun y => h2 y.2)).trans z5⟩, fun s' k' c => (mA_ne (by omega)).trans (z6 s' k' c), fun t' ht' => ⟨(mA_ne (by omega)).trans (z7 t' ht').1, fun o' ho' => (mA_ne (by omega)).trans ((z7 t' ht').2 o' ho')⟩⟩
  · obtain ⟨w1, w2, w3⟩ := f5 r' r0 r1
    exact ⟨(mA_ne (by omega)).trans w1, (mA_ne (by omega)).trans w2, fun i hi => (mA_ne (by omega)).trans (w3 i hi)⟩
/-- the count of turns, and all turns -/
theorem m_164 {a b ov ea : Int32} {z : Rh × (Int32 → Int32 → Int32)} (g0 : 0 ≤ g ∧ g < 400) (r0 : 0 ≤ e0.1 11) (HR : 2 * (e0.1 11).toInt + n.toInt ≤ 11600) (hov : 1 ≤ ov ∧ ov ≤ 120) (hea : ea = 1 ∨ ea = 2) (q : SeQ e0 g n a b ov ea f z e) (h11 : e.1 11 = e0.1 11) (K : ∀ eh e', (rNext f n 0 (2 * ea) z.1).2.2 = 0 → eh.2 8 g = (rNext f n 0 (2 * ea) z.1).1 → (∀ k, k < 8 → ∀ i, eh.2 k i = e.2 k i) → TuT e0 eh g n f (rTurns0 f n (rNext f n 0 (2 * ea) z.1).1.toInt.toNat 0 ((rNext f n 0 (2 * ea) z.1).2, Pg.new ov ea, fun _ => 0)) e' → Rn (P_X12_readImage_228 n g e') Q) (K2 : ∀ e', (rNext f n 0 (2 * ea) z.1).2.2 ≠ 0 → RdM e0 g n f (rNext f n 0 (2 * ea) z.1).2 e' → Rn (P_X12_readImage_228 n g e') Q) : Rn (P_X12_readImage_164 n g ea e) Q := by
  unfold P_X12_readImage_164
  obtain ⟨R, st, h4a, h4b, h5, h6⟩ := q
  have LO := (rNext_lo (f := f) (e := n) (lo := 0) (hi := 2 * ea) (r := z.1)).1
  have l2 : (0 : Int32) ≤ 2 * ea := by rcases hea with y | y <;> rw [y] <;> decide
  have l4 : (2 : Int32) * ea ≤ 4 := by rcases hea with y | y <;> rw [y] <;> decide
  have HI := rNext_hi (f := f) (e := n) (lo := 0) (hi := 2 * ea) (r := z.1) l2
  refine rn_c (m_read (lo := 0) (hi := 2 * ea) R) ?_
  rintro ⟨tn, e1⟩ ⟨ev, R1, D1⟩
  dsimp only at ev R1 D1
  generalize rNext f n 0 (2 * ea) z.1 = X at ev R1 K K2 LO HI
  subst ev
  refine rn_bd (rn_bd ?_)
  dsimp only
  rw [show e1.1 69 = X.2.2 from R1.2.1.2.2]
  have i11 : e1.1 11 = e0.1 11 := (D1.1 11 (by decide) (by decide)).trans h11
  have z0 : (0 : Int32).toInt = 0 := by decide
  have t4 := le_i (i32_tr HI l4) (by decide : (4 : Int32).toInt = 4)
  have zz : (X.1.toInt - (0 : Int32).toInt).toNat = X.1.toInt.toNat := by rw [z0, Int.sub_zero]
  by_cases c : X.2.2 = 0
  · rw [if_pos c]
    refine rn_ck g0 (rn_bd (m_197 (eh := mA e1 8 g X.1) g0 r0 HR (by rw [mA_at, if_pos rfl]) HI fu 0 (by rw [zz]; show _ < 10000000; omega) _ (X.2, Pg.new ov ea, fun _ => 0) (by decide) ⟨⟨R1.1.set8, R1.2⟩, fun _ _ _ => rfl, ?_, fun _ => ⟨?_, ⟨fun t ht => absurd ht.1 (Int32.not_le.mpr ht.2), fun t o t' o' ht => absurd ht.1 (Int32.not_le.mpr ht.2)⟩, fun q hq => absurd hq.1 (Int32.not_le.mpr hq.2)⟩⟩ (fun _ => ⟨new_ok hov hea, rfl, rfl⟩) (fun e' q' => K (mA e1 8 g X.1) e' c (by rw [mA_at, if_pos rfl]) (fun k hk i => by rw [mA_ne (by omega), D1.2]) (by rw [zz] at q'; exact q'))))
    · show e1.1 11 ≤ 5801
      rw [i11]
      have a := Int32.le_iff_toInt_le.mp R.2.2.1.1
      have b := Int32.le_iff_toInt_le.mp R.2.2.1.2
      have i58 : (5801 : Int32).toInt = 5801 := by decide
      exact Int32.le_iff_toInt_le.mpr (by omega)
    · show 2 * (e1.1 11).toInt ≤ _
      rw [i11]
      have := Int32.le_iff_toInt_le.mp R1.2.2.1.1
      dsimp only
      omega
  · rw [if_neg c]
    refine rn_ck g0 (rn_bd ?_)
    show Rn (P_X12_readImage_197 (9999999 + 1) n g 0 (mA e1 8 g 0)) Q
    unfold P_X12_readImage_197
    rw [mA_at, if_pos rfl]
    exact rn_ck g0 (rn_p (by decide) (K2 _ c ⟨R1.1.set8, R1.2⟩))
end Mrb
