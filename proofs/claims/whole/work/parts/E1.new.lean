/-! The fixed things of the book, as they are made -/
section Enx
variable {h : aH}
theorem rO_sO (h : aH) (a i b j : Nat) (v : Option Nat) : hO (sO h a i v) b j = if b = a ∧ j = i then v else hO h b j := rfl
theorem nw_bytes {m : Int32} {n : Nat} (m0 : ¬ m < 0) (en : m.toNatClampNeg = n) (nb : n ≤ 10000000) : Rn (F_X0_init (hz h) m (nO h 2 2)) (fun h1 => Nw h 2 (2 + n) h1 ∧ BtL h1 (hz h) n ∧ hF h1 101 (hz h) = 0) := by
  have z1 : hz (nO h 2 2) = hz h + 1 := rfl
  have s1 : hs (nO h 2 2) = hs h + 2 := rfl
  have e1 : hE (nO h 2 2) = hE h := rfl
  have k1 : hK (nO h 2 2) (hz h) = 2 := if_pos rfl
  have c1 : ∀ b, b < hz h → cel h (nO h 2 2) b := fun b hb => cel_nO hb
  unfold F_X0_init
  generalize nO h 2 2 = hx at *
  rw [if_neg m0]
  refine rn_bd (rn_ck ⟨m0, by rw [en]; exact nb⟩ ?_)
  rw [en]
  refine mk_a (by omega) k1 (fun h2 p2 o2 => ?_)
  obtain ⟨⟨a1, a2, a3⟩, a4, a5, a6, a7, a8⟩ := o2
  refine rn_bd (rn_s ⟨⟨?_, ?_, ?_, fun b hb => ?_⟩, ⟨a5, ?_, ?_, ?_⟩, if_pos ⟨rfl, rfl⟩⟩)
  · show hz h2 = _; omega
  · show hs h2 = _; omega
  · show hE h2 = _; omega
  · exact ((c1 b hb).trans (a4 b (by omega) (by omega))).trans (cel_sF (by omega))
  · show hG h2 100 (hz h) = _
    rw [a8, z1]
  · show hK h2 (hz h + 1) = _
    rw [← z1]; exact p2.1
  · show hN h2 (hz h + 1) = _
    rw [← z1]; exact p2.2.1
theorem nw_reader : Rn (F_X7_init (hz h) (nO h 9 5)) (fun h1 => Nw h 2 9 h1 ∧ hK h1 (hz h) = 9 ∧ hG h1 800 (hz h) = some (hz h + 1) ∧ hK h1 (hz h + 1) = 21 ∧ hN h1 (hz h + 1) = 4) := by
  have z1 : hz (nO h 9 5) = hz h + 1 := rfl
  have s1 : hs (nO h 9 5) = hs h + 5 := rfl
  have e1 : hE (nO h 9 5) = hE h := rfl
  have k1 : hK (nO h 9 5) (hz h) = 9 := if_pos rfl
  have c1 : ∀ b, b < hz h → cel h (nO h 9 5) b := fun b hb => cel_nO hb
  unfold F_X7_init
  generalize nO h 9 5 = hx at *
  refine mk_a (by omega) k1 (fun h2 p2 o2 => ?_)
  obtain ⟨⟨a1, a2, a3⟩, a4, a5, a6, a7, a8⟩ := o2
  refine rn_bd (rn_bd (rn_s ⟨⟨?_, ?_, ?_, fun b hb => ?_⟩, a5, ?_, ?_, ?_⟩))
  · show hz h2 = _; omega
  · show hs h2 = _; omega
  · show hE h2 = _; omega
  · exact (((c1 b hb).trans (a4 b (by omega) (by omega))).trans (cel_sG (by omega))).trans (cel_sF (by omega))
  · show hG (sG h2 801 (hz h) none) 800 (hz h) = _
    rw [rG_sG, if_neg (fun q => absurd q.1 (by decide)), a8, z1]
  · show hK h2 (hz h + 1) = _
    rw [← z1]; exact p2.1
  · show hN h2 (hz h + 1) = _
    rw [← z1]; exact p2.2.1
theorem nw_recs : Rn (F_X8_init (hz h) (nO h 10 2)) (fun h1 => Nw h 5 1832 h1 ∧ (hK h1 (hz h) = 10 ∧ hG h1 900 (hz h) = some (hz h + 1) ∧ hG h1 901 (hz h) = some (hz h + 3)) ∧ GrS h1 (hz h + 1) 4 6 24 ∧ GrS h1 (hz h + 3) 60 30 1800) := by
  have z1 : hz (nO h 10 2) = hz h + 1 := rfl
  have s1 : hs (nO h 10 2) = hs h + 2 := rfl
  have e1 : hE (nO h 10 2) = hE h := rfl
  have k1 : hK (nO h 10 2) (hz h) = 10 := if_pos rfl
  have c1 : ∀ b, b < hz h → cel h (nO h 10 2) b := fun b hb => cel_nO hb
  unfold F_X8_init
  generalize nO h 10 2 = hx at *
  refine mk_f (by omega) k1 (nw_grid (R := 4) (C := 6) (N := 24) (n := 24) (by decide) (by decide) (by decide) (by decide) (by decide) (by decide)) (fun y2 h2 p2 v2 o2 => ?_)
  obtain ⟨⟨a1, a2, a3⟩, a4, a5, a6, a7, a8⟩ := o2
  refine mk_f (k := fun h17 => some h17) (by omega) a5 (nw_grid (R := 60) (C := 30) (N := 1800) (n := 1800) (by decide) (by decide) (by decide) (by decide) (by decide) (by decide)) (fun y3 h3 p3 v3 o3 => ?_)
  obtain ⟨⟨b1, b2, b3⟩, b4, b5, b6, b7, b8⟩ := o3
  refine rn_s ⟨⟨by omega, by omega, by omega, fun b hb => ?_⟩, ⟨b5, ?_, ?_⟩, ?_, ?_⟩
  · exact ((c1 b hb).trans (a4 b (by omega) (by omega))).trans (b4 b (by omega) (by omega))
  · rw [b7 _ (by decide), a8, z1]
  · rw [b8, a1, z1]
  · have D : ∀ b, b ≠ hz h → b < hz h2 → cel y2 h3 b := fun b n l => (v2 b n).trans (b4 b l n)
    rw [z1] at p2
    exact p2.cl (D _ (by omega) (by omega)) (D _ (by omega) (by omega))
  · rw [show hz h2 = hz h + 3 by omega] at p3
    exact p3.cl (v3 _ (by omega)) (v3 _ (by omega))
/-! the play with its tallies -/
def IpQ (t : Nat) (i : Nat) (h : aH) : Prop := (hK h t = 8 ∧ hG h 700 t = some (t + 1) ∧ hG h 701 t = some (t + 2) ∧ hK h (t + 1) = 25 ∧ hN h (t + 1) = 4) ∧ hz h = t + 9 + 7 * i ∧ TS (t + 2) h ∧ ∀ j, j < i → hO h (t + 1) j = some (t + 9 + 7 * j) ∧ TS (t + 9 + 7 * j) h
theorem ip_loop {h0 : aH} {t : Nat} : ∀ (m i n : Nat), i + m = 4 → m < n → ∀ h, IpQ t i h → (hs h = hs h0 + 694 * i ∧ hE h = hE h0 ∧ ∀ b, b < t → cel h0 h b) → Rn (F_X6_init_25 n t (Int32.ofNat i) h) (fun h1 => IpQ t 4 h1 ∧ hs h1 = hs h0 + 694 * 4 ∧ hE h1 = hE h0 ∧ ∀ b, b < t → cel h0 h1 b)
  | 0, i, 0, _, hn, _, _, _ => absurd hn (Nat.lt_irrefl _)
  | m + 1, i, 0, _, hn, _, _, _ => absurd hn (Nat.not_lt_zero _)
  | 0, i, n + 1, hi, hn, h, q, w => by
    have i4 : i = 4 := by omega
    subst i4
    obtain ⟨⟨q1, q2, q3, q4, q5⟩, q6, q7, q8⟩ := q
    unfold F_X6_init_25
    refine rn_ck q1 (rn_o q2 (rn_ck q4 ?_))
    rw [q5]
    refine rn_p (by decide) (rn_bd (rn_s ⟨⟨⟨q1, q2, q3, q4, q5⟩, q6, q7.cl (fun b b0 b1 => cel_sF (by omega)), fun j hj => ⟨(q8 j hj).1, (q8 j hj).2.cl (fun b b0 b1 => cel_sF (by omega))⟩⟩, w.1, w.2.1, fun b hb => (w.2.2 b hb).trans (cel_sF (by omega))⟩))
  | m + 1, i, n + 1, hi, hn, h, q, w => by
    obtain ⟨⟨q1, q2, q3, q4, q5⟩, q6, q7, q8⟩ := q
    unfold F_X6_init_25
    refine rn_ck q1 (rn_o q2 (rn_ck q4 ?_))
    rw [q5]
    have ii : i = 0 ∨ i = 1 ∨ i = 2 ∨ i = 3 := by omega
    have x1 : ¬ Int32.ofNat 4 ≤ Int32.ofNat i := by rcases ii with y | y | y | y <;> subst y <;> decide
    have x2 : (Int32.ofNat i).toNatClampNeg = i := by rcases ii with y | y | y | y <;> subst y <;> decide
    have x3 : Int32.ofNat i + 1 = Int32.ofNat (i + 1) := by rcases ii with y | y | y | y <;> subst y <;> decide
    have x4 : inR (Int32.ofNat i) 4 := by rcases ii with y | y | y | y <;> subst y <;> decide
    refine rn_n x1 (rn_o q2 (rn_bd (rn_bd (rn_ck (if_pos rfl) (rn_c nw_tally ?_)))))
    rintro h1 ⟨⟨z, s', e, c⟩, ts⟩
    have K1 : hK h1 (t + 1) = 25 := by rw [(c _ (by omega)).K]; exact q4
    have N1 : hN h1 (t + 1) = 4 := by rw [(c _ (by omega)).N]; exact q5
    refine rn_ck ⟨K1, by rw [N1]; exact x4⟩ (rn_ck ts.1 (rn_bd (rn_bd ?_)))
    rw [x2, x3]
    have C : ∀ b, b ≠ t + 1 → cel h1 (sO h1 (t + 1) i (some (hz h))) b := fun b hb => cel_sO hb
    have O : ∀ j, hO (sO h1 (t + 1) i (some (hz h))) (t + 1) j = if j = i then some (hz h) else hO h1 (t + 1) j := fun j => by
      rw [rO_sO]
      by_cases y : j = i
      · rw [if_pos ⟨rfl, y⟩, if_pos y]
      · rw [if_neg (fun q => y q.2), if_neg y]
    have KK : hK (sO h1 (t + 1) i (some (hz h))) = hK h1 := rfl
    have NN : hN (sO h1 (t + 1) i (some (hz h))) = hN h1 := rfl
    have ZZ : hz (sO h1 (t + 1) i (some (hz h))) = hz h1 := rfl
    have SS : hs (sO h1 (t + 1) i (some (hz h))) = hs h1 := rfl
    have EE : hE (sO h1 (t + 1) i (some (hz h))) = hE h1 := rfl
    generalize sO h1 (t + 1) i (some (hz h)) = h2 at *
    have D : ∀ b, b < hz h → b ≠ t + 1 → cel h h2 b := fun b l n => (c b l).trans (C b n)
    refine ip_loop m (i + 1) n (by omega) (by omega) h2 ⟨⟨by rw [(D t (by omega) (by omega)).K]; exact q1, by rw [(D t (by omega) (by omega)).G]; exact q2, by rw [(D t (by omega) (by omega)).G]; exact q3, by rw [KK]; exact K1, by rw [NN]; exact N1⟩, by omega, q7.cl (fun b b0 b1 => D b (by omega) (by omega)), fun j hj => ?_⟩ ⟨by omega, by omega, fun b hb => (w.2.2 b hb).trans (D b (by omega) (by omega))⟩
    rw [O]
    by_cases y : j = i
    · rw [if_pos y, y, ← q6]
      exact ⟨rfl, ts.cl (fun b b0 b1 => C b (by omega))⟩
    · rw [if_neg y, (c _ (by omega)).O]
      have := q8 j (by omega)
      exact ⟨this.1, this.2.cl (fun b b0 b1 => D b (by omega) (by omega))⟩
theorem nw_play : Rn (F_X6_init (hz h) (nO h 8 10)) (fun h1 => Nw h 37 3484 h1 ∧ PS (hz h) h1) := by
  have z1 : hz (nO h 8 10) = hz h + 1 := rfl
  have s1 : hs (nO h 8 10) = hs h + 10 := rfl
  have e1 : hE (nO h 8 10) = hE h := rfl
  have k1 : hK (nO h 8 10) (hz h) = 8 := if_pos rfl
  have c1 : ∀ b, b < hz h → cel h (nO h 8 10) b := fun b hb => cel_nO hb
  unfold F_X6_init
  generalize nO h 8 10 = hx at *
  refine mk_a (by omega) k1 (fun h2 p2 o2 => ?_)
  obtain ⟨⟨a1, a2, a3⟩, a4, a5, a6, a7, a8⟩ := o2
  refine mk_f (by omega) a5 nw_tally (fun y3 h3 p3 v3 o3 => ?_)
  obtain ⟨⟨b1, b2, b3⟩, b4, b5, b6, b7, b8⟩ := o3
  have q : IpQ (hz h) 0 h3 := by
    refine ⟨⟨b5, by rw [b7 _ (by decide), a8, z1], by rw [b8, a1, z1], ?_, ?_⟩, by omega, ?_, fun j hj => absurd hj (Nat.not_lt_zero _)⟩
    · rw [← z1, (b4 _ (by omega) (by omega)).K]; exact p2.1
    · rw [← z1, (b4 _ (by omega) (by omega)).N]; exact p2.2.1
    · rw [show hz h2 = hz h + 2 by omega] at p3
      exact p3.cl (fun b b0 _ => v3 b (by omega))
  refine (ip_loop (h0 := h3) (t := hz h) 4 0 fu (by omega) (by show 4 < 10000000; omega) h3 q ⟨by omega, rfl, fun b _ => cel.refl _ _⟩).imp ?_
  rintro h4 ⟨⟨⟨r1, r2, r3, r4, r5⟩, r6, r7, r8⟩, w1, w2, w3⟩
  refine ⟨⟨by omega, by omega, by omega, fun b hb => (((c1 b hb).trans (a4 b (by omega) (by omega))).trans (b4 b (by omega) (by omega))).trans (w3 b hb)⟩, r1, r2, r3, r4, r5, ⟨(r8 0 (by decide)).1, (r8 1 (by decide)).1, (r8 2 (by decide)).1, (r8 3 (by decide)).1⟩, fun t => ?_⟩
  unfold ta
  repeat' split
  · exact (r8 0 (by decide)).2
  · exact (r8 1 (by decide)).2
  · exact (r8 2 (by decide)).2
  · exact (r8 3 (by decide)).2
  · exact r7
/-! the ring of changes -/
def IrQ (t : Nat) (i : Nat) (h : aH) : Prop := (hK h t = 4 ∧ hG h 300 t = some (t + 1) ∧ hF h 301 t = 0 ∧ hF h 302 t = 0 ∧ hK h (t + 1) = 24 ∧ hN h (t + 1) = 40) ∧ hz h = t + 2 + 3 * i ∧ ∀ j, j < i → hO h (t + 1) j = some (t + 2 + 3 * j) ∧ (hK h (t + 2 + 3 * j) = 3 ∧ hG h 200 (t + 2 + 3 * j) = some (t + 2 + 3 * j + 1)) ∧ hK h (t + 2 + 3 * j + 1) = 7 ∧ hG h 600 (t + 2 + 3 * j + 1) = some (t + 2 + 3 * j + 2) ∧ hK h (t + 2 + 3 * j + 2) = 21 ∧ hN h (t + 2 + 3 * j + 2) = 40
theorem i40 : ∀ i, i < 40 → (¬ Int32.ofNat 40 ≤ Int32.ofNat i) ∧ (Int32.ofNat i).toNatClampNeg = i ∧ Int32.ofNat i + 1 = Int32.ofNat (i + 1) ∧ inR (Int32.ofNat i) 40 := by decide
theorem ir_loop {h0 : aH} {t : Nat} : ∀ (m i n : Nat), i + m = 40 → m < n → ∀ h, IrQ t i h → (hs h = hs h0 + 48 * i ∧ hE h = hE h0 ∧ ∀ b, b < t → cel h0 h b) → Rn (F_X2_init_25 n t (Int32.ofNat i) h) (fun h1 => IrQ t 40 h1 ∧ hs h1 = hs h0 + 48 * 40 ∧ hE h1 = hE h0 ∧ ∀ b, b < t → cel h0 h1 b)
  | 0, i, 0, _, hn, _, _, _ => absurd hn (Nat.lt_irrefl _)
  | m + 1, i, 0, _, hn, _, _, _ => absurd hn (Nat.not_lt_zero _)
  | 0, i, n + 1, hi, hn, h, q, w => by
    have i4 : i = 40 := by omega
    subst i4
    have q' := q
    obtain ⟨⟨q1, q2, q3, q3', q4, q5⟩, q6, q8⟩ := q
    unfold F_X2_init_25
    refine rn_ck q1 (rn_o q2 (rn_ck q4 ?_))
    rw [q5]
    exact rn_p (by decide) (rn_s ⟨q', w⟩)
  | m + 1, i, n + 1, hi, hn, h, q, w => by
    obtain ⟨⟨q1, q2, q3, q3', q4, q5⟩, q6, q8⟩ := q
    unfold F_X2_init_25
    refine rn_ck q1 (rn_o q2 (rn_ck q4 ?_))
    rw [q5]
    obtain ⟨x1, x2, x3, x4⟩ := i40 i (by omega)
    refine rn_n x1 (rn_o q2 (rn_bd (rn_bd (rn_ck (if_pos rfl) (rn_c nw_chg ?_)))))
    rintro h1 ⟨⟨z, s', e, c⟩, ⟨t1, t2⟩, t3, t4, t5, t6⟩
    have K1 : hK h1 (t + 1) = 24 := by rw [(c _ (by omega)).K]; exact q4
    have N1 : hN h1 (t + 1) = 40 := by rw [(c _ (by omega)).N]; exact q5
    refine rn_ck ⟨K1, by rw [N1]; exact x4⟩ (rn_ck t1 (rn_bd (rn_bd ?_)))
    rw [x2, x3]
    have C : ∀ b, b ≠ t + 1 → cel h1 (sO h1 (t + 1) i (some (hz h))) b := fun b hb => cel_sO hb
    have O : ∀ j, hO (sO h1 (t + 1) i (some (hz h))) (t + 1) j = if j = i then some (hz h) else hO h1 (t + 1) j := fun j => by
      rw [rO_sO]
      by_cases y : j = i
      · rw [if_pos ⟨rfl, y⟩, if_pos y]
      · rw [if_neg (fun q => y q.2), if_neg y]
    have KK : hK (sO h1 (t + 1) i (some (hz h))) = hK h1 := rfl
    have NN : hN (sO h1 (t + 1) i (some (hz h))) = hN h1 := rfl
    have GG : hG (sO h1 (t + 1) i (some (hz h))) = hG h1 := rfl
    have ZZ : hz (sO h1 (t + 1) i (some (hz h))) = hz h1 := rfl
    have SS : hs (sO h1 (t + 1) i (some (hz h))) = hs h1 := rfl
    have EE : hE (sO h1 (t + 1) i (some (hz h))) = hE h1 := rfl
    generalize sO h1 (t + 1) i (some (hz h)) = h2 at *
    have D : ∀ b, b < hz h → b ≠ t + 1 → cel h h2 b := fun b l n => (c b l).trans (C b n)
    refine ir_loop m (i + 1) n (by omega) (by omega) h2 ⟨⟨by rw [(D t (by omega) (by omega)).K]; exact q1, by rw [(D t (by omega) (by omega)).G]; exact q2, by rw [(D t (by omega) (by omega)).F]; exact q3, by rw [(D t (by omega) (by omega)).F]; exact q3', by rw [KK]; exact K1, by rw [NN]; exact N1⟩, by omega, fun j hj => ?_⟩ ⟨by omega, by omega, fun b hb => (w.2.2 b hb).trans (D b (by omega) (by omega))⟩
    rw [O]
    by_cases y : j = i
    · rw [if_pos y, y, ← q6, KK, GG, NN]
      exact ⟨rfl, ⟨t1, t2⟩, t3, t4, t5, t6⟩
    · rw [if_neg y, (c _ (by omega)).O]
      have := q8 j (by omega)
      rw [(D _ (by omega) (by omega)).K, (D _ (by omega) (by omega)).K, (D _ (by omega) (by omega)).K, (D _ (by omega) (by omega)).G, (D _ (by omega) (by omega)).G, (D _ (by omega) (by omega)).N]
      exact this
theorem nw_ring : Rn (F_X2_init (hz h) (nO h 4 3)) (fun h1 => Nw h 122 1963 h1 ∧ IrQ (hz h) 40 h1) := by
  have z1 : hz (nO h 4 3) = hz h + 1 := rfl
  have s1 : hs (nO h 4 3) = hs h + 3 := rfl
  have e1 : hE (nO h 4 3) = hE h := rfl
  have k1 : hK (nO h 4 3) (hz h) = 4 := if_pos rfl
  have c1 : ∀ b, b < hz h → cel h (nO h 4 3) b := fun b hb => cel_nO hb
  unfold F_X2_init
  generalize nO h 4 3 = hx at *
  refine mk_a (by omega) k1 (fun h2 p2 o2 => rn_bd (rn_bd ?_))
  obtain ⟨⟨a1, a2, a3⟩, a4, a5, a6, a7, a8⟩ := o2
  have C : ∀ b, b ≠ hz h → cel h2 (sF (sF h2 301 (hz h) 0) 302 (hz h) 0) b := fun b hb => (cel_sF hb).trans (cel_sF hb)
  have KK : hK (sF (sF h2 301 (hz h) 0) 302 (hz h) 0) = hK h2 := rfl
  have NN : hN (sF (sF h2 301 (hz h) 0) 302 (hz h) 0) = hN h2 := rfl
  have GG : hG (sF (sF h2 301 (hz h) 0) 302 (hz h) 0) = hG h2 := rfl
  have ZZ : hz (sF (sF h2 301 (hz h) 0) 302 (hz h) 0) = hz h2 := rfl
  have SS : hs (sF (sF h2 301 (hz h) 0) 302 (hz h) 0) = hs h2 := rfl
  have EE : hE (sF (sF h2 301 (hz h) 0) 302 (hz h) 0) = hE h2 := rfl
  have F1 : hF (sF (sF h2 301 (hz h) 0) 302 (hz h) 0) 301 (hz h) = 0 := by rw [rF_sF, if_neg (fun q => absurd q.1 (by decide)), rF_sF, if_pos ⟨rfl, rfl⟩]
  have F2 : hF (sF (sF h2 301 (hz h) 0) 302 (hz h) 0) 302 (hz h) = 0 := if_pos ⟨rfl, rfl⟩
  generalize sF (sF h2 301 (hz h) 0) 302 (hz h) 0 = h3 at *
  have q : IrQ (hz h) 0 h3 := by
    refine ⟨⟨by rw [KK]; exact a5, by rw [GG, a8, z1], F1, F2, by rw [KK, ← z1]; exact p2.1, by rw [NN, ← z1]; exact p2.2.1⟩, by omega, fun j hj => absurd hj (Nat.not_lt_zero _)⟩
  refine (ir_loop (h0 := h3) (t := hz h) 40 0 fu (by omega) (by show 40 < 10000000; omega) h3 q ⟨by omega, rfl, fun b _ => cel.refl _ _⟩).imp ?_
  rintro h4 ⟨r, w1, w2, w3⟩
  have r6 := r.2.1
  exact ⟨⟨by omega, by omega, by omega, fun b hb => (((c1 b hb).trans (a4 b (by omega) (by omega))).trans (C b (by omega))).trans (w3 b hb)⟩, r⟩
end Enx
