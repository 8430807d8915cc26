/-! The class's new book -/
def bk0 : Bk := (fun _ => 0, fun _ _ => 0, fun _ _ _ => 0, fun _ => Pg.new 1 1, [])
section Ein
variable {h : aH}
theorem nw_book (he : hE h < hz h) : Rn (F_X11_init (hz h) (nO h 13 12)) (fun h1 => Nw h 173 21367 h1 ∧ ∀ h', (∀ b, hz h ≤ b → b < hz h + 173 → cel h1 h' b) → hE h' = hE h1 → hz h + 229 ≤ hz h' → CR (hz h) h' bk0) := by
  have z1 : hz (nO h 13 12) = hz h + 1 := rfl
  have s1 : hs (nO h 13 12) = hs h + 12 := rfl
  have e1 : hE (nO h 13 12) = hE h := rfl
  have k1 : hK (nO h 13 12) (hz h) = 13 := if_pos rfl
  have c1 : ∀ b, b < hz h → cel h (nO h 13 12) b := fun b hb => cel_nO hb
  unfold F_X11_init
  generalize nO h 13 12 = hx at *
  refine mk_a (by omega) k1 (fun h2 p2 o2 => ?_)
  obtain ⟨⟨a1, a2, a3⟩, a4, a5, a6, a7, a8⟩ := o2
  refine mk_f (c := 1) (s := 3) (P := fun h1 => ∀ f kd, Ls h1 (hz h2) (hE h2) 0 0 f kd) (by omega) a5 ((new_list (by omega)).imp (fun h1 q => ⟨⟨q.1, q.2.1, q.2.2.1, q.2.2.2.1⟩, q.2.2.2.2⟩)) (fun y3 h3 p3 v3 o3 => ?_)
  obtain ⟨⟨b1, b2, b3⟩, b4, b5, b6, b7, b8⟩ := o3
  refine mk_f (by omega) b5 (nw_bytes (m := 6000) (n := 6000) (by decide) (by decide) (by decide)) (fun y4 h4 p4 v4 o4 => ?_)
  obtain ⟨⟨d1, d2, d3⟩, d4, d5, d6, d7, d8⟩ := o4
  refine mk_f (by omega) d5 (nw_bytes (m := 8000) (n := 8000) (by decide) (by decide) (by decide)) (fun y5 h5 p5 v5 o5 => ?_)
  obtain ⟨⟨f1, f2, f3⟩, f4, f5, f6, f7, f8⟩ := o5
  refine mk_f (by omega) f5 nw_ring (fun y6 h6 p6 v6 o6 => ?_)
  obtain ⟨⟨g1, g2, g3⟩, g4, g5, g6, g7, g8⟩ := o6
  refine mk_f (by omega) g5 nw_play (fun y7 h7 p7 v7 o7 => ?_)
  obtain ⟨⟨i1, i2, i3⟩, i4, i5, i6, i7, i8⟩ := o7
  refine mk_f (by omega) i5 nw_recs (fun y8 h8 p8 v8 o8 => ?_)
  obtain ⟨⟨j1, j2, j3⟩, j4, j5, j6, j7, j8⟩ := o8
  refine mk_f (by omega) j5 nw_reader (fun y9 h9 p9 v9 o9 => ?_)
  obtain ⟨⟨l1, l2, l3⟩, l4, l5, l6, l7, l8⟩ := o9
  refine rn_bd (rn_bd (rn_bd (rn_bd (rn_s ?_))))
  have C : ∀ b, b ≠ hz h → cel h9 (sF (sF (sF (sF h9 1208 (hz h) 0) 1209 (hz h) 0) 1210 (hz h) (-1)) 1211 (hz h) 1) b := fun b hb => (((cel_sF hb).trans (cel_sF hb)).trans (cel_sF hb)).trans (cel_sF hb)
  have KK : hK (sF (sF (sF (sF h9 1208 (hz h) 0) 1209 (hz h) 0) 1210 (hz h) (-1)) 1211 (hz h) 1) = hK h9 := rfl
  have GG : hG (sF (sF (sF (sF h9 1208 (hz h) 0) 1209 (hz h) 0) 1210 (hz h) (-1)) 1211 (hz h) 1) = hG h9 := rfl
  have ZZ : hz (sF (sF (sF (sF h9 1208 (hz h) 0) 1209 (hz h) 0) 1210 (hz h) (-1)) 1211 (hz h) 1) = hz h9 := rfl
  have SS : hs (sF (sF (sF (sF h9 1208 (hz h) 0) 1209 (hz h) 0) 1210 (hz h) (-1)) 1211 (hz h) 1) = hs h9 := rfl
  have EE : hE (sF (sF (sF (sF h9 1208 (hz h) 0) 1209 (hz h) 0) 1210 (hz h) (-1)) 1211 (hz h) 1) = hE h9 := rfl
  have F1 : hF (sF (sF (sF (sF h9 1208 (hz h) 0) 1209 (hz h) 0) 1210 (hz h) (-1)) 1211 (hz h) 1) 1208 (hz h) = 0 := by rw [rF_sF, if_neg (fun q => absurd q.1 (by decide)), rF_sF, if_neg (fun q => absurd q.1 (by decide)), rF_sF, if_neg (fun q => absurd q.1 (by decide)), rF_sF, if_pos ⟨rfl, rfl⟩]
  have F2 : hF (sF (sF (sF (sF h9 1208 (hz h) 0) 1209 (hz h) 0) 1210 (hz h) (-1)) 1211 (hz h) 1) 1209 (hz h) = 0 := by rw [rF_sF, if_neg (fun q => absurd q.1 (by decide)), rF_sF, if_neg (fun q => absurd q.1 (by decide)), rF_sF, if_pos ⟨rfl, rfl⟩]
  have F3 : hF (sF (sF (sF (sF h9 1208 (hz h) 0) 1209 (hz h) 0) 1210 (hz h) (-1)) 1211 (hz h) 1) 1210 (hz h) = -1 := by rw [rF_sF, if_neg (fun q => absurd q.1 (by decide)), rF_sF, if_pos ⟨rfl, rfl⟩]
  have F4 : hF (sF (sF (sF (sF h9 1208 (hz h) 0) 1209 (hz h) 0) 1210 (hz h) (-1)) 1211 (hz h) 1) 1211 (hz h) = 1 := if_pos ⟨rfl, rfl⟩
  generalize sF (sF (sF (sF h9 1208 (hz h) 0) 1209 (hz h) 0) 1210 (hz h) (-1)) 1211 (hz h) 1 = hw at *
  have D8 : ∀ b, b < hz h8 → b ≠ hz h → cel h8 hw b := fun b l n => (l4 b l n).trans (C b n)
  have D7 : ∀ b, b < hz h7 → b ≠ hz h → cel h7 hw b := fun b l n => (j4 b l n).trans (D8 b (by omega) n)
  have D6 : ∀ b, b < hz h6 → b ≠ hz h → cel h6 hw b := fun b l n => (i4 b l n).trans (D7 b (by omega) n)
  have D5 : ∀ b, b < hz h5 → b ≠ hz h → cel h5 hw b := fun b l n => (g4 b l n).trans (D6 b (by omega) n)
  have D4 : ∀ b, b < hz h4 → b ≠ hz h → cel h4 hw b := fun b l n => (f4 b l n).trans (D5 b (by omega) n)
  have D3 : ∀ b, b < hz h3 → b ≠ hz h → cel h3 hw b := fun b l n => (d4 b l n).trans (D4 b (by omega) n)
  have D2 : ∀ b, b < hz h2 → b ≠ hz h → cel h2 hw b := fun b l n => (b4 b l n).trans (D3 b (by omega) n)
  refine ⟨⟨by omega, by omega, by omega, fun b hb => ((c1 b hb).trans (a4 b (by omega) (by omega))).trans (D2 b (by omega) (by omega))⟩, fun h' cl eE zz => ?_⟩
  have Z2 : hz h2 = hz h + 2 := by omega
  have Z3 : hz h3 = hz h + 3 := by omega
  have Z4 : hz h4 = hz h + 5 := by omega
  have Z5 : hz h5 = hz h + 7 := by omega
  have Z6 : hz h6 = hz h + 129 := by omega
  have Z7 : hz h7 = hz h + 166 := by omega
  have Z8 : hz h8 = hz h + 171 := by omega
  rw [z1] at a8 p2
  rw [Z2] at b8 p3
  rw [Z3] at d8 p4
  rw [Z4] at f8 p5
  rw [Z5] at g8 p6
  rw [Z6] at i8 p7
  rw [Z7] at j8 p8
  rw [Z8] at l8 p9
  have cx := cl (hz h) (by omega) (by omega)
  have Gx : ∀ f, hG h' f (hz h) = hG h9 f (hz h) := fun f => by rw [cx.G, GG]
  have T3 : ∀ b, b ≠ hz h → hz h ≤ b → b < hz h3 → cel y3 h' b := fun b n l0 l => ((v3 b n).trans (D3 b l n)).trans (cl b l0 (by omega))
  have T4 : ∀ b, b ≠ hz h → hz h ≤ b → b < hz h4 → cel y4 h' b := fun b n l0 l => ((v4 b n).trans (D4 b l n)).trans (cl b l0 (by omega))
  have T5 : ∀ b, b ≠ hz h → hz h ≤ b → b < hz h5 → cel y5 h' b := fun b n l0 l => ((v5 b n).trans (D5 b l n)).trans (cl b l0 (by omega))
  have T6 : ∀ b, b ≠ hz h → hz h ≤ b → b < hz h6 → cel y6 h' b := fun b n l0 l => ((v6 b n).trans (D6 b l n)).trans (cl b l0 (by omega))
  have T7 : ∀ b, b ≠ hz h → hz h ≤ b → b < hz h7 → cel y7 h' b := fun b n l0 l => ((v7 b n).trans (D7 b l n)).trans (cl b l0 (by omega))
  have T8 : ∀ b, b ≠ hz h → hz h ≤ b → b < hz h8 → cel y8 h' b := fun b n l0 l => ((v8 b n).trans (D8 b l n)).trans (cl b l0 (by omega))
  have T9 : ∀ b, b ≠ hz h → hz h ≤ b → b < hz h9 → cel y9 h' b := fun b n l0 l => ((v9 b n).trans (C b n)).trans (cl b l0 (by omega))
  have T2 : cel h2 h' (hz h + 1) := (D2 _ (by omega) (by omega)).trans (cl _ (by omega) (by omega))
  have eh : hE h' = hE h := by omega
  clear c1 a4 b4 d4 f4 g4 i4 j4 l4 C D2 D3 D4 D5 D6 D7 D8
  obtain ⟨⟨r1, r2, r3, r4, r5, r6⟩, -, r7⟩ := p6
  have K6 := (T6 (hz h + 7) (by omega) (by omega) (by omega))
  have K6' := (T6 (hz h + 8) (by omega) (by omega) (by omega))
  have fx : FX (hz h) h' := by
    refine ⟨⟨?_, ?_, ?_, ?_, ?_, ?_, ?_, ?_, ?_⟩, ⟨?_, ?_⟩, ?_, ?_, ⟨⟨?_, ?_, ?_, ?_⟩, fun j hj => ?_⟩, ?_, ⟨⟨?_, ?_, ?_⟩, ?_, ?_⟩, ⟨?_, ?_, ?_, ?_⟩, by omega, zz⟩
    · rw [cx.K, KK]; exact l5
    · rw [Gx, l7 _ (by decide), j7 _ (by decide), i7 _ (by decide), g7 _ (by decide), f7 _ (by decide), d7 _ (by decide), b7 _ (by decide), a8]
    · rw [Gx, l7 _ (by decide), j7 _ (by decide), i7 _ (by decide), g7 _ (by decide), f7 _ (by decide), d7 _ (by decide), b8]
    · rw [Gx, l7 _ (by decide), j7 _ (by decide), i7 _ (by decide), g7 _ (by decide), f7 _ (by decide), d8]
    · rw [Gx, l7 _ (by decide), j7 _ (by decide), i7 _ (by decide), g7 _ (by decide), f8]
    · rw [Gx, l7 _ (by decide), j7 _ (by decide), i7 _ (by decide), g8]
    · rw [Gx, l7 _ (by decide), j7 _ (by decide), i8]
    · rw [Gx, l7 _ (by decide), j8]
    · rw [Gx, l8]
    · rw [T2.K]; exact p2.1
    · rw [T2.N]; exact p2.2.1
    · exact p4.1.sc (T4 _ (by omega) (by omega) (by omega)).scl (T4 _ (by omega) (by omega) (by omega)).scl
    · exact p5.1.sc (T5 _ (by omega) (by omega) (by omega)).scl (T5 _ (by omega) (by omega) (by omega)).scl
    · rw [K6.K]; exact r1
    · rw [K6.G]; exact r2
    · rw [K6'.K]; exact r5
    · rw [K6'.N]; exact r6
    · obtain ⟨q1, q2, q3, q4, q5, q6⟩ := r7 j hj
      have w0 := T6 (hz h + 9 + 3 * j) (by omega) (by omega) (by omega)
      have w1 := T6 (hz h + 9 + 3 * j + 1) (by omega) (by omega) (by omega)
      have w2 := T6 (hz h + 9 + 3 * j + 2) (by omega) (by omega) (by omega)
      have ea : hz h + 7 + 2 + 3 * j = hz h + 9 + 3 * j := by omega
      rw [ea] at q1 q2 q3 q4 q5 q6
      exact ⟨by rw [K6'.O]; exact q1, ⟨by rw [w0.K]; exact q2.1, by rw [w0.G]; exact q2.2⟩, by rw [w1.K]; exact q3, by rw [w1.G]; exact q4, by rw [w2.K]; exact q5, by rw [w2.N]; exact q6⟩
    · exact p7.cl (fun b b0 b1 => T7 b (by omega) (by omega) (by omega))
    · rw [(T8 _ (by omega) (by omega) (by omega)).K]; exact p8.1.1
    · rw [(T8 _ (by omega) (by omega) (by omega)).G]; exact p8.1.2.1
    · rw [(T8 _ (by omega) (by omega) (by omega)).G]; exact p8.1.2.2
    · exact p8.2.1.cl (T8 _ (by omega) (by omega) (by omega)) (T8 _ (by omega) (by omega) (by omega))
    · exact p8.2.2.cl (T8 _ (by omega) (by omega) (by omega)) (T8 _ (by omega) (by omega) (by omega))
    · rw [(T9 _ (by omega) (by omega) (by omega)).K]; exact p9.1
    · rw [(T9 _ (by omega) (by omega) (by omega)).G]; exact p9.2.1
    · rw [(T9 _ (by omega) (by omega) (by omega)).K]; exact p9.2.2.1
    · rw [(T9 _ (by omega) (by omega) (by omega)).N]; exact p9.2.2.2
  have nn : ∀ i : Int32, inL 0 i → False := fun i hi => absurd hi.1 (Int32.not_le.mpr hi.2)
  refine ⟨fun _ => (0, 0, 0, 0), fun _ _ _ _ => hE h', fun _ _ _ _ => 0, fx, ⟨fun _ _ => rfl, ?_, fun q => absurd rfl q, fun g g0 g1 => (nn g ⟨g0, g1⟩).elim⟩, ⟨?_, ?_, ?_, ?_, fun i hi => (nn i hi).elim, fun i hi => (nn i hi).elim, fun i hi => (nn i hi).elim⟩, ?_, Or.inl ?_, fun q => ?_⟩
  · have L := p3 (fun _ => hE h') 5
    have eh2 : hE h2 = hE h' := by omega
    rw [eh2] at L
    have w := T3 (hz h + 2) (by omega) (by omega) (by omega)
    obtain ⟨⟨y1, y2, y3, -, -⟩, -⟩ := L
    exact ⟨⟨by rw [w.K]; exact y1, by rw [w.G]; exact y2, by rw [w.F]; exact y3, by omega, by show hE h' < hz h'; omega⟩, ⟨by decide, by decide, by decide⟩, Or.inl ⟨rfl, rfl⟩, fun i i0 i1 => absurd i0 (Int32.not_le.mpr i1)⟩
  · rw [cx.F]; exact F1
  · rw [cx.F]; exact F2
  · rw [(T4 _ (by omega) (by omega) (by omega)).F]; exact p4.2
  · rw [(T5 _ (by omega) (by omega) (by omega)).F]; exact p5.2
  · refine ⟨39, by decide, ?_, ?_, by decide, trivial⟩
    · rw [K6.F]; exact r3
    · rw [K6.F]; exact r4
  · rw [cx.F]; exact F3
  · rw [cx.F, F4] at q
    exact absurd q (by decide)
end Ein
