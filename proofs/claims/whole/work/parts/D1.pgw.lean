/-! The page that was read can be played -/
section Mpp
variable {e e0 : mE} {g : Int32} {G : Pg}
theorem PgX.pgW (P : PgX e0 g G e) (ok : PgOK G) (g0 : 0 ≤ g ∧ g < 400) (r0 : 0 ≤ e0.1 11) (h11 : e.1 11 ≤ 5801) (h5 : e.2 5 g = G.ovs) (h6 : e.2 6 g = G.each) (h8 : e.2 8 g = G.turns) : PgW e g G := by
  obtain ⟨P1, P2⟩ := P
  obtain ⟨o1, o2, o3, o4⟩ := ok
  refine ⟨g0, h6, o1, h5, o2, h8, o3, fun q q0 q1 => ?_, fun q q' o o' a1 a2 b1 b2 c1 c2 d1 d2 w => P2 q o q' o' ⟨a1, a2⟩ ⟨c1, c2⟩ ⟨b1, b2⟩ ⟨d1, d2⟩ w⟩
  obtain ⟨y1, y2⟩ := o4 q q0 q1
  obtain ⟨z1, z2⟩ := P1 q ⟨q0, q1⟩
  refine ⟨z1, y1.1, y1.2, fun o o0 o1 => ?_⟩
  obtain ⟨w1, w2, w3, w4⟩ := z2 o ⟨o0, o1⟩
  obtain ⟨v1, v2, v3⟩ := y2 o o0 o1
  exact ⟨rfl, ⟨i32_tr r0 w1.1, Int32.lt_of_lt_of_le w1.2 (i32_tr h11 (by decide))⟩, ⟨w3, w2, v2.2, fun i i0 i1 => ⟨w4 i ⟨i0, i1⟩, v3 i i0 i1⟩⟩, v1.1, v2.1⟩
theorem rTurns0_n (f : Int32 → Int32) {n m : Int32} : ∀ j t, (m.toInt - t.toInt).toNat < j → ∀ (s : Rh × Pg × (Int32 → Int32)), PgOK s.2.1 → s.2.1.turns = t → m ≤ 2 * s.2.1.each → t ≤ m → (rTurns0 f n (m.toInt - t.toInt).toNat t s).1.2 = 0 → (rTurns0 f n (m.toInt - t.toInt).toNat t s).2.1.turns = m := by
  refine i32_up ?_ ?_
  · intro j t hc s ok et me tm h
    rw [sub_none hc] at h ⊢
    show s.2.1.turns = m
    rw [et]
    exact Int32.le_antisymm tm hc
  · intro j t hc ih s ok et me tm h
    rw [sub_succ hc] at h ⊢
    by_cases c : s.1.2 = 0
    · rw [rTurns0_s f c] at h ⊢
      have T := rT1_ok f n s ok et (Int32.lt_of_lt_of_le hc me)
      have a1 := i32_succ hc
      have a2 := Int32.lt_iff_toInt_lt.mp hc
      refine ih (rTurn1 f n t s) ?_ ?_ ?_ (Int32.le_iff_toInt_le.mpr (by omega)) h
      · rw [rTurn1_e]; exact T.1
      · rw [rTurn1_e]; exact T.2.1
      · rw [rTurn1_e]
        show m ≤ 2 * (rT1 f n t s).2.each
        rw [T.2.2.2]; exact me
    · rw [rTurns0_bad f _ _ _ c] at h
      exact absurd h c
theorem plc_b (ok : PgOK G) {S : Ps} (h : inL G.turns S.bt ∧ ((S.bo = -1 ∧ S.be = -1) ∨ (inL (G.many S.bt) S.bo ∧ (S.be = -1 ∨ inL (G.siz S.bt S.bo) S.be)))) (hn : 28 + nTurns G S.bt.toInt.toNat 0 + (1 + nOvs G S.bt S.bo.toInt.toNat 0) + 2 ≤ 30000) : 0 ≤ plc G S.bt S.bo S.be := by
  unfold plc
  split
  next q =>
    split
    next p =>
      rcases h.2 with ⟨y, -⟩ | ⟨y1, y2⟩
      · rw [y] at q; exact absurd q.2 (by decide)
      · have be40 : S.be < 40 := by
          rcases y2 with z | z
          · rw [z] at p; exact absurd p (by decide)
          · exact Int32.lt_of_lt_of_le z.2 ((ok.2.2.2 _ h.1.1 h.1.2).2 _ y1.1 y1.2).2.1.2
        generalize 28 + nTurns G S.bt.toInt.toNat 0 + (1 + nOvs G S.bt S.bo.toInt.toNat 0) + 2 = K at hn
        have kI := ofN_i (n := K) (by omega)
        have z : (0 : Int32).toInt = 0 := by decide
        have f40 : (40 : Int32).toInt = 40 := by decide
        have b1 := Int32.le_iff_toInt_le.mp p
        have b2 := Int32.lt_iff_toInt_lt.mp be40
        have a : (Int32.ofNat K + S.be).toInt = (Int32.ofNat K).toInt + S.be.toInt := by
          rw [Int32.toInt_add]
          apply Int.bmod_eq_of_le <;> omega
        exact Int32.le_iff_toInt_le.mpr (by omega)
    next => exact ofN_0 (by omega)
  next => exact ofN_0 (by omega)
end Mpp
