/-! The place of the first wrong byte: a rule was broken -/
section Mp3
variable {e : mE} {g : Int32} {G : Pg} {S : Ps} {sc : Int32 → Int32}
def x3n (S : Ps) (G : Pg) (t o x3 : Int32) (K : Nat) : Int32 := if S.bt = t ∧ o ≤ S.bo ∧ S.bo < G.many t then Int32.ofNat (K + nOvs G t (S.bo.toInt - o.toInt).toNat o) + (if S.be = -1 then 1 else 2 + S.be + 1) else x3
theorem q_56 {t x4 : Int32} {k11 : Int32 → Int32 → Int32 → Int32 → Int32 → mE → Option (Int32 × mE)} (I : PlF e g G S sc) (ct : inL G.turns t) (hr : ¬ S.rule = 0) : ∀ j o, ((G.many t).toInt - o.toInt).toNat < j → ∀ (x3 : Int32) (K : Nat), 0 ≤ o → K + nOvs G t ((G.many t).toInt - o.toInt).toNat o ≤ 30000 → P_X12_placeWrong_56 k11 j g (Int32.ofNat K) x3 x4 t o e = k11 g (Int32.ofNat (K + nOvs G t ((G.many t).toInt - o.toInt).toNat o + 2)) (x3n S G t o x3 K) (x4n G S sc t x4 (K + nOvs G t ((G.many t).toInt - o.toInt).toNat o)) (t + 1) e := by
  have I' := I
  obtain ⟨g0, ok, h8, ⟨h28, h29, h30, h31⟩, II⟩ := I
  have t4 : t < 4 := Int32.lt_of_lt_of_le ct.2 ok.t4
  have b4 := ix4 g0.1 g0.2 ct.1 t4
  have m9 := (II t ct).1.1
  refine i32_up ?_ ?_
  · intro j o hc x3 K o0 hK
    unfold P_X12_placeWrong_56
    rw [ck_t b4, m9, if_pos hc]
    have e3 : x3n S G t o x3 K = x3 := if_neg (fun q => absurd (Int32.lt_of_le_of_lt (i32_tr hc q.2.1) q.2.2) Int32.lt_irrefl)
    rw [sub_none hc] at hK ⊢
    rw [e3]
    exact p_end I' ct hK
  · intro j o hc ih x3 K o0 hK
    unfold P_X12_placeWrong_56
    obtain ⟨q1, q2, q3⟩ := p_row I' ct ⟨o0, hc⟩
    rw [ck_t b4, m9, if_neg (Int32.not_le.mpr hc), q1, Option.bind_some, bd_e, bd_e, h28, if_neg hr, h29, h30, h31]
    unfold P_X12_placeWrong_132 P_X12_placeWrong_133
    simp only [ck_t q2, bd_e]
    rw [q3, siz_n]
    have ek : Int32.ofNat K + (2 + Int32.ofNat (G.siz t o).toInt.toNat) = Int32.ofNat (K + 2 + (G.siz t o).toInt.toNat) := by
      rw [← ofN_a, ← ofN_a]
      generalize Int32.ofNat K = w
      generalize Int32.ofNat (G.siz t o).toInt.toNat = u
      show w + (2 + u) = w + 2 + u
      clear ih hK ct I' II
      grind
    rw [ek]
    rw [sub_succ hc, nOvs_s] at hK ⊢
    have os := i32_succ hc
    have oc := Int32.lt_iff_toInt_lt.mp hc
    have go : ∀ y, P_X12_placeWrong_56 k11 j g (Int32.ofNat (K + 2 + (G.siz t o).toInt.toNat)) y x4 t (o + 1) e = k11 g (Int32.ofNat (K + (2 + (G.siz t o).toInt.toNat + nOvs G t ((G.many t).toInt - (o + 1).toInt).toNat (o + 1)) + 2)) (x3n S G t (o + 1) y (K + 2 + (G.siz t o).toInt.toNat)) (x4n G S sc t x4 (K + (2 + (G.siz t o).toInt.toNat + nOvs G t ((G.many t).toInt - (o + 1).toInt).toNat (o + 1)))) (t + 1) e := fun y => by
      rw [ih y (K + 2 + (G.siz t o).toInt.toNat) (i32_ps o0 hc) (by omega)]
      rw [show K + 2 + (G.siz t o).toInt.toNat + nOvs G t ((G.many t).toInt - (o + 1).toInt).toNat (o + 1) = K + (2 + (G.siz t o).toInt.toNat + nOvs G t ((G.many t).toInt - (o + 1).toInt).toNat (o + 1)) by omega]
    rw [go, go, go]
    have hit : ∀ y, S.bt = t → S.bo = o → x3n S G t (o + 1) y (K + 2 + (G.siz t o).toInt.toNat) = y := fun y _ h2 => if_neg (fun q => by
      have := Int32.le_iff_toInt_le.mp q.2.1
      rw [h2] at this
      omega)
    have pass : ¬ (S.bt = t ∧ S.bo = o) → x3n S G t (o + 1) x3 (K + 2 + (G.siz t o).toInt.toNat) = x3n S G t o x3 K := fun h => by
      unfold x3n
      by_cases c : S.bt = t ∧ o + 1 ≤ S.bo ∧ S.bo < G.many t
      · have c1 := Int32.le_iff_toInt_le.mp c.2.1
        have lt : o < S.bo := Int32.lt_iff_toInt_lt.mpr (by omega)
        rw [if_pos c, if_pos (show S.bt = t ∧ o ≤ S.bo ∧ S.bo < G.many t from ⟨c.1, Int32.le_of_lt lt, c.2.2⟩), sub_succ lt, nOvs_s, show K + 2 + (G.siz t o).toInt.toNat + nOvs G t (S.bo.toInt - (o + 1).toInt).toNat (o + 1) = K + (2 + (G.siz t o).toInt.toNat + nOvs G t (S.bo.toInt - (o + 1).toInt).toNat (o + 1)) by omega]
      · rw [if_neg c, if_neg (show ¬ (S.bt = t ∧ o ≤ S.bo ∧ S.bo < G.many t) from fun q => ?_)]
        by_cases y : S.bo = o
        · exact h ⟨q.1, y⟩
        · refine c ⟨q.1, ?_, q.2.2⟩
          have a := Int32.le_iff_toInt_le.mp q.2.1
          have b : S.bo.toInt ≠ o.toInt := fun z => y (Int32.toInt_inj.mp z)
          exact Int32.le_iff_toInt_le.mpr (by omega)
    by_cases c1 : S.bt = t
    rotate_left
    · rw [if_neg c1, pass (fun q => c1 q.1)]
    rw [if_pos c1]
    by_cases c2 : S.bo = o
    rotate_left
    · rw [if_neg c2, pass (fun q => c2 q.2)]
    rw [if_pos c2, hit _ c1 c2, hit _ c1 c2]
    have e0 : (S.bo.toInt - o.toInt).toNat = 0 := by rw [c2]; omega
    have x3e : x3n S G t o x3 K = Int32.ofNat K + (if S.be = -1 then 1 else 2 + S.be + 1) := by
      unfold x3n
      rw [if_pos (show S.bt = t ∧ o ≤ S.bo ∧ S.bo < G.many t from ⟨c1, by rw [c2]; exact Int32.le_refl _, by rw [c2]; exact hc⟩), e0]
      rfl
    rw [x3e]
    by_cases c3 : S.be = -1
    · rw [if_pos c3, if_pos c3]
    · rw [if_neg c3, if_neg c3]
      have : Int32.ofNat K + 2 + S.be + 1 = Int32.ofNat K + (2 + S.be + 1) := by
        generalize Int32.ofNat K = w
        generalize S.be = u
        clear ih hK go hit pass x3e ek
        grind
      rw [this]
end Mp3
