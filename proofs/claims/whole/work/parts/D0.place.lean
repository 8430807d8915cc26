/-! The place of the first wrong byte, as a whole -/
section Mp4
variable {e : mE} {g : Int32} {G : Pg} {S : Ps} {sc : Int32 → Int32}
theorem nT_b (ok : PgOK G) {t : Int32} (ct : inL G.turns t) : nTurns G (t + 1).toInt.toNat 0 ≤ 25000 := by
  have iN := imgN_le ok
  unfold imgN at iN
  have z0 : (0 : Int32).toInt = 0 := by decide
  have a := i32_succ ct.2
  have b := Int32.lt_iff_toInt_lt.mp ct.2
  have h := nTurns_mo (G := G) (q := 0) (G.turns.toInt.toNat - (t + 1).toInt.toNat) (t + 1).toInt.toNat
  rw [show (t + 1).toInt.toNat + (G.turns.toInt.toNat - (t + 1).toInt.toNat) = G.turns.toInt.toNat by omega] at h
  omega
theorem q_11 (I : PlF e g G S sc) (hr : ¬ S.rule = 0) (hb : inL G.turns S.bt ∧ ((S.bo = -1 ∧ S.be = -1) ∨ (inL (G.many S.bt) S.bo ∧ (S.be = -1 ∨ inL (G.siz S.bt S.bo) S.be)))) : ∀ j t, (G.turns.toInt - t.toInt).toNat < j → ∀ x3 x4, 0 ≤ t → t ≤ G.turns → P_X12_placeWrong_11 j g (Int32.ofNat (28 + nTurns G t.toInt.toNat 0)) x3 x4 t e = some (if t ≤ S.bt then plc G S.bt S.bo S.be + 1 else x3, e) := by
  have I' := I
  obtain ⟨g0, ok, h8, ⟨h28, h29, h30, h31⟩, II⟩ := I
  have z0 : (0 : Int32).toInt = 0 := by decide
  refine i32_up ?_ ?_
  · intro j t hc x3 x4 t0 tt
    unfold P_X12_placeWrong_11
    rw [ck_t g0, h8, if_pos hc, h28, if_neg hr, if_neg (fun q => absurd (Int32.lt_of_le_of_lt (i32_tr hc q) hb.1.2) Int32.lt_irrefl)]
  · intro j t hc ih x3 x4 t0 tt
    unfold P_X12_placeWrong_11 P_X12_placeWrong_50
    have ct : inL G.turns t := ⟨t0, hc⟩
    have tl : t < 1000 := Int32.lt_of_lt_of_le hc (i32_tr ok.t4 (by decide))
    have ts := nTurns_t (G := G) t0 tl
    have m := nT_b ok ct
    rw [ts] at m
    have zz : ((G.many t).toInt - (0 : Int32).toInt).toNat = (G.many t).toInt.toNat := by rw [z0, Int.sub_zero]
    have m130 := le_i (ok.2.2.2 t t0 hc).1.2 (by decide : (130 : Int32).toInt = 130)
    have a1 := i32_succ hc
    have a2 := Int32.lt_iff_toInt_lt.mp hc
    have t1 : t + 1 ≤ G.turns := Int32.le_iff_toInt_le.mpr (by omega)
    have go : ∀ y, P_X12_placeWrong_56 (P_X12_placeWrong_11 j) fu g (Int32.ofNat (28 + nTurns G t.toInt.toNat 0) + 1) y x4 t 0 e = some (if t + 1 ≤ S.bt then plc G S.bt S.bo S.be + 1 else x3n S G t 0 y (28 + nTurns G t.toInt.toNat 0 + 1), e) := fun y => by
      rw [ofN_s, q_56 I' ct hr fu 0 (by rw [zz]; show _ < 10000000; omega) y _ (by decide) (by rw [zz]; omega), zz]
      rw [show 28 + nTurns G t.toInt.toNat 0 + 1 + nOvs G t (G.many t).toInt.toNat 0 + 2 = 28 + nTurns G (t + 1).toInt.toNat 0 by rw [ts]; omega]
      exact ih _ _ (i32_ps t0 hc) t1
    simp only [bd_e]
    rw [ck_t g0, h8, if_neg (Int32.not_le.mpr hc), h28, if_neg hr, h29, h30, go, go]
    by_cases c1 : S.bt = t
    · have n1 : ¬ t + 1 ≤ S.bt := fun q => by
        have := Int32.le_iff_toInt_le.mp q
        rw [c1] at this
        omega
      rw [if_pos c1, if_neg n1, if_neg n1, if_pos (show t ≤ S.bt by rw [c1]; exact Int32.le_refl _)]
      have cb : inL G.turns S.bt := hb.1
      rcases hb.2 with ⟨y1, y2⟩ | ⟨y1, y2⟩
      · rw [if_pos y1]
        have e3 : ∀ y K, x3n S G t 0 y K = y := fun y K => if_neg (fun q => by
          have := q.2.1
          rw [y1] at this
          exact absurd this (by decide))
        have ep : plc G S.bt S.bo S.be = Int32.ofNat (28 + nTurns G t.toInt.toNat 0) := by
          unfold plc
          rw [y1, if_neg (fun q => absurd q.2 (by decide)), c1]
        rw [e3, ep]
      · rw [if_neg (neg1 y1.1)]
        have zb : (S.bo.toInt - (0 : Int32).toInt).toNat = S.bo.toInt.toNat := by rw [z0, Int.sub_zero]
        have e3 : ∀ y K, x3n S G t 0 y K = Int32.ofNat (K + nOvs G t S.bo.toInt.toNat 0) + (if S.be = -1 then 1 else 2 + S.be + 1) := fun y K => by
          unfold x3n
          rw [if_pos (show S.bt = t ∧ 0 ≤ S.bo ∧ S.bo < G.many t from ⟨c1, y1.1, by rw [← c1]; exact y1.2⟩), zb]
        rw [e3]
        unfold plc
        rw [if_pos (show inL G.turns S.bt ∧ 0 ≤ S.bo from ⟨cb, y1.1⟩), c1]
        rw [show 28 + nTurns G t.toInt.toNat 0 + 1 + nOvs G t S.bo.toInt.toNat 0 = 28 + nTurns G t.toInt.toNat 0 + (1 + nOvs G t S.bo.toInt.toNat 0) by omega]
        generalize 28 + nTurns G t.toInt.toNat 0 + (1 + nOvs G t S.bo.toInt.toNat 0) = K
        by_cases c3 : S.be = -1
        · rw [if_pos c3, if_neg (show ¬ 0 ≤ S.be by rw [c3]; decide)]
        · have b0 : 0 ≤ S.be := (y2.resolve_left c3).1
          rw [if_neg c3, if_pos b0, ← ofN_s, ← ofN_s]
          have : ∀ w u : Int32, w + (2 + u + 1) = w + 1 + 1 + u + 1 := fun w u => by
            clear go ih hb ct y1 y2 e3 m ts
            grind
          rw [this]
    · have key : t ≤ S.bt ↔ t + 1 ≤ S.bt := by
        constructor
        · intro q
          have a := Int32.le_iff_toInt_le.mp q
          have b : S.bt.toInt ≠ t.toInt := fun z => c1 (Int32.toInt_inj.mp z)
          exact Int32.le_iff_toInt_le.mpr (by omega)
        · intro q
          have a := Int32.le_iff_toInt_le.mp q
          exact Int32.le_iff_toInt_le.mpr (by omega)
      have e3 : x3n S G t 0 x3 (28 + nTurns G t.toInt.toNat 0 + 1) = x3 := if_neg (fun q => c1 q.1)
      rw [if_neg c1, e3]
      by_cases c2 : t + 1 ≤ S.bt
      · rw [if_pos c2, if_pos (key.mpr c2)]
      · rw [if_neg c2, if_neg (fun q => c2 (key.mp q))]
theorem rCmp_keep : ∀ n t w, w ≠ -1 → rCmp S G sc n t w = w
  | 0, _, _, _ => rfl
  | n + 1, t, w, h => by
    have e : ∀ v, wf w v = w := fun v => if_neg h
    show rCmp S G sc n (t + 1) (if sc t / 256 = (S.ty t).score / 256 then (if sc t = (S.ty t).score then w else wf w (plc G t (G.many t) (-1) + 1)) else wf w (plc G t (G.many t) (-1))) = w
    rw [e, e, show (if sc t / 256 = (S.ty t).score / 256 then (if sc t = (S.ty t).score then w else w) else w) = w by
      split
      · split <;> rfl
      · rfl]
    exact rCmp_keep n _ w h
theorem m_wrong (I : PlF e g G S sc) (hb : S.rule ≠ 0 → (inL G.turns S.bt ∧ ((S.bo = -1 ∧ S.be = -1) ∨ (inL (G.many S.bt) S.bo ∧ (S.be = -1 ∨ inL (G.siz S.bt S.bo) S.be)))) ∧ plc G S.bt S.bo S.be ≠ -1) : P_X12_placeWrong g e = some (rRes S G sc + 1, e) := by
  unfold P_X12_placeWrong rRes
  have z0 : (0 : Int32).toInt = 0 := by decide
  have T4 := le_i I.2.1.t4 (by decide : (4 : Int32).toInt = 4)
  have tu := I.2.1.2.2.1.1
  have zz : (G.turns.toInt - (0 : Int32).toInt).toNat = G.turns.toInt.toNat := by rw [z0, Int.sub_zero]
  have e28 : Int32.ofNat (28 + nTurns G (0 : Int32).toInt.toNat 0) = 28 := by rw [show (0 : Int32).toInt.toNat = 0 by decide]; rfl
  by_cases c : S.rule = 0
  · rw [if_pos c]
    have := p_11 (x3 := 0) I c fu 0 (by rw [zz]; show _ < 10000000; omega) (-1) (by decide) tu (Or.inl rfl)
    rw [e28, zz] at this
    exact this
  · rw [if_neg c]
    obtain ⟨h1, h2⟩ := hb c
    have := q_11 I c h1 fu 0 (by rw [zz]; show _ < 10000000; omega) 0 0 (by decide) tu
    rw [e28, if_pos h1.1.1] at this
    rw [rCmp_keep _ _ _ h2]
    exact this
end Mp4
