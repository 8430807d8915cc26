/-! Play, on both sides -/
section PL
variable {eb : mE} {g : Int32} {G : Pg}
theorem TI.stop {t : Int32} {e : mE} {s : Ps} (I : TI eb g G t e s) (a : Int32) : ∃ e', P_X12_stop a t (-1) (-1) e = some e' ∧ TI eb g G t e' (s.stop a t (-1) (-1)) ∧ e'.1 28 = a ∧ e'.2 = e.2 := by
  obtain ⟨I1, I2, I3, I4, I5, I6, I7, I8⟩ := I
  refine ⟨mS (mS (mS (mS e 28 a) 29 t) 30 (-1)) 31 (-1), rfl, ?_, rfl, rfl⟩
  refine ⟨I1, ⟨rfl, rfl, rfl, rfl, I2.2.2.2.2.1, I2.2.2.2.2.2.1, ?_⟩, I3, I4, I5, I6, I7, I8⟩
  intro k hk
  show (if k = 31 then (-1 : Int32) else if k = 30 then -1 else if k = 29 then t else if k = 28 then a else e.1 k) = eb.1 k
  rw [if_neg (by omega), if_neg (by omega), if_neg (by omega), if_neg (by omega)]
  exact I2.2.2.2.2.2.2 k hk
theorem r_140 (h : PgW eb g G) : ∀ n t, (G.turns.toInt - t.toInt).toNat < n → (∀ e s, TI eb g G t e s → s.rule = 0 → 0 ≤ t → t ≤ G.turns → ∃ e' t', P_X12_play_140 n g t e = some e' ∧ (t ≤ t' ∧ t' ≤ G.turns) ∧ TI eb g G t' e' (Ps.plT G (G.turns.toInt - t.toInt).toNat t s) ∧ (s.won = 0 → t = 0 → 0 < G.turns → 0 < t')) ∧ ∀ e, e.2 8 g = G.turns → e.1 28 ≠ 0 → P_X12_play_140 n g t e = some e := by
  have h' := h
  obtain ⟨⟨g0, g1⟩, h2, h3, h4, h5, h6, h7, h8, h9⟩ := h
  refine i32_up ?_ ?_
  · intro n t hc
    refine ⟨?_, fun e z1 z2 => by unfold P_X12_play_140; rw [ck_t ⟨g0, g1⟩, z1, if_pos hc]⟩
    intro e s I hr t0 tT
    rw [sub_none hc]
    unfold P_X12_play_140
    rw [ck_t ⟨g0, g1⟩, (I.1 8 _ (Or.inl (by decide))).trans h6, if_pos hc]
    refine ⟨e, t, rfl, ⟨Int32.le_refl _, tT⟩, I, fun _ z y => ?_⟩
    rw [z] at hc
    exact absurd y (Int32.not_lt.mpr hc)
  · intro n t hc ihh
    obtain ⟨ih, ihB⟩ := ihh
    refine ⟨?_, fun e z1 z2 => by unfold P_X12_play_140; rw [ck_t ⟨g0, g1⟩, z1, if_neg (Int32.not_le.mpr hc), if_neg z2]⟩
    intro e s I hr t0 tT
    have t4 := h'.t4 hc
    have e8 := (I.1 8 g (Or.inl (by decide))).trans h6
    have x28 : e.1 28 = 0 := I.2.1.1.trans hr
    have x33 : e.1 33 = s.won := I.2.1.2.2.2.2.2.1
    have lastT : t ≤ s.last := by
      rw [I.2.2.1.2]
      have a := h7.2
      have b : 2 * G.each = 2 ∨ 2 * G.each = 4 := by rcases h3 with z | z <;> rw [z] <;> decide
      clear I ih ihB h' h8 h9
      rcases b with z | z <;> rw [z] at a ⊢ <;> grind
    have t1 : t + 1 ≤ G.turns := by
      have a := i32_succ hc
      have b := Int32.lt_iff_toInt_lt.mp hc
      exact Int32.le_iff_toInt_le.mpr (by omega)
    have tt1 : t ≤ t + 1 := by
      have a := i32_succ hc
      exact Int32.le_iff_toInt_le.mpr (by omega)
    have stopC : ∀ a, s.ruleT t = a → a ≠ 0 → ∃ e', P_X12_stop a t (-1) (-1) e = some e' ∧ P_X12_play_207 (P_X12_play_140 n) g t e' = some e' ∧ TI eb g G t e' (s.stop a t (-1) (-1)) := by
      intro a _ ha
      obtain ⟨e', q1, q2, q3, q4⟩ := I.stop a
      refine ⟨e', q1, ?_, q2⟩
      unfold P_X12_play_207
      rw [bd_e]
      exact ihB e' (by rw [q4]; exact e8) (by rw [q3]; exact ha)
    rw [sub_succ hc, Ps.plT]
    unfold P_X12_play_140
    rw [ck_t ⟨g0, g1⟩, e8, if_neg (Int32.not_le.mpr hc), x28, if_pos rfl]
    have go : (t ≤ 0 ∨ ¬ (s.ty (t - 1)).ended = 0) → ∃ e' t', P_X12_play_183 (P_X12_play_140 n) g t e = some e' ∧ (t ≤ t' ∧ t' ≤ G.turns) ∧ TI eb g G t' e' (if s.ruleT t = 0 then (if (Ps.plO G t (G.many t).toInt.toNat 0 (s.begT t)).rule = 0 then Ps.plT G (G.turns.toInt - (t + 1).toInt).toNat (t + 1) (Ps.plO G t (G.many t).toInt.toNat 0 (s.begT t)) else Ps.plO G t (G.many t).toInt.toNat 0 (s.begT t)) else s.stop (s.ruleT t) t (-1) (-1)) ∧ (s.won = 0 → t = 0 → 0 < G.turns → 0 < t') := by
      intro hp
      unfold P_X12_play_183
      rw [x33]
      by_cases w : s.won = 0
      · have r0 : s.ruleT t = 0 := by unfold Ps.ruleT; rw [if_pos hp, if_pos ⟨w, lastT⟩]
        rw [if_pos w, if_pos r0]
        obtain ⟨e2, q1, q2⟩ := r_turn h' t0 hc I hr w (fun z => by
          rcases hp with y | y
          · rw [z] at y; exact absurd y (by decide)
          · rw [z] at y; exact y)
        rw [q1]
        simp only [Option.bind_some]
        unfold P_X12_play_207
        rw [bd_e]
        by_cases c : (Ps.plO G t (G.many t).toInt.toNat 0 (s.begT t)).rule = 0
        · rw [if_pos c]
          obtain ⟨e3, t3, p1, p2, p3, p4⟩ := ih e2 _ q2 c (i32_ps t0 hc) t1
          refine ⟨e3, t3, p1, ⟨i32_tr tt1 p2.1, p2.2⟩, p3, fun _ z _ => ?_⟩
          have := p2.1
          rw [z] at this
          exact Int32.lt_of_lt_of_le (by decide) this
        · rw [if_neg c]
          refine ⟨e2, t + 1, ihB e2 ((q2.1 8 g (Or.inl (by decide))).trans h6) (by rw [q2.2.1.1]; exact c), ⟨tt1, t1⟩, q2, fun _ z _ => ?_⟩
          rw [z]; decide
      · have r2 : s.ruleT t = 2 := by unfold Ps.ruleT; rw [if_pos hp, if_neg (fun z => w z.1)]
        rw [if_neg w, if_neg (by rw [r2]; decide), r2]
        obtain ⟨e2, q1, q2, q3⟩ := stopC 2 r2 (by decide)
        rw [q1]
        simp only [Option.bind_some]
        exact ⟨e2, t, q2, ⟨Int32.le_refl _, tT⟩, q3, fun z => absurd z w⟩
    by_cases c0 : t ≤ 0
    · rw [if_pos c0]
      exact go (Or.inl c0)
    · rw [if_neg c0]
      have tm : 0 ≤ t - 1 ∧ t - 1 < 4 ∧ t - 1 < t := by
        clear I ih ihB h' h8 h9 go stopC
        refine ⟨by grind, by grind, by grind⟩
      have en := (I.2.2.2.1 (t - 1) tm.1 tm.2.2).prev.2.2.2.2.2.2.2.2.2
      rw [ck_t ⟨tm.1, tm.2.1⟩, en]
      by_cases c1 : (s.ty (t - 1)).ended = 0
      · rw [if_pos c1]
        have r1 : s.ruleT t = 1 := by unfold Ps.ruleT; rw [if_neg (fun z => z.elim c0 (fun y => y c1))]
        rw [if_neg (by rw [r1]; decide), r1]
        obtain ⟨e2, q1, q2, q3⟩ := stopC 1 r1 (by decide)
        rw [q1]
        simp only [Option.bind_some]
        refine ⟨e2, t, q2, ⟨Int32.le_refl _, tT⟩, q3, fun _ z => ?_⟩
        rw [z] at c0
        exact absurd (by decide) c0
      · rw [if_neg c1]
        exact go (Or.inr c1)
/-! the reference's clearing -/
def clv (k : Nat) : Int32 := if k = 45 ∨ k = 46 ∨ k = 51 then -1 else if k = 47 then 2 else 0
def CL (t : Int32) (e : mE) : mE := (e.1, fun k i => if 35 ≤ k ∧ k ≤ 52 ∧ i = t then clv k else if 53 ≤ k ∧ k ≤ 58 ∧ 11 * t ≤ i ∧ i < 11 * t + 11 then 0 else e.2 k i)
theorem r_131 {t : Int32} (t0 : 0 ≤ t) (t1 : t < 4) : ∀ n i, ((11 * t + 11).toInt - i.toInt).toNat < n → ∀ e, 11 * t ≤ i → P_X12_clearTurn_131 n t i e = some (e.1, fun k j => if 53 ≤ k ∧ k ≤ 58 ∧ i ≤ j ∧ j < 11 * t + 11 then 0 else e.2 k j) := by
  refine i32_up ?_ ?_
  · intro n i hc e hi
    unfold P_X12_clearTurn_131
    rw [if_pos hc]
    refine congrArg some ?_
    refine Prod.ext rfl (funext fun k => funext fun j => ?_)
    show e.2 k j = if _ then _ else _
    rw [if_neg (fun q => absurd q.2.2.2 (Int32.not_lt.mpr (i32_tr hc q.2.2.1)))]
  · intro n i hc ih e hi
    unfold P_X12_clearTurn_131
    have b : (0 : Int32) ≤ i ∧ i < 44 := by
      clear ih
      constructor <;> grind
    have i1 : 11 * t ≤ i + 1 := by
      clear ih
      grind
    rw [if_neg (Int32.not_le.mpr hc), ck_t b, bd_e, ck_t b, bd_e, ck_t b, bd_e, ck_t b, bd_e, ck_t b, bd_e, ck_t b, bd_e, bd_e, ih _ i1]
    refine congrArg some ?_
    refine Prod.ext rfl (funext fun k => funext fun j => ?_)
    have key : i ≤ j ↔ i + 1 ≤ j ∨ j = i := by
      have k := i32_ls (j := j) hc
      constructor
      · intro q
        by_cases z : j = i
        · exact Or.inr z
        · refine Or.inl (Int32.not_lt.mp (fun y => ?_))
          rcases k.mp y with w | w
          · exact absurd q (Int32.not_le.mpr w)
          · exact z w
      · intro q
        rcases q with q | q
        · exact Int32.not_lt.mp (fun y => absurd (k.mpr (Or.inl y)) (Int32.not_lt.mpr q))
        · rw [q]; exact Int32.le_refl _
    show (if 53 ≤ k ∧ k ≤ 58 ∧ i + 1 ≤ j ∧ j < 11 * t + 11 then (0 : Int32) else if k = 58 ∧ j = i then 0 else if k = 57 ∧ j = i then 0 else if k = 56 ∧ j = i then 0 else if k = 55 ∧ j = i then 0 else if k = 54 ∧ j = i then 0 else if k = 53 ∧ j = i then 0 else e.2 k j) = if 53 ≤ k ∧ k ≤ 58 ∧ i ≤ j ∧ j < 11 * t + 11 then 0 else e.2 k j
    by_cases hk : 53 ≤ k ∧ k ≤ 58
    · by_cases z : j = i
      · rw [if_pos (show 53 ≤ k ∧ k ≤ 58 ∧ i ≤ j ∧ j < 11 * t + 11 from ⟨hk.1, hk.2, key.mpr (Or.inr z), by rw [z]; exact hc⟩)]
        have : k = 53 ∨ k = 54 ∨ k = 55 ∨ k = 56 ∨ k = 57 ∨ k = 58 := by omega
        rcases this with q | q | q | q | q | q <;> subst q <;> simp [z]
      · have iff1 : (53 ≤ k ∧ k ≤ 58 ∧ i ≤ j ∧ j < 11 * t + 11) ↔ (53 ≤ k ∧ k ≤ 58 ∧ i + 1 ≤ j ∧ j < 11 * t + 11) := ⟨fun q => ⟨q.1, q.2.1, (key.mp q.2.2.1).resolve_right z, q.2.2.2⟩, fun q => ⟨q.1, q.2.1, key.mpr (Or.inl q.2.2.1), q.2.2.2⟩⟩
        simp only [iff1]
        simp [z]
    · have n1 : ¬ (53 ≤ k ∧ k ≤ 58 ∧ i + 1 ≤ j ∧ j < 11 * t + 11) := fun q => hk ⟨q.1, q.2.1⟩
      have n2 : ¬ (53 ≤ k ∧ k ≤ 58 ∧ i ≤ j ∧ j < 11 * t + 11) := fun q => hk ⟨q.1, q.2.1⟩
      rw [if_neg n1, if_neg n2, if_neg (show ¬ (k = 58 ∧ j = i) by omega), if_neg (show ¬ (k = 57 ∧ j = i) by omega), if_neg (show ¬ (k = 56 ∧ j = i) by omega), if_neg (show ¬ (k = 55 ∧ j = i) by omega), if_neg (show ¬ (k = 54 ∧ j = i) by omega), if_neg (show ¬ (k = 53 ∧ j = i) by omega)]
theorem clI (t : Int32) (e : mE) (k : Nat) (j : Int32) : (mA (mA (mA (mA (mA (mA (mA (mA (mA (mA (mA (mA (mA (mA (mA (mA (mA (mA e 35 t 0) 36 t 0) 37 t 0) 38 t 0) 39 t 0) 40 t 0) 41 t 0) 42 t 0) 43 t 0) 44 t 0) 45 t (-1)) 46 t (-1)) 47 t 2) 48 t 0) 49 t 0) 50 t 0) 51 t (-1)) 52 t 0).2 k j = if 35 ≤ k ∧ k ≤ 52 ∧ j = t then clv k else e.2 k j := by
  show ((if k = 52 ∧ j = t then 0 else if k = 51 ∧ j = t then (-1) else if k = 50 ∧ j = t then 0 else if k = 49 ∧ j = t then 0 else if k = 48 ∧ j = t then 0 else if k = 47 ∧ j = t then 2 else if k = 46 ∧ j = t then (-1) else if k = 45 ∧ j = t then (-1) else if k = 44 ∧ j = t then 0 else if k = 43 ∧ j = t then 0 else if k = 42 ∧ j = t then 0 else if k = 41 ∧ j = t then 0 else if k = 40 ∧ j = t then 0 else if k = 39 ∧ j = t then 0 else if k = 38 ∧ j = t then 0 else if k = 37 ∧ j = t then 0 else if k = 36 ∧ j = t then 0 else if k = 35 ∧ j = t then 0 else e.2 k j : Int32)) = _
  by_cases z : j = t
  · subst z
    simp only [and_true]
    by_cases hk : 35 ≤ k ∧ k ≤ 52
    · rw [if_pos hk]
      have : k = 35 ∨ k = 36 ∨ k = 37 ∨ k = 38 ∨ k = 39 ∨ k = 40 ∨ k = 41 ∨ k = 42 ∨ k = 43 ∨ k = 44 ∨ k = 45 ∨ k = 46 ∨ k = 47 ∨ k = 48 ∨ k = 49 ∨ k = 50 ∨ k = 51 ∨ k = 52 := by omega
      rcases this with q | q | q | q | q | q | q | q | q | q | q | q | q | q | q | q | q | q <;> subst q <;> rfl
    · rw [if_neg hk]
      simp only [show ¬ k = 35 by omega, show ¬ k = 36 by omega, show ¬ k = 37 by omega, show ¬ k = 38 by omega, show ¬ k = 39 by omega, show ¬ k = 40 by omega, show ¬ k = 41 by omega, show ¬ k = 42 by omega, show ¬ k = 43 by omega, show ¬ k = 44 by omega, show ¬ k = 45 by omega, show ¬ k = 46 by omega, show ¬ k = 47 by omega, show ¬ k = 48 by omega, show ¬ k = 49 by omega, show ¬ k = 50 by omega, show ¬ k = 51 by omega, show ¬ k = 52 by omega, if_false]
  · simp only [z, and_false, if_false]
theorem r_clearA {t : Int32} {e : mE} (c : (0 : Int32) ≤ t ∧ t < 4) : P_X12_clearTurn t e = P_X12_clearTurn_131 fu t (11 * t) (mA (mA (mA (mA (mA (mA (mA (mA (mA (mA (mA (mA (mA (mA (mA (mA (mA (mA e 35 t 0) 36 t 0) 37 t 0) 38 t 0) 39 t 0) 40 t 0) 41 t 0) 42 t 0) 43 t 0) 44 t 0) 45 t (-1)) 46 t (-1)) 47 t 2) 48 t 0) 49 t 0) 50 t 0) 51 t (-1)) 52 t 0) := by
  unfold P_X12_clearTurn
  simp only [ck_t c, bd_e]
end PL
