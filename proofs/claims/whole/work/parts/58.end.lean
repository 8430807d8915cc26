/-! The target, and how a turn ends: reference and class -/
theorem tgt64 {a n m : Int32} (a0 : 0 ≤ a) (a1 : a ≤ 40000) (n0 : 0 ≤ n) (nm : n ≤ m) (m1 : m ≤ 1000) (mz : ¬ m = 0) : ((a.toInt64 * n.toInt64) / m.toInt64).toInt32 = a * n / m := by
  have b0 := Int32.le_iff_toInt_le.mp a0
  have b1 := Int32.le_iff_toInt_le.mp a1
  have c0 := Int32.le_iff_toInt_le.mp n0
  have c1 := Int32.le_iff_toInt_le.mp nm
  have d1 := Int32.le_iff_toInt_le.mp m1
  have e0 : (0 : Int32).toInt = 0 := by decide
  have e4 : (40000 : Int32).toInt = 40000 := by decide
  have e5 : (1000 : Int32).toInt = 1000 := by decide
  rw [e0] at b0 c0
  rw [e4] at b1
  rw [e5] at d1
  have m0 : m.toInt ≠ 0 := fun q => mz (Int32.toInt_inj.mp (q.trans e0.symm))
  apply Int32.toInt_inj.mp
  have p0 : 0 ≤ a.toInt * n.toInt := Int.mul_nonneg b0 c0
  have p1 : a.toInt * n.toInt ≤ 40000 * 1000 := Int.mul_le_mul b1 (by omega) c0 (by decide)
  have hmul32 : (a * n).toInt = a.toInt * n.toInt := by
    rw [Int32.toInt_mul]
    apply Int.bmod_eq_of_le <;> omega
  have hmul64 : (a.toInt64 * n.toInt64).toInt = a.toInt * n.toInt := by
    rw [Int64.toInt_mul, Int32.toInt_toInt64, Int32.toInt_toInt64]
    apply Int.bmod_eq_of_le <;> omega
  have q0 : 0 ≤ (a.toInt * n.toInt).tdiv m.toInt := Int.tdiv_nonneg p0 (by omega)
  have q1 : (a.toInt * n.toInt).tdiv m.toInt ≤ a.toInt * n.toInt := by
    rw [Int.tdiv_eq_ediv_of_nonneg p0]
    exact Int.ediv_le_self _ p0
  rw [Int64.toInt_toInt32, Int64.toInt_div, Int32.toInt_div, hmul32, hmul64, Int32.toInt_toInt64]
  rw [Int.bmod_eq_of_le (n := (a.toInt * n.toInt).tdiv m.toInt) (m := 2 ^ 64) (by omega) (by omega)]
theorem ent_ended (T : Ty) (c : Int32) : (T.ent c).ended = T.ended ∧ (T.ent c).played = T.played := by
  have lv : ∀ (U : Ty) wf how, (U.leave wf how).ended = U.ended ∧ (U.leave wf how).played = U.played := by
    intro U wf how
    unfold Ty.leave Ty.leave1 Ty.fin
    repeat' split
    all_goals exact ⟨rfl, rfl⟩
  have cr : ∀ (U : Ty) v, (U.cross v).ended = U.ended ∧ (U.cross v).played = U.played := by
    intro U v
    unfold Ty.cross
    split <;> exact ⟨rfl, rfl⟩
  have e1 : ∀ (U : Ty) k, (U.ent1 k).ended = U.ended ∧ (U.ent1 k).played = U.played := by
    intro U k
    unfold Ty.ent1
    split <;> exact ⟨rfl, rfl⟩
  have e2 : ∀ (U : Ty) k v, (U.ent2 k v).ended = U.ended ∧ (U.ent2 k v).played = U.played := by
    intro U k v
    have hh : ∀ w, (U.hit w).ended = U.ended ∧ (U.hit w).played = U.played := fun w => cr _ w
    unfold Ty.ent2
    repeat' split
    · exact hh v
    · exact cr (((U.concede.sNobodys (U.concede.nobodys + v)).sExtras (U.concede.extras + v)).sScore (U.concede.score + v)) v
    · exact cr (((U.concede.sBat (gAd 11 3 U.concede.bat U.concede.faces 0 v)).sBow (gAd 11 3 U.concede.bow U.concede.bowler 1 v)).sScore (U.concede.score + v)) v
    · exact lv (U.sBow (gAd 11 3 U.bow U.bowler 2 1)) 1 (2 + v)
    · exact ⟨(lv _ _ _).1.trans (hh _).1, (lv _ _ _).2.trans (hh _).2⟩
    · exact ⟨(lv _ _ _).1.trans (hh _).1, (lv _ _ _).2.trans (hh _).2⟩
    · exact cr (((U.sNobodys (U.nobodys + v)).sExtras (U.extras + v)).sScore (U.score + v)) v
    · exact ⟨rfl, rfl⟩
    · exact ⟨rfl, rfl⟩
  have e3 : ∀ (U : Ty) k x, (U.ent3 k x).ended = U.ended ∧ (U.ent3 k x).played = U.played := by
    intro U k x
    unfold Ty.ent3
    split <;> exact ⟨rfl, rfl⟩
  have e4 : ∀ (U : Ty), U.ent4.ended = U.ended ∧ U.ent4.played = U.played := by
    intro U
    unfold Ty.ent4
    split <;> exact ⟨rfl, rfl⟩
  unfold Ty.ent
  exact ⟨(e4 _).1.trans ((e3 _ _ _).1.trans ((e2 _ _ _).1.trans (e1 _ _).1)), (e4 _).2.trans ((e3 _ _ _).2.trans ((e2 _ _ _).2.trans (e1 _ _).2))⟩
/-- how a turn that goes on ends now: 0 not -/
def endV (L : Prop) [Decidable L] (tg c : Int32) (T : Ty) : Int32 := if L ∧ ¬ T.score < tg then 4 else if T.outs < 10 then (if c = 0 then (if T.whole < T.allowed then 0 else 2) else 3) else 1
def endR (v : Int32) (T : Ty) : Ty := if v = 0 then T else T.sEnded v
/-- who has won, of a turn that has ended -/
def Ps.wonV (s : Ps) : Int32 := if s.hand = s.last then (if 0 < s.target - (s.ty s.hand).score then (if s.target - (s.ty s.hand).score = 1 then 3 else 1) else 2) else if s.hand = 2 then (if 1 ≤ s.target then 0 else 2) else 0
theorem findW_won {s : Ps} (h : s.won = 0) : s.findW.won = s.wonV := by
  unfold Ps.findW Ps.wonV
  split
  · split
    · split <;> rfl
    · rfl
  · split
    · split
      · exact h
      · rfl
    · exact h
theorem sTy_at (s : Ps) (t : Int32) (T : Ty) : (s.sTy t T).ty t = T := if_pos rfl
theorem sTy_ne (s : Ps) {t t' : Int32} (T : Ty) (h : t' ≠ t) : (s.sTy t T).ty t' = s.ty t' := if_neg h
theorem sEnd_target (s : Ps) (v : Int32) : (s.sEnd v).target = s.target := by
  have key : ∀ q, ((s.sEnd v).ty q).score = (s.ty q).score ∧ ((s.sEnd v).ty q).means = (s.ty q).means := by
    intro q
    by_cases c : q = s.hand
    · unfold Ps.sEnd; rw [c, sTy_at]; exact ⟨rfl, rfl⟩
    · unfold Ps.sEnd; rw [sTy_ne _ _ c]; exact ⟨rfl, rfl⟩
  unfold Ps.target
  simp only [(key _).1, (key _).2]
  rfl
/-- the class's end of turn, in one row -/
theorem endT_eq (s : Ps) (c : Int32) (h0 : (s.ty s.hand).ended = 0) (hw : s.won = 0) : (s.endT c).rule = s.rule ∧ (s.endT c).bt = s.bt ∧ (s.endT c).bo = s.bo ∧ (s.endT c).be = s.be ∧ (s.endT c).hand = s.hand ∧ (s.endT c).last = s.last ∧ (s.endT c).gov = s.gov ∧ (∀ q, q ≠ s.hand → (s.endT c).ty q = s.ty q) ∧ (s.endT c).ty s.hand = endR (endV (s.hand = s.last) s.target c (s.ty s.hand)) (s.ty s.hand) ∧ (s.endT c).target = s.target ∧ (endV (s.hand = s.last) s.target c (s.ty s.hand) = 0 → (s.endT c).won = 0) ∧ (endV (s.hand = s.last) s.target c (s.ty s.hand) ≠ 0 → (s.endT c).won = (s.endT c).wonV) := by
  have key : ∀ v, v ≠ 0 → endV (s.hand = s.last) s.target c (s.ty s.hand) = v → s.endT c = (s.sEnd v).end84 → (s.endT c).rule = s.rule ∧ (s.endT c).bt = s.bt ∧ (s.endT c).bo = s.bo ∧ (s.endT c).be = s.be ∧ (s.endT c).hand = s.hand ∧ (s.endT c).last = s.last ∧ (s.endT c).gov = s.gov ∧ (∀ q, q ≠ s.hand → (s.endT c).ty q = s.ty q) ∧ (s.endT c).ty s.hand = endR (endV (s.hand = s.last) s.target c (s.ty s.hand)) (s.ty s.hand) ∧ (s.endT c).target = s.target ∧ (endV (s.hand = s.last) s.target c (s.ty s.hand) = 0 → (s.endT c).won = 0) ∧ (endV (s.hand = s.last) s.target c (s.ty s.hand) ≠ 0 → (s.endT c).won = (s.endT c).wonV) := by
    intro v hv hV he
    rw [he, hV]
    have hh : (s.sEnd v).hand = s.hand := rfl
    have e1 : ((s.sEnd v).ty s.hand) = (s.ty s.hand).sEnded v := sTy_at _ _ _
    have e2 : (s.sEnd v).end84 = (s.sEnd v).findW := by
      unfold Ps.end84
      rw [if_neg (by rw [hh, e1]; exact hv)]
    rw [e2]
    obtain ⟨k1, k2, k3, k4, k5, k6, k7, k8⟩ := Ps.findW_k (s.sEnd v)
    have hty : ∀ q, (s.sEnd v).findW.ty q = (s.sEnd v).ty q := fun q => by rw [k5]
    have htg : (s.sEnd v).findW.target = (s.sEnd v).target := by
      unfold Ps.target
      rw [k3, hty 0, hty 1, hty 2]
    refine ⟨k1, k6, k7, k8, k2, k3, k4, fun q hq => (hty q).trans (sTy_ne _ _ hq), ?_, htg.trans (sEnd_target s v), fun z => absurd z hv, fun _ => ?_⟩
    · rw [hty, e1, endR, if_neg hv]
    · rw [findW_won (s := s.sEnd v) hw]
      unfold Ps.wonV
      rw [htg, k2, k3, hty]
  by_cases c1 : s.hand = s.last ∧ ¬ (s.ty s.hand).score < s.target
  · refine key 4 (by decide) ?_ ?_
    · unfold endV; rw [if_pos c1]
    · unfold Ps.endT; rw [if_pos c1.1, if_neg c1.2]
  · have hE : s.endT c = s.end39 c := by
      unfold Ps.endT
      by_cases z : s.hand = s.last
      · rw [if_pos z]
        by_cases y : (s.ty s.hand).score < s.target
        · rw [if_pos y]
        · exact absurd ⟨z, y⟩ c1
      · rw [if_neg z]
    by_cases c2 : (s.ty s.hand).outs < 10
    · by_cases c3 : c = 0
      · by_cases c4 : (s.ty s.hand).whole < (s.ty s.hand).allowed
        · have hV : endV (s.hand = s.last) s.target c (s.ty s.hand) = 0 := by
            unfold endV; rw [if_neg c1, if_pos c2, if_pos c3, if_pos c4]
          have he : s.endT c = s := by
            rw [hE]
            unfold Ps.end39 Ps.end84
            rw [if_pos c2, if_pos c3, if_pos c4, if_pos h0]
          rw [he, hV]
          exact ⟨rfl, rfl, rfl, rfl, rfl, rfl, rfl, fun _ _ => rfl, by rw [endR, if_pos rfl], rfl, fun _ => hw, fun z => absurd rfl z⟩
        · refine key 2 (by decide) ?_ ?_
          · unfold endV; rw [if_neg c1, if_pos c2, if_pos c3, if_neg c4]
          · rw [hE]; unfold Ps.end39; rw [if_pos c2, if_pos c3, if_neg c4]
      · refine key 3 (by decide) ?_ ?_
        · unfold endV; rw [if_neg c1, if_pos c2, if_neg c3]
        · rw [hE]; unfold Ps.end39; rw [if_pos c2, if_neg c3]
    · refine key 1 (by decide) ?_ ?_
      · unfold endV; rw [if_neg c1, if_neg c2]
      · rw [hE]; unfold Ps.end39; rw [if_neg c2]
