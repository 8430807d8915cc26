/-! turn, over, ball on the class's side -/
theorem plO_last {G : Pg} {t : Int32} : ∀ n o (s : Ps), (Ps.plO G t n o s).last = s.last ∧ (Ps.plO G t n o s).hand = s.hand
  | 0, _, _ => ⟨rfl, rfl⟩
  | n + 1, o, s => by
    have e1 : (Ps.plE G t o (G.siz t o).toInt.toNat 0 (s.begO G t o)).last = s.last := (plE_k _ _ _).2.1.trans (Ps.endT_k _ _).2.2.1
    have e2 : (Ps.plE G t o (G.siz t o).toInt.toNat 0 (s.begO G t o)).hand = s.hand := (plE_k _ _ _).1.trans (Ps.endT_k _ _).2.1
    unfold Ps.plO
    split
    · split
      · have := plO_last (G := G) (t := t) n (o + 1) (Ps.plE G t o (G.siz t o).toInt.toNat 0 (s.begO G t o))
        exact ⟨this.1.trans e1, this.2.trans e2⟩
      · exact ⟨e1, e2⟩
    · exact ⟨rfl, rfl⟩
theorem plT_last {G : Pg} : ∀ n t (s : Ps), (Ps.plT G n t s).last = s.last
  | 0, _, _ => rfl
  | n + 1, t, s => by
    have e1 : (Ps.plO G t (G.many t).toInt.toNat 0 (s.begT t)).last = s.last := (plO_last _ _ _).1
    unfold Ps.plT
    split
    · split
      · exact (plT_last n (t + 1) _).trans e1
      · exact e1
    · rfl
theorem play_last (G : Pg) (s : Ps) : (s.play G).last = 2 * G.each - 1 := by
  unfold Ps.play
  rw [plT_last]
  unfold Ps.start
  rw [(clr_k _ _ _).2.2.1]
  rfl
/-! how many overs have begun, where no rule is broken -/
theorem ty_begO_begun (b s : Int32) (T : Ty) : (T.begO b s).begun = T.begun + 1 := by
  unfold Ty.begO Ty.begO2 Ty.begO1 Ty.endP Ty.end44 Ty.chg
  repeat' split
  all_goals simp only [Ty.i1, Ty.i2, Ty.g1, Ty.g2, ↓reduceIte, Nat.reduceEqDiff]
theorem ty_ent_begun (c : Int32) (T : Ty) : (T.ent c).begun = T.begun := by
  have k4 : ∀ T : Ty, T.ent4.begun = T.begun := fun T => by
    unfold Ty.ent4 Ty.endO Ty.end44 Ty.chg
    split <;> simp only [Ty.i1, Ty.i2, Ty.g1, Ty.g2, ↓reduceIte, Nat.reduceEqDiff]
  have k3 : ∀ (k s : Int32) (T : Ty), (T.ent3 k s).begun = T.begun := fun k s T => by
    unfold Ty.ent3 Ty.ent3b
    split <;> simp only [Ty.i1, Ty.i2, Ty.g1, Ty.g2, ↓reduceIte, Nat.reduceEqDiff]
  have k1 : ∀ (k : Int32) (T : Ty), (T.ent1 k).begun = T.begun := fun k T => by
    unfold Ty.ent1
    split <;> simp only [Ty.i1, Ty.i2, Ty.g1, Ty.g2, ↓reduceIte, Nat.reduceEqDiff]
  have kc : ∀ (v : Int32) (T : Ty), (T.cross v).begun = T.begun := fun v T => by
    unfold Ty.cross Ty.chg
    split <;> simp only [Ty.i1, Ty.i2, Ty.g1, Ty.g2, ↓reduceIte, Nat.reduceEqDiff]
  have kh : ∀ (v : Int32) (T : Ty), (T.hit v).begun = T.begun := fun v T => by
    unfold Ty.hit
    rw [kc]
    simp only [Ty.i1, Ty.i2, Ty.g1, Ty.g2, ↓reduceIte, Nat.reduceEqDiff]
  have kn : ∀ (v : Int32) (T : Ty), (T.nob v).begun = T.begun := fun v T => by
    unfold Ty.nob
    rw [kc]
    simp only [Ty.i1, Ty.i2, Ty.g1, Ty.g2, ↓reduceIte, Nat.reduceEqDiff]
  have kk : ∀ (T : Ty), (T.concede).begun = T.begun := fun T => by
    unfold Ty.concede
    simp only [Ty.i1, Ty.i2, Ty.g1, Ty.g2, ↓reduceIte, Nat.reduceEqDiff]
  have kl : ∀ (w v : Int32) (T : Ty), (T.leave w v).begun = T.begun := fun w v T => by
    unfold Ty.leave Ty.leave1 Ty.fin
    repeat' split
    all_goals simp only [Ty.i1, Ty.i2, Ty.g1, Ty.g2, ↓reduceIte, Nat.reduceEqDiff]
  have ka : ∀ (v : Int32) (T : Ty), (T.away v).begun = T.begun := fun v T => by
    unfold Ty.away
    simp only [Ty.i1, Ty.i2, Ty.g1, Ty.g2, ↓reduceIte, Nat.reduceEqDiff]
  have k2 : ∀ (k v : Int32) (T : Ty), (T.ent2 k v).begun = T.begun := fun k v T => by
    unfold Ty.ent2
    repeat' split
    · exact kh _ _
    · rw [kn, kk]
    · rw [kh, kk]
    · rw [kl]; simp only [Ty.i1, Ty.i2, Ty.g1, Ty.g2, ↓reduceIte, Nat.reduceEqDiff]
    · rw [kl, kh]
    · rw [kl, kh]
    · exact kn _ _
    · exact ka _ _
    · rfl
  unfold Ty.ent
  rw [k4, k3, k2, k1]
theorem sTy_beg (s : Ps) (t q : Int32) (T : Ty) : ((s.sTy t T).ty q).begun = if q = t then T.begun else (s.ty q).begun := by
  show (if q = t then T else s.2 q).1 8 = _
  by_cases c : q = t
  · rw [if_pos c, if_pos c]
  · rw [if_neg c, if_neg c]
theorem sEnd_beg (s : Ps) (v q : Int32) : ((s.sEnd v).ty q).begun = (s.ty q).begun := by
  unfold Ps.sEnd
  rw [sTy_beg]
  by_cases c : q = s.hand
  · rw [if_pos c, c]
    simp only [Ty.i1, Ty.i2, Ty.g1, Ty.g2, ↓reduceIte, Nat.reduceEqDiff]
  · rw [if_neg c]
theorem endT_beg (c : Int32) (s : Ps) (q : Int32) : ((s.endT c).ty q).begun = (s.ty q).begun := by
  unfold Ps.endT Ps.end39
  repeat' split
  all_goals rw [show ∀ S : Ps, S.end84.ty = S.ty from fun S => (Ps.end84_k S).2.2.2.2.1]
  all_goals first | rfl | exact sEnd_beg _ _ _
theorem plE_beg {G : Pg} {t o q : Int32} : ∀ n i (s : Ps), ((Ps.plE G t o n i s).ty q).begun = (s.ty q).begun
  | 0, _, _ => rfl
  | n + 1, i, s => by
    unfold Ps.plE
    split
    · rw [plE_beg n, endT_beg, sTy_beg]
      by_cases c : q = t
      · rw [if_pos c, ty_ent_begun, c]
      · rw [if_neg c]
    · rfl
theorem begO_beg {G : Pg} {t o q : Int32} (s : Ps) : ((s.begO G t o).ty q).begun = if q = t then (s.ty t).begun + 1 else (s.ty q).begun := by
  unfold Ps.begO
  rw [endT_beg, sTy_beg, ty_begO_begun]
theorem plO_beg {G : Pg} {t : Int32} : ∀ n o (s : Ps), (Ps.plO G t n o s).rule = 0 → ∀ q, ((Ps.plO G t n o s).ty q).begun = if q = t then (s.ty t).begun + Int32.ofNat n else (s.ty q).begun
  | 0, _, s, _, q => by
    show (s.ty q).begun = _
    by_cases c : q = t
    · rw [if_pos c, c]
      show _ = (s.ty t).begun + 0
      grind
    · rw [if_neg c]
  | n + 1, o, s, hr, q => by
    unfold Ps.plO at hr ⊢
    by_cases c1 : s.ruleO (G.bow t o) = 0
    · rw [if_pos c1] at hr ⊢
      by_cases c2 : (Ps.plE G t o (G.siz t o).toInt.toNat 0 (s.begO G t o)).rule = 0
      · rw [if_pos c2] at hr ⊢
        rw [plO_beg n _ _ hr, plE_beg, plE_beg, begO_beg, begO_beg, if_pos rfl]
        by_cases c : q = t
        · rw [if_pos c, if_pos c, ← ofN_s]
          generalize Int32.ofNat n = w
          grind
        · rw [if_neg c, if_neg c, if_neg c]
      · rw [if_neg c2] at hr
        exact absurd hr c2
    · rw [if_neg c1] at hr
      exact absurd hr c1
theorem ofN_toI {m : Int32} (h : 0 ≤ m) : Int32.ofNat m.toInt.toNat = m := by
  have z : (0 : Int32).toInt = 0 := by decide
  have h' := Int32.le_iff_toInt_le.mp h
  have := Int32.toInt_lt m
  refine Int32.toInt_inj.mp ?_
  rw [Int32.toInt_ofNat']
  have : (Int32.size : Int) = 4294967296 := rfl
  rw [Int.bmod_eq_of_le] <;> omega
theorem plT_beg {G : Pg} (hm : ∀ t, inL G.turns t → 0 ≤ G.many t) : ∀ n t, (G.turns.toInt - t.toInt).toNat < n → ∀ s : Ps, 0 ≤ t → (∀ q, t ≤ q → q < G.turns → (s.ty q).begun = 0) → (∀ q, 0 ≤ q → q < t → (s.ty q).begun = G.many q) → (t ≤ G.turns) → (s.hand = t - 1) → (Ps.plT G (G.turns.toInt - t.toInt).toNat t s).rule = 0 → (Ps.plT G (G.turns.toInt - t.toInt).toNat t s).hand = G.turns - 1 ∧ ∀ q, 0 ≤ q → q < G.turns → ((Ps.plT G (G.turns.toInt - t.toInt).toNat t s).ty q).begun = G.many q := by
  refine i32_up ?_ ?_
  · intro n t hc s t0 H1 H2 tl hh hr
    rw [sub_none hc]
    have e : t = G.turns := Int32.le_antisymm tl hc
    rw [← e]
    exact ⟨hh, fun q q0 q1 => H2 q q0 q1⟩
  · intro n t hc ih s t0 H1 H2 tl hh hr
    rw [sub_succ hc] at hr ⊢
    unfold Ps.plT at hr ⊢
    by_cases c1 : s.ruleT t = 0
    · rw [if_pos c1] at hr ⊢
      by_cases c2 : (Ps.plO G t (G.many t).toInt.toNat 0 (s.begT t)).rule = 0
      · rw [if_pos c2] at hr ⊢
        have B : ∀ q, ((s.begT t).ty q).begun = (s.ty q).begun := by
          intro q
          unfold Ps.begT
          rw [sTy_beg]
          by_cases c : q = t
          · rw [if_pos c, c]
            unfold Ty.begin
            simp only [Ty.i1, Ty.i2, Ty.g1, Ty.g2, ↓reduceIte, Nat.reduceEqDiff]
          · rw [if_neg c]
            rfl
        have P := plO_beg _ _ _ c2
        refine ih _ (i32_ps t0 hc) ?_ ?_ ?_ ?_ hr
        · intro q q0 q1
          have tq : t < q := by
            have := i32_succ hc
            have := Int32.le_iff_toInt_le.mp q0
            exact Int32.lt_iff_toInt_lt.mpr (by omega)
          rw [P, if_neg (fun e => lt_ne tq e.symm), B]
          exact H1 q (Int32.le_of_lt tq) q1
        · intro q q0 q1
          rw [P]
          rcases (i32_ls hc).mp q1 with z | z
          · rw [if_neg (lt_ne z), B]
            exact H2 q q0 z
          · rw [if_pos z, B, H1 t (Int32.le_refl _) hc, z, ofN_toI (hm t ⟨t0, hc⟩)]
            grind
        · have := i32_succ hc
          have := Int32.lt_iff_toInt_lt.mp hc
          exact Int32.le_iff_toInt_le.mpr (by omega)
        · rw [(plO_last _ _ _).2]
          show t = t + 1 - 1
          grind
      · rw [if_neg c2] at hr
        exact absurd hr c2
    · rw [if_neg c1] at hr
      exact absurd hr c1
theorem play_beg {G : Pg} (ok : PgOK G) (s : Ps) (hr : (s.play G).rule = 0) : (s.play G).hand = G.turns - 1 ∧ ∀ q, 0 ≤ q → q < G.turns → ((s.play G).ty q).begun = G.many q := by
  have z : (0 : Int32).toInt = 0 := by decide
  have T4 := le_i ok.t4 (by decide : (4 : Int32).toInt = 4)
  have sty : ∀ q, (s.start G).ty q = if 0 ≤ q ∧ q < G.turns then (s.ty q).clear else s.ty q := by
    intro q
    have := clr_ty (G := G) (q := q) fu 0 (by show _ < 10000000; omega) ((((((((s.sGov G.ovs).sLast (2 * G.each - 1)).sHand (-1)).sWon 0).sRule 0).sBt (-1)).sBo (-1)).sBe (-1))
    rw [z, Int.sub_zero] at this
    exact this
  have hh : (s.start G).hand = -1 := by
    unfold Ps.start
    rw [(clr_k _ _ _).2.1]
    rfl
  have P := plT_beg (G := G) (fun t c => (ok.2.2.2 t c.1 c.2).1.1) fu 0 (by show _ < 10000000; omega) (s.start G) (by decide) ?_ ?_ ok.2.2.1.1 (by rw [hh]; decide)
  · rw [z, Int.sub_zero] at P
    exact P hr
  · intro q q0 q1
    rw [sty, if_pos ⟨q0, q1⟩]
    unfold Ty.clear
    simp only [Ty.i1, Ty.i2, Ty.g1, Ty.g2, ↓reduceIte, Nat.reduceEqDiff]
  · intro q q0 q1
    exact absurd q0 (Int32.not_le.mpr q1)
