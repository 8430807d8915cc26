/-! what a seat has made is never below 0 -/
def BB (m : Nat) (T : Ty) : Prop := ∀ k, 0 ≤ (T.bat k 0).toInt ∧ (T.bat k 0).toInt ≤ (m : Int)
abbrev c0 (T T' : Ty) : Prop := ∀ k, T'.bat k 0 = T.bat k 0
theorem BB.c0 {m : Nat} {T T' : Ty} (h : BB m T) (e : c0 T T') : BB m T' := fun k => by rw [e k]; exact h k
theorem BB.wk {m n : Nat} {T : Ty} (h : BB m T) (l : m ≤ n) : BB n T := fun k => ⟨(h k).1, by have := (h k).2; omega⟩
theorem gS_c0 {f : Int32 → Int32 → Int32} {r c v k : Int32} (h : c ≠ 0) : gS 11 3 f r c v k 0 = f k 0 := if_neg (fun q => h q.2.2.symm)
theorem cross_c0 (v : Int32) (T : Ty) : c0 T (T.cross v) := fun k => by
  unfold Ty.cross Ty.chg
  split <;> rfl
theorem hit_BB {m : Nat} {T : Ty} {v : Int32} (h : BB m T) (v0 : 0 ≤ v) (v1 : v ≤ 15) (hm : m ≤ 1000000) : BB (m + 15) (T.hit v) := by
  unfold Ty.hit
  refine BB.c0 (T := ((T.sBat (gAd 11 3 T.bat T.faces 0 v)).sBow (gAd 11 3 T.bow T.bowler 1 v)).sScore (T.score + v)) (fun k => ?_) (cross_c0 v _)
  show 0 ≤ (gS 11 3 T.bat T.faces 0 (T.bat T.faces 0 + v) k 0).toInt ∧ (gS 11 3 T.bat T.faces 0 (T.bat T.faces 0 + v) k 0).toInt ≤ _
  unfold gS
  have a := h k
  have b := h T.faces
  have z : (0 : Int32).toInt = 0 := by decide
  have c := Int32.le_iff_toInt_le.mp v0
  have d := le_i v1 (by decide : (15 : Int32).toInt = 15)
  by_cases q : gin 11 3 T.faces 0 ∧ k = T.faces ∧ (0 : Int32) = 0
  · rw [if_pos q]
    have e : (T.bat T.faces 0 + v).toInt = (T.bat T.faces 0).toInt + v.toInt := by
      rw [Int32.toInt_add]
      apply Int.bmod_eq_of_le <;> omega
    rw [e]
    omega
  · rw [if_neg q]
    omega
theorem leave_c0 (wf how : Int32) (T : Ty) : c0 T (T.leave wf how) := fun k => by
  unfold Ty.leave Ty.leave1 Ty.fin
  repeat' split
  all_goals simp only [Ty.i1, Ty.i2, Ty.g1, Ty.g2, ↓reduceIte, Nat.reduceEqDiff]
  all_goals first | exact gS_c0 (by decide) | (rw [gS_c0 (by decide)]; exact gS_c0 (by decide))
theorem concede_c0 (T : Ty) : c0 T T.concede := fun k => by
  unfold Ty.concede
  simp only [Ty.i1, Ty.i2, Ty.g1, Ty.g2, ↓reduceIte, Nat.reduceEqDiff]
theorem nob_c0 (v : Int32) (T : Ty) : c0 T (T.nob v) := fun k => by
  unfold Ty.nob
  rw [cross_c0]
  rfl
theorem ent2_BB {m : Nat} {T : Ty} {k v : Int32} (h : BB m T) (v0 : 0 ≤ v) (v1 : v ≤ 15) (hm : m ≤ 1000000) : BB (m + 15) (T.ent2 k v) := by
  have w : ∀ {T' : Ty}, c0 T T' → BB (m + 15) T' := fun e => (h.c0 e).wk (by omega)
  have h7 := half7 v0 v1
  have h15 : v / 2 ≤ 15 := i32_tr h7.2 (by decide)
  unfold Ty.ent2
  split
  · exact hit_BB h v0 v1 hm
  split
  · exact w (fun k => by rw [nob_c0, concede_c0])
  split
  · exact hit_BB (h.c0 (concede_c0 T)) v0 v1 hm
  split
  · exact w (fun k => by rw [leave_c0]; rfl)
  split
  · split
    · exact (hit_BB h h7.1 h15 hm).c0 (leave_c0 _ _ _)
    · exact (hit_BB h h7.1 h15 hm).c0 (leave_c0 _ _ _)
  split
  · exact w (nob_c0 _ _)
  split
  · exact w (fun k => by
      unfold Ty.away
      simp only [Ty.i1, Ty.i2, Ty.g1, Ty.g2, ↓reduceIte, Nat.reduceEqDiff])
  · exact w (fun _ => rfl)
theorem end44_c0 (T : Ty) : c0 T T.end44 := fun k => by
  unfold Ty.end44 Ty.chg
  simp only [Ty.i1, Ty.i2, Ty.g1, Ty.g2, ↓reduceIte, Nat.reduceEqDiff]
theorem endP_c0 (T : Ty) : c0 T T.endP := fun k => by
  unfold Ty.endP
  rw [end44_c0]
  rfl
theorem ent_BB {m : Nat} {T : Ty} {c : Int32} (h : BB m T) (v0 : 0 ≤ c - c / 16 * 16) (v1 : c - c / 16 * 16 ≤ 15) (hm : m ≤ 1000000) : BB (m + 15) (T.ent c) := by
  have e1 : c0 T (T.ent1 (c / 16)) := fun k => by
    unfold Ty.ent1
    split
    · simp only [Ty.i1, Ty.i2, Ty.g1, Ty.g2, ↓reduceIte, Nat.reduceEqDiff]
      exact gS_c0 (by decide)
    · rfl
  have e3 : ∀ (k s : Int32) (T : Ty), c0 T (T.ent3 k s) := fun k s T j => by
    unfold Ty.ent3 Ty.ent3b
    split <;> simp only [Ty.i1, Ty.i2, Ty.g1, Ty.g2, ↓reduceIte, Nat.reduceEqDiff]
  have e4 : ∀ (T : Ty), c0 T T.ent4 := fun T j => by
    unfold Ty.ent4 Ty.endO
    split
    · rw [end44_c0]; rfl
    · rfl
  unfold Ty.ent
  exact ((ent2_BB (h.c0 e1) v0 v1 hm).c0 (e3 _ _ _)).c0 (e4 _)
theorem begO_c0 (b s : Int32) (T : Ty) : c0 T (T.begO b s) := fun k => by
  have k1 : ∀ T : Ty, (T.begO1 b).bat k 0 = T.bat k 0 := fun T => by
    unfold Ty.begO1
    simp only [Ty.i1, Ty.i2, Ty.g1, Ty.g2, ↓reduceIte, Nat.reduceEqDiff]
  have k2 : ∀ T : Ty, (T.begO2 b s).bat k 0 = T.bat k 0 := fun T => by
    unfold Ty.begO2
    split
    · rw [endP_c0, k1]
    · exact k1 T
  unfold Ty.begO
  split
  · exact k2 T
  · rw [k2, endP_c0]
theorem endT_c0 (c q : Int32) (s : Ps) : c0 (s.ty q) ((s.endT c).ty q) := fun k => by
  have sE : ∀ v, ((s.sEnd v).ty q).bat k 0 = (s.ty q).bat k 0 := fun v => by
    unfold Ps.sEnd
    show ((if q = s.hand then _ else s.2 q) : Ty).2 0 k 0 = _
    by_cases y : q = s.hand
    · rw [if_pos y, y]
      simp only [Ty.i1, Ty.i2, Ty.g1, Ty.g2, ↓reduceIte, Nat.reduceEqDiff]
    · rw [if_neg y]
  unfold Ps.endT Ps.end39
  repeat' split
  all_goals rw [show ∀ S : Ps, S.end84.ty = S.ty from fun S => (Ps.end84_k S).2.2.2.2.1]
  all_goals first | rfl | exact sE _
theorem plE_BB {G : Pg} {t o q : Int32} : ∀ n i (s : Ps) m, BB m (s.ty q) → m + 15 * n ≤ 1000000 → BB (m + 15 * n) ((Ps.plE G t o n i s).ty q)
  | 0, _, _, _, h, _ => h
  | n + 1, i, s, m, h, hm => by
    unfold Ps.plE
    by_cases c : s.ruleE (G.ent t o i) = 0
    · rw [if_pos c]
      have isE := isE_v (ruleE0 c).1
      have b1 : BB (m + 15) ((s.sTy t ((s.ty t).ent (G.ent t o i))).ty q) := by
        show BB (m + 15) (if q = t then (s.ty t).ent (G.ent t o i) else s.ty q)
        by_cases y : q = t
        · rw [if_pos y]
          rw [y] at h
          exact ent_BB h isE.1 isE.2.1 (by omega)
        · rw [if_neg y]; exact h.wk (by omega)
      have := plE_BB (G := G) (t := t) (o := o) (q := q) n (i + 1) _ (m + 15) (b1.c0 (endT_c0 (if G.ent t o i / 16 = 9 then 1 else 0) q _)) (by omega)
      rw [show m + 15 * (n + 1) = m + 15 + 15 * n by omega]
      exact this
    · rw [if_neg c]
      exact h.wk (by omega)
theorem plO_BB {G : Pg} {t q : Int32} : ∀ n o (s : Ps) m, BB m (s.ty q) → m + 15 * nOvs G t n o ≤ 1000000 → BB (m + 15 * nOvs G t n o) ((Ps.plO G t n o s).ty q)
  | 0, _, _, _, h, _ => h
  | n + 1, o, s, m, h, hm => by
    rw [nOvs_s] at hm ⊢
    have hb : BB m ((s.begO G t o).ty q) := by
      unfold Ps.begO
      refine BB.c0 ?_ (endT_c0 _ q _)
      show BB m (if q = t then (s.ty t).begO (G.bow t o) (G.siz t o) else s.ty q)
      by_cases y : q = t
      · rw [if_pos y]
        rw [y] at h
        exact h.c0 (begO_c0 _ _ _)
      · rw [if_neg y]; exact h
    have hE := plE_BB (G := G) (t := t) (o := o) (q := q) (G.siz t o).toInt.toNat 0 _ m hb (by omega)
    unfold Ps.plO
    split
    · split
      · exact (plO_BB n (o + 1) _ _ hE (by omega)).wk (by omega)
      · exact hE.wk (by omega)
    · exact h.wk (by omega)
theorem plT_BB {G : Pg} {q : Int32} : ∀ n t (s : Ps) m, BB m (s.ty q) → m + 15 * nTurns G n t ≤ 1000000 → BB (m + 15 * nTurns G n t) ((Ps.plT G n t s).ty q)
  | 0, _, _, _, h, _ => h
  | n + 1, t, s, m, h, hm => by
    rw [nTurns_s] at hm ⊢
    have hb : BB m ((s.begT t).ty q) := by
      unfold Ps.begT
      show BB m (if q = t then (s.ty t).begin _ else s.ty q)
      by_cases y : q = t
      · rw [if_pos y]
        rw [y] at h
        refine h.c0 (fun k => ?_)
        unfold Ty.begin
        simp only [Ty.i1, Ty.i2, Ty.g1, Ty.g2, ↓reduceIte, Nat.reduceEqDiff]
        rw [gS_c0 (by decide)]
        exact gS_c0 (by decide)
      · rw [if_neg y]; exact h
    have hO := plO_BB (G := G) (t := t) (q := q) (G.many t).toInt.toNat 0 _ m hb (by omega)
    unfold Ps.plT
    split
    · split
      · exact (plT_BB n (t + 1) _ _ hO (by omega)).wk (by omega)
      · exact hO.wk (by omega)
    · exact h.wk (by omega)
theorem play_BB {G : Pg} (ok : PgOK G) (s : Ps) {q : Int32} (q0 : inL G.turns q) (k : Int32) : 0 ≤ ((s.play G).ty q).bat k 0 := by
  have z : (0 : Int32).toInt = 0 := by decide
  have T4 := le_i ok.t4 (by decide : (4 : Int32).toInt = 4)
  have sty : (s.start G).ty q = if 0 ≤ q ∧ q < G.turns then (s.ty q).clear else s.ty q := by
    have := clr_ty (G := G) (q := q) fu 0 (by show _ < 10000000; omega) ((((((((s.sGov G.ovs).sLast (2 * G.each - 1)).sHand (-1)).sWon 0).sRule 0).sBt (-1)).sBo (-1)).sBe (-1))
    rw [z, Int.sub_zero] at this
    exact this
  have b0 : BB 0 ((s.start G).ty q) := by
    rw [sty, if_pos q0]
    intro j
    have e : (s.ty q).clear.bat j 0 = gAll 11 3 0 j 0 := by
      unfold Ty.clear
      simp only [Ty.i1, Ty.i2, Ty.g1, Ty.g2, ↓reduceIte, Nat.reduceEqDiff]
    have e2 : gAll 11 3 0 j 0 = 0 := by
      unfold gAll
      split <;> rfl
    rw [e, e2, z]
    omega
  have iN := imgN_le ok
  unfold imgN at iN
  unfold Ps.play
  have := plT_BB (G := G) (q := q) G.turns.toInt.toNat 0 _ 0 b0 (by omega) k
  exact Int32.le_iff_toInt_le.mpr (by rw [z]; exact this.1)
