/-! overs and sum of the reference; side, player, feed -/
/-! an over is whole or it isn't, open or not: 0 or 1 -/
theorem gS_c {f : Int32 → Int32 → Int32} {r c v r' c' : Int32} (h : c' ≠ c) : gS 120 5 f r c v r' c' = f r' c' := if_neg (fun q => h q.2.2)
theorem gS_1 {f : Int32 → Int32 → Int32} {r c r' c' : Int32} : gS 120 5 f r c 1 r' c' = f r' c' ∨ gS 120 5 f r c 1 r' c' = 1 := by
  unfold gS
  by_cases q : gin 120 5 r c ∧ r' = r ∧ c' = c
  · rw [if_pos q]; exact Or.inr rfl
  · rw [if_neg q]; exact Or.inl rfl
abbrev ov1 (T T' : Ty) (o w : Int32) : Prop := T'.ov o w = T.ov o w ∨ T'.ov o w = 1
theorem ov1.tr {T T1 T2 : Ty} {o w : Int32} (a : ov1 T T1 o w) (b : ov1 T1 T2 o w) : ov1 T T2 o w := by
  rcases b with b | b
  · rcases a with a | a
    · exact Or.inl (b.trans a)
    · exact Or.inr (b.trans a)
  · exact Or.inr b
theorem ov1_end44 (T : Ty) (o w : Int32) : T.end44.ov o w = T.ov o w := by
  unfold Ty.end44 Ty.chg
  simp only [Ty.i1, Ty.i2, Ty.g1, Ty.g2, ↓reduceIte, Nat.reduceEqDiff]
theorem ov1_endO (T : Ty) (o w : Int32) : ov1 T T.endO o w := by
  unfold ov1 Ty.endO
  rw [ov1_end44]
  simp only [Ty.i1, Ty.i2, Ty.g1, Ty.g2, ↓reduceIte, Nat.reduceEqDiff]
  exact gS_1
theorem ov1_endP (T : Ty) (o w : Int32) : ov1 T T.endP o w := by
  unfold ov1 Ty.endP
  rw [ov1_end44]
  simp only [Ty.i1, Ty.i2, Ty.g1, Ty.g2, ↓reduceIte, Nat.reduceEqDiff]
  rcases gS_1 (f := gS 120 5 T.ov (T.begun - 1) 3 1) (r := T.begun - 1) (c := 4) (r' := o) (c' := w) with q | q
  · rcases gS_1 (f := T.ov) (r := T.begun - 1) (c := 3) (r' := o) (c' := w) with y | y
    · exact Or.inl (q.trans y)
    · exact Or.inr (q.trans y)
  · exact Or.inr q
theorem ov1_ent (c : Int32) (T : Ty) {o w : Int32} (hw : w = 3 ∨ w = 4) : ov1 T (T.ent c) o w := by
  have w0 : w ≠ 0 := by rcases hw with q | q <;> rw [q] <;> decide
  have w1 : w ≠ 1 := by rcases hw with q | q <;> rw [q] <;> decide
  have w2 : w ≠ 2 := by rcases hw with q | q <;> rw [q] <;> decide
  have k4 : ∀ T : Ty, ov1 T T.ent4 o w := fun T => by
    unfold Ty.ent4
    split
    · exact ov1_endO T o w
    · exact Or.inl rfl
  have k3 : ∀ (k s : Int32) (T : Ty), (T.ent3 k s).ov o w = T.ov o w := fun k s T => by
    unfold Ty.ent3 Ty.ent3b
    split
    · simp only [Ty.i1, Ty.i2, Ty.g1, Ty.g2, ↓reduceIte, Nat.reduceEqDiff]
      rw [gS_c w2]
      exact gS_c w0
    · simp only [Ty.i1, Ty.i2, Ty.g1, Ty.g2, ↓reduceIte, Nat.reduceEqDiff]
      exact gS_c w0
  have k1 : ∀ (k : Int32) (T : Ty), (T.ent1 k).ov o w = T.ov o w := fun k T => by
    unfold Ty.ent1
    split <;> simp only [Ty.i1, Ty.i2, Ty.g1, Ty.g2, ↓reduceIte, Nat.reduceEqDiff]
  have kc : ∀ (v : Int32) (T : Ty), (T.cross v).ov o w = T.ov o w := fun v T => by
    unfold Ty.cross Ty.chg
    split <;> simp only [Ty.i1, Ty.i2, Ty.g1, Ty.g2, ↓reduceIte, Nat.reduceEqDiff]
  have kh : ∀ (v : Int32) (T : Ty), (T.hit v).ov o w = T.ov o w := fun v T => by
    unfold Ty.hit
    rw [kc]
    simp only [Ty.i1, Ty.i2, Ty.g1, Ty.g2, ↓reduceIte, Nat.reduceEqDiff]
  have kn : ∀ (v : Int32) (T : Ty), (T.nob v).ov o w = T.ov o w := fun v T => by
    unfold Ty.nob
    rw [kc]
    simp only [Ty.i1, Ty.i2, Ty.g1, Ty.g2, ↓reduceIte, Nat.reduceEqDiff]
  have kk : ∀ (T : Ty), (T.concede).ov o w = T.ov o w := fun T => by
    unfold Ty.concede
    simp only [Ty.i1, Ty.i2, Ty.g1, Ty.g2, ↓reduceIte, Nat.reduceEqDiff]
  have kl : ∀ (wf v : Int32) (T : Ty), (T.leave wf v).ov o w = T.ov o w := fun wf v T => by
    unfold Ty.leave Ty.leave1 Ty.fin
    repeat' split
    all_goals simp only [Ty.i1, Ty.i2, Ty.g1, Ty.g2, ↓reduceIte, Nat.reduceEqDiff]
    all_goals exact gS_c w1
  have ka : ∀ (v : Int32) (T : Ty), (T.away v).ov o w = T.ov o w := fun v T => by
    unfold Ty.away
    simp only [Ty.i1, Ty.i2, Ty.g1, Ty.g2, ↓reduceIte, Nat.reduceEqDiff]
  have k2 : ∀ (k v : Int32) (T : Ty), (T.ent2 k v).ov o w = T.ov o w := fun k v T => by
    unfold Ty.ent2
    repeat' split
    · exact kh _ _
    · rw [kn, kk]
    · rw [kh, kk]
    · rw [kl]; simp only [Ty.i1, Ty.i2, Ty.g1, Ty.g2, ↓reduceIte, Nat.reduceEqDiff]
    · rw [kl, kh]
    · rw [kl, kh]
    · exact kn _ _
    · exact ka _ _
    · rfl
  unfold Ty.ent
  refine ov1.tr (Or.inl ?_) (k4 _)
  rw [k3, k2, k1]
def V01 (T : Ty) : Prop := ∀ o w, inL T.begun o → o < 120 → (w = 3 ∨ w = 4) → T.ov o w = 0 ∨ T.ov o w = 1
theorem V01.of {T T' : Ty} (h : V01 T) (e : T'.begun = T.begun) (k : ∀ o w, (w = 3 ∨ w = 4) → ov1 T T' o w) : V01 T' := fun o w ho h120 hw => by
  rw [e] at ho
  rcases k o w hw with q | q
  · rw [q]; exact h o w ho h120 hw
  · exact Or.inr q
theorem V01_begO1 {T : Ty} (h : V01 T) (b : Int32) : V01 (T.begO1 b) := by
  intro o w ho h120 hw
  have e1 : (T.begO1 b).begun = T.begun + 1 := by
    unfold Ty.begO1
    simp only [Ty.i1, Ty.i2, Ty.g1, Ty.g2, ↓reduceIte, Nat.reduceEqDiff]
  have e2 : (T.begO1 b).ov o w = gRow 120 5 T.ov T.begun 0 o w := by
    unfold Ty.begO1
    simp only [Ty.i1, Ty.i2, Ty.g1, Ty.g2, ↓reduceIte, Nat.reduceEqDiff]
  rw [e1] at ho
  rw [e2]
  have w5 : 0 ≤ w ∧ w < 5 := by rcases hw with q | q <;> rw [q] <;> decide
  unfold gRow
  by_cases hb : T.begun < 2147483647
  · rcases (i32_ls hb).mp ho.2 with y | y
    · rw [if_neg (fun q => lt_ne y q.2)]
      exact h o w ⟨ho.1, y⟩ h120 hw
    · rw [if_pos ⟨⟨ho.1, h120, w5.1, w5.2⟩, y⟩]
      exact Or.inl rfl
  · exfalso
    have y : T.begun = 2147483647 := by
      have a := Int32.le_iff_toInt_le.mp (Int32.not_lt.mp hb)
      have e : (2147483647 : Int32).toInt = 2147483647 := by decide
      have := Int32.toInt_lt T.begun
      exact Int32.toInt_inj.mp (by omega)
    rw [y] at ho
    exact absurd (Int32.lt_of_le_of_lt ho.1 ho.2) (by decide)
theorem V01_begO {T : Ty} (h : V01 T) (b s : Int32) : V01 (T.begO b s) := by
  have eP : ∀ T : Ty, T.endP.begun = T.begun := fun T => by
    unfold Ty.endP Ty.end44 Ty.chg
    simp only [Ty.i1, Ty.i2, Ty.g1, Ty.g2, ↓reduceIte, Nat.reduceEqDiff]
  have k2 : ∀ T : Ty, V01 T → V01 (T.begO2 b s) := fun T h => by
    unfold Ty.begO2
    split
    · exact (V01_begO1 h b).of (eP _) (fun o w _ => ov1_endP _ o w)
    · exact V01_begO1 h b
  unfold Ty.begO
  split
  · exact k2 T h
  · exact k2 T.endP (h.of (eP T) (fun o w _ => ov1_endP T o w))
theorem V01.ty {T T' : Ty} (h : V01 T) (e1 : T'.begun = T.begun) (e2 : T'.ov = T.ov) : V01 T' := h.of e1 (fun o w _ => Or.inl (by rw [e2]))
theorem end_V {s : Ps} (c q : Int32) (h : V01 (s.ty q)) : V01 ((s.endT c).ty q) := by
  refine h.ty (endT_beg c s q) ?_
  unfold Ps.endT Ps.end39
  have sE : ∀ v, ((s.sEnd v).ty q).ov = (s.ty q).ov := fun v => by
    unfold Ps.sEnd
    show (if q = s.hand then _ else s.2 q).2 2 = _
    by_cases y : q = s.hand
    · rw [if_pos y, y]
      simp only [Ty.i1, Ty.i2, Ty.g1, Ty.g2, ↓reduceIte, Nat.reduceEqDiff]
    · rw [if_neg y]
  repeat' split
  all_goals rw [show ∀ S : Ps, S.end84.ty = S.ty from fun S => (Ps.end84_k S).2.2.2.2.1]
  all_goals first | rfl | exact sE _
theorem V01_ent {T : Ty} (h : V01 T) (c : Int32) : V01 (T.ent c) := h.of (ty_ent_begun c T) (fun o w hw => ov1_ent c T hw)
theorem plE_V {G : Pg} {t o q : Int32} : ∀ n i (s : Ps), V01 (s.ty q) → V01 ((Ps.plE G t o n i s).ty q)
  | 0, _, _, h => h
  | n + 1, i, s, h => by
    unfold Ps.plE
    split
    · refine plE_V n _ _ (end_V _ _ ?_)
      show V01 (if q = t then _ else s.2 q)
      by_cases c : q = t
      · rw [if_pos c]
        rw [c] at h
        exact V01_ent h _
      · rw [if_neg c]; exact h
    · exact h
theorem plO_V {G : Pg} {t q : Int32} : ∀ n o (s : Ps), V01 (s.ty q) → V01 ((Ps.plO G t n o s).ty q)
  | 0, _, _, h => h
  | n + 1, o, s, h => by
    have hb : V01 ((s.begO G t o).ty q) := by
      unfold Ps.begO
      refine end_V _ _ ?_
      show V01 (if q = t then _ else s.2 q)
      by_cases c : q = t
      · rw [if_pos c]
        rw [c] at h
        exact V01_begO h _ _
      · rw [if_neg c]; exact h
    unfold Ps.plO
    split
    · split
      · exact plO_V n _ _ (plE_V _ _ _ hb)
      · exact plE_V _ _ _ hb
    · exact h
theorem plT_V {G : Pg} {q : Int32} : ∀ n t (s : Ps), V01 (s.ty q) → V01 ((Ps.plT G n t s).ty q)
  | 0, _, _, h => h
  | n + 1, t, s, h => by
    have hb : V01 ((s.begT t).ty q) := by
      unfold Ps.begT
      show V01 (if q = t then _ else s.2 q)
      by_cases c : q = t
      · rw [if_pos c]
        rw [c] at h
        refine h.ty ?_ ?_
        · unfold Ty.begin
          simp only [Ty.i1, Ty.i2, Ty.g1, Ty.g2, ↓reduceIte, Nat.reduceEqDiff]
        · unfold Ty.begin
          simp only [Ty.i1, Ty.i2, Ty.g1, Ty.g2, ↓reduceIte, Nat.reduceEqDiff]
      · rw [if_neg c]; exact h
    unfold Ps.plT
    split
    · split
      · exact plT_V n _ _ (plO_V _ _ _ hb)
      · exact plO_V _ _ _ hb
    · exact h
theorem play_V {G : Pg} (ok : PgOK G) (s : Ps) {q : Int32} (q0 : inL G.turns q) : V01 ((s.play G).ty q) := by
  unfold Ps.play
  refine plT_V _ _ _ ?_
  have z : (0 : Int32).toInt = 0 := by decide
  have T4 := le_i ok.t4 (by decide : (4 : Int32).toInt = 4)
  have sty : (s.start G).ty q = if 0 ≤ q ∧ q < G.turns then (s.ty q).clear else s.ty q := by
    have := clr_ty (G := G) (q := q) fu 0 (by show _ < 10000000; omega) ((((((((s.sGov G.ovs).sLast (2 * G.each - 1)).sHand (-1)).sWon 0).sRule 0).sBt (-1)).sBo (-1)).sBe (-1))
    rw [z, Int.sub_zero] at this
    exact this
  rw [sty, if_pos q0]
  intro o w ho _ _
  have e : (s.ty q).clear.begun = 0 := by
    unfold Ty.clear
    simp only [Ty.i1, Ty.i2, Ty.g1, Ty.g2, ↓reduceIte, Nat.reduceEqDiff]
  rw [e] at ho
  exact absurd ho.1 (Int32.not_le.mpr ho.2)
section Ms
variable {e : mE} {A : Bk} {g : Int32}
theorem ite01 {v : Int32} (h : v = 0 ∨ v = 1) : (if v = 0 then (0 : Int32) else 1) = v := by
  rcases h with q | q <;> rw [q] <;> decide
theorem m_overs (r : MR e A) (ok : BkOK A) {s : Ps} (hs : TyNs s) (g t o w : Int32) : Rn (P_X12_overs g t o w e) (MQ1 e A (aOvers s g t o w A)) := by
  unfold P_X12_overs P_X12_overs_32 P_X12_fail aOvers
  have r0 := r.c0
  refine rn_bd (rn_o (m_find r0 ok g t o) (rn_bd (rn_bd ?_)))
  dsimp only
  by_cases c : inO A g t o
  rotate_left
  · rw [if_neg c, if_neg (show ¬ (inO A g t o ∧ inL 8 w) from fun q => c q.1)]
    exact rn_p rfl (rn_s (mq_no r0 rfl _))
  rw [if_pos c]
  have w0 := r0.row c
  have lt : w ≤ 7 ↔ w < 8 := by
    clear r0 r ok hs c w0
    constructor <;> intro q <;> grind
  refine rn_n (neg1 w0.1.1) (rn_i (fun c1 => ?_) (fun c1 => rn_i (fun c2 => ?_) (fun c2 => ?_)))
  · rw [if_neg (show ¬ (inO A g t o ∧ inL 8 w) from fun q => absurd q.2.1 (Int32.not_le.mpr c1))]
    exact rn_s (mq_no r0 rfl _)
  rotate_left
  · rw [if_neg (show ¬ (inO A g t o ∧ inL 8 w) from fun q => c2 (lt.mpr q.2.2))]
    exact rn_s (mq_no r0 rfl _)
  rw [if_pos (show inO A g t o ∧ inL 8 w from ⟨c, Int32.not_lt.mp c1, lt.mp c2⟩)]
  obtain ⟨e', p1, p2, p3, p4, p5⟩ := m_play r0 ok c.1 hs
  have pw := r0.pgW ok c.1
  obtain ⟨q1, q2, q3, q4, q5, q6⟩ := (p2.tq pw c.2.1.1 c.2.1.2).2.2.2.2.1 o c.2.2.1 c.2.2.2
  have tqb := (p2.tq pw c.2.1.1 c.2.1.2).2.2.2.2.2.1
  have b : ∀ w', (w' = 3 ∨ w' = 4) → (if o < ((s.play (A.pg g)).ty t).begun then ((s.play (A.pg g)).ty t).ov o w' else 0) = 0 ∨ (if o < ((s.play (A.pg g)).ty t).begun then ((s.play (A.pg g)).ty t).ov o w' else 0) = 1 := by
    intro w' hw'
    by_cases y : o < ((s.play (A.pg g)).ty t).begun
    · rw [if_pos y]
      exact play_V (ok.pgo c.1) s c.2.1 o w' ⟨c.2.2.1, y⟩ (Int32.lt_of_lt_of_le y tqb.2.1) hw'
    · rw [if_neg y]; exact Or.inl rfl
  have h0 : e'.1 0 = 0 := (p5 0 (Or.inl rfl)).trans rfl
  have h11 : e'.1 11 = e.1 11 := (p4.1 11 (by decide) (by decide)).trans rfl
  have v12 : e'.2 12 (rwT (mS e 0 0) g t o) = (A.pg g).bow t o := (p4.2 12 _ (by decide)).trans w0.2.1
  have v13 : e'.2 13 (rwT (mS e 0 0) g t o) = (A.pg g).siz t o := (p4.2 13 _ (by decide)).trans w0.2.2.1
  have cg : ∀ {v v' : Int32}, v = v' → MQ1 e A (some v') (v, e') := fun {v v'} h => by rw [h]; exact mq_yes p3 h0 h11
  have ov : ∀ w' : Int32, w' ≠ 7 → ((s.play (A.pg g)).ty t).ovf o w' = if o < ((s.play (A.pg g)).ty t).begun then ((s.play (A.pg g)).ty t).ov o (w' - 2) else 0 := by
    intro w' n
    unfold Ty.ovf
    rw [if_neg n]
    by_cases y : o < ((s.play (A.pg g)).ty t).begun
    · rw [if_pos ⟨c.2.2.1, y⟩, if_pos y]
    · rw [if_neg (fun z => y z.2), if_neg y]
  refine rn_o p1 ?_
  by_cases k0 : w = 0
  · rw [if_pos k0, if_pos k0]
    exact rn_ck w0.1 (rn_s (cg v12))
  rw [if_neg k0, if_neg k0]
  by_cases k1 : w = 1
  · rw [if_pos k1, if_pos k1]
    exact rn_ck w0.1 (rn_s (cg v13))
  rw [if_neg k1, if_neg k1]
  by_cases k2 : w = 2
  · rw [if_pos k2, k2]
    exact rn_ck w0.1 (rn_s (cg (by rw [q1, ov 2 (by decide)]; rfl)))
  rw [if_neg k2]
  by_cases k3 : w = 3
  · rw [if_pos k3, k3]
    exact rn_ck w0.1 (rn_s (cg (by rw [q2, ov 3 (by decide)]; rfl)))
  rw [if_neg k3]
  by_cases k4 : w = 4
  · rw [if_pos k4, k4]
    exact rn_ck w0.1 (rn_s (cg (by rw [q3, ov 4 (by decide)]; rfl)))
  rw [if_neg k4]
  have ite_s : ∀ {v : Int32}, (if v = 0 then some ((0 : Int32), e') else some (1, e')) = some (if v = 0 then 0 else 1, e') := fun {v} => by
    by_cases y : v = 0
    · rw [if_pos y, if_pos y]
    · rw [if_neg y, if_neg y]
  by_cases k5 : w = 5
  · rw [if_pos k5, k5, ite_s, ite01 (by rw [q4]; exact b 3 (Or.inl rfl))]
    exact rn_ck w0.1 (rn_s (cg (by rw [q4, ov 5 (by decide)]; rfl)))
  rw [if_neg k5]
  by_cases k6 : w = 6
  · rw [if_pos k6, k6, ite_s, ite01 (by rw [q5]; exact b 4 (Or.inr rfl))]
    exact rn_ck w0.1 (rn_s (cg (by rw [q5, ov 6 (by decide)]; rfl)))
  rw [if_neg k6, ite_s]
  have k7 : w = 7 := by
    have a := Int32.not_lt.mp c1
    clear r0 r ok hs c w0 p2 p3 p4 p5 pw q1 q2 q3 q4 q5 q6 ov cg v12 v13 b
    grind
  refine rn_ck w0.1 (rn_s (cg ?_))
  rw [q6, k7]
  unfold Ty.ovf
  by_cases y : o < ((s.play (A.pg g)).ty t).begun
  · rw [if_pos y, if_pos (show 0 ≤ o ∧ o < ((s.play (A.pg g)).ty t).begun from ⟨c.2.2.1, y⟩), if_pos rfl]
    decide
  · rw [if_neg y, if_neg (show ¬ (0 ≤ o ∧ o < ((s.play (A.pg g)).ty t).begun) from fun z => y z.2)]
    decide
end Ms
