/-! ball of the reference -/
section Mba
variable {e : mE} {A : Bk} {g t o : Int32}
theorem and255 (b : Int32) : 0 ≤ b &&& 255 ∧ b &&& 255 ≤ 255 := by
  have h : ∀ x : BitVec 32, (x &&& 255#32).toInt ≥ 0 ∧ (x &&& 255#32).toInt ≤ 255 := by
    intro x
    have l : (x &&& 255#32).toNat ≤ 255 := by
      rw [BitVec.toNat_and]
      exact Nat.and_le_right
    rw [BitVec.toInt_eq_toNat_of_lt (by omega)]
    omega
  have := h b.toBitVec
  constructor
  · exact Int32.le_iff_toInt_le.mpr this.1
  · exact Int32.le_iff_toInt_le.mpr this.2
theorem m_b169 {w v y0 : Int32} (r : MR e (A.sI 4 w)) (ok : BkOK A) (h4 : w = 0 → inO A g t o ∧ y0 = rwT e g t o ∧ 0 ≤ (A.pg g).siz t o ∧ (A.pg g).siz t o < 40) : Rn (P_X12_ball_169 g y0 v e) (fun q => q.1 = (if w = 0 then 1 else 0) ∧ MP e (if w = 0 then (A.chg g ((A.pg g).edit t o ((A.pg g).bow t o) ((A.pg g).siz t o + 1) (rIns ((A.pg g).ent t o) ((A.pg g).siz t o) v))).sI 4 0 else A.sI 4 w) q.2) := by
  unfold P_X12_ball_169
  rw [show e.1 19 = w from r.1.2.2.2.2.1]
  by_cases c0 : w = 0
  rotate_left
  · rw [if_neg c0, if_neg c0, if_neg c0]
    exact rn_s ⟨rfl, r, rfl⟩
  subst c0
  rw [if_pos rfl, if_pos rfl, if_pos rfl]
  obtain ⟨c, y, s0, s1⟩ := h4 rfl
  subst y
  have wr := r.row (g := g) (t := t) (o := o) c
  have w13 : e.2 13 (rwT e g t o) = (A.pg g).siz t o := wr.2.2.1
  refine rn_ck wr.1 ?_
  rw [w13]
  have sL : inL 40 ((A.pg g).siz t o) := ⟨s0, s1⟩
  refine rn_ck (ix40 wr.1 s0 s1) (rn_bd (rn_ck wr.1 (rn_bd (rn_ck wr.1 ?_))))
  rw [mA_at, if_pos rfl, mA_ne (show (13 : Nat) ≠ 14 by decide), w13, pred1]
  have sp := i32_succ s1
  have sl := Int32.lt_iff_toInt_lt.mp s1
  have f40 : (40 : Int32).toInt = 40 := by decide
  have q : RowQ e (rwT e g t o) ((A.pg g).bow t o) ((A.pg g).siz t o + 1) (rIns ((A.pg g).ent t o) ((A.pg g).siz t o) v) (mA (mA e 14 (40 * rwT e g t o + (A.pg g).siz t o) v) 13 (rwT e g t o) ((A.pg g).siz t o + 1)) := ((EnQ.refl _ _).set wr.1 sL).siz wr.2.1 (fun i hi => by
    have i40 : inL 40 i := ⟨hi.1, by
      have := Int32.lt_iff_toInt_lt.mp hi.2
      exact Int32.lt_iff_toInt_lt.mpr (by omega)⟩
    rw [en_at wr.1 sL i40]
    unfold rIns
    rcases (i32_ls s1).mp hi.2 with y | y
    · rw [if_pos y, if_neg (lt_ne y)]
      exact wr.2.2.2 i ⟨hi.1, y⟩
    · rw [if_pos y, if_neg (fun z => lt_ne z y), if_pos y])
  refine rn_c (m_rowDone (A := A.sI 4 0) (x1 := 2) (x4 := (A.pg g).siz t o) (x5 := 0) r (ok.why 0) c q (fun e2 k1 k4 k5 => Or.inl ⟨Or.inl k1, ?_, ?_⟩)) (fun e2 D => rn_s ⟨rfl, D.1, D.2⟩)
  · rw [edit_b.2.1, k4]
    exact ⟨s0, Int32.lt_iff_toInt_lt.mpr (by omega)⟩
  · rw [edit_b.1, edit_b.2.1, edit_b.2.2, k4]
    refine edit_eq rfl pred1 (fun j hj => ?_)
    rw [pred1] at hj
    exact rIns_del s0 ⟨hj.1, Int32.lt_of_lt_of_le (Int32.lt_of_lt_of_le hj.2 (Int32.le_of_lt s1)) (by decide)⟩
theorem m_ball (r : MR e A) (ok : BkOK A) {s : Ps} (hs : TyNs s) (g b : Int32) : Rn (P_X12_ball g b e) (fun q => q.1 = (aBall s g b A).1 ∧ MP e (aBall s g b A).2 q.2) := by
  unfold P_X12_ball P_X12_ball_51 aBall
  have r0 : MR (mS (mS e 0 0) 19 0) (A.sI 4 0) := r.c0.why 0
  refine rn_bd (rn_bd (rn_o (m_isGame r0 g) (rn_bd (rn_bd ?_))))
  dsimp only
  by_cases c : inL A.games g
  rotate_left
  · rw [if_neg (show ¬ inL (A.sI 4 0).games g from c), if_neg c]
    exact rn_p rfl (rn_s ⟨rfl, r0, rfl⟩)
  rw [if_pos (show inL (A.sI 4 0).games g from c), if_pos c]
  refine rn_n (by decide) ?_
  obtain ⟨e', p1, p2, p3, p4, p5⟩ := m_play r0 (ok.why 0) (g := g) c hs
  have p2 : FR (mS (mS e 0 0) 19 0) g (A.pg g) e' (s.play (A.pg g)) := p2
  have pw : PgW (mS (mS e 0 0) 19 0) g (A.pg g) := r0.pgW (ok.why 0) c
  have pb := play_beg (ok.pgo c) s
  generalize s.play (A.pg g) = S at p2 pb
  obtain ⟨f28, -, fg, fl⟩ := p2.rl
  have i11 : e'.1 11 = e.1 11 := (p4.1 11 (by decide) (by decide)).trans rfl
  have fin : ∀ (E : mE) (w y0 : Int32), bRule S (A.pg g) b = w → MR E (A.sI 4 w) → E.1 11 = e'.1 11 → (w = 0 → inO A g ((A.pg g).turns - 1) ((A.pg g).many ((A.pg g).turns - 1) - 1) ∧ y0 = rwT E g ((A.pg g).turns - 1) ((A.pg g).many ((A.pg g).turns - 1) - 1) ∧ 0 ≤ (A.pg g).siz ((A.pg g).turns - 1) ((A.pg g).many ((A.pg g).turns - 1) - 1) ∧ (A.pg g).siz ((A.pg g).turns - 1) ((A.pg g).many ((A.pg g).turns - 1) - 1) < 40) → Rn (P_X12_ball_169 g y0 (b &&& 255) E) (fun q => q.1 = (if bRule S (A.pg g) b = 0 then ((1 : Int32), (A.chg g (pBall (A.pg g) b)).sI 4 0) else ((0 : Int32), A.sI 4 (bRule S (A.pg g) b))).1 ∧ MP e (if bRule S (A.pg g) b = 0 then ((1 : Int32), (A.chg g (pBall (A.pg g) b)).sI 4 0) else ((0 : Int32), A.sI 4 (bRule S (A.pg g) b))).2 q.2) := fun E w y0 hw R h11 h4 => by
    rw [hw]
    refine (m_b169 R ok h4).imp (fun q Q => ?_)
    have k : E.1 11 = e.1 11 := h11.trans i11
    unfold MP at Q ⊢
    rw [k] at Q
    by_cases y : w = 0
    · rw [if_pos y, if_pos y] at Q
      rw [if_pos y]
      exact Q
    · rw [if_neg y, if_neg y] at Q
      rw [if_neg y]
      exact Q
  have p8 : e'.2 8 g = (A.pg g).turns := (p3.2.2.1 g c).2.2.2.2.2.1
  have tu := (ok.pgo c).2.2.1.1
  -- once the row has been found
  have g73 : ∀ y0 : Int32, (y0 = -1 → ¬ (0 < (A.pg g).turns ∧ 0 < (A.pg g).many ((A.pg g).turns - 1))) → (y0 ≠ -1 → inO A g ((A.pg g).turns - 1) ((A.pg g).many ((A.pg g).turns - 1) - 1) ∧ 0 < (A.pg g).turns ∧ 0 < (A.pg g).many ((A.pg g).turns - 1) ∧ y0 = rwT e' g ((A.pg g).turns - 1) ((A.pg g).many ((A.pg g).turns - 1) - 1)) → Rn (P_X12_ball_73 g b ((A.pg g).turns - 1) y0 e') (fun q => q.1 = (if bRule S (A.pg g) b = 0 then ((1 : Int32), (A.chg g (pBall (A.pg g) b)).sI 4 0) else ((0 : Int32), A.sI 4 (bRule S (A.pg g) b))).1 ∧ MP e (if bRule S (A.pg g) b = 0 then ((1 : Int32), (A.chg g (pBall (A.pg g) b)).sI 4 0) else ((0 : Int32), A.sI 4 (bRule S (A.pg g) b))).2 q.2) := by
    intro y0 hn hy
    unfold P_X12_ball_73 P_X12_ball_117
    refine rn_bd ?_
    rw [f28]
    by_cases cr : S.rule = 0
    rotate_left
    · rw [if_neg cr]
      exact rn_bd (fin _ S.rule y0 (if_neg cr) (p3.w2 _) rfl (fun q => absurd q cr))
    rw [if_pos cr]
    obtain ⟨hh, hb⟩ := pb cr
    have br : bRule S (A.pg g) b = if 0 < (A.pg g).turns ∧ 0 < (A.pg g).many ((A.pg g).turns - 1) ∧ 0 ≤ (A.pg g).siz ((A.pg g).turns - 1) ((A.pg g).many ((A.pg g).turns - 1) - 1) then (if (A.pg g).siz ((A.pg g).turns - 1) ((A.pg g).many ((A.pg g).turns - 1) - 1) < 40 then S.ruleE (b &&& 255) else 12) else 11 := if_pos cr
    by_cases c1 : y0 = -1
    · rw [if_pos c1]
      exact rn_bd (fin _ 11 y0 (by rw [br, if_neg (fun q => hn c1 ⟨q.1, q.2.1⟩)]) (p3.w2 _) rfl (fun q => absurd q (by decide)))
    rw [if_neg c1]
    obtain ⟨co, t0, m0, ey⟩ := hy c1
    have wr := p3.row (g := g) (t := (A.pg g).turns - 1) (o := (A.pg g).many ((A.pg g).turns - 1) - 1) co
    have oo := (ok.ov co).2.1
    have w13 : e'.2 13 y0 = (A.pg g).siz ((A.pg g).turns - 1) ((A.pg g).many ((A.pg g).turns - 1) - 1) := by rw [ey]; exact wr.2.2.1
    have y6 : (0 : Int32) ≤ y0 ∧ y0 < 6000 := by rw [ey]; exact wr.1
    refine rn_ck y6 ?_
    rw [w13]
    by_cases c2 : (A.pg g).siz ((A.pg g).turns - 1) ((A.pg g).many ((A.pg g).turns - 1) - 1) = -1
    · rw [if_pos c2]
      exact rn_bd (fin _ 11 y0 (by rw [br, if_neg (fun q => neg1 q.2.2 c2)]) (p3.w2 _) rfl (fun q => absurd q (by decide)))
    have s0 : 0 ≤ (A.pg g).siz ((A.pg g).turns - 1) ((A.pg g).many ((A.pg g).turns - 1) - 1) := by
      have a := oo.1
      generalize (A.pg g).siz ((A.pg g).turns - 1) ((A.pg g).many ((A.pg g).turns - 1) - 1) = v at a c2
      clear wr oo co r0 r ok fin br hn hy p1 p2 p3 p4 p5 w13 hb pb pw
      grind
    rw [if_neg c2]
    rw [if_pos (show 0 < (A.pg g).turns ∧ 0 < (A.pg g).many ((A.pg g).turns - 1) ∧ 0 ≤ (A.pg g).siz ((A.pg g).turns - 1) ((A.pg g).many ((A.pg g).turns - 1) - 1) from ⟨t0, m0, s0⟩)] at br
    refine rn_ck y6 ?_
    by_cases c3 : (A.pg g).siz ((A.pg g).turns - 1) ((A.pg g).many ((A.pg g).turns - 1) - 1) = 40
    · rw [if_pos c3]
      exact rn_bd (fin _ 12 y0 (by rw [br, if_neg (fun q => lt_ne q c3)]) (p3.w2 _) rfl (fun q => absurd q (by decide)))
    have s1 : (A.pg g).siz ((A.pg g).turns - 1) ((A.pg g).many ((A.pg g).turns - 1) - 1) < 40 := by
      have a := oo.2
      generalize (A.pg g).siz ((A.pg g).turns - 1) ((A.pg g).many ((A.pg g).turns - 1) - 1) = v at a c3
      clear wr oo co r0 r ok fin br hn hy p1 p2 p3 p4 p5 w13 hb pb pw c2 s0
      grind
    rw [if_neg c3]
    rw [if_pos s1] at br
    have ti : inL (A.pg g).turns ((A.pg g).turns - 1) := co.2.1
    obtain ⟨T, by', ro, pl, m, RS, sm, zr, hi, bm⟩ := rl_O p2 pw hh ti
    have bg : (S.ty ((A.pg g).turns - 1)).begun = (A.pg g).many ((A.pg g).turns - 1) := hb _ ti.1 ti.2
    have tq120 := (p2.tq pw ti.1 ti.2).2.2.2.2.2.1.2.1
    have bT : T.begun = (A.pg g).many ((A.pg g).turns - 1) := by rw [← bg]; exact (congrFun sm.1 8).symm
    have mp := i32_pred m0
    have m0' := Int32.lt_iff_toInt_lt.mp m0
    have z : (0 : Int32).toInt = 0 := by decide
    have b120 : T.begun ≤ 120 := by rw [bT, ← bg]; exact tq120
    have ev : T.begun - 1 = (A.pg g).many ((A.pg g).turns - 1) - 1 := by rw [bT]
    have l120 : T.begun - 1 < 120 := by
      rw [ev]
      rw [bT] at b120
      have := Int32.le_iff_toInt_le.mp b120
      exact Int32.lt_iff_toInt_lt.mpr (by omega)
    have hr : HRow (mnT (A.pg g) ((A.pg g).turns - 1)) T := by
      refine ⟨by rw [ev]; exact co.2.2.1, ?_, l120⟩
      show T.begun - 1 < imin ((A.pg g).many ((A.pg g).turns - 1)) 120
      unfold imin
      by_cases x : (A.pg g).many ((A.pg g).turns - 1) ≤ 120
      · rw [if_pos x, ev]; exact co.2.2.2
      · rw [if_neg x]; exact l120
    have nb : T.begun ≠ 0 := by rw [bT]; exact fun q => lt_ne m0 q.symm
    have p6 : e'.2 6 g = (A.pg g).each := (p3.2.2.1 g c).2.2.2.2.1
    have hrn : (if S.last = 1 then (1 : Int32) else 0) = 0 ↔ e'.2 6 g = 2 := by
      rw [p6, fl]
      rcases (ok.pgo c).1 with x | x <;> rw [x] <;> decide
    have rE : S.ruleE (b &&& 255) = T.ruleE (b &&& 255) (if S.last = 1 then 1 else 0) := by
      unfold Ps.ruleE
      rw [hh]
      exact sim_ruleE sm
    have a255 := and255 b
    have ag := r_against RS (g := g) (c := b &&& 255) a255.1 a255.2 (g400 ok c).1 (g400 ok c).2 hrn hr (hi.w3 nb)
    rw [ev, ← rE] at ag
    have rw2 : rwT (mS (mS e 0 0) 19 0) g ((A.pg g).turns - 1) ((A.pg g).many ((A.pg g).turns - 1) - 1) = y0 := by
      rw [ey, rwT_low p4]
    rw [rw2] at ag
    refine rn_o ag (rn_bd (rn_bd (rn_bd ?_)))
    exact fin _ _ y0 br (p3.w2 _) rfl (fun _ => ⟨co, ey, s0, s1⟩)
  refine rn_o p1 (rn_ck (g400 ok c) (rn_bd ?_))
  rw [p8]
  by_cases ct0 : 0 < (A.pg g).turns
  rotate_left
  · have n : (A.pg g).turns - 1 < 0 := by
      clear p1 p2 p3 p4 p5 fin r0 p8 f28 g73
      generalize (A.pg g).turns = a at *
      grind
    rw [if_pos n]
    exact g73 (-1) (fun _ q => ct0 q.1) (fun q => absurd rfl q)
  have tp := i32_pred ct0
  have z : (0 : Int32).toInt = 0 := by decide
  have t0' := Int32.lt_iff_toInt_lt.mp ct0
  have ti : inL (A.pg g).turns ((A.pg g).turns - 1) := ⟨Int32.le_iff_toInt_le.mpr (by omega), Int32.lt_iff_toInt_lt.mpr (by omega)⟩
  have g4 := g400 ok c
  have t4 := t_lt4 ok c ti
  have p9 : e'.2 9 (4 * g + ((A.pg g).turns - 1)) = (A.pg g).many ((A.pg g).turns - 1) := ((p3.2.2.1 g c).2.2.2.2.2.2 _ ti).1
  have mo := ((ok.pgo c).2.2.2 _ ti.1 ti.2).1
  refine rn_n (Int32.not_lt.mpr ti.1) (rn_ck (ix4 g4.1 g4.2 ti.1 t4) ?_)
  rw [p9]
  by_cases cm : (A.pg g).many ((A.pg g).turns - 1) = 0
  · rw [if_pos cm]
    exact g73 (-1) (fun _ q => by have := q.2; rw [cm] at this; exact Int32.lt_irrefl this) (fun q => absurd rfl q)
  rw [if_neg cm]
  have m0 : 0 < (A.pg g).many ((A.pg g).turns - 1) := by
    have a := mo.1
    generalize (A.pg g).many ((A.pg g).turns - 1) = v at a cm
    clear r0 r ok fin p1 p2 p3 p4 p5 pb pw g73 p9 mo
    grind
  have mp := i32_pred m0
  have m0' := Int32.lt_iff_toInt_lt.mp m0
  have mi : inL ((A.pg g).many ((A.pg g).turns - 1)) ((A.pg g).many ((A.pg g).turns - 1) - 1) := ⟨Int32.le_iff_toInt_le.mpr (by omega), Int32.lt_iff_toInt_lt.mpr (by omega)⟩
  have co : inO A g ((A.pg g).turns - 1) ((A.pg g).many ((A.pg g).turns - 1) - 1) := ⟨c, ti, mi⟩
  have m130 := many130 ok c ti mi
  refine rn_ck (ix4 g4.1 g4.2 ti.1 t4) (rn_o (r_rowOf g4.1 g4.2 ti.1 t4 m130.1 m130.2) (rn_bd (rn_bd ?_)))
  dsimp only
  have wr := p3.row (g := g) (t := (A.pg g).turns - 1) (o := (A.pg g).many ((A.pg g).turns - 1) - 1) co
  exact g73 _ (fun q => absurd q (neg1 wr.1.1)) (fun _ => ⟨co, ct0, m0, rfl⟩)
end Mba
