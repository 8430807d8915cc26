/-! turn and over of the reference as a whole -/
section Mto
variable {e e2 : mE} {A : Bk} {g t o : Int32}
theorem turns_b (ok : BkOK A) (c : inL A.games g) : 0 ≤ (A.pg g).turns ∧ (A.pg g).turns ≤ 2 * (A.pg g).each ∧ ((A.pg g).each = 1 ∨ (A.pg g).each = 2) := ⟨(ok.pgo c).2.2.1.1, (ok.pgo c).2.2.1.2, (ok.pgo c).1⟩
theorem m_turn (r : MR e A) (ok : BkOK A) {s : Ps} (hs : TyNs s) (g : Int32) : Rn (P_X12_turn g e) (fun q => q.1 = (aTurn s g A).1 ∧ MP e (aTurn s g A).2 q.2) := by
  unfold P_X12_turn aTurn
  have r0 : MR (mS (mS e 0 0) 19 0) (A.sI 4 0) := r.c0.why 0
  refine rn_bd (rn_bd (rn_o (m_isGame r0 g) (rn_bd (rn_bd ?_))))
  dsimp only
  by_cases c : inL A.games g
  rotate_left
  · rw [if_neg (show ¬ inL (A.sI 4 0).games g from c), if_neg c]
    exact rn_p rfl (rn_s ⟨rfl, r0, rfl⟩)
  rw [if_pos (show inL (A.sI 4 0).games g from c), if_pos c]
  refine rn_n (by decide) ?_
  obtain ⟨e', p1, p2, p3, p4, p5⟩ := m_play r0 (ok.why 0) (g := g) c hs
  have p2 : FR (mS (mS e 0 0) 19 0) g (A.pg g) e' (s.play (A.pg g)) := p2
  have pb := play_beg (ok.pgo c) s
  have pw := play_W (ok.pgo c) s
  have TB := turns_b ok c
  generalize s.play (A.pg g) = S at p2 pb pw
  obtain ⟨f28, f33, -, fl⟩ := p2.rl
  have i11 : e'.1 11 = e.1 11 := (p4.1 11 (by decide) (by decide)).trans rfl
  have fin : ∀ (E : mE) (w : Int32), tRule S (A.pg g) = w → MR E (A.sI 4 w) → E.1 11 = e.1 11 → (w = 0 → (A.pg g).turns < 4) → Rn (P_X12_turn_85 g E) (fun q => q.1 = (if tRule S (A.pg g) = 0 then ((1 : Int32), (A.chg g (A.pg g).addT).sI 4 0) else ((0 : Int32), A.sI 4 (tRule S (A.pg g)))).1 ∧ MP e (if tRule S (A.pg g) = 0 then ((1 : Int32), (A.chg g (A.pg g).addT).sI 4 0) else ((0 : Int32), A.sI 4 (tRule S (A.pg g)))).2 q.2) := fun E w hw R h11 h4 => by
    rw [hw]
    refine (m_t85 R ok c h4).imp (fun q Q => ?_)
    by_cases y : w = 0
    · rw [if_pos y, if_pos y] at Q
      rw [if_pos y]
      exact ⟨Q.1, Q.2.1, Q.2.2.trans h11⟩
    · rw [if_neg y, if_neg y] at Q
      rw [if_neg y]
      exact ⟨Q.1, Q.2.1, Q.2.2.trans h11⟩
  refine rn_o p1 ?_
  rw [f28]
  by_cases cr : S.rule = 0
  rotate_left
  · rw [if_neg cr]
    exact rn_bd (fin _ S.rule (if_neg cr) (p3.w2 _) i11 (fun q => absurd q cr))
  rw [if_pos cr]
  obtain ⟨hh, hb⟩ := pb cr
  have p8 : e'.2 8 g = (A.pg g).turns := (p3.2.2.1 g c).2.2.2.2.2.1
  refine rn_ck (g400 ok c) (rn_bd ?_)
  rw [p8]
  have tr0 : tRule S (A.pg g) = S.ruleT (A.pg g).turns := if_pos cr
  unfold Ps.ruleT at tr0
  have t62 : ∀ (h : (A.pg g).turns ≤ 0 ∨ ¬ (S.ty ((A.pg g).turns - 1)).ended = 0) (hl : S.won = 0 → (A.pg g).turns ≤ S.last), Rn (P_X12_turn_62 g e') (fun q => q.1 = (if tRule S (A.pg g) = 0 then ((1 : Int32), (A.chg g (A.pg g).addT).sI 4 0) else ((0 : Int32), A.sI 4 (tRule S (A.pg g)))).1 ∧ MP e (if tRule S (A.pg g) = 0 then ((1 : Int32), (A.chg g (A.pg g).addT).sI 4 0) else ((0 : Int32), A.sI 4 (tRule S (A.pg g)))).2 q.2) := fun h hl => by
    rw [if_pos h] at tr0
    unfold P_X12_turn_62 P_X12_turn_74
    rw [f33]
    by_cases cw : S.won = 0
    · rw [if_pos cw]
      refine fin e' 0 (by rw [tr0, if_pos ⟨cw, hl cw⟩]) p3 i11 (fun _ => ?_)
      have := hl cw
      rw [fl] at this
      have TE := TB.2.2
      generalize (A.pg g).turns = a at this
      generalize (A.pg g).each = b at this TE
      rcases TE with y | y <;> rw [y] at this
      · exact Int32.lt_of_le_of_lt this (by decide)
      · exact Int32.lt_of_le_of_lt this (by decide)
    · rw [if_neg cw]
      exact rn_bd (fin _ 2 (by rw [tr0, if_neg (fun q => cw q.1)]) (p3.w2 _) i11 (fun q => absurd q (by decide)))
  by_cases c0 : (A.pg g).turns ≤ 0
  · rw [if_pos c0]
    refine t62 (Or.inl c0) (fun _ => i32_tr c0 ?_)
    rw [fl]
    rcases TB.2.2 with y | y <;> rw [y] <;> decide
  rw [if_neg c0]
  have t0 : 0 < (A.pg g).turns := Int32.not_le.mp c0
  have tp := i32_pred t0
  have z : (0 : Int32).toInt = 0 := by decide
  have t0' := Int32.lt_iff_toInt_lt.mp t0
  have ti : inL (A.pg g).turns ((A.pg g).turns - 1) := ⟨Int32.le_iff_toInt_le.mpr (by omega), Int32.lt_iff_toInt_lt.mpr (by omega)⟩
  refine rn_ck ⟨ti.1, t_lt4 ok c ti⟩ ?_
  rw [(p2.fin hh ti).prev.2.2.2.2.2.2.2.2.2]
  by_cases ce : (S.ty ((A.pg g).turns - 1)).ended = 0
  · rw [if_pos ce]
    unfold P_X12_turn_74
    exact rn_bd (fin _ 1 (by rw [tr0, if_neg (fun q => q.elim c0 (fun y => y ce))]) (p3.w2 _) i11 (fun q => absurd q (by decide)))
  · rw [if_neg ce]
    refine t62 (Or.inr ce) (fun cw => Int32.not_lt.mp (fun lt => ?_))
    refine pw ?_ (by rw [hh]; exact ce) cw
    rw [hh, fl]
    rw [fl] at lt
    have TE := TB.2.2
    have TL := TB.2.1
    clear p1 p2 p3 p4 p5 fin t62 tr0 hb pw tp ti r0 p8 f28 f33 hh
    generalize (A.pg g).turns = a at *
    generalize (A.pg g).each = b at *
    rcases TE with y | y <;> subst y <;> grind
/-! over -/
theorem lin130 {x o : Int32} (x0 : 0 ≤ x ∧ x < 1600) (o0 : inL 130 o) : (130 * x + o).toInt = 130 * x.toInt + o.toInt := by
  have z : (0 : Int32).toInt = 0 := by decide
  have a1 := Int32.le_iff_toInt_le.mp x0.1
  have a2 := Int32.lt_iff_toInt_lt.mp x0.2
  have b1 := Int32.le_iff_toInt_le.mp o0.1
  have b2 := Int32.lt_iff_toInt_lt.mp o0.2
  have e1 : (1600 : Int32).toInt = 1600 := by decide
  have e2 : (130 : Int32).toInt = 130 := by decide
  have m : (130 * x).toInt = 130 * x.toInt := by
    rw [Int32.toInt_mul, e2]
    apply Int.bmod_eq_of_le <;> omega
  rw [Int32.toInt_add, m]
  apply Int.bmod_eq_of_le <;> omega
theorem inj130 {g t o g' t' o' : Int32} (g0 : 0 ≤ g ∧ g < 400) (t0 : inL 4 t) (o0 : inL 130 o) (g1 : 0 ≤ g' ∧ g' < 400) (t1 : inL 4 t') (o1 : inL 130 o') (h : 130 * (4 * g + t) + o = 130 * (4 * g' + t') + o') : g = g' ∧ t = t' ∧ o = o' := by
  have a := lin130 (ix4 g0.1 g0.2 t0.1 t0.2) o0
  have b := lin130 (ix4 g1.1 g1.2 t1.1 t1.2) o1
  rw [h, b] at a
  have z : (0 : Int32).toInt = 0 := by decide
  have e2 : (130 : Int32).toInt = 130 := by decide
  have c1 := Int32.le_iff_toInt_le.mp o0.1
  have c2 := Int32.lt_iff_toInt_lt.mp o0.2
  have d1 := Int32.le_iff_toInt_le.mp o1.1
  have d2 := Int32.lt_iff_toInt_lt.mp o1.2
  have x : (4 * g + t).toInt = (4 * g' + t').toInt := by omega
  have y : o.toInt = o'.toInt := by omega
  have := inj4 g0 t0 g1 t1 (Int32.toInt_inj.mp x)
  exact ⟨this.1, this.2, Int32.toInt_inj.mp y⟩
def MPo (e : mE) (B : Bk) (e' : mE) : Prop := MR e' B ∧ (e'.1 11 = e.1 11 ∨ e'.1 11 = e.1 11 + 1)
theorem many130 (ok : BkOK A) (c : inL A.games g) {t o : Int32} (ct : inL (A.pg g).turns t) (co : inL ((A.pg g).many t) o) : inL 130 o := ⟨co.1, Int32.lt_of_lt_of_le co.2 ((ok.pgo c).2.2.2 t ct.1 ct.2).1.2⟩
theorem m_o163 {w b : Int32} (r : MR e (A.sI 4 w)) (ok : BkOK A) (c : inL A.games g) (h4 : w = 0 → inL (A.pg g).turns t ∧ (A.pg g).many t < 120) (h11 : w = 0 → e.1 11 < 5800) : Rn (P_X12_over_163 g b t e) (fun q => q.1 = (if w = 0 then 1 else 0) ∧ MPo e (if w = 0 then (A.chg g ((A.pg g).addO t b 0 (fun _ => 0))).sI 4 0 else A.sI 4 w) q.2) := by
  unfold P_X12_over_163
  rw [show e.1 19 = w from r.1.2.2.2.2.1]
  by_cases c0 : w = 0
  rotate_left
  · rw [if_neg c0, if_neg c0, if_neg c0]
    exact rn_s ⟨rfl, r, Or.inl rfl⟩
  subst c0
  rw [if_pos rfl, if_pos rfl, if_pos rfl]
  obtain ⟨ct, m120⟩ := h4 rfl
  have R5 := h11 rfl
  have t4 := t_lt4 ok c ct
  have g4 := g400 ok c
  have R0 := r.2.2.2.1.1
  have RK : (0 : Int32) ≤ e.1 11 ∧ e.1 11 < 6000 := ⟨R0, Int32.lt_of_lt_of_le R5 (by decide)⟩
  obtain ⟨p1, p2, p3, p4⟩ := (r.2.2.1 g c).2.2.2
  have p3 : e.2 8 g = (A.pg g).turns := p3
  have p9 : e.2 9 (4 * g + t) = (A.pg g).many t := (p4 t ct).1
  have mo := ((ok.pgo c).2.2.2 t ct.1 ct.2).1.1
  have m130 : inL 130 ((A.pg g).many t) := ⟨mo, Int32.lt_of_lt_of_le m120 (by decide)⟩
  have i4 := ix4 g4.1 g4.2 ct.1 t4
  have i130 : (0 : Int32) ≤ 130 * (4 * g + t) + (A.pg g).many t ∧ 130 * (4 * g + t) + (A.pg g).many t < 208000 := by
    have l := lin130 i4 m130
    have z : (0 : Int32).toInt = 0 := by decide
    have a1 := Int32.le_iff_toInt_le.mp i4.1
    have a2 := Int32.lt_iff_toInt_lt.mp i4.2
    have b1 := Int32.le_iff_toInt_le.mp m130.1
    have b2 := Int32.lt_iff_toInt_lt.mp m130.2
    have e1 : (1600 : Int32).toInt = 1600 := by decide
    have e2 : (130 : Int32).toInt = 130 := by decide
    have e3 : (208000 : Int32).toInt = 208000 := by decide
    exact ⟨Int32.le_iff_toInt_le.mpr (by omega), Int32.lt_iff_toInt_lt.mpr (by omega)⟩
  rw [p9]
  refine rn_ck i4 ?_
  unfold P_X12_newRow
  refine rn_o (x := (e.1 11, mS (mA (mA e 12 (e.1 11) b) 13 (e.1 11) 0) 11 (e.1 11 + 1))) ?_ (rn_bd (rn_bd ?_))
  · rw [ck_t RK, bd_e, ck_t (show (0 : Int32) ≤ (mA e 12 (e.1 11) b).1 11 ∧ (mA e 12 (e.1 11) b).1 11 < 6000 from RK), bd_e, bd_e]
    show some (e.1 11 + 1 - 1, _) = _
    rw [pred1]
    rfl
  dsimp only
  refine rn_ck i130 (rn_bd (rn_ck i4 (rn_bd ?_)))
  have v9 : (mA (mS (mA (mA e 12 (e.1 11) b) 13 (e.1 11) 0) 11 (e.1 11 + 1)) 10 (130 * (4 * g + t) + (A.pg g).many t) (e.1 11)).2 9 (4 * g + t) = (A.pg g).many t := p9
  rw [v9]
  have E1 : ∀ k, k ≠ 11 → (mA (mA (mS (mA (mA e 12 (e.1 11) b) 13 (e.1 11) 0) 11 (e.1 11 + 1)) 10 (130 * (4 * g + t) + (A.pg g).many t) (e.1 11)) 9 (4 * g + t) ((A.pg g).many t + 1)).1 k = e.1 k := fun k n => if_neg n
  have E11 : (mA (mA (mS (mA (mA e 12 (e.1 11) b) 13 (e.1 11) 0) 11 (e.1 11 + 1)) 10 (130 * (4 * g + t) + (A.pg g).many t) (e.1 11)) 9 (4 * g + t) ((A.pg g).many t + 1)).1 11 = e.1 11 + 1 := rfl
  have E2 : ∀ k, k ≠ 9 → k ≠ 10 → k ≠ 12 → k ≠ 13 → ∀ i, (mA (mA (mS (mA (mA e 12 (e.1 11) b) 13 (e.1 11) 0) 11 (e.1 11 + 1)) 10 (130 * (4 * g + t) + (A.pg g).many t) (e.1 11)) 9 (4 * g + t) ((A.pg g).many t + 1)).2 k i = e.2 k i := fun k n1 n2 n3 n4 i => (mA_ne n1).trans ((mA_ne n2).trans ((show (mS (mA (mA e 12 (e.1 11) b) 13 (e.1 11) 0) 11 (e.1 11 + 1)).2 k i = (mA (mA e 12 (e.1 11) b) 13 (e.1 11) 0).2 k i from rfl).trans ((mA_ne n4).trans (mA_ne n3))))
  have E9 : ∀ i, (mA (mA (mS (mA (mA e 12 (e.1 11) b) 13 (e.1 11) 0) 11 (e.1 11 + 1)) 10 (130 * (4 * g + t) + (A.pg g).many t) (e.1 11)) 9 (4 * g + t) ((A.pg g).many t + 1)).2 9 i = if i = 4 * g + t then (A.pg g).many t + 1 else e.2 9 i := fun i => by rw [mA_at, mA_ne (by decide)]; rfl
  have E10 : ∀ i, (mA (mA (mS (mA (mA e 12 (e.1 11) b) 13 (e.1 11) 0) 11 (e.1 11 + 1)) 10 (130 * (4 * g + t) + (A.pg g).many t) (e.1 11)) 9 (4 * g + t) ((A.pg g).many t + 1)).2 10 i = if i = 130 * (4 * g + t) + (A.pg g).many t then e.1 11 else e.2 10 i := fun i => by rw [mA_ne (by decide), mA_at]; rfl
  have E12 : ∀ i, (mA (mA (mS (mA (mA e 12 (e.1 11) b) 13 (e.1 11) 0) 11 (e.1 11 + 1)) 10 (130 * (4 * g + t) + (A.pg g).many t) (e.1 11)) 9 (4 * g + t) ((A.pg g).many t + 1)).2 12 i = if i = e.1 11 then b else e.2 12 i := fun i => by
    rw [mA_ne (by decide), mA_ne (by decide)]
    show (mA (mA e 12 (e.1 11) b) 13 (e.1 11) 0).2 12 i = _
    rw [mA_ne (by decide), mA_at]
  have E13 : ∀ i, (mA (mA (mS (mA (mA e 12 (e.1 11) b) 13 (e.1 11) 0) 11 (e.1 11 + 1)) 10 (130 * (4 * g + t) + (A.pg g).many t) (e.1 11)) 9 (4 * g + t) ((A.pg g).many t + 1)).2 13 i = if i = e.1 11 then 0 else e.2 13 i := fun i => by
    rw [mA_ne (by decide), mA_ne (by decide)]
    show (mA (mA e 12 (e.1 11) b) 13 (e.1 11) 0).2 13 i = _
    rw [mA_at, mA_ne (by decide)]
  generalize mA (mA (mS (mA (mA e 12 (e.1 11) b) 13 (e.1 11) 0) 11 (e.1 11 + 1)) 10 (130 * (4 * g + t) + (A.pg g).many t) (e.1 11)) 9 (4 * g + t) ((A.pg g).many t + 1) = E at E1 E2 E9 E10 E11 E12 E13 ⊢
  -- what was seen is seen
  have rwE : ∀ g' t' o', inO A g' t' o' → rwT E g' t' o' = rwT e g' t' o' := fun g' t' o' q => by
    unfold rwT
    rw [E10, if_neg (fun h => ?_)]
    have := inj130 (g400 ok q.1) ⟨q.2.1.1, t_lt4 ok q.1 q.2.1⟩ (many130 ok q.1 q.2.1 q.2.2) g4 ⟨ct.1, t4⟩ m130 h
    rw [this.1, this.2.1, this.2.2] at q
    exact Int32.lt_irrefl q.2.2.2
  have hm : HMo E 0 A.pg A.hi := HMo.cg (e := e) (d := 0) _ _ (fun n _ => ⟨fun j j0 j1 => E2 j (by omega) (by omega) (by omega) (by omega) _, fun i _ => E2 27 (by decide) (by decide) (by decide) (by decide) _⟩) (fun q hq t o a b => rwE _ _ _ ⟨(ok.2.2.2.2.2.2.2.2 q hq).1, a, b⟩) r.2.2.2.2.2
  refine rn_c (m_done 1 g (-1) t 0 (by rw [E1 20 (by decide)]; exact r.1.2.2.2.2.2) ok.2.2.2.2.2.2.2.1 hm) (fun e2 D => rn_s ⟨rfl, ?_, Or.inr ((D.1 11 (by decide)).trans E11)⟩)
  obtain ⟨d1, d2, d3, ⟨d4, d5, d6, d7, d8⟩, d9⟩ := D
  have rw2 : ∀ g' t' o', inO A g' t' o' → rwT e2 g' t' o' = rwT e g' t' o' := fun g' t' o' q => (d2 10 (by omega) _).trans (rwE g' t' o' q)
  have rwN : rwT e2 g t ((A.pg g).many t) = e.1 11 := by
    unfold rwT
    rw [d2 10 (by omega), E10, if_pos rfl]
  have i11 : e2.1 11 = e.1 11 + 1 := (d1 11 (by decide)).trans E11
  have R6 := i32_succ R5
  have R5' := Int32.lt_iff_toInt_lt.mp R5
  have f58 : (5800 : Int32).toInt = 5800 := by decide
  have z : (0 : Int32).toInt = 0 := by decide
  have R0' := Int32.le_iff_toInt_le.mp R0
  have ms1 : (A.pg g).many t < 2147483647 := Int32.lt_of_lt_of_le m120 (by decide)
  have old : ∀ g' t' o', inO A g' t' o' → rwT e g' t' o' < e.1 11 := fun g' t' o' q => (((r.2.2.1 g' q.1).2.2.2.2.2.2 t' q.2.1).2 o' q.2.2).1.2
  -- what is seen now was seen, or is the new over
  have vis : ∀ g' t' o', inO ((A.sI 4 0).chg g ((A.pg g).addO t b 0 (fun _ => 0))) g' t' o' → inO A g' t' o' ∨ (g' = g ∧ t' = t ∧ o' = (A.pg g).many t) := fun g' t' o' q => by
    have q1 : inL A.games g' := q.1
    have q2 : inL (upP A.pg g ((A.pg g).addO t b 0 (fun _ => 0)) g').turns t' := q.2.1
    have q3 : inL ((upP A.pg g ((A.pg g).addO t b 0 (fun _ => 0)) g').many t') o' := q.2.2
    unfold upP at q2 q3
    by_cases y : g' = g
    · rw [if_pos y] at q2 q3
      rw [y] at q1 ⊢
      have q2 : inL (A.pg g).turns t' := q2
      have q3 : inL (if t' = t then (A.pg g).many t + 1 else (A.pg g).many t') o' := q3
      by_cases y2 : t' = t
      · rw [if_pos y2] at q3
        rcases (i32_ls ms1).mp q3.2 with z | z
        · exact Or.inl ⟨q1, q2, q3.1, by rw [y2]; exact z⟩
        · exact Or.inr ⟨rfl, y2, z⟩
      · rw [if_neg y2] at q3
        exact Or.inl ⟨q1, q2, q3⟩
    · rw [if_neg y] at q2 q3
      exact Or.inl ⟨q1, q2, q3⟩
  have IJ : ∀ g1 t1 o1 g' t' o', inO ((A.sI 4 0).chg g ((A.pg g).addO t b 0 (fun _ => 0))) g1 t1 o1 → inO ((A.sI 4 0).chg g ((A.pg g).addO t b 0 (fun _ => 0))) g' t' o' → rwT e2 g1 t1 o1 = rwT e2 g' t' o' → g1 = g' ∧ t1 = t' ∧ o1 = o' := by
    intro g1 t1 o1 g3 t3 o3 p q h
    rcases vis _ _ _ p with y | ⟨y1, y2, y3⟩
    · rcases vis _ _ _ q with x | ⟨x1, x2, x3⟩
      · exact r.2.2.2.2.1 _ _ _ _ _ _ y x (by rw [← rw2 _ _ _ y, ← rw2 _ _ _ x]; exact h)
      · rw [rw2 _ _ _ y, x1, x2, x3, rwN] at h
        exact absurd (old _ _ _ y) (by rw [h]; exact Int32.lt_irrefl)
    · rcases vis _ _ _ q with x | ⟨x1, x2, x3⟩
      · rw [rw2 _ _ _ x, y1, y2, y3, rwN] at h
        exact absurd (old _ _ _ x) (by rw [← h]; exact Int32.lt_irrefl)
      · rw [y1, y2, y3, x1, x2, x3]
        exact ⟨rfl, rfl, rfl⟩
  have row : ∀ g' t' o', inO A g' t' o' → (0 ≤ rwT e2 g' t' o' ∧ rwT e2 g' t' o' < e2.1 11) ∧ e2.2 12 (rwT e2 g' t' o') = (A.pg g').bow t' o' ∧ e2.2 13 (rwT e2 g' t' o') = (A.pg g').siz t' o' ∧ ∀ i, inL ((A.pg g').siz t' o') i → e2.2 14 (40 * rwT e2 g' t' o' + i) = (A.pg g').ent t' o' i := fun g' t' o' q => by
    obtain ⟨v1, v2, v3, v4⟩ := ((r.2.2.1 g' q.1).2.2.2.2.2.2 t' q.2.1).2 o' q.2.2
    have n : rwT e g' t' o' ≠ e.1 11 := lt_ne v1.2
    rw [rw2 _ _ _ q, i11, d2 12 (by omega), d2 13 (by omega), E12, E13, if_neg n, if_neg n]
    refine ⟨⟨v1.1, ?_⟩, v2, v3, fun i hi => by rw [d2 14 (by omega), E2 14 (by decide) (by decide) (by decide) (by decide)]; exact v4 i hi⟩
    have := Int32.lt_iff_toInt_lt.mp v1.2
    exact Int32.lt_iff_toInt_lt.mpr (by omega)
  have low : ∀ k, k < 9 → ∀ i, e2.2 k i = e.2 k i := fun k hk i => (d2 k (by omega) i).trans (E2 k (by omega) (by omega) (by omega) (by omega) i)
  have n9 : ∀ g' t', inL A.games g' → inL (A.pg g').turns t' → (g' ≠ g ∨ t' ≠ t) → e2.2 9 (4 * g' + t') = (A.pg g').many t' := fun g' t' cg' ht' n => by
    rw [d2 9 (by omega), E9, if_neg (fun h => ?_)]
    · exact ((r.2.2.1 g' cg').2.2.2.2.2.2 t' ht').1
    · have := inj4 (g400 ok cg') ⟨ht'.1, t_lt4 ok cg' ht'⟩ g4 ⟨ct.1, t4⟩ h
      rcases n with n | n
      · exact n this.1
      · exact n this.2
  refine m_chg (A := A.sI 4 0) r (fun k n1 n2 => (d1 k n1).trans (E1 k n2)) ⟨by rw [i11]; exact Int32.le_iff_toInt_le.mpr (by omega), by rw [i11]; exact Int32.le_iff_toInt_le.mpr (by omega)⟩ (fun k hk i => (d2 k (by omega) i).trans (E2 k (by omega) (by omega) (by omega) (by omega) i)) ⟨(low 5 (by decide) _).trans p1, (low 6 (by decide) _).trans p2, (low 8 (by decide) _).trans p3, fun t' ht' => ?_⟩ (fun g' n cg' => ?_) IJ d3 d9 ⟨d5, Or.inr (Or.inl ⟨d4, ?_, ?_, ?_⟩)⟩
  · have ht' : inL (A.pg g).turns t' := ht'
    show e2.2 9 (4 * g + t') = (if t' = t then (A.pg g).many t + 1 else (A.pg g).many t') ∧ ∀ o, inL (if t' = t then (A.pg g).many t + 1 else (A.pg g).many t') o → (0 ≤ rwT e2 g t' o ∧ rwT e2 g t' o < e2.1 11) ∧ e2.2 12 (rwT e2 g t' o) = (if t' = t ∧ o = (A.pg g).many t then b else (A.pg g).bow t' o) ∧ e2.2 13 (rwT e2 g t' o) = (if t' = t ∧ o = (A.pg g).many t then 0 else (A.pg g).siz t' o) ∧ ∀ i, inL (if t' = t ∧ o = (A.pg g).many t then 0 else (A.pg g).siz t' o) i → e2.2 14 (40 * rwT e2 g t' o + i) = (if t' = t ∧ o = (A.pg g).many t then (fun _ => 0) else (A.pg g).ent t' o) i
    by_cases y : t' = t
    · rw [if_pos y]
      subst y
      refine ⟨by rw [d2 9 (by omega), E9, if_pos rfl], fun o ho => ?_⟩
      rcases (i32_ls ms1).mp ho.2 with x | x
      · have n : ¬ (t' = t' ∧ o = (A.pg g).many t') := fun q => lt_ne x q.2
        rw [if_neg n, if_neg n, if_neg n]
        exact row g t' o ⟨c, ct, ho.1, x⟩
      · have n : t' = t' ∧ o = (A.pg g).many t' := ⟨rfl, x⟩
        rw [if_pos n, if_pos n, if_pos n, x, rwN, i11, d2 12 (by omega), d2 13 (by omega), E12, E13, if_pos rfl, if_pos rfl]
        exact ⟨⟨R0, Int32.lt_iff_toInt_lt.mpr (by omega)⟩, rfl, rfl, fun i hi => absurd hi.1 (Int32.not_le.mpr hi.2)⟩
    · rw [if_neg y]
      refine ⟨n9 g t' c ht' (Or.inr y), fun o ho => ?_⟩
      have n : ¬ (t' = t ∧ o = (A.pg g).many t) := fun q => y q.1
      rw [if_neg n, if_neg n, if_neg n]
      exact row g t' o ⟨c, ht', ho⟩
  · obtain ⟨q1, q2, q3, -⟩ := (r.2.2.1 g' cg').2.2.2
    exact ⟨(low 5 (by decide) _).trans q1, (low 6 (by decide) _).trans q2, (low 8 (by decide) _).trans q3, fun t' ht' => ⟨n9 g' t' cg' ht' (Or.inl n), fun o ho => row g' t' o ⟨cg', ht', ho⟩⟩⟩
  · show inL (A.pg g).turns (e2.2 24 (kI A))
    rw [d7]; exact ct
  · show 0 < (if e2.2 24 (kI A) = t then (A.pg g).many t + 1 else (A.pg g).many (e2.2 24 (kI A)))
    rw [d7, if_pos rfl]
    have := i32_succ ms1
    have := Int32.le_iff_toInt_le.mp mo
    exact Int32.lt_iff_toInt_lt.mpr (by omega)
  · show PgEq (((A.pg g).addO t b 0 (fun _ => 0)).subO (e2.2 24 (kI A))) (A.pg g)
    rw [d7]
    refine ⟨rfl, rfl, rfl, fun t' ht' => ?_⟩
    show (if t' = t then (if t = t then (A.pg g).many t + 1 else (A.pg g).many t) - 1 else if t' = t then (A.pg g).many t + 1 else (A.pg g).many t') = _ ∧ ∀ o, inL (if t' = t then (if t = t then (A.pg g).many t + 1 else (A.pg g).many t) - 1 else if t' = t then (A.pg g).many t + 1 else (A.pg g).many t') o → (if t' = t ∧ o = (A.pg g).many t then b else (A.pg g).bow t' o) = _ ∧ (if t' = t ∧ o = (A.pg g).many t then 0 else (A.pg g).siz t' o) = _ ∧ ∀ i, inL (if t' = t ∧ o = (A.pg g).many t then 0 else (A.pg g).siz t' o) i → (if t' = t ∧ o = (A.pg g).many t then (fun _ => 0) else (A.pg g).ent t' o) i = _
    rw [if_pos (show t = t from rfl), pred1]
    by_cases y : t' = t
    · rw [if_pos y, y]
      refine ⟨rfl, fun o ho => ?_⟩
      have n : ¬ (t = t ∧ o = (A.pg g).many t) := fun q => lt_ne ho.2 q.2
      rw [if_neg n, if_neg n, if_neg n]
      exact ⟨rfl, rfl, fun _ _ => rfl⟩
    · rw [if_neg y, if_neg y]
      refine ⟨rfl, fun o ho => ?_⟩
      have n : ¬ (t' = t ∧ o = (A.pg g).many t) := fun q => y q.1
      rw [if_neg n, if_neg n, if_neg n]
      exact ⟨rfl, rfl, fun _ _ => rfl⟩
theorem rl_O {eb e' : mE} {G : Pg} {S : Ps} (f : FR eb g G e' S) (pw : PgW eb g G) (hh : S.hand = G.turns - 1) (q0 : inL G.turns (G.turns - 1)) : ∃ T by' ro pl m, RSt (G.turns - 1) (rwT eb g (G.turns - 1)) (mnT G (G.turns - 1)) e' e' T by' ro pl e'.1 ∧ Sim (S.ty (G.turns - 1)) T ∧ Zr T ∧ Iv G.ovs m T ∧ T.begun ≤ G.many (G.turns - 1) := by
  obtain ⟨T, by', ro, pl, m, s1, s2, s3, s4, s5, s6, s7, s8, s9⟩ := f.fin hh q0
  exact ⟨T, by', ro, pl, m, ⟨q0.1, pw.t4 q0.2, pw.rk q0.1 q0.2, s1.1, s1.2.1, s1.2.2.1, s1.2.2.2, rfl, fun _ _ _ => rfl⟩, s2, s3, s4, s8⟩
theorem m_over (r : MR e A) (ok : BkOK A) {s : Ps} (hs : TyNs s) (h58 : e.1 11 < 5800) (g b : Int32) : Rn (P_X12_over g b e) (fun q => q.1 = (aOver s g b A).1 ∧ MPo e (aOver s g b A).2 q.2) := by
  unfold P_X12_over P_X12_over_89 P_X12_over_107 aOver
  have r0 : MR (mS (mS e 0 0) 19 0) (A.sI 4 0) := r.c0.why 0
  refine rn_bd (rn_bd (rn_o (m_isGame r0 g) (rn_bd (rn_bd ?_))))
  dsimp only
  by_cases c : inL A.games g
  rotate_left
  · rw [if_neg (show ¬ inL (A.sI 4 0).games g from c), if_neg c]
    exact rn_p rfl (rn_s ⟨rfl, r0, Or.inl rfl⟩)
  rw [if_pos (show inL (A.sI 4 0).games g from c), if_pos c]
  refine rn_n (by decide) ?_
  obtain ⟨e', p1, p2, p3, p4, p5⟩ := m_play r0 (ok.why 0) (g := g) c hs
  have p2 : FR (mS (mS e 0 0) 19 0) g (A.pg g) e' (s.play (A.pg g)) := p2
  have pw : PgW (mS (mS e 0 0) 19 0) g (A.pg g) := r0.pgW (ok.why 0) c
  have pb := play_beg (ok.pgo c) s
  generalize s.play (A.pg g) = S at p2 pb
  obtain ⟨f28, -, fg, -⟩ := p2.rl
  have i11 : e'.1 11 = e.1 11 := (p4.1 11 (by decide) (by decide)).trans rfl
  have R58 : e'.1 11 < 5800 := by rw [i11]; exact h58
  have fin : ∀ (E : mE) (w : Int32), oRule S (A.pg g) b = w → MR E (A.sI 4 w) → E.1 11 = e'.1 11 → (w = 0 → inL (A.pg g).turns ((A.pg g).turns - 1) ∧ (A.pg g).many ((A.pg g).turns - 1) < 120) → Rn (P_X12_over_163 g b ((A.pg g).turns - 1) E) (fun q => q.1 = (if oRule S (A.pg g) b = 0 then ((1 : Int32), (A.chg g ((A.pg g).addO ((A.pg g).turns - 1) b 0 (fun _ => 0))).sI 4 0) else ((0 : Int32), A.sI 4 (oRule S (A.pg g) b))).1 ∧ MPo e (if oRule S (A.pg g) b = 0 then ((1 : Int32), (A.chg g ((A.pg g).addO ((A.pg g).turns - 1) b 0 (fun _ => 0))).sI 4 0) else ((0 : Int32), A.sI 4 (oRule S (A.pg g) b))).2 q.2) := fun E w hw R h11 h4 => by
    rw [hw]
    refine (m_o163 R ok c h4 (fun _ => by rw [h11]; exact R58)).imp (fun q Q => ?_)
    have k : E.1 11 = e.1 11 := h11.trans i11
    unfold MPo at Q ⊢
    rw [k] at Q
    by_cases y : w = 0
    · rw [if_pos y, if_pos y] at Q
      rw [if_pos y]
      exact Q
    · rw [if_neg y, if_neg y] at Q
      rw [if_neg y]
      exact Q
  have p8 : e'.2 8 g = (A.pg g).turns := (p3.2.2.1 g c).2.2.2.2.2.1
  have p5' : e'.2 5 g = (A.pg g).ovs := (p3.2.2.1 g c).2.2.2.1
  refine rn_o p1 (rn_ck (g400 ok c) (rn_bd ?_))
  rw [f28, p8]
  by_cases cr : S.rule = 0
  rotate_left
  · rw [if_neg cr]
    exact rn_bd (fin _ S.rule (if_neg cr) (p3.w2 _) rfl (fun q => absurd q cr))
  rw [if_pos cr]
  obtain ⟨hh, hb⟩ := pb cr
  have or0 : oRule S (A.pg g) b = if 0 < (A.pg g).turns then S.ruleO b else 11 := if_pos cr
  have tu := (ok.pgo c).2.2.1.1
  by_cases ct0 : 0 < (A.pg g).turns
  rotate_left
  · have n : ¬ 0 ≤ (A.pg g).turns - 1 := by
      clear p1 p2 p3 p4 p5 fin or0 hb r0 p8 f28 hh
      generalize (A.pg g).turns = a at *
      grind
    rw [if_neg n]
    exact rn_bd (fin _ 11 (by rw [or0, if_neg ct0]) (p3.w2 _) rfl (fun q => absurd q (by decide)))
  rw [if_pos ct0] at or0
  have tp := i32_pred ct0
  have z : (0 : Int32).toInt = 0 := by decide
  have t0' := Int32.lt_iff_toInt_lt.mp ct0
  have ti : inL (A.pg g).turns ((A.pg g).turns - 1) := ⟨Int32.le_iff_toInt_le.mpr (by omega), Int32.lt_iff_toInt_lt.mpr (by omega)⟩
  rw [if_pos ti.1]
  obtain ⟨T, by', ro, pl, m, RS, sm, zr, hi, bm⟩ := rl_O p2 pw hh ti
  have bg : (S.ty ((A.pg g).turns - 1)).begun = (A.pg g).many ((A.pg g).turns - 1) := hb _ ti.1 ti.2
  have tq120 := (p2.tq pw ti.1 ti.2).2.2.2.2.2.1.2.1
  have rO : S.ruleO b = T.ruleO b (((A.pg g).ovs + 4) / 5) := by
    unfold Ps.ruleO
    rw [hh, fg]
    exact sim_ruleO sm
  rw [rO] at or0
  have rOA : T.ruleO b (((A.pg g).ovs + 4) / 5) = (S.ty ((A.pg g).turns - 1)).ruleO b (((A.pg g).ovs + 4) / 5) := (sim_ruleO sm).symm
  have lt120 : T.ruleO b (((A.pg g).ovs + 4) / 5) = 0 → (A.pg g).many ((A.pg g).turns - 1) < 120 := fun q => by
    rw [rOA] at q
    unfold Ty.ruleO at q
    by_cases y : (S.ty ((A.pg g).turns - 1)).ended = 0 ∧ (S.ty ((A.pg g).turns - 1)).begun < (S.ty ((A.pg g).turns - 1)).allowed
    · have al := (p2.fin hh ti).prev.2.2.2.2.2.2.2.2.1
      rw [← bg]
      exact Int32.lt_of_lt_of_le y.2 (i32_tr al (ok.pgo c).2.1.2)
    · rw [if_neg y] at q
      exact absurd q (by decide)
  have k4 : (0 : Int32) ≤ (A.pg g).turns - 1 ∧ (A.pg g).turns - 1 < 4 := ⟨ti.1, t_lt4 ok c ti⟩
  refine rn_ck k4 ?_
  rw [RSt.ended RS, RSt.begun RS, RSt.allowed RS, RSt.bowler RS, p5']
  unfold Ty.ruleO at or0
  by_cases c1 : T.ended = 0
  rotate_left
  · rw [if_neg c1]
    exact rn_bd (fin _ 3 (by rw [or0, if_neg (fun q => c1 q.1)]) (p3.w2 _) rfl (fun q => absurd q (by decide)))
  rw [if_pos c1]
  refine rn_ck k4 (rn_ck k4 ?_)
  by_cases c2 : T.begun = T.allowed
  · have c2' : ¬ T.begun < T.allowed := fun q => by rw [c2] at q; exact Int32.lt_irrefl q
    rw [if_pos c2]
    exact rn_bd (fin _ 3 (by rw [or0, if_neg (fun q => c2' q.2)]) (p3.w2 _) rfl (fun q => absurd q (by decide)))
  have c2' : T.begun < T.allowed := by
    have := hi.ba
    generalize T.begun = a at *
    generalize T.allowed = d at *
    clear p1 p2 p3 p4 p5 fin or0 hb r0 p8 f28 hh RS sm zr hi rO rOA lt120 tq120 bg
    grind
  rw [if_neg c2]
  rw [if_pos (show T.ended = 0 ∧ T.begun < T.allowed from ⟨c1, c2'⟩)] at or0
  have b11 : b ≤ 10 ↔ b < 11 := by
    clear p1 p2 p3 p4 p5 fin or0 hb r0 p8 f28 hh RS sm zr hi rO rOA lt120 tq120 bg c1 c2 c2'
    constructor <;> intro q <;> grind
  refine rn_i (fun c3 => ?_) (fun c3 => ?_)
  · exact rn_bd (fin _ 4 (by rw [or0, if_neg (fun q => absurd q.1 (Int32.not_le.mpr c3))]) (p3.w2 _) rfl (fun q => absurd q (by decide)))
  have b0 := Int32.not_lt.mp c3
  refine rn_i (fun c4 => ?_) (fun c4 => ?_)
  rotate_left
  · exact rn_bd (fin _ 4 (by rw [or0, if_neg (fun q => c4 (b11.mpr q.2))]) (p3.w2 _) rfl (fun q => absurd q (by decide)))
  have b1 := b11.mp c4
  rw [if_pos (show 0 ≤ b ∧ b < 11 from ⟨b0, b1⟩)] at or0
  refine rn_ck k4 ?_
  by_cases c5 : b = T.bowler
  · rw [if_pos c5]
    exact rn_bd (fin _ 5 (by rw [or0, if_pos c5]) (p3.w2 _) rfl (fun q => absurd q (by decide)))
  rw [if_neg c5]
  rw [if_neg c5] at or0
  have hix : (0 : Int32) ≤ 11 * ((A.pg g).turns - 1) + b ∧ 11 * ((A.pg g).turns - 1) + b < 44 := by
    obtain ⟨a1, a2⟩ := k4
    generalize (A.pg g).turns - 1 = a at a1 a2
    clear p1 p2 p3 p4 p5 fin or0 hb r0 p8 f28 hh sm zr hi rO c1 c2 c2'
    constructor <;> grind
  refine rn_ck hix (rn_ck (g400 ok c) ?_)
  rw [RSt.bow0 RS b0 b1]
  by_cases c6 : T.bow b 0 = ((A.pg g).ovs + 4) / 5
  · have c6' : ¬ T.bow b 0 < ((A.pg g).ovs + 4) / 5 := fun q => by rw [c6] at q; exact Int32.lt_irrefl q
    rw [if_pos c6]
    exact rn_bd (fin _ 6 (by rw [or0, if_neg c6']) (p3.w2 _) rfl (fun q => absurd q (by decide)))
  · have c6' : T.bow b 0 < ((A.pg g).ovs + 4) / 5 := by
      have := (hi.ob b b0 b1).2
      generalize ((A.pg g).ovs + 4) / 5 = M at *
      generalize T.bow b 0 = d at *
      clear p1 p2 p3 p4 p5 fin or0 hb r0 p8 f28 hh RS sm zr hi rO rOA lt120 tq120 bg c1 c2 c2'
      grind
    rw [if_neg c6]
    rw [if_pos c6'] at or0
    refine fin e' 0 or0 p3 rfl (fun _ => ⟨ti, lt120 ?_⟩)
    unfold Ty.ruleO
    rw [if_pos ⟨c1, c2'⟩, if_pos ⟨b0, b1⟩, if_neg c5, if_pos c6']
end Mto
