/-! What is asked of the reference -/
/-- behind a call that only asks: told v, or a fail -/
def MQ1 {α : Type} (e : mE) (A : Bk) (o : Option α) (q : α × mE) : Prop := (o = none → q.2.1 0 = 1) ∧ (∀ v, o = some v → q.1 = v ∧ q.2.1 0 = 0) ∧ MR q.2 A ∧ q.2.1 11 = e.1 11
def MP (e : mE) (B : Bk) (e' : mE) : Prop := MR e' B ∧ e'.1 11 = e.1 11
section Mq
variable {e : mE} {A : Bk} {g : Int32}
theorem MR.c0 (r : MR e A) : MR (mS e 0 0) A := r.low (low_mS (Or.inl rfl))
theorem mq_no {α : Type} {e0 : mE} (r : MR e0 A) (h11 : e0.1 11 = e.1 11) (v : α) : MQ1 e A none (v, mS e0 0 1) := ⟨fun _ => rfl, fun _ q => (nomatch q), r.low (low_mS (Or.inl rfl)), h11⟩
theorem mq_yes {α : Type} {e0 : mE} (r : MR e0 A) (h0 : e0.1 0 = 0) (h11 : e0.1 11 = e.1 11) {v : α} : MQ1 e A (some v) (v, e0) := ⟨fun q => (nomatch q), fun w q => ⟨Option.some.inj q, h0⟩, r, h11⟩
theorem g400 (ok : BkOK A) (c : inL A.games g) : (0 : Int32) ≤ g ∧ g < 400 := ⟨c.1, Int32.lt_of_lt_of_le c.2 ok.2.1.2⟩
theorem BkOK.pgo (ok : BkOK A) (c : inL A.games g) : PgOK (A.pg g) := (ok.2.2.2.2.2.2.1 g c).1
theorem t_lt4 (ok : BkOK A) (c : inL A.games g) {t : Int32} (ct : inL (A.pg g).turns t) : t < 4 := Int32.lt_of_lt_of_le ct.2 (ok.pgo c).t4
theorem m_find (r : MR e A) (ok : BkOK A) (g t o : Int32) : P_X12_find g t o e = some (if inO A g t o then rwT e g t o else -1, e) := by
  unfold P_X12_find
  rw [m_isGame r, Option.bind_some, bd_e, bd_e]
  dsimp only
  by_cases c : inL A.games g
  rotate_left
  · rw [if_neg c, if_pos rfl, if_neg (show ¬ inO A g t o from fun q => c q.1)]
  have P := (r.2.2.1 g c).2.2.2
  rw [if_pos c, if_neg (by decide)]
  by_cases c1 : t < 0
  · rw [if_pos c1, if_neg (show ¬ inO A g t o from fun q => absurd q.2.1.1 (Int32.not_le.mpr c1))]
  rw [if_neg c1, ck_t (g400 ok c), P.2.2.1]
  by_cases c2 : (A.pg g).turns ≤ t
  · rw [if_pos c2, if_neg (show ¬ inO A g t o from fun q => absurd q.2.1.2 (Int32.not_lt.mpr c2))]
  rw [if_neg c2]
  by_cases c3 : o < 0
  · rw [if_pos c3, if_neg (show ¬ inO A g t o from fun q => absurd q.2.2.1 (Int32.not_le.mpr c3))]
  have ct : inL (A.pg g).turns t := ⟨Int32.not_lt.mp c1, Int32.not_le.mp c2⟩
  have t4 := t_lt4 ok c ct
  rw [if_neg c3, ck_t (ix4 (g400 ok c).1 (g400 ok c).2 ct.1 t4), (P.2.2.2 t ct).1]
  by_cases c4 : (A.pg g).many t ≤ o
  · rw [if_pos c4, if_neg (show ¬ inO A g t o from fun q => absurd q.2.2.2 (Int32.not_lt.mpr c4))]
  have co : inL ((A.pg g).many t) o := ⟨Int32.not_lt.mp c3, Int32.not_le.mp c4⟩
  have o130 : o < 130 := Int32.lt_of_lt_of_le co.2 ((ok.pgo c).2.2.2 t ct.1 ct.2).1.2
  rw [if_neg c4, r_rowOf (g400 ok c).1 (g400 ok c).2 ct.1 t4 co.1 o130, Option.bind_some, bd_e, bd_e, if_pos (show inO A g t o from ⟨c, ct, co⟩)]
  rfl
theorem MR.row (r : MR e A) {g t o : Int32} (c : inO A g t o) : (0 ≤ rwT e g t o ∧ rwT e g t o < 6000) ∧ e.2 12 (rwT e g t o) = (A.pg g).bow t o ∧ e.2 13 (rwT e g t o) = (A.pg g).siz t o ∧ ∀ i, inL ((A.pg g).siz t o) i → e.2 14 (40 * rwT e g t o + i) = (A.pg g).ent t o i := by
  have q := (((r.2.2.1 g c.1).2.2.2.2.2.2) t c.2.1).2 o c.2.2
  exact ⟨⟨q.1.1, Int32.lt_of_lt_of_le q.1.2 (i32_tr r.2.2.2.1.2 (by decide))⟩, q.2⟩
theorem ix40 {r i : Int32} (r0 : 0 ≤ r ∧ r < 6000) (i0 : 0 ≤ i) (i1 : i < 40) : (0 : Int32) ≤ 40 * r + i ∧ 40 * r + i < 240000 := by
  obtain ⟨a, b⟩ := r0
  constructor <;> grind
theorem m_entry (r : MR e A) (ok : BkOK A) (g t o i : Int32) : Rn (P_X12_entry g t o i e) (MQ1 e A (if inO A g t o ∧ inL ((A.pg g).siz t o) i then some ((A.pg g).ent t o i) else none)) := by
  unfold P_X12_entry P_X12_entry_37 P_X12_fail
  have r0 := r.c0
  refine rn_bd (rn_o (m_find r0 ok g t o) (rn_bd (rn_bd ?_)))
  dsimp only
  by_cases c : inO A g t o
  rotate_left
  · rw [if_neg c, if_neg (show ¬ (inO A g t o ∧ inL ((A.pg g).siz t o) i) from fun q => c q.1)]
    exact rn_p rfl (rn_s (mq_no r0 rfl _))
  rw [if_pos c]
  have w := r0.row c
  refine rn_n (neg1 w.1.1) (rn_i (fun c1 => ?_) (fun c1 => rn_ck w.1 ?_))
  · rw [if_neg (show ¬ (inO A g t o ∧ inL ((A.pg g).siz t o) i) from fun q => absurd q.2.1 (Int32.not_le.mpr c1))]
    exact rn_s (mq_no r0 rfl _)
  rw [w.2.2.1]
  refine rn_i (fun c2 => ?_) (fun c2 => ?_)
  · have ci : inL ((A.pg g).siz t o) i := ⟨Int32.not_lt.mp c1, c2⟩
    rw [if_pos (show inO A g t o ∧ inL ((A.pg g).siz t o) i from ⟨c, ci⟩)]
    refine rn_ck (ix40 w.1 ci.1 (Int32.lt_of_lt_of_le c2 (ok.ov c).2.1.2)) ?_
    rw [w.2.2.2 i ci]
    exact rn_s (mq_yes r0 rfl rfl)
  · rw [if_neg (show ¬ (inO A g t o ∧ inL ((A.pg g).siz t o) i) from fun q => c2 q.2.2)]
    exact rn_s (mq_no r0 rfl _)
theorem m_told (r : MR e A) (ok : BkOK A) (k : Int32) : Rn (P_X12_told k e) (MQ1 e A (if inL A.outs k then some (A.out k) else none)) := by
  unfold P_X12_told P_X12_told_17 P_X12_fail
  have r0 := r.c0
  refine rn_bd (rn_i (fun c1 => ?_) (fun c1 => ?_))
  · rw [if_neg (fun q => absurd q.1 (Int32.not_le.mpr c1))]
    exact rn_s (mq_no r0 rfl _)
  rw [r0.1.2.2.2.1]
  refine rn_i (fun c2 => ?_) (fun c2 => ?_)
  · have c : inL A.outs k := ⟨Int32.not_lt.mp c1, c2⟩
    rw [if_pos c]
    refine rn_ck ⟨c.1, Int32.lt_of_lt_of_le c2 ok.2.2.2.1.2⟩ ?_
    rw [r0.2.1.2.2 k c]
    exact rn_s (mq_yes r0 rfl rfl)
  · rw [if_neg (fun q => c2 q.2)]
    exact rn_s (mq_no r0 rfl _)
theorem m_list (r : MR e A) (ok : BkOK A) (w : Int32) : Rn (P_X12_list w e) (MQ1 e A (aList w A)) := by
  unfold P_X12_list P_X12_list_91 P_X12_fail aList
  have r0 := r.c0
  obtain ⟨a1, a2, a3, a4, a5, a6⟩ := r0.1
  refine rn_bd ?_
  rw [a1, a2, a3, a4, a6]
  by_cases c0 : w = 0
  · rw [if_pos c0, if_pos c0]; exact rn_s (mq_yes r0 rfl rfl)
  rw [if_neg c0, if_neg c0]
  by_cases c1 : w = 1
  · rw [if_pos c1, if_pos c1]; exact rn_s (mq_yes r0 rfl rfl)
  rw [if_neg c1, if_neg c1]
  by_cases c2 : w = 2
  · rw [if_pos c2, if_pos c2]; exact rn_s (mq_yes r0 rfl rfl)
  rw [if_neg c2, if_neg c2]
  by_cases c3 : w = 3
  · rw [if_pos c3, if_pos c3]; exact rn_s (mq_yes r0 rfl rfl)
  rw [if_neg c3, if_neg c3]
  by_cases c4 : w = 4
  · rw [if_pos c4, if_pos c4]; exact rn_s (mq_yes r0 rfl rfl)
  rw [if_neg c4, if_neg c4]
  have key : 0 ≤ w ∧ 0 ≤ w - 5 ↔ ¬ w < 5 := by
    clear r0 r ok a1 a2 a3 a4 a5 a6
    constructor
    · intro q; obtain ⟨a, b⟩ := q; grind
    · intro q; constructor <;> grind
  refine rn_i (fun c5 => ?_) (fun c5 => ?_)
  · rw [if_neg (fun q => key.mp ⟨q.1, q.2.1⟩ c5)]
    exact rn_s (mq_no r0 rfl _)
  have k := key.mpr c5
  refine rn_i (fun c6 => ?_) (fun c6 => ?_)
  · rw [if_neg (fun q => absurd q.2.2 (Int32.not_lt.mpr c6))]
    exact rn_s (mq_no r0 rfl _)
  · have ci : inL A.sides (w - 5) := ⟨k.2, Int32.not_le.mp c6⟩
    rw [if_pos ⟨k.1, ci⟩]
    refine rn_ck ⟨ci.1, Int32.lt_of_lt_of_le ci.2 ok.1.2⟩ ?_
    rw [r0.2.1.1 _ ci]
    exact rn_s (mq_yes r0 rfl rfl)
theorem m_why (r : MR e A) : Rn (P_X12_why e) (fun q => q.1 = A.why ∧ MP e A q.2) := by
  unfold P_X12_why
  have r0 := r.c0
  exact rn_bd (rn_s ⟨r0.1.2.2.2.2.1, r0, rfl⟩)
/-! behind a play -/
theorem m_now (r : MR e A) (ok : BkOK A) {s : Ps} (hs : TyNs s) (g w : Int32) : Rn (P_X12_now g w e) (MQ1 e A (aNow s g w A)) := by
  unfold P_X12_now P_X12_now_23 P_X12_fail aNow
  have r0 := r.c0
  refine rn_bd (rn_o (m_isGame r0 g) (rn_bd (rn_bd ?_)))
  dsimp only
  by_cases c : inL A.games g
  rotate_left
  · rw [if_neg c, if_neg (show ¬ (inL A.games g ∧ inL 15 w) from fun q => c q.1)]
    exact rn_p rfl (rn_s (mq_no r0 rfl _))
  rw [if_pos c]
  refine rn_n (by decide) (rn_i (fun c1 => ?_) (fun c1 => ?_))
  · rw [if_neg (show ¬ (inL A.games g ∧ inL 15 w) from fun q => absurd q.2.1 (Int32.not_le.mpr c1))]
    exact rn_s (mq_no r0 rfl _)
  have lt : w ≤ 14 ↔ w < 15 := by
    clear r0 r ok hs c c1
    constructor <;> intro q <;> grind
  refine rn_i (fun c2 => ?_) (fun c2 => ?_)
  · rw [if_pos (show inL A.games g ∧ inL 15 w from ⟨c, Int32.not_lt.mp c1, lt.mp c2⟩)]
    obtain ⟨e', p1, p2, p3, p4, p5⟩ := m_play r0 ok c hs
    refine rn_o p1 (rn_o (r_nowOf (r0.pgW ok c) p2 (Int32.not_lt.mp c1) c2) (rn_bd (rn_bd (rn_s (mq_yes p3 ?_ ?_)))))
    · exact (p5 0 (Or.inl rfl)).trans rfl
    · exact (p4.1 11 (by decide) (by decide)).trans rfl
  · rw [if_neg (show ¬ (inL A.games g ∧ inL 15 w) from fun q => c2 (lt.mpr q.2.2))]
    exact rn_s (mq_no r0 rfl _)
theorem m_isTurn (r : MR e A) (ok : BkOK A) (g t : Int32) : P_X12_isTurn g t e = some (if inL A.games g ∧ inL (A.pg g).turns t then 1 else 0, e) := by
  unfold P_X12_isTurn
  rw [m_isGame r, Option.bind_some, bd_e, bd_e]
  dsimp only
  by_cases c : inL A.games g
  rotate_left
  · rw [if_neg c, if_pos rfl, if_neg (show ¬ (inL A.games g ∧ inL (A.pg g).turns t) from fun q => c q.1)]
  rw [if_pos c, if_neg (by decide)]
  by_cases c1 : t < 0
  · rw [if_pos c1, if_neg (show ¬ (inL A.games g ∧ inL (A.pg g).turns t) from fun q => absurd q.2.1 (Int32.not_le.mpr c1))]
  rw [if_neg c1, ck_t (g400 ok c), (r.2.2.1 g c).2.2.2.2.2.1]
  by_cases c2 : (A.pg g).turns ≤ t
  · rw [if_pos c2, if_neg (show ¬ (inL A.games g ∧ inL (A.pg g).turns t) from fun q => absurd q.2.2 (Int32.not_lt.mpr c2))]
  · rw [if_neg c2, if_pos (show inL A.games g ∧ inL (A.pg g).turns t from ⟨c, Int32.not_lt.mp c1, Int32.not_le.mp c2⟩)]
theorem FR.low {eb e' : mE} {G : Pg} {s : Ps} (h : FR eb g G e' s) : ∀ k i, k < 35 → e'.2 k i = eb.2 k i := by
  obtain ⟨t, -, -, -, I⟩ := h
  exact fun k i hk => I.1 k i (Or.inl hk)
theorem m_score (r : MR e A) (ok : BkOK A) {s : Ps} (hs : TyNs s) (g t w : Int32) : Rn (P_X12_score g t w e) (MQ1 e A (aScore s g t w A)) := by
  unfold P_X12_score P_X12_score_24 P_X12_fail aScore
  have r0 := r.c0
  refine rn_bd (rn_o (m_isTurn r0 ok g t) (rn_bd (rn_bd ?_)))
  dsimp only
  by_cases c : inL A.games g ∧ inL (A.pg g).turns t
  rotate_left
  · rw [if_neg c, if_neg (show ¬ (inL A.games g ∧ inL (A.pg g).turns t ∧ inL 16 w) from fun q => c ⟨q.1, q.2.1⟩)]
    exact rn_p rfl (rn_s (mq_no r0 rfl _))
  rw [if_pos c]
  refine rn_n (by decide) (rn_i (fun c1 => ?_) (fun c1 => ?_))
  · rw [if_neg (show ¬ (inL A.games g ∧ inL (A.pg g).turns t ∧ inL 16 w) from fun q => absurd q.2.2.1 (Int32.not_le.mpr c1))]
    exact rn_s (mq_no r0 rfl _)
  have lt : w ≤ 15 ↔ w < 16 := by
    clear r0 r ok hs c c1
    constructor <;> intro q <;> grind
  refine rn_i (fun c2 => ?_) (fun c2 => ?_)
  · rw [if_pos (show inL A.games g ∧ inL (A.pg g).turns t ∧ inL 16 w from ⟨c.1, c.2, Int32.not_lt.mp c1, lt.mp c2⟩)]
    obtain ⟨e', p1, p2, p3, p4, p5⟩ := m_play r0 ok c.1 hs
    have pw := r0.pgW ok c.1
    refine rn_o p1 (rn_o (r_scoreOf pw p2.low c.2.1 c.2.2 (p2.tq pw c.2.1 c.2.2) (Int32.not_lt.mp c1) c2) (rn_bd (rn_bd (rn_s (mq_yes p3 ?_ ?_)))))
    · exact (p5 0 (Or.inl rfl)).trans rfl
    · exact (p4.1 11 (by decide) (by decide)).trans rfl
  · rw [if_neg (show ¬ (inL A.games g ∧ inL (A.pg g).turns t ∧ inL 16 w) from fun q => c2 (lt.mpr q.2.2.2))]
    exact rn_s (mq_no r0 rfl _)
theorem md2_b {t : Int32} (t0 : 0 ≤ t) (t4 : t < 4) : (md2 t = 0 ∨ md2 t = 1) := by
  unfold md2
  have : t = 0 ∨ t = 1 ∨ t = 2 ∨ t = 3 := by grind
  rcases this with q | q | q | q <;> subst q <;> decide
theorem ix22 {g s k : Int32} (g0 : 0 ≤ g ∧ g < 400) (s0 : s = 0 ∨ s = 1) (k0 : 0 ≤ k ∧ k < 11) : (0 : Int32) ≤ 22 * g + 11 * s + k ∧ 22 * g + 11 * s + k < 8800 := by
  obtain ⟨a, b⟩ := g0
  obtain ⟨c, d⟩ := k0
  rcases s0 with q | q <;> subst q <;> constructor <;> grind
theorem gin_01 {s k : Int32} (s0 : s = 0 ∨ s = 1) (k0 : 0 ≤ k ∧ k < 11) : gin 2 11 s k := by rcases s0 with q | q <;> rw [q] <;> exact ⟨by decide, by decide, k0.1, k0.2⟩
/-- what is told of a seat, behind the play -/
theorem m_batsOf {eb e' : mE} {s : Ps} (r : MR e' A) (ok : BkOK A) (c : inL A.games g) (pw : PgW eb g (A.pg g)) (f : FR eb g (A.pg g) e' (s.play (A.pg g))) {t k w : Int32} (ct : inL (A.pg g).turns t) (ck' : inL 11 k) (cw : inL 4 w) : P_X12_batsOf g t k w e' = some (fBats (s.play (A.pg g)) (A.st g) t k w, e') ∧ P_X12_fieldsOf g t k w e' = some (fFields (s.play (A.pg g)) (A.st g) t k w, e') := by
  unfold fBats fFields
  have t4 := t_lt4 ok c ct
  by_cases c3 : w = 3
  · subst c3
    rw [if_pos rfl, if_pos rfl]
    have m := md2_b ct.1 t4
    have m' : (1 - md2 t = 0 ∨ 1 - md2 t = 1) := by rcases m with q | q <;> rw [q] <;> decide
    unfold P_X12_batsOf P_X12_fieldsOf
    have st := (r.2.2.1 g c).2.2.1
    rw [bd_e, if_neg (by decide), if_neg (by decide), if_neg (by decide), ck_t (ix22 (g400 ok c) m ck'), bd_e, if_neg (by decide), if_neg (by decide), if_neg (by decide), ck_t (ix22 (g400 ok c) m' ck'), st _ _ (gin_01 m ck'), st _ _ (gin_01 m' ck')]
    exact ⟨rfl, rfl⟩
  · rw [if_neg c3, if_neg c3]
    have w2 : w ≤ 2 := by
      have a := cw.2
      clear r f pw cw ck' ct
      grind
    exact r_batsOf (f.tq pw ct.1 ct.2) ct.1 t4 ck'.1 ck'.2 cw.1 w2
theorem m_bats (r : MR e A) (ok : BkOK A) {s : Ps} (hs : TyNs s) (g t k w : Int32) : Rn (P_X12_bats g t k w e) (MQ1 e A (aBats s g t k w A)) ∧ Rn (P_X12_fields g t k w e) (MQ1 e A (aFields s g t k w A)) := by
  unfold P_X12_bats P_X12_bats_35 P_X12_fields P_X12_fields_35 P_X12_fail aBats aFields
  have r0 := r.c0
  have k10 : 10 < k ↔ ¬ k < 11 := by
    clear r0 r ok hs
    constructor <;> intro q <;> grind
  have w3 : w ≤ 3 ↔ w < 4 := by
    clear r0 r ok hs k10
    constructor <;> intro q <;> grind
  by_cases c : inL A.games g ∧ inL (A.pg g).turns t
  rotate_left
  · have n : ¬ (inL A.games g ∧ inL (A.pg g).turns t ∧ inL 11 k ∧ inL 4 w) := fun q => c ⟨q.1, q.2.1⟩
    rw [if_neg n, if_neg n]
    constructor
    · refine rn_bd (rn_o (m_isTurn r0 ok g t) (rn_bd (rn_bd ?_)))
      dsimp only
      rw [if_neg c]
      exact rn_p rfl (rn_s (mq_no r0 rfl _))
    · refine rn_bd (rn_o (m_isTurn r0 ok g t) (rn_bd (rn_bd ?_)))
      dsimp only
      rw [if_neg c]
      exact rn_p rfl (rn_s (mq_no r0 rfl _))
  by_cases ck' : inL 11 k ∧ inL 4 w
  · have y : inL A.games g ∧ inL (A.pg g).turns t ∧ inL 11 k ∧ inL 4 w := ⟨c.1, c.2, ck'⟩
    rw [if_pos y, if_pos y]
    obtain ⟨e', p1, p2, p3, p4, p5⟩ := m_play r0 ok c.1 hs
    have B := m_batsOf p3 ok c.1 (r0.pgW ok c.1) p2 c.2 ck'.1 ck'.2
    constructor
    · refine rn_bd (rn_o (m_isTurn r0 ok g t) (rn_bd (rn_bd ?_)))
      dsimp only
      rw [if_pos c]
      exact rn_n (by decide) (rn_n (Int32.not_lt.mpr ck'.1.1) (rn_n (fun q => k10.mp q ck'.1.2) (rn_n (Int32.not_lt.mpr ck'.2.1) (rn_p (w3.mpr ck'.2.2) (rn_o p1 (rn_o B.1 (rn_bd (rn_bd (rn_s (mq_yes p3 ((p5 0 (Or.inl rfl)).trans rfl) ((p4.1 11 (by decide) (by decide)).trans rfl)))))))))))
    · refine rn_bd (rn_o (m_isTurn r0 ok g t) (rn_bd (rn_bd ?_)))
      dsimp only
      rw [if_pos c]
      exact rn_n (by decide) (rn_n (Int32.not_lt.mpr ck'.1.1) (rn_n (fun q => k10.mp q ck'.1.2) (rn_n (Int32.not_lt.mpr ck'.2.1) (rn_p (w3.mpr ck'.2.2) (rn_o p1 (rn_o B.2 (rn_bd (rn_bd (rn_s (mq_yes p3 ((p5 0 (Or.inl rfl)).trans rfl) ((p4.1 11 (by decide) (by decide)).trans rfl)))))))))))
  · have n : ¬ (inL A.games g ∧ inL (A.pg g).turns t ∧ inL 11 k ∧ inL 4 w) := fun q => ck' q.2.2
    rw [if_neg n, if_neg n]
    constructor
    · refine rn_bd (rn_o (m_isTurn r0 ok g t) (rn_bd (rn_bd ?_)))
      dsimp only
      rw [if_pos c]
      refine rn_n (by decide) (rn_i (fun _ => rn_s (mq_no r0 rfl _)) (fun c1 => rn_i (fun _ => rn_s (mq_no r0 rfl _)) (fun c2 => rn_i (fun _ => rn_s (mq_no r0 rfl _)) (fun c3 => rn_i (fun c4 => ?_) (fun _ => rn_s (mq_no r0 rfl _))))))
      exact absurd ⟨⟨Int32.not_lt.mp c1, Decidable.byContradiction (fun q => c2 (k10.mpr q))⟩, Int32.not_lt.mp c3, w3.mp c4⟩ ck'
    · refine rn_bd (rn_o (m_isTurn r0 ok g t) (rn_bd (rn_bd ?_)))
      dsimp only
      rw [if_pos c]
      refine rn_n (by decide) (rn_i (fun _ => rn_s (mq_no r0 rfl _)) (fun c1 => rn_i (fun _ => rn_s (mq_no r0 rfl _)) (fun c2 => rn_i (fun _ => rn_s (mq_no r0 rfl _)) (fun c3 => rn_i (fun c4 => ?_) (fun _ => rn_s (mq_no r0 rfl _))))))
      exact absurd ⟨⟨Int32.not_lt.mp c1, Decidable.byContradiction (fun q => c2 (k10.mpr q))⟩, Int32.not_lt.mp c3, w3.mp c4⟩ ck'
end Mq
