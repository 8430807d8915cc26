/-! what a book may hold, behind every call -/
section Ok
variable {A : Bk} {g t o : Int32} {P : Pg}
theorem ok_chg (ok : BkOK A) (c : inL A.games g) (p : PgOK P) : BkOK (A.chg g P) := by
  obtain ⟨o1, o2, o3, o4, o5, o6, o7, o8, o9⟩ := ok
  refine ⟨o1, o2, o3, o4, o5, o6, fun g' hg' => ?_, ?_, fun q hq => ?_⟩
  · obtain ⟨a, b⟩ := o7 g' hg'
    refine ⟨?_, b⟩
    show PgOK (if g' = g then P else A.pg g')
    by_cases y : g' = g
    · rw [if_pos y]; exact p
    · rw [if_neg y]; exact a
  · show ((g, A.pg g) :: A.hi.take 39).length ≤ 40
    simp only [List.length_cons, List.length_take]
    omega
  · have hq : q ∈ (g, A.pg g) :: A.hi.take 39 := hq
    rcases List.mem_cons.mp hq with y | y
    · rw [y]; exact ⟨c, (o7 g c).1⟩
    · exact o9 q (List.mem_of_mem_take y)
theorem edit_ok {G : Pg} (ok : PgOK G) {b s : Int32} {f : Int32 → Int32} (hb : 0 ≤ b ∧ b ≤ 15) (hs : -1 ≤ s ∧ s ≤ 40) (hf : ∀ i, inL s i → 0 ≤ f i ∧ f i ≤ 255) : PgOK (G.edit t o b s f) := by
  obtain ⟨o1, o2, o3, o4⟩ := ok
  refine ⟨o1, o2, o3, fun t' t0 t1 => ⟨(o4 t' t0 t1).1, fun o' oo0 oo1 => ?_⟩⟩
  have q := (o4 t' t0 t1).2 o' oo0 oo1
  show (0 ≤ (if t' = t ∧ o' = o then b else G.bow t' o') ∧ (if t' = t ∧ o' = o then b else G.bow t' o') ≤ 15) ∧ (-1 ≤ (if t' = t ∧ o' = o then s else G.siz t' o') ∧ (if t' = t ∧ o' = o then s else G.siz t' o') ≤ 40) ∧ ∀ i, 0 ≤ i → i < (if t' = t ∧ o' = o then s else G.siz t' o') → 0 ≤ (if t' = t ∧ o' = o then f else G.ent t' o') i ∧ (if t' = t ∧ o' = o then f else G.ent t' o') i ≤ 255
  by_cases z : t' = t ∧ o' = o
  · rw [if_pos z, if_pos z, if_pos z]
    exact ⟨hb, hs, fun i i0 i1 => hf i ⟨i0, i1⟩⟩
  · rw [if_neg z, if_neg z, if_neg z]
    exact q
theorem and15 (b : Int32) : 0 ≤ b &&& 15 ∧ b &&& 15 ≤ 15 := by
  have h : ∀ x : BitVec 32, (x &&& 15#32).toInt ≥ 0 ∧ (x &&& 15#32).toInt ≤ 15 := by
    intro x
    have l : (x &&& 15#32).toNat ≤ 15 := by
      rw [BitVec.toNat_and]
      exact Nat.and_le_right
    rw [BitVec.toInt_eq_toNat_of_lt (by omega)]
    omega
  have := h b.toBitVec
  exact ⟨Int32.le_iff_toInt_le.mpr this.1, Int32.le_iff_toInt_le.mpr this.2⟩
theorem ins_ok {f : Int32 → Int32} {s p c : Int32} (s1 : s < 1000) (hf : ∀ i, inL s i → 0 ≤ f i ∧ f i ≤ 255) (p0 : 0 ≤ p) (p1 : p ≤ s) (hc : 0 ≤ c ∧ c ≤ 255) : ∀ i, inL (s + 1) i → 0 ≤ rIns f p c i ∧ rIns f p c i ≤ 255 := by
  intro i hi
  unfold rIns
  have ss := i32_succ s1
  have i1 := Int32.lt_iff_toInt_lt.mp hi.2
  have z : (0 : Int32).toInt = 0 := by decide
  by_cases y : i < p
  · rw [if_pos y]
    exact hf i ⟨hi.1, Int32.lt_of_lt_of_le y p1⟩
  · rw [if_neg y]
    by_cases x : i = p
    · rw [if_pos x]; exact hc
    · rw [if_neg x]
      have q1 := Int32.le_iff_toInt_le.mp (Int32.not_lt.mp y)
      have q2 : i.toInt ≠ p.toInt := fun z => x (Int32.toInt_inj.mp z)
      have q3 := Int32.le_iff_toInt_le.mp p0
      have ip : 0 < i := Int32.lt_iff_toInt_lt.mpr (by omega)
      have e := i32_pred ip
      exact hf _ ⟨Int32.le_iff_toInt_le.mpr (by omega), Int32.lt_iff_toInt_lt.mpr (by omega)⟩
theorem del_ok {f : Int32 → Int32} {s p : Int32} (s0 : 0 < s) (s1 : s < 1000) (hf : ∀ i, inL s i → 0 ≤ f i ∧ f i ≤ 255) : ∀ i, inL (s - 1) i → 0 ≤ rDel f p i ∧ rDel f p i ≤ 255 := by
  intro i hi
  unfold rDel
  have sd := i32_pred s0
  have z : (0 : Int32).toInt = 0 := by decide
  have i0 := Int32.le_iff_toInt_le.mp hi.1
  have i1 := Int32.lt_iff_toInt_lt.mp hi.2
  have e1 : (1000 : Int32).toInt = 1000 := by decide
  have s1' := Int32.lt_iff_toInt_lt.mp s1
  have il : i < 1000 := Int32.lt_iff_toInt_lt.mpr (by omega)
  have is := i32_succ il
  by_cases y : i < p
  · rw [if_pos y]
    exact hf i ⟨hi.1, Int32.lt_iff_toInt_lt.mpr (by omega)⟩
  · rw [if_neg y]
    exact hf _ ⟨Int32.le_iff_toInt_le.mpr (by omega), Int32.lt_iff_toInt_lt.mpr (by omega)⟩
theorem l40 {v : Int32} (h : v ≤ 40) : v < 1000 := Int32.lt_of_le_of_lt h (by decide)
theorem ok_tear (ok : BkOK A) (g t o : Int32) : BkOK (aTear g t o A).2 := by
  unfold aTear
  split
  next q =>
    have w := ok.ov q.1
    exact ok_chg ok q.1.1 (edit_ok (ok.pgo q.1.1) w.1 (by decide) (fun i hi => absurd (i32_tr (show (-1 : Int32) ≤ 0 by decide) hi.1) (Int32.not_le.mpr hi.2)))
  next => exact ok
theorem ok_put (ok : BkOK A) (g t o i c : Int32) : BkOK (aPut g t o i c A).2 := by
  unfold aPut
  split
  next q =>
    have w := ok.ov q.1
    have ss := i32_succ q.2.2.2.2
    have sl := Int32.lt_iff_toInt_lt.mp q.2.2.2.2
    have s0 := Int32.le_iff_toInt_le.mp q.2.1
    have z : (0 : Int32).toInt = 0 := by decide
    have f : (40 : Int32).toInt = 40 := by decide
    have f1 : (-1 : Int32).toInt = -1 := by decide
    exact ok_chg ok q.1.1 (edit_ok (ok.pgo q.1.1) w.1 ⟨Int32.le_iff_toInt_le.mpr (by omega), Int32.le_iff_toInt_le.mpr (by omega)⟩ (ins_ok (l40 w.2.1.2) (fun i hi => w.2.2 i hi.1 hi.2) q.2.2.1 q.2.2.2.1 (and255 c)))
  next => exact ok
theorem ok_mend (ok : BkOK A) (g t o i c : Int32) : BkOK (aMend g t o i c A).2 := by
  unfold aMend
  split
  next q =>
    have w := ok.ov q.1
    refine ok_chg ok q.1.1 (edit_ok (ok.pgo q.1.1) w.1 w.2.1 (fun j hj => ?_))
    by_cases y : j = i
    · rw [if_pos y]; exact and255 c
    · rw [if_neg y]; exact w.2.2 j hj.1 hj.2
  next => exact ok
theorem ok_out (ok : BkOK A) (g t o i : Int32) : BkOK (aOut g t o i A).2 := by
  unfold aOut
  split
  next q =>
    have w := ok.ov q.1
    have z : (0 : Int32).toInt = 0 := by decide
    have f1 : (-1 : Int32).toInt = -1 := by decide
    have f : (40 : Int32).toInt = 40 := by decide
    have a := Int32.le_iff_toInt_le.mp q.2.1
    have b := Int32.lt_iff_toInt_lt.mp q.2.2
    have d := tI40 w.2.1.2
    have s0 : 0 < (A.pg g).siz t o := Int32.lt_iff_toInt_lt.mpr (by omega)
    have sp := i32_pred s0
    exact ok_chg ok q.1.1 (edit_ok (ok.pgo q.1.1) w.1 ⟨Int32.le_iff_toInt_le.mpr (by omega), Int32.le_iff_toInt_le.mpr (by omega)⟩ (del_ok s0 (l40 w.2.1.2) (fun i hi => w.2.2 i hi.1 hi.2)))
  next => exact ok
theorem ok_bowls (ok : BkOK A) (g t o b : Int32) : BkOK (aBowls g t o b A).2 := by
  unfold aBowls
  split
  next q =>
    have w := ok.ov q
    exact ok_chg ok q.1 (edit_ok (ok.pgo q.1) (and15 b) w.2.1 (fun i hi => w.2.2 i hi.1 hi.2))
  next => exact ok
theorem ok_open (ok : BkOK A) (g t o n : Int32) : BkOK (aOpen g t o n A).2 := by
  unfold aOpen
  split
  next q =>
    have w := ok.ov q.1
    exact (ok_chg ok q.1.1 (edit_ok (ok.pgo q.1.1) w.1 ⟨i32_tr (by decide) q.2.1, q.2.2.1⟩ (fun i hi => ok.2.2.2.2.2.1 i ⟨hi.1, Int32.lt_of_lt_of_le hi.2 q.2.2.2⟩))).tape0
  next => exact ok
theorem ok_undo (ok : BkOK A) : BkOK (aUndo A).2 := by
  unfold aUndo
  cases hh : A.hi with
  | nil => exact ok
  | cons q l =>
    obtain ⟨g, P⟩ := q
    obtain ⟨o1, o2, o3, o4, o5, o6, o7, o8, o9⟩ := ok
    rw [hh] at o8 o9
    refine ⟨o1, o2, o3, o4, o5, o6, fun g' hg' => ?_, ?_, fun q hq => o9 q (List.mem_cons_of_mem _ hq)⟩
    · obtain ⟨a, b⟩ := o7 g' hg'
      refine ⟨?_, b⟩
      show PgOK (if g' = g then P else A.pg g')
      by_cases y : g' = g
      · rw [if_pos y]; exact (o9 (g, P) (by simp)).2
      · rw [if_neg y]; exact a
    · have : l.length + 1 ≤ 40 := o8
      show l.length ≤ 40
      omega
theorem ok_turn (ok : BkOK A) (s : Ps) (g : Int32) : BkOK (aTurn s g A).2 := by
  unfold aTurn
  split
  next c =>
    split
    next e =>
      have L := tRule_lt (ok.pgo c) e
      refine (ok_chg ok c (addT_ok (ok.pgo c) ?_)).why 0
      refine Int32.lt_of_le_of_lt L.1 ?_
      rcases (ok.pgo c).1 with y | y <;> rw [y] <;> decide
    next => exact ok.why _
  next => exact ok.why _
theorem ok_over {e : mE} (r : MR e A) (ok : BkOK A) {s : Ps} (hs : TyNs s) (g b : Int32) : BkOK (aOver s g b A).2 := by
  unfold aOver
  split
  next c =>
    split
    next q =>
      obtain ⟨e', -, p2, -, -, -⟩ := m_play r ok c hs
      have pb := play_beg (ok.pgo c) s
      generalize s.play (A.pg g) = S at q pb p2
      unfold oRule at q
      by_cases c1 : S.rule = 0
      rotate_left
      · rw [if_neg c1] at q; exact absurd q c1
      rw [if_pos c1] at q
      by_cases c2 : 0 < (A.pg g).turns
      rotate_left
      · rw [if_neg c2] at q; exact absurd q (by decide)
      rw [if_pos c2] at q
      obtain ⟨hh, hb⟩ := pb c1
      have ti := last_in c2
      have al := (p2.fin hh ti).prev.2.2.2.2.2.2.2.2.1
      unfold Ps.ruleO at q
      rw [hh] at q
      unfold Ty.ruleO at q
      by_cases y : (S.ty ((A.pg g).turns - 1)).ended = 0 ∧ (S.ty ((A.pg g).turns - 1)).begun < (S.ty ((A.pg g).turns - 1)).allowed
      rotate_left
      · rw [if_neg y] at q; exact absurd q (by decide)
      rw [if_pos y] at q
      by_cases w : 0 ≤ b ∧ b < 11
      rotate_left
      · rw [if_neg w] at q; exact absurd q (by decide)
      have m120 : (A.pg g).many ((A.pg g).turns - 1) < 120 := by
        rw [← hb _ ti.1 ti.2]
        exact Int32.lt_of_lt_of_le y.2 (i32_tr al (ok.pgo c).2.1.2)
      exact (ok_chg ok c (addO_ok (ok.pgo c) ti (Int32.lt_of_lt_of_le m120 (by decide)) ⟨w.1, i32_tr (Int32.le_of_lt w.2) (by decide)⟩ (by decide) (fun i i0 i1 => absurd i0 (Int32.not_le.mpr i1)))).why 0
    next => exact ok.why _
  next => exact ok.why _
theorem ok_ball (ok : BkOK A) (s : Ps) (g b : Int32) : BkOK (aBall s g b A).2 := by
  unfold aBall
  split
  next c =>
    split
    next e =>
      have pb := play_beg (ok.pgo c) s
      generalize s.play (A.pg g) = S at e pb
      unfold bRule at e
      by_cases c1 : S.rule = 0
      rotate_left
      · rw [if_neg c1] at e; exact absurd e c1
      rw [if_pos c1] at e
      by_cases c2 : 0 < (A.pg g).turns ∧ 0 < (A.pg g).many ((A.pg g).turns - 1) ∧ 0 ≤ (A.pg g).siz ((A.pg g).turns - 1) ((A.pg g).many ((A.pg g).turns - 1) - 1)
      rotate_left
      · rw [if_neg c2] at e; exact absurd e (by decide)
      rw [if_pos c2] at e
      by_cases c3 : (A.pg g).siz ((A.pg g).turns - 1) ((A.pg g).many ((A.pg g).turns - 1) - 1) < 40
      rotate_left
      · rw [if_neg c3] at e; exact absurd e (by decide)
      have z : (0 : Int32).toInt = 0 := by decide
      have t0 := Int32.lt_iff_toInt_lt.mp c2.1
      have tp := i32_pred c2.1
      have m0 := Int32.lt_iff_toInt_lt.mp c2.2.1
      have mp := i32_pred c2.2.1
      have co : inO A g ((A.pg g).turns - 1) ((A.pg g).many ((A.pg g).turns - 1) - 1) := ⟨c, ⟨Int32.le_iff_toInt_le.mpr (by omega), Int32.lt_iff_toInt_lt.mpr (by omega)⟩, ⟨Int32.le_iff_toInt_le.mpr (by omega), Int32.lt_iff_toInt_lt.mpr (by omega)⟩⟩
      have w := ok.ov co
      have ss := i32_succ c3
      have sl := Int32.lt_iff_toInt_lt.mp c3
      have s0 := Int32.le_iff_toInt_le.mp c2.2.2
      have f : (40 : Int32).toInt = 40 := by decide
      have f1 : (-1 : Int32).toInt = -1 := by decide
      refine (ok_chg ok c ?_).why 0
      unfold pBall
      exact edit_ok (ok.pgo c) w.1 ⟨Int32.le_iff_toInt_le.mpr (by omega), Int32.le_iff_toInt_le.mpr (by omega)⟩ (ins_ok (l40 w.2.1.2) (fun i hi => w.2.2 i hi.1 hi.2) c2.2.2 (Int32.le_refl _) (and255 b))
    next => exact ok.why _
  next => exact ok.why _
theorem ok_side (ok : BkOK A) (n : Int32) : BkOK (aSide n A).2 := by
  unfold aSide
  split
  next => exact ok
  next q =>
    obtain ⟨o1, o2, o3, o4, o5, o6, o7, o8, o9⟩ := ok
    have s60 : A.sides < 60 := Int32.not_le.mp (fun y => q (Or.inl y))
    have ss := i32_succ s60
    have sl := Int32.lt_iff_toInt_lt.mp s60
    have s0 := Int32.le_iff_toInt_le.mp o1.1
    have z : (0 : Int32).toInt = 0 := by decide
    have f : (60 : Int32).toInt = 60 := by decide
    have up : ∀ i, inL A.sides i → inL (A.sides + 1) i ∧ i ≠ A.sides := fun i hi => ⟨⟨hi.1, (i32_ls s60).mpr (Or.inl hi.2)⟩, lt_ne hi.2⟩
    refine ⟨⟨Int32.le_iff_toInt_le.mpr (by show _ ≤ (A.sides + 1).toInt; omega), Int32.le_iff_toInt_le.mpr (by show (A.sides + 1).toInt ≤ _; omega)⟩, o2, o3, o4, fun i hi => ?_, o6, fun g hg => ?_, o8, o9⟩
    · have hi : inL (A.sides + 1) i := hi
      show 11 ≤ (if i = A.sides then n else A.pl i) ∧ (if i = A.sides then n else A.pl i) ≤ 30
      by_cases y : i = A.sides
      · rw [if_pos y]
        exact ⟨Int32.not_lt.mp (fun z => q (Or.inr (Or.inl z))), Int32.not_lt.mp (fun z => q (Or.inr (Or.inr z)))⟩
      · rw [if_neg y]
        exact o5 i ⟨hi.1, ((i32_ls s60).mp hi.2).resolve_right y⟩
    · obtain ⟨a, b, c, d⟩ := o7 g hg
      refine ⟨a, (up _ b).1, (up _ c).1, fun k hk => ?_⟩
      show inL (if A.sd0 g = A.sides then n else A.pl (A.sd0 g)) (A.st g 0 k) ∧ inL (if A.sd1 g = A.sides then n else A.pl (A.sd1 g)) (A.st g 1 k)
      rw [if_neg (up _ b).2, if_neg (up _ c).2]
      exact d k hk
theorem ok_player (ok : BkOK A) (s : Int32) : BkOK (aPlayer s A).2 := by
  unfold aPlayer
  split
  next q =>
    obtain ⟨o1, o2, o3, o4, o5, o6, o7, o8, o9⟩ := ok
    have ss := i32_succ q.2
    have sl := Int32.lt_iff_toInt_lt.mp q.2
    have p5 := o5 s q.1
    have p0 := Int32.le_iff_toInt_le.mp p5.1
    have f : (30 : Int32).toInt = 30 := by decide
    have f1 : (11 : Int32).toInt = 11 := by decide
    have up : ∀ sd v, inL (A.pl sd) v → inL (if sd = s then A.pl s + 1 else A.pl sd) v := fun sd v h => by
      by_cases y : sd = s
      · rw [if_pos y]
        rw [y] at h
        exact ⟨h.1, (i32_ls q.2).mpr (Or.inl h.2)⟩
      · rw [if_neg y]; exact h
    refine ⟨o1, o2, o3, o4, fun i hi => ?_, o6, fun g hg => ?_, o8, o9⟩
    · show 11 ≤ (if i = s then A.pl s + 1 else A.pl i) ∧ (if i = s then A.pl s + 1 else A.pl i) ≤ 30
      by_cases y : i = s
      · rw [if_pos y]
        exact ⟨Int32.le_iff_toInt_le.mpr (by omega), Int32.le_iff_toInt_le.mpr (by omega)⟩
      · rw [if_neg y]; exact o5 i hi
    · obtain ⟨a, b, c, d⟩ := o7 g hg
      exact ⟨a, b, c, fun k hk => ⟨up _ _ (d k hk).1, up _ _ (d k hk).2⟩⟩
  next => exact ok
theorem ok_addG (ok : BkOK A) {a b : Int32} {st : Int32 → Int32 → Int32} (hg : A.games < 400) (ha : inL A.sides a) (hb : inL A.sides b) (hs : ∀ k, inL 11 k → inL (A.pl a) (st 0 k) ∧ inL (A.pl b) (st 1 k)) (p : PgOK P) : BkOK (A.addG a b st P) := by
  obtain ⟨o1, o2, o3, o4, o5, o6, o7, o8, o9⟩ := ok
  have ss := i32_succ hg
  have sl := Int32.lt_iff_toInt_lt.mp hg
  have s0 := Int32.le_iff_toInt_le.mp o2.1
  have z : (0 : Int32).toInt = 0 := by decide
  have f : (400 : Int32).toInt = 400 := by decide
  refine ⟨o1, ⟨Int32.le_iff_toInt_le.mpr (by show _ ≤ (A.games + 1).toInt; omega), Int32.le_iff_toInt_le.mpr (by show (A.games + 1).toInt ≤ _; omega)⟩, o3, o4, o5, o6, fun g hg' => ?_, o8, fun q hq => ⟨⟨(o9 q hq).1.1, (i32_ls hg).mpr (Or.inl (o9 q hq).1.2)⟩, (o9 q hq).2⟩⟩
  have hg' : inL (A.games + 1) g := hg'
  show PgOK (if g = A.games then P else A.pg g) ∧ inL A.sides (if g = A.games then a else A.sd0 g) ∧ inL A.sides (if g = A.games then b else A.sd1 g) ∧ ∀ k, inL 11 k → inL (A.pl (if g = A.games then a else A.sd0 g)) ((if g = A.games then st else A.st g) 0 k) ∧ inL (A.pl (if g = A.games then b else A.sd1 g)) ((if g = A.games then st else A.st g) 1 k)
  by_cases y : g = A.games
  · rw [if_pos y, if_pos y, if_pos y, if_pos y]
    exact ⟨p, ha, hb, hs⟩
  · rw [if_neg y, if_neg y, if_neg y, if_neg y]
    exact o7 g ⟨hg'.1, ((i32_ls hg).mp hg'.2).resolve_right y⟩
theorem ok_toss (ok : BkOK A) (a b n t : Int32) : BkOK (aToss a b n t A).2 := by
  unfold aToss
  split
  next q =>
    have t12 : t = 1 ∨ t = 2 := by
      have a1 := q.2.2.2.2.2.2.1
      have a2 := q.2.2.2.2.2.2.2
      clear q ok
      grind
    refine ok_addG ok q.1 q.2.1 q.2.2.1 (fun k hk => ?_) (new_ok ⟨q.2.2.2.2.1, q.2.2.2.2.2.1⟩ t12)
    have k1 : ∀ s, (s = 0 ∨ s = 1) → seat0 s k = k := fun s hs => if_pos (gin_01 hs hk)
    rw [k1 0 (Or.inl rfl), k1 1 (Or.inr rfl)]
    exact ⟨⟨hk.1, Int32.lt_of_lt_of_le hk.2 (ok.2.2.2.2.1 a q.2.1).1⟩, ⟨hk.1, Int32.lt_of_lt_of_le hk.2 (ok.2.2.2.2.1 b q.2.2.1).1⟩⟩
  next => exact ok
theorem ok_seat (ok : BkOK A) (g s k p : Int32) : BkOK (aSeat g s k p A).2 := by
  unfold aSeat
  by_cases q : inL A.games g ∧ inL 2 s ∧ inL 11 k ∧ 0 ≤ p ∧ p < A.pl (if s = 0 then A.sd0 g else A.sd1 g) ∧ (A.pg g).turns ≤ 0
  · rw [if_pos q]
    obtain ⟨o1, o2, o3, o4, o5, o6, o7, o8, o9⟩ := ok
    refine ⟨o1, o2, o3, o4, o5, o6, fun g' hg' => ?_, o8, o9⟩
    obtain ⟨a, b, c, d⟩ := o7 g' hg'
    refine ⟨a, b, c, fun j hj => ?_⟩
    show inL (A.pl (A.sd0 g')) ((if g' = g then stNew (A.st g) s k p else A.st g') 0 j) ∧ inL (A.pl (A.sd1 g')) ((if g' = g then stNew (A.st g) s k p else A.st g') 1 j)
    by_cases y : g' = g
    · rw [if_pos y]
      rw [y] at d ⊢
      have s01 : s = 0 ∨ s = 1 := by
        obtain ⟨s0, s1⟩ := q.2.1
        clear q d o1 o2 o3 o4 o5 o6 o7 o8 o9
        grind
      have key : ∀ s', (s' = 0 ∨ s' = 1) → inL (A.pl (if s' = 0 then A.sd0 g else A.sd1 g)) (stNew (A.st g) s k p s' j) := fun s' hs' => by
        have dd : ∀ k, inL 11 k → inL (A.pl (if s' = 0 then A.sd0 g else A.sd1 g)) (A.st g s' k) := fun k hk => by
          rcases hs' with z | z
          · rw [z, if_pos rfl]; exact (d k hk).1
          · rw [z, if_neg (by decide)]; exact (d k hk).2
        unfold stNew
        by_cases w : gin 2 11 s' j ∧ s' = s
        · rw [if_pos w]
          by_cases x : j = k
          · rw [if_pos x, w.2]
            exact ⟨q.2.2.2.1, q.2.2.2.2.1⟩
          · rw [if_neg x, ← w.2]
            by_cases v : A.st g s' j = p
            · rw [if_pos v]; exact dd k q.2.2.1
            · rw [if_neg v]; exact dd j hj
        · rw [if_neg w]; exact dd j hj
      have k0 := key 0 (Or.inl rfl)
      have k1 := key 1 (Or.inr rfl)
      rw [if_pos rfl] at k0
      rw [if_neg (by decide)] at k1
      exact ⟨k0, k1⟩
    · rw [if_neg y]
      exact d j hj
  · rw [if_neg q]
    exact ok
theorem tAdd_b {f : Int32 → Int32} {m v : Int32} (m1 : m < 10000) (h : ∀ i, inL m i → 0 ≤ f i ∧ f i ≤ 255) : ∀ i, inL (m + 1) i → 0 ≤ tAdd f m v i ∧ tAdd f m v i ≤ 255 := by
  intro i hi
  unfold tAdd
  by_cases y : i = m
  · rw [if_pos y]; exact and255 v
  · rw [if_neg y]
    exact h i ⟨hi.1, ((i32_ls m1).mp hi.2).resolve_right y⟩
theorem tNum_b {f : Int32 → Int32} {m v : Int32} (m0 : 0 ≤ m) (m1 : m < 9000) (h : ∀ i, inL m i → 0 ≤ f i ∧ f i ≤ 255) : ∀ i, inL (m + 4) i → 0 ≤ tNum f m v i ∧ tNum f m v i ≤ 255 := by
  have e : m + 4 = m + 1 + 1 + 1 + 1 := by clear h; grind
  have b1 : m < 10000 := by clear h e; grind
  have b2 : m + 1 < 10000 := by clear h e; grind
  have b3 : m + 1 + 1 < 10000 := by clear h e; grind
  have b4 : m + 1 + 1 + 1 < 10000 := by clear h e; grind
  rw [e]
  unfold tNum
  exact tAdd_b b4 (tAdd_b b3 (tAdd_b b2 (tAdd_b b1 h)))
theorem ok_feed (ok : BkOK A) (a b c d e : Int32) : BkOK (aFeed a b c d e A).2 := by
  unfold aFeed
  split
  next q =>
    obtain ⟨o1, o2, o3, o4, o5, o6, o7, o8, o9⟩ := ok
    have t0 := o3.1
    have bd' : ∀ k : Int32, 0 ≤ k → k ≤ 20 → 0 ≤ A.taped + k ∧ A.taped + k < 9000 ∧ A.taped + k ≤ 6000 := by
      intro k k0 k1
      generalize A.taped = v at t0 q
      clear o1 o2 o3 o4 o5 o6 o7 o8 o9
      refine ⟨?_, ?_, ?_⟩ <;> grind
    have b20 := bd' 20 (by decide) (by decide)
    have b4 := bd' 4 (by decide) (by decide)
    have b8 := bd' 8 (by decide) (by decide)
    have b12 := bd' 12 (by decide) (by decide)
    have b16 := bd' 16 (by decide) (by decide)
    have t9 : A.taped < 9000 := Int32.lt_of_le_of_lt o3.2 (by decide)
    refine ⟨o1, o2, ⟨b20.1, b20.2.2⟩, o4, o5, ?_, o7, o8, o9⟩
    have a4 : ∀ x : Int32, x + 4 + 4 = x + 8 ∧ x + 8 + 4 = x + 12 ∧ x + 12 + 4 = x + 16 ∧ x + 16 + 4 = x + 20 := by
      intro x
      clear o1 o2 o3 o4 o5 o6 o7 o8 o9 b20 b4 b8 b12 b16 bd' t0 q t9
      refine ⟨?_, ?_, ?_, ?_⟩ <;> grind
    obtain ⟨e1, e2, e3, e4⟩ := a4 A.taped
    have h1 := tNum_b (v := a) t0 t9 o6
    have h2 := tNum_b (v := b) b4.1 b4.2.1 h1
    rw [e1] at h2
    have h3 := tNum_b (v := c) b8.1 b8.2.1 h2
    rw [e2] at h3
    have h4 := tNum_b (v := d) b12.1 b12.2.1 h3
    rw [e3] at h4
    have h5 := tNum_b (v := e) b16.1 b16.2.1 h4
    rw [e4] at h5
    exact h5
  next => exact ok
theorem ok_image (ok : BkOK A) (s : Ps) (g : Int32) : BkOK (aImage s g A).2 := by
  unfold aImage
  split
  next c =>
    split
    next q =>
      obtain ⟨o1, o2, o3, o4, o5, o6, o7, o8, o9⟩ := ok
      have z : (0 : Int32).toInt = 0 := by decide
      have f8 : (8000 : Int32).toInt = 8000 := by decide
      unfold imgN at q
      have H : (wHead (A.sd0 g) (A.sd1 g) (A.st g) (A.pg g) (0, A.out)).1 = 28 := by
        have k : ∀ (st : Int32 → Int32 → Int32) (s : Int32) (n : Nat) (k : Int32) (w : Wr), (wSeat st s n k w).1 = w.1 + Int32.ofNat n := fun st s n => by
          induction n with
          | zero => intro k w; show w.1 = w.1 + 0; clear q o1 o2 o3 o4 o5 o6 o7 o8 o9; grind
          | succ n ih =>
            intro k w
            show (wSeat st s n (k + 1) (wAdd (st s k) w)).1 = _
            rw [ih, ← ofN_s]
            show w.1 + 1 + Int32.ofNat n = w.1 + (Int32.ofNat n + 1)
            generalize Int32.ofNat n = m
            clear q o1 o2 o3 o4 o5 o6 o7 o8 o9 ih
            grind
        show (wSeat (A.st g) 1 11 0 (wSeat (A.st g) 0 11 0 (wAdd (A.pg g).each (wAdd (A.pg g).ovs (wAdd (A.sd1 g) (wAdd (A.sd0 g) (wAdd 66 (0, A.out)))))))).1 + 1 = 28
        rw [k, k]
        show (0 : Int32) + 1 + 1 + 1 + 1 + 1 + Int32.ofNat 11 + Int32.ofNat 11 + 1 = 28
        decide
      have hd : (wHead (A.sd0 g) (A.sd1 g) (A.st g) (A.pg g) (0, A.out)).1.toInt = 28 := by rw [H]; decide
      have N := wTurns_n (S := s.play (A.pg g)) (G := A.pg g) (A.pg g).turns.toInt.toNat 0 (wHead (A.sd0 g) (A.sd1 g) (A.st g) (A.pg g) (0, A.out)) (by omega) (by omega)
      refine ⟨o1, o2, o3, ⟨Int32.le_iff_toInt_le.mpr ?_, Int32.le_iff_toInt_le.mpr ?_⟩, o5, o6, o7, o8, o9⟩
      · show _ ≤ (wTurns (s.play (A.pg g)) (A.pg g) (A.pg g).turns.toInt.toNat 0 (wHead (A.sd0 g) (A.sd1 g) (A.st g) (A.pg g) (0, A.out))).1.toInt
        rw [N]; omega
      · show (wTurns (s.play (A.pg g)) (A.pg g) (A.pg g).turns.toInt.toNat 0 (wHead (A.sd0 g) (A.sd1 g) (A.st g) (A.pg g) (0, A.out))).1.toInt ≤ _
        rw [N]; omega
    next => exact ⟨ok.1, ok.2.1, ok.2.2.1, ⟨by show (0 : Int32) ≤ 0; decide, by show (0 : Int32) ≤ 8000; decide⟩, ok.2.2.2.2⟩
  next => exact ok
theorem ok_check (ok : BkOK A) (s : Ps) (n : Int32) : BkOK (aCheck s n A).2 := by
  unfold aCheck
  split
  · exact ok.tape0
  · exact ok
end Ok
