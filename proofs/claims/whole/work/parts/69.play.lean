/-! Play as a whole: the reference's is the class's -/
theorem clr_ty {G : Pg} {q : Int32} : ∀ n t, (G.turns.toInt - t.toInt).toNat < n → ∀ s, (Ps.clr (G.turns.toInt - t.toInt).toNat t s).ty q = if t ≤ q ∧ q < G.turns then (s.ty q).clear else s.ty q := by
  refine i32_up ?_ ?_
  · intro n t hc s
    rw [sub_none hc, if_neg (fun z => absurd z.2 (Int32.not_lt.mpr (i32_tr hc z.1)))]
    rfl
  · intro n t hc ih s
    rw [sub_succ hc, Ps.clr, ih]
    have k := i32_ls (j := q) hc
    have key : t ≤ q ↔ t + 1 ≤ q ∨ q = t := by
      constructor
      · intro y
        by_cases z : q = t
        · exact Or.inr z
        · refine Or.inl (Int32.not_lt.mp (fun w => ?_))
          rcases k.mp w with v | v
          · exact absurd y (Int32.not_le.mpr v)
          · exact z v
      · intro y
        rcases y with y | y
        · exact Int32.not_lt.mp (fun w => absurd (k.mpr (Or.inl w)) (Int32.not_lt.mpr y))
        · rw [y]; exact Int32.le_refl _
    by_cases z : q = t
    · have n1 : ¬ t + 1 ≤ q := by rw [z]; exact Int32.not_le.mpr (k.mpr (Or.inr z) |> fun w => by rw [z] at w; exact w)
      rw [if_neg (fun w => n1 w.1), if_pos ⟨key.mpr (Or.inr z), by rw [z]; exact hc⟩, z, sTy_at]
    · rw [sTy_ne _ _ z]
      by_cases c : t + 1 ≤ q ∧ q < G.turns
      · rw [if_pos c, if_pos ⟨key.mpr (Or.inl c.1), c.2⟩]
      · rw [if_neg c, if_neg (fun w => c ⟨(key.mp w.1).resolve_right z, w.2⟩)]
theorem CL4_rd (e : mE) (k : Nat) (i : Int32) : (CL 3 (CL 2 (CL 1 (CL 0 e)))).2 k i = if 35 ≤ k ∧ k ≤ 52 ∧ 0 ≤ i ∧ i < 4 then clv k else if 53 ≤ k ∧ k ≤ 58 ∧ 0 ≤ i ∧ i < 44 then 0 else e.2 k i := by
  show (if 35 ≤ k ∧ k ≤ 52 ∧ i = 3 then clv k else if 53 ≤ k ∧ k ≤ 58 ∧ (11 : Int32) * 3 ≤ i ∧ i < 11 * 3 + 11 then 0 else if 35 ≤ k ∧ k ≤ 52 ∧ i = 2 then clv k else if 53 ≤ k ∧ k ≤ 58 ∧ (11 : Int32) * 2 ≤ i ∧ i < 11 * 2 + 11 then 0 else if 35 ≤ k ∧ k ≤ 52 ∧ i = 1 then clv k else if 53 ≤ k ∧ k ≤ 58 ∧ (11 : Int32) * 1 ≤ i ∧ i < 11 * 1 + 11 then 0 else if 35 ≤ k ∧ k ≤ 52 ∧ i = 0 then clv k else if 53 ≤ k ∧ k ≤ 58 ∧ (11 : Int32) * 0 ≤ i ∧ i < 11 * 0 + 11 then 0 else e.2 k i) = _
  rw [show (11 : Int32) * 3 = 33 from by decide, show (11 : Int32) * 2 = 22 from by decide, show (11 : Int32) * 1 = 11 from by decide, show (11 : Int32) * 0 = 0 from by decide, show (33 : Int32) + 11 = 44 from by decide, show (22 : Int32) + 11 = 33 from by decide, show (11 : Int32) + 11 = 22 from by decide, show (0 : Int32) + 11 = 11 from by decide]
  by_cases h1 : 35 ≤ k ∧ k ≤ 52
  · have n1 : ∀ p : Prop, ¬ (53 ≤ k ∧ k ≤ 58 ∧ p) := fun p q => by omega
    simp only [h1.1, h1.2, true_and, if_neg (n1 _)]
    by_cases c : 0 ≤ i ∧ i < 4
    · rw [if_pos c]
      have : i = 0 ∨ i = 1 ∨ i = 2 ∨ i = 3 := by clear h1 n1; grind
      rcases this with q | q | q | q <;> subst q <;> simp
    · rw [if_neg c]
      have a0 : ¬ i = 0 := fun q => c (by rw [q]; decide)
      have a1 : ¬ i = 1 := fun q => c (by rw [q]; decide)
      have a2 : ¬ i = 2 := fun q => c (by rw [q]; decide)
      have a3 : ¬ i = 3 := fun q => c (by rw [q]; decide)
      simp only [a0, a1, a2, a3, if_false]
  · have n1 : ∀ p : Prop, ¬ (35 ≤ k ∧ k ≤ 52 ∧ p) := fun p q => h1 ⟨q.1, q.2.1⟩
    simp only [if_neg (n1 _)]
    by_cases h2 : 53 ≤ k ∧ k ≤ 58
    · simp only [h2.1, h2.2, true_and]
      by_cases c : 0 ≤ i ∧ i < 44
      · rw [if_pos c]
        by_cases c3 : 33 ≤ i
        · rw [if_pos ⟨c3, c.2⟩]
        · rw [if_neg (fun q => c3 q.1)]
          by_cases c2 : 22 ≤ i
          · rw [if_pos ⟨c2, Int32.not_le.mp c3⟩]
          · rw [if_neg (fun q => c2 q.1)]
            by_cases c1 : 11 ≤ i
            · rw [if_pos ⟨c1, Int32.not_le.mp c2⟩]
            · rw [if_neg (fun q => c1 q.1), if_pos ⟨c.1, Int32.not_le.mp c1⟩]
      · rw [if_neg c, if_neg (fun q => c ⟨i32_tr (by decide) q.1, q.2⟩), if_neg (fun q => c ⟨i32_tr (by decide) q.1, Int32.lt_of_lt_of_le q.2 (by decide)⟩), if_neg (fun q => c ⟨i32_tr (by decide) q.1, Int32.lt_of_lt_of_le q.2 (by decide)⟩), if_neg (fun q => c ⟨q.1, Int32.lt_of_lt_of_le q.2 (by decide)⟩)]
    · have n2 : ∀ p : Prop, ¬ (53 ≤ k ∧ k ≤ 58 ∧ p) := fun p q => h2 ⟨q.1, q.2.1⟩
      simp only [if_neg (n2 _)]
theorem reN_clv : ∀ k, k < 16 → clv (reN k) = if k = 12 ∨ k = 13 ∨ k = 14 then -1 else if k = 15 then 2 else 0 := by decide
theorem reOf_Z {t : Int32} {rw : Int32 → Int32} {mn : Int32} {e : mE} (h1 : ∀ k, 35 ≤ k → k ≤ 52 → e.2 k t = clv k) (h2 : ∀ k, 53 ≤ k → k ≤ 58 → ∀ j, 0 ≤ j → j < 11 → e.2 k (11 * t + j) = 0) (h3 : ∀ k, 59 ≤ k → k ≤ 64 → ∀ o, 0 ≤ o → o < mn → e.2 k (rw o) = 0) : reOf t rw mn e = Zr0 := by
  have a0 : reBat t e = fun _ _ => 0 := by
    funext k c
    unfold reBat
    by_cases h : gin 11 3 k c
    · rw [if_pos h, h2 53 (by decide) (by decide) k h.1 h.2.1, h2 54 (by decide) (by decide) k h.1 h.2.1, h2 55 (by decide) (by decide) k h.1 h.2.1]
      repeat' split
      all_goals rfl
    · rw [if_neg h]
  have a1 : reBow t e = fun _ _ => 0 := by
    funext k c
    unfold reBow
    by_cases h : gin 11 3 k c
    · rw [if_pos h, h2 56 (by decide) (by decide) k h.1 h.2.1, h2 57 (by decide) (by decide) k h.1 h.2.1, h2 58 (by decide) (by decide) k h.1 h.2.1]
      repeat' split
      all_goals rfl
    · rw [if_neg h]
  have a2 : reOv rw mn e = fun _ _ => 0 := by
    funext o c
    unfold reOv
    by_cases h : gin 120 5 o c ∧ o < mn
    · rw [if_pos h, h3 59 (by decide) (by decide) o h.1.1 h.2, h3 60 (by decide) (by decide) o h.1.1 h.2, h3 61 (by decide) (by decide) o h.1.1 h.2, h3 62 (by decide) (by decide) o h.1.1 h.2, h3 63 (by decide) (by decide) o h.1.1 h.2]
      repeat' split
      all_goals rfl
    · rw [if_neg h]
  refine Ty.ext2 (fun k => ?_) (fun j => ?_)
  · show (if k < 16 then e.2 (reN k) t else 0) = if k = 12 ∨ k = 13 ∨ k = 14 then -1 else if k = 15 then 2 else 0
    by_cases c : k < 16
    · have := reN_lo k c
      rw [if_pos c, h1 _ this.1 this.2, reN_clv k c]
    · rw [if_neg c, if_neg (by omega), if_neg (by omega)]
  · show (if j = 0 then reBat t e else if j = 1 then reBow t e else if j = 2 then reOv rw mn e else fun _ _ => 0) = fun _ _ => 0
    rw [a0, a1, a2]
    repeat' split
    all_goals rfl
/-- behind play: some turns have been played, the others are clear -/
def FR (eb : mE) (g : Int32) (G : Pg) (e : mE) (s : Ps) : Prop := ∃ t, 0 ≤ t ∧ t ≤ G.turns ∧ (0 < G.turns → 0 < t) ∧ TI eb g G t e s
theorem r_play {e : mE} {g : Int32} {G : Pg} {s : Ps} (h : PgW e g G) (hN : ∀ q, TyN (s.ty q)) : ∃ e', P_X12_play g e = some e' ∧ FR e g G e' (s.play G) := by
  have h' := h
  obtain ⟨⟨g0, g1⟩, h2, h3, h4, h5, h6, h7, h8, h9⟩ := h
  have z0 : (0 : Int32).toInt = 0 := by decide
  have T4 : G.turns.toInt ≤ 4 := by
    have : 2 * G.each ≤ 4 := by rcases h3 with z | z <;> rw [z] <;> decide
    exact Int32.le_iff_toInt_le.mp (i32_tr h7.2 this)
  have start : P_X12_play g e = P_X12_play_25 fu g 0 (mS (mS (mS (mS (mS (mS (mS e 28 0) 29 (-1)) 30 (-1)) 31 (-1)) 32 (-1)) 33 0) 34 (-1)) := by
    unfold P_X12_play P_X12_stop
    rw [bd_e, bd_e, bd_e, bd_e, Option.bind_some, bd_e, bd_e, bd_e]
  rw [start, r_25]
  have e2 : ∀ k i, (mS (mS (mS (mS (mS (mS (mS e 28 0) 29 (-1)) 30 (-1)) 31 (-1)) 32 (-1)) 33 0) 34 (-1)).2 k i = e.2 k i := fun _ _ => rfl
  have e1 : ∀ k, (mS (mS (mS (mS (mS (mS (mS e 28 0) 29 (-1)) 30 (-1)) 31 (-1)) 32 (-1)) 33 0) 34 (-1)).1 k = if k = 34 then -1 else if k = 33 then 0 else if k = 32 then -1 else if k = 31 then -1 else if k = 30 then -1 else if k = 29 then -1 else if k = 28 then 0 else e.1 k := fun _ => rfl
  generalize mS (mS (mS (mS (mS (mS (mS e 28 0) 29 (-1)) 30 (-1)) 31 (-1)) 32 (-1)) 33 0) 34 (-1) = ea at *
  have c2 := CL4_rd ea
  have c1 : (CL 3 (CL 2 (CL 1 (CL 0 ea)))).1 = ea.1 := rfl
  generalize CL 3 (CL 2 (CL 1 (CL 0 ea))) = ec at *
  have lo : ∀ k i, k < 35 → ec.2 k i = e.2 k i := by
    intro k i hk
    rw [c2, if_neg (by omega), if_neg (by omega)]
    exact e2 k i
  obtain ⟨ed, p1, p2, p3⟩ := r_43 h' fu 0 (by show _ < 10000000; omega) ec (by decide) h7.1 (fun q o' hp hq => by
    exfalso
    rcases hq with y | y
    · exact absurd hp.1.1 (Int32.not_le.mpr y)
    · exact absurd hp.2.1 (Int32.not_le.mpr y.2)) lo
  rw [p1]
  -- the class's start
  have sk := clr_k G.turns.toInt.toNat 0 ((((((((s.sGov G.ovs).sLast (2 * G.each - 1)).sHand (-1)).sWon 0).sRule 0).sBt (-1)).sBo (-1)).sBe (-1))
  have sty : ∀ q, (s.start G).ty q = if 0 ≤ q ∧ q < G.turns then (s.ty q).clear else s.ty q := by
    intro q
    have := clr_ty (G := G) (q := q) fu 0 (by show _ < 10000000; omega) ((((((((s.sGov G.ovs).sLast (2 * G.each - 1)).sHand (-1)).sWon 0).sRule 0).sBt (-1)).sBo (-1)).sBe (-1))
    rw [z0, Int.sub_zero] at this
    exact this
  have sdef : s.start G = Ps.clr G.turns.toInt.toNat 0 ((((((((s.sGov G.ovs).sLast (2 * G.each - 1)).sHand (-1)).sWon 0).sRule 0).sBt (-1)).sBo (-1)).sBe (-1)) := rfl
  rw [← sdef] at sk
  clear sdef
  obtain ⟨k1, k2, k3, k4, k5, k6, k7, k8⟩ := sk
  have x1 : ed.1 = ea.1 := p3.1.trans c1
  have K1 : (s.start G).rule = 0 := k1.trans (by simp [Ps.sI, Ps.rule, Ps.hand, Ps.last, Ps.gov, Ps.won, Ps.bt, Ps.bo, Ps.be])
  have K2 : (s.start G).hand = -1 := k2.trans (by simp [Ps.sI, Ps.rule, Ps.hand, Ps.last, Ps.gov, Ps.won, Ps.bt, Ps.bo, Ps.be])
  have K3 : (s.start G).last = 2 * G.each - 1 := k3.trans (by simp [Ps.sI, Ps.rule, Ps.hand, Ps.last, Ps.gov, Ps.won, Ps.bt, Ps.bo, Ps.be])
  have K4 : (s.start G).gov = G.ovs := k4.trans (by simp [Ps.sI, Ps.rule, Ps.hand, Ps.last, Ps.gov, Ps.won, Ps.bt, Ps.bo, Ps.be])
  have K5 : (s.start G).won = 0 := k5.trans (by simp [Ps.sI, Ps.rule, Ps.hand, Ps.last, Ps.gov, Ps.won, Ps.bt, Ps.bo, Ps.be])
  have K6 : (s.start G).bt = -1 := k6.trans (by simp [Ps.sI, Ps.rule, Ps.hand, Ps.last, Ps.gov, Ps.won, Ps.bt, Ps.bo, Ps.be])
  have K7 : (s.start G).bo = -1 := k7.trans (by simp [Ps.sI, Ps.rule, Ps.hand, Ps.last, Ps.gov, Ps.won, Ps.bt, Ps.bo, Ps.be])
  have K8 : (s.start G).be = -1 := k8.trans (by simp [Ps.sI, Ps.rule, Ps.hand, Ps.last, Ps.gov, Ps.won, Ps.bt, Ps.bo, Ps.be])
  clear k1 k2 k3 k4 k5 k6 k7 k8
  have sp : s.play G = Ps.plT G G.turns.toInt.toNat 0 (s.start G) := rfl
  rw [sp]
  generalize s.start G = ss at *
  have I0 : TI e g G 0 ed ss := by
    refine ⟨?_, ⟨?_, ?_, ?_, ?_, ?_, ?_, ?_⟩, ⟨K4, K3⟩, ?_, ?_, ?_, ?_, ?_⟩
    · intro k i hk
      rw [p3.2 k i (by omega), c2, if_neg (by omega), if_neg (by omega)]
      exact e2 k i
    · rw [x1, e1, K1]; simp
    · rw [x1, e1, K6]; simp
    · rw [x1, e1, K7]; simp
    · rw [x1, e1, K8]; simp
    · rw [x1, e1, K2]; simp
    · rw [x1, e1, K5]; simp
    · intro k hk
      rw [x1, e1, if_neg (by omega), if_neg (by omega), if_neg (by omega), if_neg (by omega), if_neg (by omega), if_neg (by omega), if_neg (by omega)]
    · intro q q0 q1
      exact absurd q0 (Int32.not_le.mpr q1)
    · intro q q0 q1
      have q4 := h'.t4 q1
      refine ⟨⟨s.ty q, hN q, by rw [sty, if_pos ⟨q0, q1⟩]⟩, ⟨?_, ?_, ?_, ?_⟩, ?_⟩
      · refine reOf_Z ?_ ?_ ?_
        · intro k a b
          rw [p3.2 k q (by omega), c2, if_pos ⟨a, b, q0, q4⟩]
        · intro k a b j j0 j1
          have r : 0 ≤ 11 * q + j ∧ 11 * q + j < 44 := by
            clear p1 p2 p3 c2 lo h' h8 h9 sty
            constructor <;> grind
          rw [p3.2 k _ (by omega), c2, if_neg (by omega), if_pos ⟨a, b, r.1, r.2⟩]
        · intro k a b o o0 o1
          exact p2 q o ⟨⟨q0, q1⟩, o0, (mn_lt o1).1⟩ (Or.inl q1) k a b
      · rw [p3.2 49 q (by omega), c2, if_pos ⟨by decide, by decide, q0, q4⟩]; rfl
      · rw [p3.2 50 q (by omega), c2, if_pos ⟨by decide, by decide, q0, q4⟩]; rfl
      · intro o o0 o1
        exact p2 q o ⟨⟨q0, q1⟩, o0, (mn_lt o1).1⟩ (Or.inl q1) 64 (by decide) (by decide)
      · intro o o0 o1 k a b
        exact p2 q o ⟨⟨q0, q1⟩, i32_tr (by decide) o0, o1⟩ (Or.inl q1) k a b
    · rw [K2]; decide
    · intro z
      rw [K2, K3] at z
      exfalso
      rcases h3 with y | y <;> rw [y] at z <;> exact absurd z (by decide)
    · intro z
      exact absurd z (by decide)
  obtain ⟨e', t', q1, q2, q3, q4⟩ := (r_140 h' fu 0 (by show _ < 10000000; omega)).1 ed ss I0 K1 (by decide) h7.1
  rw [z0, Int.sub_zero] at q3
  exact ⟨e', q1, t', q2.1, q2.2, q4 K5 rfl, q3⟩
