/-! The reference's changes of one row -/
section Med
variable {e : mE} {A : Bk} {g t o : Int32}
theorem rIns_del {f : Int32 → Int32} {p c : Int32} (p0 : 0 ≤ p) {i : Int32} (hi : 0 ≤ i ∧ i < 1000) : rDel (rIns f p c) p i = f i := by
  unfold rDel rIns
  obtain ⟨i0, i1⟩ := hi
  by_cases y : i < p
  · rw [if_pos y, if_pos y]
  · rw [if_neg y, if_neg (show ¬ i + 1 < p by grind), if_neg (show ¬ i + 1 = p by grind), pred1]
theorem rDel_ins {f : Int32 → Int32} {p : Int32} (p0 : 0 ≤ p) {i : Int32} (hi : 0 ≤ i ∧ i < 1000) : rIns (rDel f p) p (f p) i = f i := by
  unfold rDel rIns
  dsimp only
  obtain ⟨i0, i1⟩ := hi
  by_cases y : i < p
  · rw [if_pos y, if_pos y]
  · rw [if_neg y]
    by_cases y2 : i = p
    · rw [if_pos y2, y2]
    · rw [if_neg y2, if_neg (show ¬ i - 1 < p by grind), show i - 1 + 1 = i by grind]
/-- the row's place gives back what was there -/
theorem edit_eq {G : Pg} {b s b' s' : Int32} {f f' : Int32 → Int32} (eb : b' = G.bow t o) (es : s' = G.siz t o) (ef : ∀ i, inL s' i → f' i = G.ent t o i) : PgEq ((G.edit t o b s f).edit t o b' s' f') G := by
  refine ⟨rfl, rfl, rfl, fun t' _ => ⟨rfl, fun o' _ => ?_⟩⟩
  show (if t' = t ∧ o' = o then b' else if t' = t ∧ o' = o then b else G.bow t' o') = _ ∧ (if t' = t ∧ o' = o then s' else if t' = t ∧ o' = o then s else G.siz t' o') = _ ∧ ∀ i, inL (if t' = t ∧ o' = o then s' else if t' = t ∧ o' = o then s else G.siz t' o') i → (if t' = t ∧ o' = o then f' else if t' = t ∧ o' = o then f else G.ent t' o') i = _
  by_cases z : t' = t ∧ o' = o
  · obtain ⟨z1, z2⟩ := z
    subst z1; subst z2
    rw [if_pos ⟨rfl, rfl⟩, if_pos ⟨rfl, rfl⟩, if_pos ⟨rfl, rfl⟩]
    exact ⟨eb, es, ef⟩
  · rw [if_neg z, if_neg z, if_neg z, if_neg z, if_neg z, if_neg z]
    exact ⟨rfl, rfl, fun _ _ => rfl⟩
theorem edit_b {G : Pg} {b s : Int32} {f : Int32 → Int32} : (G.edit t o b s f).bow t o = b ∧ (G.edit t o b s f).siz t o = s ∧ (G.edit t o b s f).ent t o = f := ⟨if_pos ⟨rfl, rfl⟩, if_pos ⟨rfl, rfl⟩, if_pos ⟨rfl, rfl⟩⟩
theorem chg_hi {P : Pg} : (A.chg g P).hi = (g, A.pg g) :: A.hi.take 39 := rfl
theorem chg_pg {P : Pg} : upP (A.chg g P).pg g (A.pg g) = A.pg := by
  funext g'
  show (if g' = g then A.pg g else if g' = g then P else A.pg g') = A.pg g'
  by_cases c : g' = g
  · rw [if_pos c, c]
  · rw [if_neg c, if_neg c]
theorem inO_edit {b s g' t' o' : Int32} {f : Int32 → Int32} : inO (A.chg g ((A.pg g).edit t o b s f)) g' t' o' ↔ inO A g' t' o' := by
  unfold inO
  show (inL A.games g' ∧ inL (upP A.pg g ((A.pg g).edit t o b s f) g').turns t' ∧ inL ((upP A.pg g ((A.pg g).edit t o b s f) g').many t') o') ↔ _
  unfold upP
  by_cases c : g' = g
  · subst c
    rw [if_pos rfl]
    exact Iff.rfl
  · rw [if_neg c]
abbrev kI (A : Bk) : Int32 := Int32.ofNat (A.hi.take 39).length
theorem kI_b : 0 ≤ kI A ∧ kI A < 40 := by
  have : (A.hi.take 39).length ≤ 39 := by rw [List.length_take]; omega
  exact ⟨ofN_0 (by omega), ofN_lt (m := 40) (by omega) (by omega)⟩
theorem m_edit {e2 : mE} {b s : Int32} {f : Int32 → Int32} (r : MR e A) (ok : BkOK A) (c : inO A g t o) (h1 : ∀ k, k ≠ 20 → e2.1 k = e.1 k) (h2 : ∀ k, (k < 12 ∨ (14 < k ∧ k < 21)) → ∀ i, e2.2 k i = e.2 k i) (h3 : RowC e (rwT e g t o) b s f e2) (h20 : e2.1 20 = Int32.ofNat ((A.hi.take 39).length + 1)) (hm : HMo e2 0 A.pg (A.hi.take 39)) (k22 : e2.2 22 (kI A) = g) (k23 : e2.2 23 (kI A) = rwT e g t o) (kr : MRow e2 (kI A) t o ((A.pg g).edit t o b s f) (A.pg g)) : MR e2 (A.chg g ((A.pg g).edit t o b s f)) := by
  obtain ⟨⟨a1, a2, a3, a4, a5, a6⟩, ⟨b1, b2, b3⟩, d, w, u, v⟩ := r
  have rw2 : ∀ g t o, rwT e2 g t o = rwT e g t o := fun g t o => h2 10 (by omega) _
  obtain ⟨R1, R2, R3, R4, R5⟩ := h3
  refine ⟨⟨(h1 1 (by decide)).trans a1, (h1 2 (by decide)).trans a2, (h1 16 (by decide)).trans a3, (h1 18 (by decide)).trans a4, (h1 19 (by decide)).trans a5, ?_⟩, ⟨fun i hi => (h2 3 (by omega) i).trans (b1 i hi), fun i hi => (h2 15 (by omega) i).trans (b2 i hi), fun i hi => (h2 17 (by omega) i).trans (b3 i hi)⟩, fun g' hg' => ?_, by rw [h1 11 (by decide)]; exact w, fun g1 t1 o1 g2 t2 o2 p q e => ?_, ?_⟩
  · rw [h20, chg_hi]; rfl
  · obtain ⟨q1, q2, q3, q4, q5, q6, q7⟩ := d g' hg'
    have hp : (A.chg g ((A.pg g).edit t o b s f)).pg g' = if g' = g then (A.pg g).edit t o b s f else A.pg g' := rfl
    have tu : (if g' = g then (A.pg g).edit t o b s f else A.pg g').turns = (A.pg g').turns ∧ (if g' = g then (A.pg g).edit t o b s f else A.pg g').many = (A.pg g').many ∧ (if g' = g then (A.pg g).edit t o b s f else A.pg g').ovs = (A.pg g').ovs ∧ (if g' = g then (A.pg g).edit t o b s f else A.pg g').each = (A.pg g').each := by
      by_cases y : g' = g
      · rw [if_pos y, y]; exact ⟨rfl, rfl, rfl, rfl⟩
      · rw [if_neg y]; exact ⟨rfl, rfl, rfl, rfl⟩
    refine ⟨(h2 4 (by omega) _).trans q1, (h2 4 (by omega) _).trans q2, fun s k c => (h2 7 (by omega) _).trans (q3 s k c), ?_⟩
    rw [hp]
    unfold PgR
    rw [tu.1, tu.2.1, tu.2.2.1, tu.2.2.2]
    refine ⟨(h2 5 (by omega) _).trans q4, (h2 6 (by omega) _).trans q5, (h2 8 (by omega) _).trans q6, fun t' ht' => ⟨(h2 9 (by omega) _).trans (q7 t' ht').1, fun o' ho' => ?_⟩⟩
    obtain ⟨y1, y2, y3, y4⟩ := (q7 t' ht').2 o' ho'
    rw [rw2, h1 11 (by decide)]
    refine ⟨y1, ?_⟩
    by_cases y : g' = g
    · rw [if_pos y]
      show e2.2 12 (rwT e g' t' o') = (if t' = t ∧ o' = o then b else (A.pg g).bow t' o') ∧ e2.2 13 (rwT e g' t' o') = (if t' = t ∧ o' = o then s else (A.pg g).siz t' o') ∧ ∀ i, inL (if t' = t ∧ o' = o then s else (A.pg g).siz t' o') i → e2.2 14 (40 * rwT e g' t' o' + i) = (if t' = t ∧ o' = o then f else (A.pg g).ent t' o') i
      by_cases z : t' = t ∧ o' = o
      · rw [if_pos z, if_pos z, if_pos z, y, z.1, z.2]
        exact ⟨R3, R4, R5⟩
      · rw [if_neg z, if_neg z, if_neg z]
        have n : rwT e g' t' o' ≠ rwT e g t o := fun q => z (u g' t' o' g t o ⟨hg', ht', ho'⟩ c q).2
        have sz := (ok.ov (⟨hg', ht', ho'⟩ : inO A g' t' o')).2.1.2
        rw [y] at sz y2 y3 y4 y1 n ⊢
        exact ⟨(R1 _ n).1.trans y2, (R1 _ n).2.trans y3, fun i hi => (R2 _ i ⟨y1.1, Int32.lt_of_lt_of_le y1.2 (i32_tr w.2 (by decide))⟩ n (inL40 sz hi)).trans (y4 i hi)⟩
    · rw [if_neg y]
      have n : rwT e g' t' o' ≠ rwT e g t o := fun q => y (u g' t' o' g t o ⟨hg', ht', ho'⟩ c q).1
      have sz := (ok.ov (⟨hg', ht', ho'⟩ : inO A g' t' o')).2.1.2
      exact ⟨(R1 _ n).1.trans y2, (R1 _ n).2.trans y3, fun i hi => (R2 _ i ⟨y1.1, Int32.lt_of_lt_of_le y1.2 (i32_tr w.2 (by decide))⟩ n (inL40 sz hi)).trans (y4 i hi)⟩
  · exact u g1 t1 o1 g2 t2 o2 (inO_edit.mp p) (inO_edit.mp q) (by rw [← rw2, ← rw2]; exact e)
  · rw [chg_hi]
    refine ⟨⟨?_, Or.inr (Or.inr ⟨t, o, ?_, ?_, ?_, ?_⟩)⟩, ?_⟩
    · exact k22
    · rw [show (A.chg g ((A.pg g).edit t o b s f)).pg g = (A.pg g).edit t o b s f from if_pos rfl]; exact c.2.1
    · rw [show (A.chg g ((A.pg g).edit t o b s f)).pg g = (A.pg g).edit t o b s f from if_pos rfl]; exact c.2.2
    · rw [rw2]; exact k23.symm
    · rw [show (A.chg g ((A.pg g).edit t o b s f)).pg g = (A.pg g).edit t o b s f from if_pos rfl]; exact kr
    · rw [chg_pg]; exact hm
/-- the row changed first, kept then -/
theorem m_rowDone {e1 : mE} {b s x1 x4 x5 : Int32} {f : Int32 → Int32} (r : MR e A) (ok : BkOK A) (c : inO A g t o) (q : RowQ e (rwT e g t o) b s f e1) (kr : ∀ e2 : mE, e2.2 21 (kI A) = x1 → e2.2 24 (kI A) = x4 → e2.2 25 (kI A) = x5 → MRow e2 (kI A) t o ((A.pg g).edit t o b s f) (A.pg g)) : Rn (P_X12_done x1 g (rwT e g t o) x4 x5 e1) (fun e2 => MR e2 (A.chg g ((A.pg g).edit t o b s f)) ∧ e2.1 11 = e.1 11) := by
  obtain ⟨q1, q2, q3⟩ := q
  have hm : HMo e1 0 A.pg A.hi := HMo.cg _ _ (fun n _ => ⟨fun j j0 j1 => q2 j (by omega) _, fun i _ => q2 27 (by omega) _⟩) (fun q _ t o _ _ => q2 10 (by omega) _) r.2.2.2.2.2
  refine (m_done x1 g (rwT e g t o) x4 x5 (by rw [q1]; exact r.1.2.2.2.2.2) ok.2.2.2.2.2.2.2.1 hm).imp (fun e2 D => ?_)
  obtain ⟨d1, d2, d3, ⟨d4, d5, d6, d7, d8⟩, d9⟩ := D
  refine ⟨m_edit r ok c (fun k hk => (d1 k hk).trans (by rw [q1])) (fun k hk i => (d2 k (by omega) i).trans (q2 k (by omega) i)) ?_ d3 d9 d5 d6 (kr e2 d4 d7 d8), (d1 11 (by decide)).trans (by rw [q1])⟩
  obtain ⟨R1, R2, R3, R4, R5⟩ := q3
  exact ⟨fun r n => ⟨(d2 12 (by omega) r).trans (R1 r n).1, (d2 13 (by omega) r).trans (R1 r n).2⟩, fun r i r0 n i0 => (d2 14 (by omega) _).trans (R2 r i r0 n i0), (d2 12 (by omega) _).trans R3, (d2 13 (by omega) _).trans R4, fun i hi => (d2 14 (by omega) _).trans (R5 i hi)⟩
theorem MP.no {e' : mE} (r : MR e' A) (h : e'.1 11 = e.1 11) : MP e A e' := ⟨r, h⟩
theorem m_put (r : MR e A) (ok : BkOK A) (g t o i cc : Int32) : Rn (P_X12_put g t o i cc e) (fun q => q.1 = (aPut g t o i cc A).1 ∧ MP e (aPut g t o i cc A).2 q.2) := by
  unfold P_X12_put aPut
  have r0 := r.c0
  refine rn_bd (rn_o (m_find r0 ok g t o) (rn_bd (rn_bd ?_)))
  dsimp only
  by_cases c : inO A g t o
  rotate_left
  · rw [if_neg c, if_neg (show ¬ (inO A g t o ∧ 0 ≤ (A.pg g).siz t o ∧ 0 ≤ i ∧ i ≤ (A.pg g).siz t o ∧ (A.pg g).siz t o < 40) from fun q => c q.1)]
    exact rn_p rfl (rn_s ⟨rfl, r0, rfl⟩)
  rw [if_pos c]
  have w := r0.row c
  have oo := (ok.ov c).2.1
  refine rn_n (neg1 w.1.1) (rn_ck w.1 ?_)
  rw [w.2.2.1]
  refine rn_i (fun c1 => ?_) (fun c1 => ?_)
  · rw [if_neg (show ¬ (inO A g t o ∧ 0 ≤ (A.pg g).siz t o ∧ 0 ≤ i ∧ i ≤ (A.pg g).siz t o ∧ (A.pg g).siz t o < 40) from fun q => neg1 q.2.1 c1)]
    exact rn_s ⟨rfl, r0, rfl⟩
  have s0 : 0 ≤ (A.pg g).siz t o := by
    have a := oo.1
    generalize (A.pg g).siz t o = v at a c1
    clear w oo c r0 r ok
    grind
  refine rn_i (fun c2 => ?_) (fun c2 => rn_ck w.1 ?_)
  · rw [if_neg (show ¬ (inO A g t o ∧ 0 ≤ (A.pg g).siz t o ∧ 0 ≤ i ∧ i ≤ (A.pg g).siz t o ∧ (A.pg g).siz t o < 40) from fun q => absurd q.2.2.1 (Int32.not_le.mpr c2))]
    exact rn_s ⟨rfl, r0, rfl⟩
  refine rn_i (fun c3 => ?_) (fun c3 => rn_ck w.1 ?_)
  · rw [if_neg (show ¬ (inO A g t o ∧ 0 ≤ (A.pg g).siz t o ∧ 0 ≤ i ∧ i ≤ (A.pg g).siz t o ∧ (A.pg g).siz t o < 40) from fun q => absurd q.2.2.2.1 (Int32.not_le.mpr c3))]
    exact rn_s ⟨rfl, r0, rfl⟩
  refine rn_i (fun c4 => ?_) (fun c4 => ?_)
  · rw [if_neg (show ¬ (inO A g t o ∧ 0 ≤ (A.pg g).siz t o ∧ 0 ≤ i ∧ i ≤ (A.pg g).siz t o ∧ (A.pg g).siz t o < 40) from fun q => lt_ne q.2.2.2.2 c4)]
    exact rn_s ⟨rfl, r0, rfl⟩
  have s1 : (A.pg g).siz t o < 40 := by
    have a := oo.2
    generalize (A.pg g).siz t o = v at a c4
    clear w oo c r0 r ok s0 c3 c1
    grind
  have c2 := Int32.not_lt.mp c2
  have c3 := Int32.not_lt.mp c3
  rw [if_pos (show inO A g t o ∧ 0 ≤ (A.pg g).siz t o ∧ 0 ≤ i ∧ i ≤ (A.pg g).siz t o ∧ (A.pg g).siz t o < 40 from ⟨c, s0, c2, c3, s1⟩)]
  refine rn_c (m_insert (c := cc &&& 255) w.1 w.2.1 w.2.2.1 c2 c3 s1 w.2.2.2) (fun e1 q => ?_)
  refine rn_c (m_rowDone (x1 := 4) (x4 := i) (x5 := 0) r0 ok c q (fun e2 k1 k4 k5 => Or.inl ⟨Or.inr k1, ?_, ?_⟩)) (fun e2 D => rn_s ⟨rfl, D.1, D.2.trans rfl⟩)
  · rw [edit_b.2.1, k4]
    exact ⟨c2, by
      have := i32_succ s1
      have := Int32.le_iff_toInt_le.mp c3
      exact Int32.lt_iff_toInt_lt.mpr (by omega)⟩
  · rw [edit_b.1, edit_b.2.1, edit_b.2.2, k4]
    refine edit_eq rfl pred1 (fun j hj => ?_)
    rw [pred1] at hj
    exact rIns_del c2 ⟨hj.1, Int32.lt_of_lt_of_le (Int32.lt_of_lt_of_le hj.2 oo.2) (by decide)⟩
theorem m_mend (r : MR e A) (ok : BkOK A) (g t o i cc : Int32) : Rn (P_X12_mend g t o i cc e) (fun q => q.1 = (aMend g t o i cc A).1 ∧ MP e (aMend g t o i cc A).2 q.2) := by
  unfold P_X12_mend aMend
  have r0 := r.c0
  refine rn_bd (rn_o (m_find r0 ok g t o) (rn_bd (rn_bd ?_)))
  dsimp only
  by_cases c : inO A g t o
  rotate_left
  · rw [if_neg c, if_neg (show ¬ (inO A g t o ∧ inL ((A.pg g).siz t o) i) from fun q => c q.1)]
    exact rn_p rfl (rn_s ⟨rfl, r0, rfl⟩)
  rw [if_pos c]
  have w := r0.row c
  have oo := (ok.ov c).2.1
  refine rn_n (neg1 w.1.1) (rn_i (fun c1 => ?_) (fun c1 => rn_ck w.1 ?_))
  · rw [if_neg (show ¬ (inO A g t o ∧ inL ((A.pg g).siz t o) i) from fun q => absurd q.2.1 (Int32.not_le.mpr c1))]
    exact rn_s ⟨rfl, r0, rfl⟩
  rw [w.2.2.1]
  refine rn_i (fun c2 => ?_) (fun c2 => ?_)
  rotate_left
  · rw [if_neg (show ¬ (inO A g t o ∧ inL ((A.pg g).siz t o) i) from fun q => c2 q.2.2)]
    exact rn_s ⟨rfl, r0, rfl⟩
  have ci : inL ((A.pg g).siz t o) i := ⟨Int32.not_lt.mp c1, c2⟩
  have i40 := inL40 oo.2 ci
  rw [if_pos (show inO A g t o ∧ inL ((A.pg g).siz t o) i from ⟨c, ci⟩)]
  refine rn_ck (ix40 w.1 i40.1 i40.2) (rn_bd (rn_ck (ix40 w.1 i40.1 i40.2) (rn_bd ?_)))
  rw [w.2.2.2 i ci]
  have q : RowQ (mS e 0 0) (rwT (mS e 0 0) g t o) ((A.pg g).bow t o) ((A.pg g).siz t o) (fun k => if k = i then cc &&& 255 else (A.pg g).ent t o k) (mA (mS e 0 0) 14 (40 * rwT (mS e 0 0) g t o + i) (cc &&& 255)) := ((EnQ.refl _ _).set w.1 i40).row w.2.1 w.2.2.1 (fun j hj => by
    rw [en_at w.1 i40 (inL40 oo.2 hj), w.2.2.2 j hj])
  refine rn_c (m_rowDone (x1 := 5) (x4 := i) (x5 := (A.pg g).ent t o i) r0 ok c q (fun e2 k1 k4 k5 => Or.inr (Or.inr (Or.inl ⟨k1, ?_, ?_⟩)))) (fun e2 D => rn_s ⟨rfl, D.1, D.2.trans rfl⟩)
  · rw [edit_b.2.1, k4]
    exact ci
  · rw [edit_b.1, edit_b.2.1, edit_b.2.2, k4, k5]
    refine edit_eq rfl rfl (fun j hj => ?_)
    by_cases y : j = i
    · rw [if_pos y, y]
    · rw [if_neg y, if_neg y]
theorem m_out (r : MR e A) (ok : BkOK A) (g t o i : Int32) : Rn (P_X12_out g t o i e) (fun q => q.1 = (aOut g t o i A).1 ∧ MP e (aOut g t o i A).2 q.2) := by
  unfold P_X12_out aOut
  have r0 := r.c0
  refine rn_bd (rn_o (m_find r0 ok g t o) (rn_bd (rn_bd ?_)))
  dsimp only
  by_cases c : inO A g t o
  rotate_left
  · rw [if_neg c, if_neg (show ¬ (inO A g t o ∧ inL ((A.pg g).siz t o) i) from fun q => c q.1)]
    exact rn_p rfl (rn_s ⟨rfl, r0, rfl⟩)
  rw [if_pos c]
  have w := r0.row c
  have oo := (ok.ov c).2.1
  refine rn_n (neg1 w.1.1) (rn_i (fun c1 => ?_) (fun c1 => rn_ck w.1 ?_))
  · rw [if_neg (show ¬ (inO A g t o ∧ inL ((A.pg g).siz t o) i) from fun q => absurd q.2.1 (Int32.not_le.mpr c1))]
    exact rn_s ⟨rfl, r0, rfl⟩
  rw [w.2.2.1]
  refine rn_i (fun c2 => ?_) (fun c2 => ?_)
  rotate_left
  · rw [if_neg (show ¬ (inO A g t o ∧ inL ((A.pg g).siz t o) i) from fun q => c2 q.2.2)]
    exact rn_s ⟨rfl, r0, rfl⟩
  have ci : inL ((A.pg g).siz t o) i := ⟨Int32.not_lt.mp c1, c2⟩
  have i40 := inL40 oo.2 ci
  rw [if_pos (show inO A g t o ∧ inL ((A.pg g).siz t o) i from ⟨c, ci⟩)]
  refine rn_ck (ix40 w.1 i40.1 i40.2) (rn_bd ?_)
  rw [w.2.2.2 i ci]
  refine rn_c (m_remove w.1 w.2.1 w.2.2.1 oo.2 ci w.2.2.2) (fun e1 q => ?_)
  have z : (0 : Int32).toInt = 0 := by decide
  have a0 := Int32.le_iff_toInt_le.mp ci.1
  have a1 := Int32.lt_iff_toInt_lt.mp ci.2
  have s0 : 0 < (A.pg g).siz t o := Int32.lt_iff_toInt_lt.mpr (by omega)
  have sd := i32_pred s0
  have t40 := tI40 oo.2
  have h40 : (40 : Int32).toInt = 40 := by decide
  have up : (A.pg g).siz t o - 1 + 1 = (A.pg g).siz t o := by
    clear w q c r0 r ok oo
    grind
  refine rn_c (m_rowDone (x1 := 6) (x4 := i) (x5 := (A.pg g).ent t o i) r0 ok c q (fun e2 k1 k4 k5 => Or.inr (Or.inr (Or.inr (Or.inl ⟨k1, ?_, ?_⟩))))) (fun e2 D => rn_s ⟨rfl, D.1, D.2.trans rfl⟩)
  · rw [edit_b.2.1, k4]
    exact ⟨ci.1, Int32.le_iff_toInt_le.mpr (by omega), Int32.lt_iff_toInt_lt.mpr (by omega)⟩
  · rw [edit_b.1, edit_b.2.1, edit_b.2.2, k4, k5, up]
    exact edit_eq rfl rfl (fun j hj => rDel_ins ci.1 ⟨hj.1, Int32.lt_of_lt_of_le (Int32.lt_of_lt_of_le hj.2 oo.2) (by decide)⟩)
theorem m_bowls (r : MR e A) (ok : BkOK A) (g t o b : Int32) : Rn (P_X12_bowls g t o b e) (fun q => q.1 = (aBowls g t o b A).1 ∧ MP e (aBowls g t o b A).2 q.2) := by
  unfold P_X12_bowls aBowls
  have r0 := r.c0
  refine rn_bd (rn_o (m_find r0 ok g t o) (rn_bd (rn_bd ?_)))
  dsimp only
  by_cases c : inO A g t o
  rotate_left
  · rw [if_neg c, if_neg c]
    exact rn_p rfl (rn_s ⟨rfl, r0, rfl⟩)
  rw [if_pos c, if_pos c]
  have w := r0.row c
  refine rn_n (neg1 w.1.1) (rn_ck w.1 (rn_bd (rn_ck w.1 (rn_bd ?_))))
  rw [w.2.1]
  have q : RowQ (mS e 0 0) (rwT (mS e 0 0) g t o) (b &&& 15) ((A.pg g).siz t o) ((A.pg g).ent t o) (mA (mS e 0 0) 12 (rwT (mS e 0 0) g t o) (b &&& 15)) := ⟨rfl, fun k hk i => mA_ne (by omega), fun r n => ⟨by rw [mA_at, if_neg n], mA_ne (by decide)⟩, fun r i _ _ _ => mA_ne (by decide), by rw [mA_at, if_pos rfl], (mA_ne (by decide)).trans w.2.2.1, fun i hi => (mA_ne (by decide)).trans (w.2.2.2 i hi)⟩
  refine rn_c (m_rowDone (x1 := 7) (x4 := 0) (x5 := (A.pg g).bow t o) r0 ok c q (fun e2 k1 k4 k5 => Or.inr (Or.inr (Or.inr (Or.inr ⟨k1, ?_⟩))))) (fun e2 D => rn_s ⟨rfl, D.1, D.2.trans rfl⟩)
  rw [edit_b.2.1, edit_b.2.2, k5]
  exact edit_eq rfl rfl (fun j hj => rfl)
/-- the row kept whole first, changed then -/
theorem m_doneKeep (r : MR e A) (ok : BkOK A) (c : inO A g t o) : Rn ((P_X12_done 3 g (rwT e g t o) 0 0 e).bind (fun e1 => P_X12_keepRow (rwT e g t o) e1)) (fun e1 => (∀ k, k ≠ 20 → e1.1 k = e.1 k) ∧ (∀ k, (k < 21 ∨ 27 < k) → ∀ i, e1.2 k i = e.2 k i) ∧ ∀ (e2 : mE) b s f, e2.1 = e1.1 → (∀ k, (k < 12 ∨ 14 < k) → ∀ i, e2.2 k i = e1.2 k i) → RowC e1 (rwT e g t o) b s f e2 → b = (A.pg g).bow t o → MR e2 (A.chg g ((A.pg g).edit t o b s f))) := by
  have w := r.row c
  have oo := (ok.ov c).2.1
  refine rn_c (m_done 3 g (rwT e g t o) 0 0 r.1.2.2.2.2.2 ok.2.2.2.2.2.2.2.1 r.2.2.2.2.2) (fun e1 D => ?_)
  obtain ⟨d1, d2, d3, ⟨d4, d5, d6, d7, d8⟩, d9⟩ := D
  have kb := kI_b (A := A)
  have k6 : 0 ≤ kI A ∧ kI A < 6000 := ⟨kb.1, Int32.lt_of_lt_of_le kb.2 (by decide)⟩
  have h20 : e1.1 20 - 1 = kI A := by rw [d3, ← ofN_s, pred1]
  refine (m_keepRow (f := (A.pg g).ent t o) w.1 ((d2 13 (by omega) _).trans w.2.2.1) oo.2 oo.1 h20 kb (fun i hi => (d2 14 (by omega) _).trans (w.2.2.2 i hi))).imp (fun e2 q => ?_)
  obtain ⟨q1, q2, q3, q4, q5, q6⟩ := q
  refine ⟨fun k hk => by rw [q1]; exact d1 k hk, fun k hk i => (q2 k (by omega) (by omega) i).trans (d2 k hk i), fun e3 b s f n1 n2 n3 eb => ?_⟩
  obtain ⟨R1, R2, R3, R4, R5⟩ := n3
  refine m_edit r ok c (fun k hk => by rw [n1, q1]; exact d1 k hk) (fun k hk i => ((n2 k (by omega) i).trans (q2 k (by omega) (by omega) i)).trans (d2 k (by omega) i)) ⟨fun r n => ⟨(R1 r n).1.trans ((q2 12 (by decide) (by decide) _).trans (d2 12 (by omega) _)), (R1 r n).2.trans ((q2 13 (by decide) (by decide) _).trans (d2 13 (by omega) _))⟩, fun r i r0 n i0 => (R2 r i r0 n i0).trans ((q2 14 (by decide) (by decide) _).trans (d2 14 (by omega) _)), R3, R4, R5⟩ (by rw [n1, q1]; exact d3) ?_ ?_ ?_ ?_
  · refine HMo.cg _ _ (fun n hn => ⟨fun j j0 j1 => (n2 j (by omega) _).trans ?_, fun i hi => (n2 27 (by omega) _).trans ?_⟩) (fun q _ t o _ _ => (n2 10 (by omega) _).trans (q2 10 (by decide) (by decide) _)) d9
    · have m39 : (A.hi.take 39).length ≤ 39 := by rw [List.length_take]; omega
      by_cases y : j = 26
      · rw [y]
        exact q3 _ (lt_ne (ofN_lt (by omega) hn))
      · exact q2 j y (by omega) _
    · have m39 : (A.hi.take 39).length ≤ 39 := by rw [List.length_take]; omega
      refine q5 _ i ⟨ofN_0 (by omega), ofN_lt (m := 6000) (by omega) (by omega)⟩ (lt_ne (ofN_lt (by omega) hn)) hi
  · exact (n2 22 (by omega) _).trans ((q2 22 (by decide) (by decide) _).trans d5)
  · exact (n2 23 (by omega) _).trans ((q2 23 (by decide) (by decide) _).trans d6)
  · refine Or.inr (Or.inl ⟨(n2 21 (by omega) _).trans ((q2 21 (by decide) (by decide) _).trans d4), ?_, ?_⟩)
    · rw [n2 26 (by omega), q4]; exact oo
    · rw [edit_b.1, n2 26 (by omega), q4]
      exact edit_eq eb rfl (fun j hj => (n2 27 (by omega) _).trans (q6 j hj))
theorem rn_cc {α β γ : Type} {X : Option α} {f : α → Option β} {k : β → Option γ} {Q : β → Prop} {R : γ → Prop} (c : Rn (X.bind f) Q) (h : ∀ y, Q y → Rn (k y) R) : Rn (X.bind (fun x => (f x).bind k)) R := by
  obtain ⟨y, e1, q⟩ := c
  have : X.bind (fun x => (f x).bind k) = (X.bind f).bind k := by cases X <;> rfl
  rw [this, e1]
  exact h y q
theorem m_tear (r : MR e A) (ok : BkOK A) (g t o : Int32) : Rn (P_X12_tear g t o e) (fun q => q.1 = (aTear g t o A).1 ∧ MP e (aTear g t o A).2 q.2) := by
  unfold P_X12_tear aTear
  have r0 := r.c0
  refine rn_bd (rn_o (m_find r0 ok g t o) (rn_bd (rn_bd ?_)))
  dsimp only
  by_cases c : inO A g t o
  rotate_left
  · rw [if_neg c, if_neg (show ¬ (inO A g t o ∧ 0 ≤ (A.pg g).siz t o) from fun q => c q.1)]
    exact rn_p rfl (rn_s ⟨rfl, r0, rfl⟩)
  rw [if_pos c]
  have w := r0.row c
  have oo := (ok.ov c).2.1
  refine rn_n (neg1 w.1.1) (rn_ck w.1 ?_)
  rw [w.2.2.1]
  refine rn_i (fun c1 => ?_) (fun c1 => ?_)
  · rw [if_neg (show ¬ (inO A g t o ∧ 0 ≤ (A.pg g).siz t o) from fun q => neg1 q.2 c1)]
    exact rn_s ⟨rfl, r0, rfl⟩
  have s0 : 0 ≤ (A.pg g).siz t o := by
    have a := oo.1
    generalize (A.pg g).siz t o = v at a c1
    clear w oo c r0 r ok
    grind
  rw [if_pos (show inO A g t o ∧ 0 ≤ (A.pg g).siz t o from ⟨c, s0⟩)]
  refine rn_cc (m_doneKeep r0 ok c) (fun e1 q => rn_ck w.1 (rn_bd (rn_s ⟨rfl, ?_, ?_⟩)))
  · refine q.2.2 _ _ _ _ rfl (fun k hk i => mA_ne (by omega)) ⟨fun r n => ⟨mA_ne (by decide), by rw [mA_at, if_neg n]⟩, fun r i _ _ _ => mA_ne (by decide), ?_, by rw [mA_at, if_pos rfl], fun i hi => absurd (i32_tr (show (-1 : Int32) ≤ 0 by decide) hi.1) (Int32.not_le.mpr hi.2)⟩ rfl
    rw [mA_ne (by decide), q.2.1 12 (by omega)]
    exact w.2.1
  · exact q.1 11 (by decide)
theorem m_op71 {R n1 : Int32} {W : mE → Prop} (r0 : 0 ≤ R ∧ R < 6000) (s1 : n1 ≤ 40) (K : ∀ e', EnQ e R e' → (∀ i, inL n1 i → e'.2 14 (40 * R + i) = e.2 15 i) → W (mS e' 16 0)) : ∀ n k, (n1.toInt - k.toInt).toNat < n → ∀ e', 0 ≤ k → k ≤ n1 → EnQ e R e' → (∀ i, inL k i → e'.2 14 (40 * R + i) = e.2 15 i) → Rn (P_X12_open_71 n n1 R k e') (fun q => q.1 = 1 ∧ W q.2) := by
  refine i32_up ?_ ?_
  · intro n k hc e' k0 k1 q H
    unfold P_X12_open_71
    have ek : k = n1 := Int32.le_antisymm k1 hc
    subst ek
    exact rn_p hc (rn_bd (rn_s ⟨rfl, K e' q H⟩))
  · intro n k hc ih e' k0 k1 q H
    unfold P_X12_open_71
    have k40 := inL40 s1 (show inL n1 k from ⟨k0, hc⟩)
    have F := m_fill (w := fun e i => e.2 15 i) r0 s1 ⟨k0, hc⟩ q (fun j => q.2.1 15 (by decide) j) H
    refine rn_n (Int32.not_le.mpr hc) (rn_ck ⟨k0, Int32.lt_of_lt_of_le k40.2 (by decide)⟩ (rn_ck (ix40 r0 k40.1 k40.2) (rn_bd (rn_bd (ih _ (i32_ps k0 hc) ?_ F.1 F.2)))))
    have := i32_succ hc
    have := Int32.lt_iff_toInt_lt.mp hc
    exact Int32.le_iff_toInt_le.mpr (by omega)
theorem MR.tape0 {e' : mE} {B : Bk} (r : MR e' B) : MR (mS e' 16 0) (B.sI 2 0) := by
  have E : ∀ k i, (mS e' 16 0).2 k i = e'.2 k i := fun _ _ => rfl
  have I : ∀ k, k ≠ 16 → (mS e' 16 0).1 k = e'.1 k := fun k n => if_neg n
  obtain ⟨⟨a1, a2, a3, a4, a5, a6⟩, ⟨b1, b2, b3⟩, c, d, f, w⟩ := r
  refine ⟨⟨a1, a2, rfl, a4, a5, a6⟩, ⟨b1, fun i hi => absurd hi.1 (Int32.not_le.mpr hi.2), b3⟩, c, d, f, HMo.cg (e := e') (d := 0) _ _ (fun n _ => ⟨fun _ _ _ => rfl, fun _ _ => rfl⟩) (fun q _ t o _ _ => rfl) w⟩
theorem m_open (r : MR e A) (ok : BkOK A) (g t o n : Int32) : Rn (P_X12_open g t o n e) (fun q => q.1 = (aOpen g t o n A).1 ∧ MP e (aOpen g t o n A).2 q.2) := by
  unfold P_X12_open aOpen
  have r0 := r.c0
  refine rn_bd (rn_o (m_find r0 ok g t o) (rn_bd (rn_bd ?_)))
  dsimp only
  by_cases c : inO A g t o
  rotate_left
  · rw [if_neg c, if_neg (show ¬ (inO A g t o ∧ 0 ≤ n ∧ n ≤ 40 ∧ n ≤ A.taped) from fun q => c q.1)]
    exact rn_p rfl (rn_s ⟨rfl, r0, rfl⟩)
  rw [if_pos c]
  have w := r0.row c
  refine rn_n (neg1 w.1.1) (rn_i (fun c1 => ?_) (fun c1 => rn_i (fun c2 => ?_) (fun c2 => ?_)))
  · rw [if_neg (show ¬ (inO A g t o ∧ 0 ≤ n ∧ n ≤ 40 ∧ n ≤ A.taped) from fun q => absurd q.2.1 (Int32.not_le.mpr c1))]
    exact rn_s ⟨rfl, r0, rfl⟩
  · rw [if_neg (show ¬ (inO A g t o ∧ 0 ≤ n ∧ n ≤ 40 ∧ n ≤ A.taped) from fun q => absurd q.2.2.1 (Int32.not_le.mpr c2))]
    exact rn_s ⟨rfl, r0, rfl⟩
  rw [r0.1.2.2.1]
  refine rn_i (fun c3 => ?_) (fun c3 => ?_)
  rotate_left
  · rw [if_neg (show ¬ (inO A g t o ∧ 0 ≤ n ∧ n ≤ 40 ∧ n ≤ A.taped) from fun q => c3 q.2.2.2)]
    exact rn_s ⟨rfl, r0, rfl⟩
  have c1 := Int32.not_lt.mp c1
  have c2 := Int32.not_lt.mp c2
  rw [if_pos (show inO A g t o ∧ 0 ≤ n ∧ n ≤ 40 ∧ n ≤ A.taped from ⟨c, c1, c2, c3⟩)]
  refine rn_cc (m_doneKeep r0 ok c) (fun e1 q => rn_ck w.1 (rn_bd ?_))
  have := tI40 c2
  have z : (0 : Int32).toInt = 0 := by decide
  obtain ⟨q1, q2, q3⟩ := q
  refine m_op71 (e := mA e1 13 (rwT (mS e 0 0) g t o) n) (W := fun e' => MP e ((A.chg g ((A.pg g).edit t o ((A.pg g).bow t o) n A.tape)).sI 2 0) e') w.1 c2 (fun e2 Q H => ⟨(q3 e2 _ _ _ ?_ ?_ ?_ rfl).tape0, ?_⟩) fu 0 (by show _ < 10000000; omega) _ (by decide) c1 (EnQ.refl _ _) (fun i hi => absurd hi.1 (Int32.not_le.mpr hi.2))
  · exact Q.1
  · exact fun k hk i => (Q.2.1 k (by omega) i).trans (mA_ne (by omega))
  · refine ⟨fun r n => ⟨(Q.2.1 12 (by decide) r).trans (mA_ne (by decide)), (Q.2.1 13 (by decide) r).trans (by rw [mA_at, if_neg n])⟩, fun r i a1 a2 a3 => (Q.2.2 r i a1 a2 a3).trans (mA_ne (by decide)), ?_, ?_, fun i hi => ?_⟩
    · rw [Q.2.1 12 (by decide), mA_ne (by decide), q2 12 (by omega)]
      exact w.2.1
    · rw [Q.2.1 13 (by decide), mA_at, if_pos rfl]
    · rw [H i hi, mA_ne (by decide), q2 15 (by omega)]
      exact r0.2.1.2.1 i ⟨hi.1, Int32.lt_of_lt_of_le hi.2 c3⟩
  · show e2.1 11 = _
    rw [Q.1]
    exact q1 11 (by decide)
end Med
