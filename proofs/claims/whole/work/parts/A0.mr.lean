/-! The reference holds the book -/
def PgR (e : mE) (g : Int32) (G : Pg) : Prop := e.2 5 g = G.ovs ∧ e.2 6 g = G.each ∧ e.2 8 g = G.turns ∧ ∀ t, inL G.turns t → e.2 9 (4 * g + t) = G.many t ∧ ∀ o, inL (G.many t) o → (0 ≤ rwT e g t o ∧ rwT e g t o < e.1 11) ∧ e.2 12 (rwT e g t o) = G.bow t o ∧ e.2 13 (rwT e g t o) = G.siz t o ∧ ∀ i, inL (G.siz t o) i → e.2 14 (40 * rwT e g t o + i) = G.ent t o i
def GmR (e : mE) (g a b : Int32) (st : Int32 → Int32 → Int32) (G : Pg) : Prop := e.2 4 (2 * g) = a ∧ e.2 4 (2 * g + 1) = b ∧ (∀ s k, gin 2 11 s k → e.2 7 (22 * g + 11 * s + k) = st s k) ∧ PgR e g G
/-- the record k of a row's change takes Q back to P -/
def MRow (e : mE) (k t o : Int32) (Q P : Pg) : Prop := ((e.2 21 k = 2 ∨ e.2 21 k = 4) ∧ inL (Q.siz t o) (e.2 24 k) ∧ PgEq (Q.edit t o (Q.bow t o) (Q.siz t o - 1) (rDel (Q.ent t o) (e.2 24 k))) P) ∨ (e.2 21 k = 3 ∧ (-1 ≤ e.2 26 k ∧ e.2 26 k ≤ 40) ∧ PgEq (Q.edit t o (Q.bow t o) (e.2 26 k) (fun i => e.2 27 (40 * k + i))) P) ∨ (e.2 21 k = 5 ∧ inL (Q.siz t o) (e.2 24 k) ∧ PgEq (Q.edit t o (Q.bow t o) (Q.siz t o) (fun i => if i = e.2 24 k then e.2 25 k else Q.ent t o i)) P) ∨ (e.2 21 k = 6 ∧ (0 ≤ e.2 24 k ∧ e.2 24 k ≤ Q.siz t o ∧ Q.siz t o < 40) ∧ PgEq (Q.edit t o (Q.bow t o) (Q.siz t o + 1) (rIns (Q.ent t o) (e.2 24 k) (e.2 25 k))) P) ∨ (e.2 21 k = 7 ∧ PgEq (Q.edit t o (e.2 25 k) (Q.siz t o) (Q.ent t o)) P)
def MOk (e : mE) (k g : Int32) (Q P : Pg) : Prop := e.2 22 k = g ∧ ((e.2 21 k = 0 ∧ 0 < Q.turns ∧ PgEq Q.subT P) ∨ (e.2 21 k = 1 ∧ inL Q.turns (e.2 24 k) ∧ 0 < Q.many (e.2 24 k) ∧ PgEq (Q.subO (e.2 24 k)) P) ∨ ∃ t o, inL Q.turns t ∧ inL (Q.many t) o ∧ rwT e g t o = e.2 23 k ∧ MRow e k t o Q P)
def HMo (e : mE) (d : Nat) : (Int32 → Pg) → List (Int32 × Pg) → Prop
  | _, [] => True
  | pg, (g, P) :: l => MOk e (Int32.ofNat (l.length + d)) g (pg g) P ∧ HMo e d (upP pg g P) l
def MR (e : mE) (A : Bk) : Prop := (e.1 1 = A.sides ∧ e.1 2 = A.games ∧ e.1 16 = A.taped ∧ e.1 18 = A.outs ∧ e.1 19 = A.why ∧ e.1 20 = Int32.ofNat A.hi.length) ∧ ((∀ i, inL A.sides i → e.2 3 i = A.pl i) ∧ (∀ i, inL A.taped i → e.2 15 i = A.tape i) ∧ ∀ i, inL A.outs i → e.2 17 i = A.out i) ∧ (∀ g, inL A.games g → GmR e g (A.sd0 g) (A.sd1 g) (A.st g) (A.pg g)) ∧ (0 ≤ e.1 11 ∧ e.1 11 ≤ 5800) ∧ (∀ g t o g' t' o', inO A g t o → inO A g' t' o' → rwT e g t o = rwT e g' t' o' → g = g' ∧ t = t' ∧ o = o') ∧ HMo e 0 A.pg A.hi
/-- the reference's own figures of a play aside, all is the same -/
def lowE (e e' : mE) : Prop := (∀ k, 0 < k → k < 28 → e'.1 k = e.1 k) ∧ ∀ k i, k < 28 → e'.2 k i = e.2 k i
theorem lowE.refl (e : mE) : lowE e e := ⟨fun _ _ _ => rfl, fun _ _ _ => rfl⟩
theorem lowE.trans {e e1 e2 : mE} (a : lowE e e1) (b : lowE e1 e2) : lowE e e2 := ⟨fun k h0 h1 => (b.1 k h0 h1).trans (a.1 k h0 h1), fun k i h => (b.2 k i h).trans (a.2 k i h)⟩
theorem low_mS {e : mE} {k : Nat} {v : Int32} (h : k = 0 ∨ 28 ≤ k) : lowE e (mS e k v) := ⟨fun j h0 h1 => if_neg (by omega), fun _ _ _ => rfl⟩
theorem low_mA {e : mE} {k : Nat} {i v : Int32} (h : 28 ≤ k) : lowE e (mA e k i v) := ⟨fun _ _ _ => rfl, fun j b hj => if_neg (fun q => by omega)⟩
theorem rwT_low {e e' : mE} (h : lowE e e') (g t o : Int32) : rwT e' g t o = rwT e g t o := h.2 10 _ (by decide)
theorem MRow.cg {e e' : mE} {k k' t o : Int32} {Q P : Pg} (h : ∀ j, 21 ≤ j → j < 27 → e'.2 j k' = e.2 j k) (h7 : ∀ i, inL 40 i → e'.2 27 (40 * k' + i) = e.2 27 (40 * k + i)) (r : MRow e k t o Q P) : MRow e' k' t o Q P := by
  unfold MRow at r ⊢
  rw [h 21 (by decide) (by decide), h 24 (by decide) (by decide), h 25 (by decide) (by decide), h 26 (by decide) (by decide)]
  rcases r with r | r | r | r | r
  · exact Or.inl r
  · refine Or.inr (Or.inl ⟨r.1, r.2.1, ?_⟩)
    obtain ⟨p1, p2, p3, p4⟩ := r.2.2
    refine ⟨p1, p2, p3, fun t' ht => ⟨(p4 t' ht).1, fun o' ho => ?_⟩⟩
    obtain ⟨q1, q2, q3⟩ := (p4 t' ht).2 o' ho
    refine ⟨q1, q2, fun i hi => ?_⟩
    rw [← q3 i hi]
    have hi : inL (if t' = t ∧ o' = o then e.2 26 k else Q.siz t' o') i := hi
    show (if t' = t ∧ o' = o then (fun i => e'.2 27 (40 * k' + i)) else Q.ent t' o') i = (if t' = t ∧ o' = o then (fun i => e.2 27 (40 * k + i)) else Q.ent t' o') i
    by_cases c : t' = t ∧ o' = o
    · rw [if_pos c, if_pos c]
      rw [if_pos c] at hi
      exact h7 i ⟨hi.1, Int32.lt_of_lt_of_le hi.2 r.2.1.2⟩
    · rw [if_neg c, if_neg c]
  · exact Or.inr (Or.inr (Or.inl r))
  · exact Or.inr (Or.inr (Or.inr (Or.inl r)))
  · exact Or.inr (Or.inr (Or.inr (Or.inr r)))
theorem MOk.cg {e e' : mE} {k k' g : Int32} {Q P : Pg} (h : ∀ j, 21 ≤ j → j < 27 → e'.2 j k' = e.2 j k) (h7 : ∀ i, inL 40 i → e'.2 27 (40 * k' + i) = e.2 27 (40 * k + i)) (hr : ∀ t o, inL Q.turns t → inL (Q.many t) o → rwT e' g t o = rwT e g t o) (r : MOk e k g Q P) : MOk e' k' g Q P := by
  obtain ⟨r1, r2⟩ := r
  refine ⟨by rw [h 22 (by decide) (by decide)]; exact r1, ?_⟩
  rw [h 21 (by decide) (by decide), h 24 (by decide) (by decide), h 23 (by decide) (by decide)]
  rcases r2 with r | r | ⟨t, o, a, b, c, d⟩
  · exact Or.inl r
  · exact Or.inr (Or.inl r)
  · exact Or.inr (Or.inr ⟨t, o, a, b, (hr t o a b).trans c, d.cg h h7⟩)
/-- what is seen of the page ahead of a change is seen of the page behind it -/
theorem PgEq.vis {R P Q : Pg} (h : PgEq R P) (ht : ∀ t, inL R.turns t → inL Q.turns t) (hm : ∀ t o, inL R.turns t → inL (R.many t) o → inL (Q.many t) o) : ∀ t o, inL P.turns t → inL (P.many t) o → inL Q.turns t ∧ inL (Q.many t) o := by
  intro t o a b
  obtain ⟨h1, h2, h3, h4⟩ := h
  have a' : inL R.turns t := by rw [h3]; exact a
  have m := (h4 t a').1
  exact ⟨ht t a', hm t o a' (by rw [m]; exact b)⟩
theorem MOk.vis {e : mE} {k g : Int32} {Q P : Pg} (r : MOk e k g Q P) : ∀ t o, inL P.turns t → inL (P.many t) o → inL Q.turns t ∧ inL (Q.many t) o := by
  rcases r.2 with ⟨-, q1, q2⟩ | ⟨-, q1, q2, q3⟩ | ⟨t, o, q1, q2, -, q4⟩
  · exact q2.vis (fun t ht => ⟨ht.1, lt_pred q1 ht.2⟩) (fun t o _ ho => ho)
  · refine q3.vis (fun t ht => ht) (fun t o _ ho => ?_)
    have ho : inL (if t = e.2 24 k then Q.many (e.2 24 k) - 1 else Q.many t) o := ho
    by_cases c : t = e.2 24 k
    · rw [if_pos c] at ho
      rw [c]
      exact ⟨ho.1, lt_pred q2 ho.2⟩
    · rw [if_neg c] at ho
      exact ho
  · rcases q4 with ⟨-, -, q⟩ | ⟨-, -, q⟩ | ⟨-, -, q⟩ | ⟨-, -, q⟩ | ⟨-, q⟩ <;> exact q.vis (fun t ht => ht) (fun t o _ ho => ho)
theorem HMo.cg {e e' : mE} {d d' : Nat} : ∀ (l : List (Int32 × Pg)) (pg : Int32 → Pg), (∀ n, n < l.length → (∀ j, 21 ≤ j → j < 27 → e'.2 j (Int32.ofNat (n + d')) = e.2 j (Int32.ofNat (n + d))) ∧ ∀ i, inL 40 i → e'.2 27 (40 * Int32.ofNat (n + d') + i) = e.2 27 (40 * Int32.ofNat (n + d) + i)) → (∀ q ∈ l, ∀ t o, inL (pg q.1).turns t → inL ((pg q.1).many t) o → rwT e' q.1 t o = rwT e q.1 t o) → HMo e d pg l → HMo e' d' pg l
  | [], _, _, _, _ => trivial
  | (g, P) :: l, pg, h, hr, r => by
    have k := h l.length (by simp)
    refine ⟨r.1.cg k.1 k.2 (fun t o a b => hr (g, P) (by simp) t o a b), HMo.cg l _ (fun n hn => h n (by simp; omega)) (fun q hq t o a b => ?_) r.2⟩
    unfold upP at a b
    by_cases c : q.1 = g
    · rw [if_pos c] at a b
      have v := r.1.vis t o a b
      rw [c]
      exact hr (g, P) (by simp) t o v.1 v.2
    · rw [if_neg c] at a b
      exact hr q (by simp [hq]) t o a b
theorem HMo.pg {e : mE} {d : Nat} : ∀ (l : List (Int32 × Pg)) (pg pg' : Int32 → Pg), HMo e d pg l → (∀ q ∈ l, pg' q.1 = pg q.1) → HMo e d pg' l
  | [], _, _, _, _ => trivial
  | (g, P) :: l, pg, pg', r, c => by
    have e : pg' g = pg g := c (g, P) (by simp)
    refine ⟨by rw [e]; exact r.1, HMo.pg l _ _ r.2 (fun q hq => ?_)⟩
    unfold upP
    by_cases z : q.1 = g
    · rw [if_pos z, if_pos z]
    · rw [if_neg z, if_neg z]
      exact c q (by simp [hq])
theorem HMo.tk {e : mE} : ∀ (l : List (Int32 × Pg)) (pg : Int32 → Pg) (d n : Nat), n ≤ l.length → HMo e d pg l → HMo e (d + (l.length - n)) pg (l.take n)
  | [], _, _, n, h, _ => by rw [List.take_nil]; trivial
  | (g, P) :: l, pg, d, 0, _, _ => trivial
  | (g, P) :: l, pg, d, n + 1, h, r => by
    have h : n ≤ l.length := by simp at h; exact h
    have e1 : ((g, P) :: l).length - (n + 1) = l.length - n := by simp
    rw [e1]
    refine ⟨?_, HMo.tk l _ d n h r.2⟩
    have e2 : (l.take n).length + (d + (l.length - n)) = l.length + d := by
      rw [List.length_take]
      omega
    show MOk e (Int32.ofNat ((l.take n).length + (d + (l.length - n)))) g (pg g) P
    rw [e2]
    exact r.1
theorem GmR.low {e e' : mE} {g a b : Int32} {st : Int32 → Int32 → Int32} {G : Pg} (h : lowE e e') (r : GmR e g a b st G) : GmR e' g a b st G := by
  obtain ⟨r1, r2, r3, r4, r5, r6, r7⟩ := r
  refine ⟨by rw [h.2 4 _ (by decide)]; exact r1, by rw [h.2 4 _ (by decide)]; exact r2, fun s k c => by rw [h.2 7 _ (by decide)]; exact r3 s k c, by rw [h.2 5 _ (by decide)]; exact r4, by rw [h.2 6 _ (by decide)]; exact r5, by rw [h.2 8 _ (by decide)]; exact r6, fun t ct => ⟨by rw [h.2 9 _ (by decide)]; exact (r7 t ct).1, fun o co => ?_⟩⟩
  rw [rwT_low h, h.2 12 _ (by decide), h.2 13 _ (by decide), h.1 11 (by decide) (by decide)]
  have q := (r7 t ct).2 o co
  exact ⟨q.1, q.2.1, q.2.2.1, fun i hi => by rw [h.2 14 _ (by decide)]; exact q.2.2.2 i hi⟩
theorem MR.low {e e' : mE} {A : Bk} (h : lowE e e') (r : MR e A) : MR e' A := by
  obtain ⟨⟨a1, a2, a3, a4, a5, a6⟩, ⟨b1, b2, b3⟩, c, d, f, g⟩ := r
  refine ⟨⟨by rw [h.1 1 (by decide) (by decide)]; exact a1, by rw [h.1 2 (by decide) (by decide)]; exact a2, by rw [h.1 16 (by decide) (by decide)]; exact a3, by rw [h.1 18 (by decide) (by decide)]; exact a4, by rw [h.1 19 (by decide) (by decide)]; exact a5, by rw [h.1 20 (by decide) (by decide)]; exact a6⟩, ⟨fun i hi => by rw [h.2 3 _ (by decide)]; exact b1 i hi, fun i hi => by rw [h.2 15 _ (by decide)]; exact b2 i hi, fun i hi => by rw [h.2 17 _ (by decide)]; exact b3 i hi⟩, fun g hg => (c g hg).low h, by rw [h.1 11 (by decide) (by decide)]; exact d, fun g t o g' t' o' p q w => f g t o g' t' o' p q (by rw [← rwT_low h, ← rwT_low h]; exact w), HMo.cg _ _ (fun n _ => ⟨fun j j0 j1 => h.2 j _ (by omega), fun i _ => h.2 27 _ (by decide)⟩) (fun q _ t o _ _ => rwT_low h _ _ _) g⟩
theorem MR.pgW {e : mE} {A : Bk} (r : MR e A) (ok : BkOK A) {g : Int32} (c : inL A.games g) : PgW e g (A.pg g) := by
  obtain ⟨-, -, r3, r4, r5, -⟩ := r
  obtain ⟨-, -, -, p1, p2, p3, p4⟩ := r3 g c
  obtain ⟨o1, o2, o3, o4⟩ := (ok.2.2.2.2.2.2.1 g c).1
  refine ⟨⟨c.1, Int32.lt_of_lt_of_le c.2 ok.2.1.2⟩, p2, o1, p1, o2, p3, o3, fun q q0 q1 => ?_, fun q q' o o' a1 a2 b1 b2 c1 c2 d1 d2 w => ?_⟩
  · obtain ⟨y1, y2⟩ := o4 q q0 q1
    obtain ⟨z1, z2⟩ := p4 q ⟨q0, q1⟩
    refine ⟨z1, y1.1, y1.2, fun o o0 o1 => ?_⟩
    obtain ⟨w1, w2, w3, w4⟩ := z2 o ⟨o0, o1⟩
    obtain ⟨v1, v2, v3⟩ := y2 o o0 o1
    refine ⟨rfl, ⟨w1.1, Int32.lt_of_lt_of_le w1.2 (i32_tr r4.2 (by decide))⟩, ⟨w3, w2, v2.2, fun i i0 i1 => ⟨w4 i ⟨i0, i1⟩, v3 i i0 i1⟩⟩, v1.1, v2.1⟩
  · have := r5 g q o g q' o' ⟨c, ⟨a1, a2⟩, ⟨c1, c2⟩⟩ ⟨c, ⟨b1, b2⟩, ⟨d1, d2⟩⟩ w
    exact this.2
theorem m_isSide {e : mE} {A : Bk} (r : MR e A) (s : Int32) : P_X12_isSide s e = some (if inL A.sides s then 1 else 0, e) := by
  unfold P_X12_isSide
  rw [r.1.1]
  by_cases c0 : s < 0
  · rw [if_pos c0, if_neg (fun q => absurd q.1 (Int32.not_le.mpr c0))]
  rw [if_neg c0]
  by_cases c1 : A.sides ≤ s
  · rw [if_pos c1, if_neg (fun q => absurd q.2 (Int32.not_lt.mpr c1))]
  · rw [if_neg c1, if_pos ⟨Int32.not_lt.mp c0, Int32.not_le.mp c1⟩]
theorem m_isGame {e : mE} {A : Bk} (r : MR e A) (s : Int32) : P_X12_isGame s e = some (if inL A.games s then 1 else 0, e) := by
  unfold P_X12_isGame
  rw [r.1.2.1]
  by_cases c0 : s < 0
  · rw [if_pos c0, if_neg (fun q => absurd q.1 (Int32.not_le.mpr c0))]
  rw [if_neg c0]
  by_cases c1 : A.games ≤ s
  · rw [if_pos c1, if_neg (fun q => absurd q.2 (Int32.not_lt.mpr c1))]
  · rw [if_neg c1, if_pos ⟨Int32.not_lt.mp c0, Int32.not_le.mp c1⟩]
/-- play on the reference's side -/
theorem m_play {e : mE} {A : Bk} (r : MR e A) (ok : BkOK A) {g : Int32} (c : inL A.games g) {s : Ps} (hs : TyNs s) : ∃ e', P_X12_play g e = some e' ∧ FR e g (A.pg g) e' (s.play (A.pg g)) ∧ MR e' A ∧ lowE e e' ∧ ∀ k, k = 0 ∨ 34 < k → e'.1 k = e.1 k := by
  obtain ⟨e', p1, p2⟩ := r_play (r.pgW ok c) hs
  obtain ⟨t, t0, t1, t2, I⟩ := p2
  have l : lowE e e' := ⟨fun k k0 k1 => I.2.1.2.2.2.2.2.2 k (Or.inl k1), fun k i hk => I.1 k i (Or.inl (by omega))⟩
  exact ⟨e', p1, ⟨t, t0, t1, t2, I⟩, r.low l, l, fun k hk => I.2.1.2.2.2.2.2.2 k (by omega)⟩
