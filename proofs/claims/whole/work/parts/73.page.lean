/-! A game's page in the heap: addresses by labels (1 game, 2 turn, 3 over, 4 the games' row, 5 a game's row of turns, 6 a turn's row of overs) -/
abbrev Lab : Type := Nat × Int32 × Int32 × Int32
abbrev Adr : Type := Nat → Int32 → Int32 → Int32 → Nat
def adS (ad : Adr) (k : Nat) (g t o : Int32) (v : Nat) : Adr := fun k' g' t' o' => if k' = k ∧ g' = g ∧ t' = t ∧ o' = o then v else ad k' g' t' o'
def lbR (h : aH) (lb : Nat → Lab) (ad : Adr) (k : Nat) (g t o : Int32) (n : Nat) : Prop := ad k g t o + n ≤ hz h ∧ ∀ i, i < n → lb (ad k g t o + i) = (k, g, t, o)
def OvL (h : aH) (a : Nat) (b s : Int32) (e : Int32 → Int32) : Prop := hK h a = 7 ∧ hG h 600 a = some (a + 1) ∧ hK h (a + 1) = 21 ∧ hN h (a + 1) = 40 ∧ hF h 601 a = b ∧ hF h 602 a = s ∧ ∀ i, 0 ≤ i → i < s → rdA h (a + 1) i = e i
def TuL (h : aH) (lb : Nat → Lab) (ad cp : Adr) (g t : Int32) (m : Int32) (b s : Int32 → Int32) (e : Int32 → Int32 → Int32) : Prop :=
  (hK h (ad 2 g t 0) = 12 ∧ hG h 1100 (ad 2 g t 0) = some (ad 2 g t 0 + 1)) ∧ Ls h (ad 2 g t 0 + 1) (ad 6 g t 0) (cp 6 g t 0) m (fun o => ad 3 g t o) 7 ∧ lbR h lb ad 2 g t 0 2 ∧ (cp 6 g t 0 ≠ 0 → lb (ad 6 g t 0) = (6, g, t, 0)) ∧ ∀ o, 0 ≤ o → o < m → OvL h (ad 3 g t o) (b o) (s o) (e o) ∧ lbR h lb ad 3 g t o 2
def GmL (h : aH) (lb : Nat → Lab) (ad cp : Adr) (g sd0 sd1 : Int32) (st : Int32 → Int32 → Int32) (G : Pg) : Prop :=
  (hK h (ad 1 g 0 0) = 5 ∧ hF h 400 (ad 1 g 0 0) = sd0 ∧ hF h 401 (ad 1 g 0 0) = sd1 ∧ hF h 402 (ad 1 g 0 0) = G.ovs ∧ hF h 403 (ad 1 g 0 0) = G.each ∧ hG h 404 (ad 1 g 0 0) = some (ad 1 g 0 0 + 1) ∧ hG h 405 (ad 1 g 0 0) = some (ad 1 g 0 0 + 3)) ∧
  (GrS h (ad 1 g 0 0 + 1) 2 11 22 ∧ gv h (ad 1 g 0 0 + 2) 2 11 = st) ∧ Ls h (ad 1 g 0 0 + 3) (ad 5 g 0 0) (cp 5 g 0 0) G.turns (fun t => ad 2 g t 0) 12 ∧ lbR h lb ad 1 g 0 0 4 ∧ (cp 5 g 0 0 ≠ 0 → lb (ad 5 g 0 0) = (5, g, 0, 0)) ∧ ∀ t, 0 ≤ t → t < G.turns → TuL h lb ad cp g t (G.many t) (G.bow t) (G.siz t) (G.ent t)
/-- what a page may hold -/
def PgOK (G : Pg) : Prop := (G.each = 1 ∨ G.each = 2) ∧ (1 ≤ G.ovs ∧ G.ovs ≤ 120) ∧ (0 ≤ G.turns ∧ G.turns ≤ 2 * G.each) ∧ ∀ t, 0 ≤ t → t < G.turns → (0 ≤ G.many t ∧ G.many t ≤ 130) ∧ ∀ o, 0 ≤ o → o < G.many t → (0 ≤ G.bow t o ∧ G.bow t o ≤ 15) ∧ (-1 ≤ G.siz t o ∧ G.siz t o ≤ 40) ∧ ∀ i, 0 ≤ i → i < G.siz t o → 0 ≤ G.ent t o i ∧ G.ent t o i ≤ 255
theorem PgOK.t4 {G : Pg} (h : PgOK G) : G.turns ≤ 4 := by
  have : 2 * G.each ≤ 4 := by rcases h.1 with q | q <;> rw [q] <;> decide
  exact i32_tr h.2.2.1.2 this
/-- the cells of which P holds are the same -/
def kpL (lb : Nat → Lab) (P : Lab → Prop) (h h' : aH) : Prop := hz h ≤ hz h' ∧ hE h' = hE h ∧ ∀ b, b < hz h → P (lb b) → cel h h' b
section Mv
variable {h h' : aH} {lb lb' : Nat → Lab} {ad ad' cp cp' : Adr} {g t o : Int32}
theorem lbR.mv {k n : Nat} (r : lbR h lb ad k g t o n) (z : hz h ≤ hz h') (hl : ∀ b, b < hz h → lb' b = lb b) (ha : ad' k g t o = ad k g t o) : lbR h' lb' ad' k g t o n := by
  refine ⟨by have := r.1; rw [ha]; omega, fun i hi => ?_⟩
  have := r.1
  rw [ha, hl _ (by omega)]
  exact r.2 i hi
theorem OvL.mv {a : Nat} {b s : Int32} {e : Int32 → Int32} (r : OvL h a b s e) (c1 : cel h h' a) (c2 : cel h h' (a + 1)) : OvL h' a b s e := by
  obtain ⟨r1, r2, r3, r4, r5, r6, r7⟩ := r
  exact ⟨by rw [c1.K]; exact r1, by rw [c1.G]; exact r2, by rw [c2.K]; exact r3, by rw [c2.N]; exact r4, by rw [c1.F]; exact r5, by rw [c1.F]; exact r6, fun i i0 i1 => by rw [c2.A]; exact r7 i i0 i1⟩
theorem OvL.cg {a : Nat} {b s : Int32} {e e' : Int32 → Int32} (r : OvL h a b s e) (c : ∀ i, 0 ≤ i → i < s → e' i = e i) : OvL h a b s e' := ⟨r.1, r.2.1, r.2.2.1, r.2.2.2.1, r.2.2.2.2.1, r.2.2.2.2.2.1, fun i i0 i1 => by rw [c i i0 i1]; exact r.2.2.2.2.2.2 i i0 i1⟩
theorem Ls.mv2 {l a c kd : Nat} {n : Int32} {f f' : Int32 → Nat} (L : Ls h l a c n f kd) (hz' : hz h ≤ hz h') (he : hE h' = hE h) (c1 : cel h h' l) (c2 : c ≠ 0 → cel h h' a) (c3 : ∀ i, 0 ≤ i → i < n → hK h' (f i) = hK h (f i)) (c4 : ∀ i, 0 ≤ i → i < n → f' i = f i) : Ls h' l a c n f' kd := by
  obtain ⟨⟨p1, p2, p3, p4, p5⟩, ⟨q1, q2, q3⟩, L3, L4⟩ := L
  refine ⟨⟨by rw [c1.K]; exact p1, by rw [c1.G]; exact p2, by rw [c1.F]; exact p3, by omega, by omega⟩, ⟨q1, q2, q3⟩, ?_, ?_⟩
  · rcases L3 with r | r
    · exact Or.inl ⟨r.1, by rw [he]; exact r.2⟩
    · have c2 := c2 (by omega)
      exact Or.inr ⟨r.1, by rw [c2.K]; exact r.2.1, by rw [c2.N]; exact r.2.2.1, by rw [he]; exact r.2.2.2⟩
  · intro i i0 i1
    have z : (0 : Int32).toInt = 0 := by decide
    have h0 := Int32.le_iff_toInt_le.mp i0
    have h1 := Int32.lt_iff_toInt_lt.mp i1
    rw [c4 i i0 i1, (c2 (by omega)).O, c3 i i0 i1]
    have := L4 i i0 i1
    exact ⟨this.1, this.2.1, by omega⟩
theorem TuL.mv {m : Int32} {b s : Int32 → Int32} {e : Int32 → Int32 → Int32} {P : Lab → Prop} (r : TuL h lb ad cp g t m b s e) (k : kpL lb P h h') (hl : ∀ b, b < hz h → lb' b = lb b) (h2 : P (2, g, t, 0)) (h6 : P (6, g, t, 0)) (h3 : ∀ o, P (3, g, t, o)) (a2 : ad' 2 g t 0 = ad 2 g t 0) (a6 : ad' 6 g t 0 = ad 6 g t 0 ∧ cp' 6 g t 0 = cp 6 g t 0) (a3 : ∀ o, 0 ≤ o → o < m → ad' 3 g t o = ad 3 g t o) : TuL h' lb' ad' cp' g t m b s e := by
  obtain ⟨r1, r2, r3, r4, r5⟩ := r
  have e0 : ad 2 g t 0 < hz h := by have := r3.1; omega
  have e1 : ad 2 g t 0 + 1 < hz h := by have := r3.1; omega
  have c0 : cel h h' (ad 2 g t 0) := k.2.2 _ e0 (by rw [show lb (ad 2 g t 0) = (2, g, t, 0) from r3.2 0 (by decide)]; exact h2)
  have c1 : cel h h' (ad 2 g t 0 + 1) := k.2.2 _ e1 (by rw [r3.2 1 (by decide)]; exact h2)
  have r21 := r2.1
  refine ⟨?_, ?_, r3.mv k.1 hl a2, ?_, ?_⟩
  · rw [a2, c0.K, c0.G]; exact r1
  · rw [a2, a6.1, a6.2]
    refine r2.mv2 k.1 k.2.1 c1 (fun hc => k.2.2 _ r21.2.2.2.2 (by rw [r4 hc]; exact h6)) ?_ a3
    intro i i0 i1
    have q := (r5 i i0 i1).2
    have := q.1
    exact (k.2.2 _ (by omega) (by rw [show lb (ad 3 g t i) = (3, g, t, i) from q.2 0 (by decide)]; exact h3 i)).K
  · rw [a6.1, a6.2]
    intro hc
    rw [hl _ r21.2.2.2.2]
    exact r4 hc
  · intro o o0 o1
    have q := r5 o o0 o1
    have z := q.2.1
    rw [a3 o o0 o1]
    refine ⟨q.1.mv (k.2.2 _ (by omega) (by rw [show lb (ad 3 g t o) = (3, g, t, o) from q.2.2 0 (by decide)]; exact h3 o)) (k.2.2 _ (by omega) (by rw [q.2.2 1 (by decide)]; exact h3 o)), q.2.mv k.1 hl (a3 o o0 o1)⟩
theorem gv_cel {a : Nat} {R C : Int32} (c : cel h h' a) : gv h' a R C = gv h a R C := by
  funext r k
  unfold gv
  rw [c.A]
theorem GrS.mv2 {a : Nat} {R C N : Int32} (r : GrS h a R C N) (c1 : cel h h' a) (c2 : cel h h' (a + 1)) : GrS h' a R C N := by
  obtain ⟨g1, g2, g3, g4, g5, g6⟩ := r
  exact ⟨by rw [c1.K]; exact g1, by rw [c1.F]; exact g2, by rw [c1.F]; exact g3, by rw [c1.G]; exact g4, by rw [c2.K]; exact g5, by rw [c2.N]; exact g6⟩
theorem GmL.mv {sd0 sd1 : Int32} {st : Int32 → Int32 → Int32} {G : Pg} {P : Lab → Prop} (r : GmL h lb ad cp g sd0 sd1 st G) (k : kpL lb P h h') (hl : ∀ b, b < hz h → lb' b = lb b) (hP : ∀ k t o, 1 ≤ k → k ≠ 4 → P (k, g, t, o)) (ha : ∀ k t o, 1 ≤ k → k ≠ 4 → ad' k g t o = ad k g t o ∧ cp' k g t o = cp k g t o) : GmL h' lb' ad' cp' g sd0 sd1 st G := by
  obtain ⟨r1, r2, r3, r4, r5, r6⟩ := r
  have z := r4.1
  have c : ∀ i, i < 4 → cel h h' (ad 1 g 0 0 + i) := fun i hi => k.2.2 _ (by omega) (by rw [r4.2 i hi]; exact hP 1 _ _ (by decide) (by decide))
  have c0 : cel h h' (ad 1 g 0 0) := c 0 (by decide)
  have a1 := (ha 1 0 0 (by decide) (by decide)).1
  have a5 := ha 5 0 0 (by decide) (by decide)
  refine ⟨?_, ?_, ?_, r4.mv k.1 hl a1, ?_, ?_⟩
  · rw [a1, c0.K, c0.F, c0.F, c0.F, c0.F, c0.G, c0.G]; exact r1
  · rw [a1]
    exact ⟨r2.1.mv2 (c 1 (by decide)) (c 2 (by decide)), by rw [gv_cel (c 2 (by decide))]; exact r2.2⟩
  · rw [a1, a5.1, a5.2]
    refine r3.mv2 k.1 k.2.1 (c 3 (by decide)) (fun hc => k.2.2 _ r3.1.2.2.2.2 (by rw [r5 hc]; exact hP 5 _ _ (by decide) (by decide))) ?_ (fun i _ _ => (ha 2 i 0 (by decide) (by decide)).1)
    intro i i0 i1
    have q := (r6 i i0 i1).2.2.1
    have := q.1
    exact (k.2.2 _ (by omega) (by rw [show lb (ad 2 g i 0) = (2, g, i, 0) from q.2 0 (by decide)]; exact hP 2 _ _ (by decide) (by decide))).K
  · rw [a5.1, a5.2]
    intro hc
    rw [hl _ r3.1.2.2.2.2]
    exact r5 hc
  · intro t t0 t1
    exact (r6 t t0 t1).mv k hl (hP 2 _ _ (by decide) (by decide)) (hP 6 _ _ (by decide) (by decide)) (fun o => hP 3 _ _ (by decide) (by decide)) (ha 2 _ _ (by decide) (by decide)).1 (ha 6 _ _ (by decide) (by decide)) (fun o _ _ => (ha 3 _ _ (by decide) (by decide)).1)
end Mv
/-! what the page's methods tell -/
section Rd
variable {h : aH} {lb : Nat → Lab} {ad cp : Adr} {g sd0 sd1 : Int32} {st : Int32 → Int32 → Int32} {G : Pg}
theorem g_turnCount (r : GmL h lb ad cp g sd0 sd1 st G) : F_X3_turnCount (ad 1 g 0 0) h = some (G.turns, h) := by
  unfold F_X3_turnCount
  rw [r.1.2.2.2.2.2.2, Option.bind_some, ck_t r.2.2.1.1.1, r.2.2.1.size, Option.bind_some, bd_e, bd_e]
abbrev inL (n i : Int32) : Prop := 0 ≤ i ∧ i < n
theorem g_turnAt (r : GmL h lb ad cp g sd0 sd1 st G) (t : Int32) : F_X3_turnAt (ad 1 g 0 0) t h = some (if inL G.turns t then some (ad 2 g t 0) else none, h) := by
  unfold F_X3_turnAt
  by_cases c0 : t < 0
  · rw [if_pos c0, if_neg (fun q => absurd q.1 (Int32.not_le.mpr c0))]
  rw [if_neg c0, r.1.2.2.2.2.2.2, Option.bind_some, ck_t r.2.2.1.1.1, r.2.2.1.size, Option.bind_some, bd_e, bd_e]
  dsimp only
  by_cases c1 : G.turns ≤ t
  · rw [if_pos c1, if_neg (fun q => absurd q.2 (Int32.not_lt.mpr c1))]
  have c0 := Int32.not_lt.mp c0
  have c1 := Int32.not_le.mp c1
  rw [if_neg (Int32.not_le.mpr c1), ck_t r.1.1, r.1.2.2.2.2.2.2, Option.bind_some, ck_t r.2.2.1.1.1, r.2.2.1.get c0 c1, Option.bind_some, bd_e, bd_e, Option.bind_some, ck_t (r.2.2.2.2.2 t c0 c1).1.1, if_pos ⟨c0, c1⟩]
variable {t : Int32} {m : Int32} {b s : Int32 → Int32} {e : Int32 → Int32 → Int32}
theorem t_overCount (r : TuL h lb ad cp g t m b s e) : F_X10_overCount (ad 2 g t 0) h = some (m, h) := by
  unfold F_X10_overCount
  rw [r.1.2, Option.bind_some, ck_t r.2.1.1.1, r.2.1.size, Option.bind_some, bd_e, bd_e]
theorem t_overAt (r : TuL h lb ad cp g t m b s e) (o : Int32) : F_X10_overAt (ad 2 g t 0) o h = some (if inL m o then some (ad 3 g t o) else none, h) := by
  unfold F_X10_overAt
  by_cases c0 : o < 0
  · rw [if_pos c0, if_neg (fun q => absurd q.1 (Int32.not_le.mpr c0))]
  rw [if_neg c0, r.1.2, Option.bind_some, ck_t r.2.1.1.1, r.2.1.size, Option.bind_some, bd_e, bd_e]
  dsimp only
  by_cases c1 : m ≤ o
  · rw [if_pos c1, if_neg (fun q => absurd q.2 (Int32.not_lt.mpr c1))]
  have c0 := Int32.not_lt.mp c0
  have c1 := Int32.not_le.mp c1
  rw [if_neg (Int32.not_le.mpr c1), ck_t r.1.1, r.1.2, Option.bind_some, ck_t r.2.1.1.1, r.2.1.get c0 c1, Option.bind_some, bd_e, bd_e, Option.bind_some, ck_t (r.2.2.2.2 o c0 c1).1.1, if_pos ⟨c0, c1⟩]
theorem g_overCountOf (r : GmL h lb ad cp g sd0 sd1 st G) (t : Int32) : F_X3_overCountOf (ad 1 g 0 0) t h = some (if inL G.turns t then G.many t else 0, h) := by
  unfold F_X3_overCountOf
  rw [g_turnAt r, Option.bind_some, bd_e, bd_e]
  dsimp only
  by_cases c : inL G.turns t
  · rw [if_pos c, if_pos c]
    dsimp only
    have q := r.2.2.2.2.2 t c.1 c.2
    rw [ck_t q.1.1, t_overCount q, Option.bind_some, bd_e, bd_e]
  · rw [if_neg c, if_neg c]
theorem g_overAt (r : GmL h lb ad cp g sd0 sd1 st G) (t o : Int32) : F_X3_overAt (ad 1 g 0 0) t o h = some (if inL G.turns t ∧ inL (G.many t) o then some (ad 3 g t o) else none, h) := by
  unfold F_X3_overAt
  rw [g_turnAt r, Option.bind_some, bd_e, bd_e]
  dsimp only
  by_cases c : inL G.turns t
  · rw [if_pos c]
    dsimp only
    have q := r.2.2.2.2.2 t c.1 c.2
    rw [ck_t q.1.1, t_overAt q, Option.bind_some, bd_e, bd_e]
    by_cases c2 : inL (G.many t) o
    · rw [if_pos c2, if_pos ⟨c, c2⟩]
    · rw [if_neg c2, if_neg (fun z => c2 z.2)]
  · rw [if_neg c, if_neg (fun z => c z.1)]
theorem o_has {a : Nat} {b s : Int32} {e : Int32 → Int32} (r : OvL h a b s e) (hs : s ≤ 40) (i : Int32) : F_X5_has a i h = some (if inL s i then 1 else 0, h) := by
  unfold F_X5_has
  rw [r.2.2.2.2.2.1]
  by_cases c0 : i < 0
  · rw [if_pos c0, if_neg (fun q => absurd q.1 (Int32.not_le.mpr c0))]
  rw [if_neg c0]
  by_cases c1 : s ≤ i
  · rw [if_pos c1, if_neg (fun q => absurd q.2 (Int32.not_lt.mpr c1))]
  have c1 := Int32.not_le.mp c1
  rw [if_neg (Int32.not_le.mpr c1), if_neg (Int32.not_le.mpr (Int32.lt_of_lt_of_le c1 hs)), if_pos ⟨Int32.not_lt.mp c0, c1⟩]
theorem lt40 {i s : Int32} (i0 : 0 ≤ i) (i1 : i < s) (hs : s ≤ 40) : inR i 40 := inR_of i0 (by
  have := Int32.lt_iff_toInt_lt.mp i1
  have := Int32.le_iff_toInt_le.mp hs
  have : (40 : Int32).toInt = 40 := by decide
  omega)
theorem o_at {a : Nat} {b s : Int32} {e : Int32 → Int32} (r : OvL h a b s e) (hs : s ≤ 40) (i : Int32) : F_X5_at a i h = some (if inL s i then e i else -1, h) := by
  unfold F_X5_at
  rw [o_has r hs, Option.bind_some, bd_e, bd_e]
  dsimp only
  by_cases c : inL s i
  · rw [if_pos c, if_neg (by decide), if_pos c, ck_t r.1, r.2.1, Option.bind_some, ck_t ⟨r.2.2.1, by rw [r.2.2.2.1]; exact lt40 c.1 c.2 hs⟩, ← r.2.2.2.2.2.2 i c.1 c.2, rdA_of c.1]
  · rw [if_neg c, if_pos rfl, if_neg c]
theorem g_playerAt (r : GmL h lb ad cp g sd0 sd1 st G) (s k : Int32) : F_X3_playerAt (ad 1 g 0 0) s k h = some (st s k, h) := by
  unfold F_X3_playerAt
  rw [r.1.2.2.2.2.2.1, Option.bind_some, ck_t r.2.1.1.1, gr_at r.2.1.1 gix_2_11, Option.bind_some, bd_e, bd_e, ← r.2.1.2]
  rfl
theorem g_sideAt (r : GmL h lb ad cp g sd0 sd1 st G) (s : Int32) : F_X3_sideAt (ad 1 g 0 0) s h = some (if s = 0 then sd0 else sd1, h) := by
  unfold F_X3_sideAt
  rw [r.1.2.1, r.1.2.2.1]
  by_cases c : s = 0
  · rw [if_pos c, if_pos c]
  · rw [if_neg c, if_neg c]
end Rd
