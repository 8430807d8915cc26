/-! The turns of a page, on both sides -/
def rwT (eb : mE) (g q : Int32) : Int32 → Int32 := fun o => eb.2 10 (130 * (4 * g + q) + o)
abbrev mnT (G : Pg) (q : Int32) : Int32 := imin (G.many q) 120
/-- a page in the reference -/
def PgW (eb : mE) (g : Int32) (G : Pg) : Prop := (0 ≤ g ∧ g < 400) ∧ eb.2 6 g = G.each ∧ (G.each = 1 ∨ G.each = 2) ∧ eb.2 5 g = G.ovs ∧ (1 ≤ G.ovs ∧ G.ovs ≤ 120) ∧ eb.2 8 g = G.turns ∧ (0 ≤ G.turns ∧ G.turns ≤ 2 * G.each) ∧ (∀ q, 0 ≤ q → q < G.turns → TurnR eb (rwT eb g q) G g q) ∧ ∀ q q' o o', 0 ≤ q → q < G.turns → 0 ≤ q' → q' < G.turns → 0 ≤ o → o < G.many q → 0 ≤ o' → o' < G.many q' → rwT eb g q o = rwT eb g q' o' → q = q' ∧ o = o'
abbrev ST (t : Int32) (rw : Int32 → Int32) (mn : Int32) (e : mE) (T : Ty) (by' ro : Int32) (pl : Int32 → Int32) : Prop := reOf t rw mn e = T ∧ e.2 49 t = by' ∧ e.2 50 t = ro ∧ ∀ o, 0 ≤ o → o < mn → e.2 64 (rw o) = pl o
theorem reN_lo : ∀ k, k < 16 → 35 ≤ reN k ∧ reN k ≤ 52 := by decide
theorem reOf_cong {t : Int32} {rw : Int32 → Int32} {mn : Int32} {e e' : mE} (h1 : ∀ k, 35 ≤ k → k ≤ 52 → e'.2 k t = e.2 k t) (h2 : ∀ k, 53 ≤ k → k ≤ 58 → ∀ j, 0 ≤ j → j < 11 → e'.2 k (11 * t + j) = e.2 k (11 * t + j)) (h3 : ∀ k, 59 ≤ k → k ≤ 64 → ∀ o, 0 ≤ o → o < mn → e'.2 k (rw o) = e.2 k (rw o)) : reOf t rw mn e' = reOf t rw mn e := by
  have a0 : reBat t e' = reBat t e := by
    funext k c
    unfold reBat
    by_cases h : gin 11 3 k c
    · rw [if_pos h, if_pos h, h2 53 (by decide) (by decide) k h.1 h.2.1, h2 54 (by decide) (by decide) k h.1 h.2.1, h2 55 (by decide) (by decide) k h.1 h.2.1]
    · rw [if_neg h, if_neg h]
  have a1 : reBow t e' = reBow t e := by
    funext k c
    unfold reBow
    by_cases h : gin 11 3 k c
    · rw [if_pos h, if_pos h, h2 56 (by decide) (by decide) k h.1 h.2.1, h2 57 (by decide) (by decide) k h.1 h.2.1, h2 58 (by decide) (by decide) k h.1 h.2.1]
    · rw [if_neg h, if_neg h]
  have a2 : reOv rw mn e' = reOv rw mn e := by
    funext o c
    unfold reOv
    by_cases h : gin 120 5 o c ∧ o < mn
    · rw [if_pos h, if_pos h, h3 59 (by decide) (by decide) o h.1.1 h.2, h3 60 (by decide) (by decide) o h.1.1 h.2, h3 61 (by decide) (by decide) o h.1.1 h.2, h3 62 (by decide) (by decide) o h.1.1 h.2, h3 63 (by decide) (by decide) o h.1.1 h.2]
    · rw [if_neg h, if_neg h]
  refine Ty.ext2 (fun k => ?_) (fun j => ?_)
  · show (if k < 16 then e'.2 (reN k) t else 0) = if k < 16 then e.2 (reN k) t else 0
    by_cases c : k < 16
    · have := reN_lo k c
      rw [if_pos c, if_pos c, h1 _ this.1 this.2]
    · rw [if_neg c, if_neg c]
  · show (if j = 0 then reBat t e' else if j = 1 then reBow t e' else if j = 2 then reOv rw mn e' else fun _ _ => 0) = if j = 0 then reBat t e else if j = 1 then reBow t e else if j = 2 then reOv rw mn e else fun _ _ => 0
    rw [a0, a1, a2]
theorem ST.cong {t : Int32} {rw : Int32 → Int32} {mn : Int32} {e e' : mE} {T : Ty} {by' ro : Int32} {pl : Int32 → Int32} (s : ST t rw mn e T by' ro pl) (h1 : ∀ k, 35 ≤ k → k ≤ 52 → e'.2 k t = e.2 k t) (h2 : ∀ k, 53 ≤ k → k ≤ 58 → ∀ j, 0 ≤ j → j < 11 → e'.2 k (11 * t + j) = e.2 k (11 * t + j)) (h3 : ∀ k, 59 ≤ k → k ≤ 64 → ∀ o, 0 ≤ o → o < mn → e'.2 k (rw o) = e.2 k (rw o)) : ST t rw mn e' T by' ro pl :=
  ⟨(reOf_cong h1 h2 h3).trans s.1, (h1 49 (by decide) (by decide)).trans s.2.1, (h1 50 (by decide) (by decide)).trans s.2.2.1, fun o a b => (h3 64 (by decide) (by decide) o a b).trans (s.2.2.2 o a b)⟩
theorem mn_lt {G : Pg} {q o : Int32} (h : o < mnT G q) : o < G.many q ∧ o < 120 := by
  have := Int32.not_le.mpr h
  rw [imin_spec] at this
  exact ⟨Int32.not_le.mp (fun z => this (Or.inl z)), Int32.not_le.mp (fun z => this (Or.inr z))⟩
abbrev HiZ (eb : mE) (g : Int32) (G : Pg) (e : mE) (q : Int32) : Prop := ∀ o, 120 ≤ o → o < G.many q → ∀ k, 59 ≤ k → k ≤ 64 → e.2 k (rwT eb g q o) = 0
/-- a turn that has been played -/
def FinT (eb : mE) (g : Int32) (G : Pg) (e : mE) (q : Int32) (A : Ty) : Prop := ∃ T by' ro pl m, ST q (rwT eb g q) (mnT G q) e T by' ro pl ∧ Sim A T ∧ Zr T ∧ Iv G.ovs m T ∧ m.toInt ≤ 36400 ∧ SI T by' ro ∧ PLs (mnT G q) pl T ∧ T.begun ≤ G.many q ∧ HiZ eb g G e q
/-- a turn that hasn't -/
def ClrT (eb : mE) (g : Int32) (G : Pg) (e : mE) (q : Int32) (A : Ty) : Prop := (∃ X, TyN X ∧ A = X.clear) ∧ ST q (rwT eb g q) (mnT G q) e Zr0 0 0 (fun _ => 0) ∧ HiZ eb g G e q
/-- between two turns -/
def TI (eb : mE) (g : Int32) (G : Pg) (t : Int32) (e : mE) (s : Ps) : Prop := (∀ k i, k < 35 ∨ 64 < k → e.2 k i = eb.2 k i) ∧ (e.1 28 = s.rule ∧ e.1 29 = s.bt ∧ e.1 30 = s.bo ∧ e.1 31 = s.be ∧ e.1 32 = s.hand ∧ e.1 33 = s.won ∧ ∀ k, k < 28 ∨ 34 < k → e.1 k = eb.1 k) ∧ (s.gov = G.ovs ∧ s.last = 2 * G.each - 1) ∧ (∀ q, 0 ≤ q → q < t → FinT eb g G e q (s.ty q)) ∧ (∀ q, t ≤ q → q < G.turns → ClrT eb g G e q (s.ty q)) ∧ s.hand = t - 1 ∧ (s.hand = s.last → e.1 34 = s.target) ∧ (t = 3 → (s.ty 2).ended ≠ 0 → s.won = 0 → 1 ≤ s.target)
section TUR
variable {eb e : mE} {g : Int32} {G : Pg} {t : Int32} {s : Ps}
theorem PgW.t4 (h : PgW eb g G) {q : Int32} (hq : q < G.turns) : q < 4 := by
  obtain ⟨_, _, h3, _, _, _, h7, _⟩ := h
  have : 2 * G.each ≤ 4 := by rcases h3 with z | z <;> rw [z] <;> decide
  exact Int32.lt_of_lt_of_le hq (i32_tr h7.2 this)
theorem PgW.rk (h : PgW eb g G) {q : Int32} (q0 : 0 ≤ q) (hq : q < G.turns) : RwOK (rwT eb g q) (mnT G q) := by
  obtain ⟨_, _, _, _, _, _, _, h8, h9⟩ := h
  obtain ⟨_, _, _, r⟩ := h8 q q0 hq
  refine ⟨fun o o0 o1 => (r o o0 (mn_lt o1).1).2.1, fun o o' a b c d z => (h9 q q o o' q0 hq q0 hq a (mn_lt b).1 c (mn_lt d).1 z).2⟩
theorem PgW.other (h : PgW eb g G) {t q : Int32} (t0 : 0 ≤ t) (ht : t < G.turns) (q0 : 0 ≤ q) (hq : q < G.turns) (hn : q ≠ t) : (∀ k, 35 ≤ k → k ≤ 52 → ¬ ownT t (rwT eb g t) (mnT G t) k q) ∧ (∀ k, 53 ≤ k → k ≤ 58 → ∀ j, 0 ≤ j → j < 11 → ¬ ownT t (rwT eb g t) (mnT G t) k (11 * q + j)) ∧ ∀ k, 59 ≤ k → k ≤ 64 → ∀ o, 0 ≤ o → o < G.many q → ¬ ownT t (rwT eb g t) (mnT G t) k (rwT eb g q o) := by
  have t4 := h.t4 ht
  have q4 := h.t4 hq
  refine ⟨fun k a b z => ?_, fun k a b j j0 j1 z => ?_, fun k a b o o0 o1 z => ?_⟩
  · rcases z with z | z | z
    · exact hn z.2.2
    · omega
    · omega
  · rcases z with z | z | z
    · omega
    · obtain ⟨_, _, j', x0, x1, x2⟩ := z
      clear h
      grind
    · omega
  · rcases z with z | z | z
    · omega
    · omega
    · obtain ⟨_, _, o', x0, x1, x2⟩ := z
      obtain ⟨_, _, _, _, _, _, _, _, h9⟩ := h
      exact hn (h9 q t o o' q0 hq t0 ht o0 o1 x0 (mn_lt x1).1 x2).1
theorem PgW.hi (h : PgW eb g G) {t : Int32} (t0 : 0 ≤ t) (ht : t < G.turns) : ∀ k, 59 ≤ k → k ≤ 64 → ∀ o, 120 ≤ o → o < G.many t → ¬ ownT t (rwT eb g t) (mnT G t) k (rwT eb g t o) := by
  intro k a b o o0 o1 z
  rcases z with z | z | z
  · omega
  · omega
  · obtain ⟨_, _, o', x0, x1, x2⟩ := z
    obtain ⟨_, _, _, _, _, _, _, _, h9⟩ := h
    have := (h9 t t o o' t0 ht t0 ht (i32_tr (by decide) o0) o1 x0 (mn_lt x1).1 x2).2
    rw [this] at o0
    exact absurd (mn_lt x1).2 (Int32.not_lt.mpr o0)
theorem ST.keep (h : PgW eb g G) {t q : Int32} (t0 : 0 ≤ t) (ht : t < G.turns) (q0 : 0 ≤ q) (hq : q < G.turns) (hn : q ≠ t) {e e' : mE} (f : mfr t (rwT eb g t) (mnT G t) e e') {T : Ty} {by' ro : Int32} {pl : Int32 → Int32} (s : ST q (rwT eb g q) (mnT G q) e T by' ro pl) : ST q (rwT eb g q) (mnT G q) e' T by' ro pl := by
  obtain ⟨a, b, c⟩ := h.other t0 ht q0 hq hn
  exact s.cong (fun k x y => f k _ (a k x y)) (fun k x y j j0 j1 => f k _ (b k x y j j0 j1)) (fun k x y o o0 o1 => f k _ (c k x y o o0 (mn_lt o1).1))
theorem HiZ.keep (h : PgW eb g G) {t q : Int32} (t0 : 0 ≤ t) (ht : t < G.turns) (q0 : 0 ≤ q) (hq : q < G.turns) {e e' : mE} (f : mfr t (rwT eb g t) (mnT G t) e e') (s : HiZ eb g G e q) : HiZ eb g G e' q := by
  intro o o0 o1 k x y
  by_cases hn : q = t
  · subst hn
    rw [f k _ (h.hi q0 hq k x y o o0 o1)]
    exact s o o0 o1 k x y
  · rw [f k _ ((h.other t0 ht q0 hq hn).2.2 k x y o (i32_tr (by decide) o0) o1)]
    exact s o o0 o1 k x y
theorem FinT.prev {q : Int32} {A : Ty} (h : FinT eb g G e q A) : e.2 35 q = A.score ∧ e.2 43 q = A.means ∧ 0 ≤ A.score ∧ A.score ≤ 40000 ∧ 0 ≤ A.means ∧ A.means ≤ 1000 ∧ e.2 40 q = A.allowed ∧ 0 ≤ A.allowed ∧ A.allowed ≤ G.ovs ∧ e.2 41 q = A.ended := by
  obtain ⟨T, by', ro, pl, m, s1, s2, s3, s4, s5, _⟩ := h
  have r : ∀ k, k < 16 → e.2 (reN k) q = A.1 k := by
    intro k hk
    rw [s2.1, ← s1.1]
    show _ = if k < 16 then e.2 (reN k) q else 0
    rw [if_pos hk]
  have ms : T.score ≤ 40000 := by
    have a := Int32.le_iff_toInt_le.mp s4.s1
    have z : (40000 : Int32).toInt = 40000 := by decide
    exact Int32.le_iff_toInt_le.mpr (by omega)
  refine ⟨r 1 (by decide), r 6 (by decide), ?_, ?_, ?_, ?_, r 5 (by decide), ?_, ?_, r 7 (by decide)⟩
  · rw [s2.score]; exact s4.s0
  · rw [s2.score]; exact ms
  · rw [s2.means]; exact s4.me0
  · rw [s2.means]; exact s4.m1
  · rw [s2.allowed]; exact i32_tr s4.w0 (i32_tr s4.w1 s4.ba)
  · rw [s2.allowed]; exact s4.ao
theorem r_turn (h : PgW eb g G) (t0 : 0 ≤ t) (ht : t < G.turns) (I : TI eb g G t e s) (hr : s.rule = 0) (hw : s.won = 0) (he : t = 3 → (s.ty 2).ended ≠ 0) : ∃ e', P_X12_playTurn g t e = some e' ∧ TI eb g G (t + 1) e' (Ps.plO G t (G.many t).toInt.toNat 0 (s.begT t)) := by
  have h' := h
  have t4 := h.t4 ht
  have rk := h.rk t0 ht
  obtain ⟨⟨g0, g1⟩, h2, h3, h4, h5, h6, h7, h8, h9⟩ := h
  obtain ⟨I1, I2, ⟨I3a, I3b⟩, I4, I5, I6, I7, I8⟩ := I
  obtain ⟨⟨X, hX, hA⟩, C2, C3⟩ := I5 t (Int32.le_refl _) ht
  have lo : ∀ k i, k < 35 → e.2 k i = eb.2 k i := fun k i hk => I1 k i (Or.inl hk)
  have hge : e.2 6 g = G.each := (lo 6 _ (by decide)).trans h2
  have hov : e.2 5 g = G.ovs := (lo 5 _ (by decide)).trans h4
  have tl : t ≤ 2 * G.each - 1 := by
    have a := h7.2
    have b : 2 * G.each = 2 ∨ 2 * G.each = 4 := by rcases h3 with z | z <;> rw [z] <;> decide
    clear I4 I5 h8 h9 h' C2 C3
    rcases b with z | z <;> rw [z] at a ⊢ <;> grind
  have pv : Prev e t s := by
    intro q q0 q1
    have := (I4 q q0 q1).prev
    exact ⟨this.1, this.2.1, this.2.2.1, this.2.2.2.1, this.2.2.2.2.1, this.2.2.2.2.2.1⟩
  have S0 : RSt t (rwT eb g t) (mnT G t) e e Zr0 0 0 (fun _ => 0) e.1 := ⟨t0, t4, rk, C2.1, C2.2.1, C2.2.2.1, C2.2.2.2, rfl, fun _ _ _ => rfl⟩
  -- how many overs
  have hn : (if t = 1 ∧ e.2 6 g = 1 then (mA (mS e 32 t) 52 t 1).2 40 0 else e.2 5 g) = (if t = 1 ∧ s.last = 1 then (s.ty 0).allowed else s.gov) := by
    have e40 : (mA (mS e 32 t) 52 t 1).2 40 0 = e.2 40 0 := by rw [mA_rd, if_neg (fun q => absurd q.1 (by decide))]; rfl
    rw [e40, hge, hov, I3a, I3b]
    have iff1 : G.each = 1 ↔ 2 * G.each - 1 = 1 := by rcases h3 with z | z <;> rw [z] <;> decide
    by_cases c : t = 1 ∧ G.each = 1
    · rw [if_pos c, if_pos ⟨c.1, iff1.mp c.2⟩]
      exact (I4 0 (by decide) (by rw [c.1]; decide)).prev.2.2.2.2.2.2.1
    · rw [if_neg c, if_neg (fun z => c ⟨z.1, iff1.mpr z.2⟩)]
  generalize hN : (if t = 1 ∧ s.last = 1 then (s.ty 0).allowed else s.gov) = n at *
  have nb : 0 ≤ n ∧ n ≤ G.ovs := by
    rw [← hN]
    by_cases c : t = 1 ∧ s.last = 1
    · rw [if_pos c]
      have := (I4 0 (by decide) (by rw [c.1]; decide)).prev
      exact ⟨this.2.2.2.2.2.2.2.1, this.2.2.2.2.2.2.2.2.1⟩
    · rw [if_neg c, I3a]
      exact ⟨i32_tr (by decide) h5.1, Int32.le_refl _⟩
  have i0 := iv0 h5.1 h5.2 nb.1 nb.2
  -- the class's turn
  have b1 : (s.begT t).ty t = (s.ty t).begin n := by
    unfold Ps.begT
    rw [sTy_at, hN]
  have b2 : ∀ q, q ≠ t → (s.begT t).ty q = s.ty q := fun q hq => sTy_ne _ _ hq
  have sb : Sim ((s.begT t).ty t) (Ty0 n) := by
    rw [b1, hA]
    exact sim_begin hX n
  have l13 := last13 h3
  have hla : 2 * e.2 6 g - 1 = 2 * G.each - 1 := by rw [hge]
  obtain ⟨e2, E2, S2⟩ := r_setup (n := n) (la := 2 * G.each - 1) (s := s.begT t) g0 g1 S0 hla (fun e' S' z => tgR_of S' I3b b2 sb i0 (by show PrevOK e t s s.last; rw [I3b]; exact pv.ok l13) (z.trans I3b.symm))
  rw [pT_eq g0 g1 t0 t4, hn, E2]
  -- both sides at the turn's start
  have tgt1 : t = s.last → 0 < (s.begT t).target := by
    intro z
    have zl : s.last = 1 ∨ s.last = 3 := by rw [I3b]; exact l13
    rcases zl with q | q
    · have t1 : t = 1 := z.trans q
      have p0 := (I4 0 (by decide) (by rw [t1]; decide)).prev
      have m1 : 0 ≤ ((s.begT t).ty 1).means ∧ ((s.begT t).ty 1).means ≤ 1000 := by
        rw [← t1, sb.means]
        exact ⟨i0.me0, i0.m1⟩
      have b0 : (s.begT t).ty 0 = s.ty 0 := b2 0 (by rw [t1]; decide)
      have := (tgt_bd (s := s.begT t) (Or.inl q) (by rw [b0]; exact ⟨p0.2.2.1, p0.2.2.2.1, p0.2.2.2.2.1, p0.2.2.2.2.2.1⟩) (fun _ => m1) (fun y => absurd (q.symm.trans y) (by decide))).2.2 q
      clear I4 I5 h8 h9 h' C2 C3 S0 S2 sb i0 b2 pv
      grind
    · have t3 : t = 3 := z.trans q
      have e1 : (s.begT t).target = s.target := by
        unfold Ps.target
        rw [if_neg (show ¬ (s.begT t).last ≤ 1 by show ¬ s.last ≤ 1; rw [q]; decide), if_neg (show ¬ s.last ≤ 1 by rw [q]; decide), b2 0 (by rw [t3]; decide), b2 1 (by rw [t3]; decide), b2 2 (by rw [t3]; decide)]
      rw [e1]
      have := I8 t3 (he t3) hw
      clear I4 I5 h8 h9 h' C2 C3 S0 S2 sb i0 b2 pv
      grind
  have L0 : Lp G t (e.1, s.2) 0 (Ty0 n) (if t = 2 * G.each - 1 then (fun j => if j = 34 then (s.begT t).target else if j = 32 then t else e.1 j) else (fun j => if j = 32 then t else e.1 j)) (s.begT t) := by
    generalize hx : (if t = 2 * G.each - 1 then (fun j => if j = 34 then (s.begT t).target else if j = 32 then t else e.1 j) else (fun j => if j = 32 then t else e.1 j)) = x0
    have xk : ∀ j, j ≠ 34 → j ≠ 32 → x0 j = e.1 j := by
      intro j a b
      rw [← hx]
      split
      · show (if j = 34 then _ else if j = 32 then t else e.1 j) = _
        rw [if_neg a, if_neg b]
      · exact if_neg b
    have x32 : x0 32 = t := by
      rw [← hx]
      split <;> rfl
    refine ⟨⟨I3a, I3b, rfl⟩, ⟨(xk 28 (by decide) (by decide)).trans I2.1, (xk 29 (by decide) (by decide)).trans I2.2.1, (xk 30 (by decide) (by decide)).trans I2.2.2.1, (xk 31 (by decide) (by decide)).trans I2.2.2.2.1, x32⟩, b2, sb, ?_, i0, fun _ => show (0 : Int32) ≤ 9 by decide, ?_, fun _ => ⟨hw, (xk 33 (by decide) (by decide)).trans (I2.2.2.2.2.2.1.trans hw), tgt1⟩, fun z => absurd rfl z, fun j hj => xk j (by omega) (by omega)⟩
    · intro o c _ _
      rfl
    · intro z
      replace z : t = s.last := z
      rw [← hx, if_pos (z.trans I3b)]
      rfl
  have si0 : SI (Ty0 n) 0 0 := by
    refine ⟨?_, ?_⟩
    · show (0 : Int32) = sm (fun k => 0)
      decide
    · have e9 : sm (six (Ty0 n)) = sm (fun _ => 0) := sm_eq (fun j j0 j1 => by
        show (if gS 11 3 (gS 11 3 (fun _ _ => 0) 0 2 1) 1 2 1 j 2 = 6 then (1 : Int32) else 0) = 0
        rw [if_neg]
        unfold gS
        repeat' split
        all_goals first | decide | exact (by decide : ¬ (0 : Int32) = 6))
      rw [e9]
      decide
  have pl0 : PLs (mnT G t) (fun _ => 0) (Ty0 n) := by
    intro q q0 q1
    show (0 : Int32) = if q < 0 then 1 else 0
    rw [if_neg (Int32.not_lt.mpr q0)]
  have z0 : (0 : Int32).toInt = 0 := by decide
  obtain ⟨R1, R2, R3, R4⟩ := h8 t t0 ht
  have hTR : TurnR e (rwT eb g t) G g t := by
    refine ⟨(lo 9 _ (by decide)).trans R1, R2, R3, fun o o0 o1 => ?_⟩
    obtain ⟨a, b, c, d⟩ := R4 o o0 o1
    refine ⟨(lo 10 _ (by decide)).trans a, b, ⟨(lo 13 _ (by decide)).trans c.1, (lo 12 _ (by decide)).trans c.2.1, c.2.2.1, fun i i0 i1 => ?_⟩, d⟩
    have := c.2.2.2 i i0 i1
    exact ⟨(lo 14 _ (by decide)).trans this.1, this.2⟩
  have m130 : (G.many t).toInt ≤ 130 := Int32.le_iff_toInt_le.mp R3
  obtain ⟨e3, T3, by3, ro3, pl3, x3, m3, p1, p2, p3, p4, p5, p6, p7⟩ := (r_120 (s0 := (e.1, s.2)) g0 g1 t0 t4 hge h3 hov hTR rfl pv fu 0 (by unfold fu; omega)).1 e2 _ _ _ _ _ (s.begT t) 0 S2 L0 si0 pl0 (by decide) R2 rfl hr (by omega)
  rw [p1]
  rw [z0, Int.sub_zero] at p3
  obtain ⟨e4, x4, q1, q2, q3, q4⟩ := r_154 (s0 := (e.1, s.2)) g0 g1 hge h3 tl pv p2 p3 p7
  refine ⟨e4, q1, ?_⟩
  generalize Ps.plO G t (G.many t).toInt.toNat 0 (s.begT t) = s2 at *
  obtain ⟨⟨La, Lb, Lc⟩, L2, L3, L4, L5, L6, L7, L8, L9, L10, L11⟩ := p3
  have fr := q2.fr
  have tt : ∀ q, q < t + 1 ↔ q < t ∨ q = t := fun q => i32_ls t4
  refine ⟨?_, ⟨?_, ?_, ?_, ?_, ?_, ?_, ?_⟩, ⟨La, Lb⟩, ?_, ?_, ?_, ?_, ?_⟩
  · intro k i hk
    refine (fr k i (fun z => ?_)).trans (I1 k i hk)
    rcases z with z | z | z <;> omega
  · rw [q2.ex, q4 28 (by decide)]; exact L2.1
  · rw [q2.ex, q4 29 (by decide)]; exact L2.2.1
  · rw [q2.ex, q4 30 (by decide)]; exact L2.2.2.1
  · rw [q2.ex, q4 31 (by decide)]; exact L2.2.2.2.1
  · rw [q2.ex, q4 32 (by decide), Lc]; exact L2.2.2.2.2
  · rw [q2.ex, q3]
  · intro k hk
    rw [q2.ex, q4 k (by omega)]
    exact (L11 k hk).trans (I2.2.2.2.2.2.2 k hk)
  · intro q q0 hq
    by_cases c : q = t
    · subst c
      exact ⟨T3, by3, ro3, pl3, m3, ⟨q2.re, q2.eb, q2.er, q2.ep⟩, L4, L5, L6, p7, p4, p5, p6, HiZ.keep h' q0 ht q0 ht fr C3⟩
    · have qt : q < t := ((tt q).mp hq).resolve_right c
      have qT : q < G.turns := Int32.lt_of_lt_of_le qt (Int32.le_of_lt ht)
      rw [show s2.ty q = s.ty q from L3 q c]
      obtain ⟨T, by', ro, pl, m, k1, k2, k3, k4, k5, k6, k7, k8, k9⟩ := I4 q q0 qt
      exact ⟨T, by', ro, pl, m, k1.keep h' t0 ht q0 qT c fr, k2, k3, k4, k5, k6, k7, k8, HiZ.keep h' t0 ht q0 qT fr k9⟩
  · intro q hq qT
    have qt : ¬ q < t + 1 := Int32.not_lt.mpr hq
    have c : q ≠ t := fun z => qt ((tt q).mpr (Or.inr z))
    have q0 : t ≤ q := Int32.not_lt.mp (fun z => qt ((tt q).mpr (Or.inl z)))
    have q00 : 0 ≤ q := i32_tr t0 q0
    rw [show s2.ty q = s.ty q from L3 q c]
    obtain ⟨k1, k2, k3⟩ := I5 q q0 qT
    exact ⟨k1, k2.keep h' t0 ht q00 qT c fr, HiZ.keep h' t0 ht q00 qT fr k3⟩
  · rw [Lc]
    clear I4 I5 h8 h9 h' C2 C3 S0 S2 sb i0 b2 pv
    grind
  · intro z
    rw [q2.ex, q4 34 (by decide)]
    exact L8 (by rw [← Lc]; exact z)
  · intro z a b
    have t2 : t = 2 := by
      clear I4 I5 h8 h9 h' C2 C3 S0 S2 sb i0 b2 pv
      grind
    have en : T3.ended ≠ 0 := by rw [← L4.ended, t2]; exact a
    have w := (L10 en).1
    have nl : ¬ s2.hand = s2.last := by
      rw [Lc, Lb, t2]
      rcases h3 with y | y <;> rw [y] <;> decide
    rw [w] at b
    unfold Ps.wonV at b
    rw [if_neg nl, if_pos (Lc.trans t2)] at b
    by_cases y : 1 ≤ s2.target
    · exact y
    · rw [if_neg y] at b; exact absurd b (by decide)
end TUR
