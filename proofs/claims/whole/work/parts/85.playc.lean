/-! The class's play kept for one game; what is told behind it -/
/-- only the play's own ints, and the number of the game played, have changed -/
def frP (x : Nat) (h h' : aH) : Prop := sst h h' ∧ (∀ b, b ≠ x → (b < x + 129 ∨ x + 166 ≤ b) → cel h h' b) ∧ ∀ f, f ≠ 1210 → hF h' f x = hF h f x
section Py
variable {x : Nat} {h : aH} {lb : Nat → Lab} {ad cp : Adr} {A : Bk}
theorem gm_frP {g sd0 sd1 : Int32} {st : Int32 → Int32 → Int32} {G : Pg} {h' : aH} (r : GmL h lb ad cp g sd0 sd1 st G) (lo : ∀ b, b < x + 229 → (lb b).1 = 0) (f : sst h h') (c : ∀ b, x + 229 ≤ b → cel h h' b) : GmL h' lb ad cp g sd0 sd1 st G :=
  r.mv (P := fun L => L.1 ≠ 0) ⟨by rw [f.z]; exact Nat.le_refl _, f.E, fun b _ q => c b (Nat.le_of_not_lt (fun z => q (lo b z)))⟩ (fun _ _ => rfl) (fun k t o hk _ => by show k ≠ 0; omega) (fun _ _ _ _ _ => ⟨rfl, rfl⟩)
theorem gm_pgF {g sd0 sd1 : Int32} {st : Int32 → Int32 → Int32} {G : Pg} (r : GmL h lb ad cp g sd0 sd1 st G) (ok : PgOK G) : PgF h (ad 1 g 0 0) G (fun t o => ad 3 g t o) := by
  refine ⟨r.1.1, r.1.2.2.2.1, r.1.2.2.2.2.1, g_turnCount r, fun t t0 t1 => by rw [g_overCountOf r, if_pos ⟨t0, t1⟩], fun t o t0 t1 o0 o1 => ?_⟩
  have v := (r.in_o ⟨t0, t1⟩ ⟨o0, o1⟩).1
  refine ⟨by rw [g_overAt r, if_pos ⟨⟨t0, t1⟩, o0, o1⟩], v.1, v.2.2.2.2.1, v.2.2.2.2.2.1, fun i i0 i1 => ?_⟩
  rw [o_at v ((ok.2.2.2 t t0 t1).2 o o0 o1).2.1.2, if_pos ⟨i0, i1⟩]
theorem gm_pgO {g sd0 sd1 : Int32} {st : Int32 → Int32 → Int32} {G : Pg} (r : GmL h lb ad cp g sd0 sd1 st G) (ok : PgOK G) (lo : ∀ b, b < x + 229 → (lb b).1 = 0) : PgO (x + 129) h (ad 1 g 0 0) G (fun t o => ad 3 g t o) := by
  refine ⟨fun h' f => gm_pgF (gm_frP r lo f.1 (fun b hb => cel_frn f (by omega))) ok, ok.t4, fun t t0 t1 => ⟨(ok.2.2.2 t t0 t1).1.2, fun o o0 o1 => ⟨((ok.2.2.2 t t0 t1).2 o o0 o1).2.1.2, fun q => ?_⟩⟩⟩
  have v := (r.in_o ⟨t0, t1⟩ ⟨o0, o1⟩).2
  dsimp only at q
  have := lo (ad 3 g t o) (by omega)
  rw [show lb (ad 3 g t o) = (3, g, t, o) from v.2 0 (by decide)] at this
  exact absurd this (lab_1 (by decide))
theorem CRp.frP {h' : aH} (r : CRp x h lb ad cp A) (f : frP x h h') (p : PS (x + 129) h') (pc : PC x h' A) : CRp x h' lb ad cp A := by
  obtain ⟨f1, f2, f3⟩ := f
  have lo : ∀ k, k < 129 ∨ 166 ≤ k → k ≠ 0 → cel h h' (x + k) := fun k hk n => f2 _ (by omega) (by omega)
  refine ⟨r.fx.mv (fun b _ _ _ => ⟨by rw [f1.K], by rw [f1.N], fun i => by rw [f1.O], fun f _ _ => by rw [f1.G]⟩) (fun b hb f => (f2 b (by omega) (by omega)).F f) p f1.E (by rw [f1.z]; exact Nat.le_refl _), ?_, r.ci.mv ⟨f3 _ (by decide), f3 _ (by decide)⟩ (lo 1 (by omega) (by omega)) (lo 3 (by omega) (by omega)) (lo 4 (by omega) (by omega)) (lo 5 (by omega) (by omega)) (lo 6 (by omega) (by omega)), r.hc.mv (lo 7 (by omega) (by omega)) (fun k _ _ => lo k (by omega) (by omega)), pc, r.rc.mv (f3 _ (by decide)) (lo 168 (by omega) (by omega))⟩
  obtain ⟨r1, r2, r3, r4⟩ := r.pl
  have hi : ∀ b, x + 229 ≤ b → cel h h' b := fun b hb => f2 b (by omega) (by omega)
  refine ⟨r1, r2.mv2 (by rw [f1.z]; exact Nat.le_refl _) f1.E (lo 2 (by omega) (by omega)) (fun hc => hi _ (lb_hi r.pl (by rw [r3 hc]; decide))) (fun i _ _ => by rw [f1.K]) (fun _ _ _ => rfl), r3, fun g g0 g1 => gm_frP (r4 g g0 g1) r1 f1 hi⟩
/-- the play goes over a page of the heap -/
theorem c_replayG {g sd0 sd1 : Int32} {st : Int32 → Int32 → Int32} {G : Pg} (fx : FX x h) (r : GmL h lb ad cp g sd0 sd1 st G) (ok : PgOK G) (lo : ∀ b, b < x + 229 → (lb b).1 = 0) : Rn (F_X6_replay (x + 129) (ad 1 g 0 0) h) (fun h' => PS (x + 129) h' ∧ frn (x + 129) 37 h h' ∧ psOf (x + 129) h' = (psOf (x + 129) h).play G) := by
  obtain ⟨h', e, q⟩ := c_replay (gm_pgO r ok lo) (s := psOf (x + 129) h) ⟨fx.2.2.2.2.2.1, frn.refl _ _ _, rfl⟩
  exact ⟨h', e, q⟩
/-- the game g has been played, by a play that began with s -/
def PlQ (x : Nat) (h : aH) (lb : Nat → Lab) (ad cp : Adr) (A : Bk) (g : Int32) (s : Ps) (h' : aH) : Prop := CRp x h' lb ad cp A ∧ psOf (x + 129) h' = s.play (A.pg g) ∧ frP x h h'
theorem c_playOver (r : CRp x h lb ad cp A) (ok : BkOK A) {g : Int32} (c : inL A.games g) : Rn (F_X11_playOver x g (some (ad 1 g 0 0)) h) (fun h' => ∃ s, TyNs s ∧ PlQ x h lb ad cp A g s h') := by
  unfold F_X11_playOver
  refine rn_i (fun c1 => ?_) (fun c1 => ?_)
  · rcases r.pc with q | ⟨-, s, q1, q2⟩
    · rw [q] at c1
      rw [← c1] at c
      exact absurd c.1 (by decide)
    · rw [c1] at q2
      exact rn_s ⟨s, q1, r, q2, sst.refl _, fun _ _ _ => cel.refl _ _, fun _ _ => rfl⟩
  · have og := ok.2.2.2.2.2.2.1 g c
    refine rn_o r.fx.1.2.2.2.2.2.2.1 (rn_ck r.fx.2.2.2.2.2.1.1 ?_)
    refine rn_c (c_replayG r.fx (r.gm c) og.1 r.pl.1) (fun h7 q => ?_)
    obtain ⟨q1, q2, q3⟩ := q
    have k7 : hK h7 x = 13 := by rw [q2.1.K]; exact r.k0
    have x0 : ∀ b, b ≠ x → cel h7 (sF h7 1210 x g) b := fun b hb => cel_sF hb
    have fP : frP x h (sF h7 1210 x g) := ⟨q2.1.trans sst_sF, fun b b0 b1 => (cel_frn q2 (by omega)).trans (x0 b b0), fun f n => by rw [rF_sF, if_neg (fun z => n z.1), (cel_frn q2 (by omega)).F]⟩
    have pp : psOf (x + 129) (sF h7 1210 x g) = (psOf (x + 129) h).play (A.pg g) := by
      rw [psOf_cl (h := h7) (fun b b0 b1 => x0 b (by omega))]
      exact q3
    refine rn_ck k7 (rn_bd (rn_s ⟨psOf (x + 129) h, tyN_ps _ _, r.frP fP (q1.cl (fun b b0 b1 => x0 b (by omega))) (Or.inr ?_), pp, fP⟩))
    rw [show hF (sF h7 1210 x g) 1210 x = g from if_pos ⟨rfl, rfl⟩]
    exact ⟨c, psOf (x + 129) h, tyN_ps _ _, pp⟩
theorem PlQ.pst {g : Int32} {s : Ps} {h' : aH} (q : PlQ x h lb ad cp A g s h') (c n : Nat) : Pst x h c n A h' := ⟨⟨lb, ad, cp, q.1⟩, fun k k0 k1 => q.2.2.2.1 _ (by omega) (by omega), by rw [q.2.2.1.z]; omega, by rw [q.2.2.1.s]; omega⟩
theorem PlQ.ps {g : Int32} {s : Ps} {h' : aH} (q : PlQ x h lb ad cp A g s h') : PSt (x + 129) h' h' (s.play (A.pg g)) := ⟨q.1.fx.2.2.2.2.2.1, frn.refl _ _ _, q.2.1⟩
/-! now -/
def aNow (s : Ps) (g w : Int32) (A : Bk) : Option Int32 := if inL A.games g ∧ inL 15 w then some ((s.play (A.pg g)).fig w) else none
theorem c_now (r : CRp x h lb ad cp A) (ok : BkOK A) (g w : Int32) : Rn (F_X11_now x g w h) (fun q => ∃ s, TyNs s ∧ q.1 = aNow s g w A ∧ Pst x h 0 0 A q.2) := by
  unfold F_X11_now F_X11_now_20
  have no : ¬ (inL A.games g ∧ inL 15 w) → ∀ h', h' = h → Rn (some ((none : Option Int32), h')) (fun q => ∃ s, TyNs s ∧ q.1 = aNow s g w A ∧ Pst x h 0 0 A q.2) := fun n h' e => by
    subst e
    refine rn_s ⟨psOf (x + 129) h', tyN_ps _ _, ?_, r.same _ _⟩
    unfold aNow
    rw [if_neg n]
  refine rn_o (c_gameAt r g) (rn_bd (rn_bd ?_))
  dsimp only
  by_cases c : inL A.games g
  rotate_left
  · rw [if_neg c]
    exact no (fun q => c q.1) _ rfl
  rw [if_pos c]
  refine rn_i (fun c1 => no (fun q => absurd q.2.1 (Int32.not_le.mpr c1)) _ rfl) (fun c1 => rn_i (fun c2 => ?_) (fun c2 => no (fun q => c2 q.2.2) _ rfl))
  refine rn_ck r.k0 (rn_c (c_playOver r ok c) ?_)
  rintro h' ⟨s, s1, q⟩
  refine rn_ck q.1.k0 (rn_o q.1.fx.1.2.2.2.2.2.2.1 (rn_ck q.1.fx.2.2.2.2.2.1.1 (rn_o (c_pfig q.ps) (rn_bd (rn_bd (rn_s ⟨s, s1, ?_, q.pst _ _⟩))))))
  unfold aNow
  rw [if_pos ⟨c, Int32.not_lt.mp c1, c2⟩]
/-! score, overs, bats, fields -/
def fScore (S : Ps) (G : Pg) (t w : Int32) : Int32 := if w = 10 then G.many t else (S.ty t).fig w
def fBats (S : Ps) (st : Int32 → Int32 → Int32) (t k w : Int32) : Int32 := if w = 3 then st (md2 t) k else (S.ty t).bat k w
def fFields (S : Ps) (st : Int32 → Int32 → Int32) (t k w : Int32) : Int32 := if w = 3 then st (1 - md2 t) k else (S.ty t).bow k w
theorem St.bats {a : Nat} {h0 h : aH} {T : Ty} (S : St a h0 h T) : GrS h (a + 1) 11 3 33 ∧ gv h (a + 1 + 1) 11 3 = T.bat ∧ GrS h (a + 3) 11 3 33 ∧ gv h (a + 3 + 1) 11 3 = T.bow := ⟨S.1.2.2.2.2.1, by rw [← S.2.2]; rfl, S.1.2.2.2.2.2.1, by rw [← S.2.2]; rfl⟩
theorem f_score {s : Ps} {g : Int32} {h' : aH} (q : PlQ x h lb ad cp A g s h') (c : inL A.games g) {t : Int32} (ct : inL (A.pg g).turns t) (w : Int32) : F_X11_scoreFigure x (ad 1 g 0 0) t w h' = some (fScore (s.play (A.pg g)) (A.pg g) t w, h') := by
  unfold F_X11_scoreFigure fScore
  have G := q.1.gm c
  by_cases c1 : w = 10
  · rw [if_pos c1, if_pos c1, ck_t G.1.1, g_overCountOf G, Option.bind_some, bd_e, bd_e, if_pos ct]
  · rw [if_neg c1, if_neg c1, q.1.fx.1.2.2.2.2.2.2.1, Option.bind_some, ck_t q.1.fx.2.2.2.2.2.1.1, c_tallyAt q.ps.1, Option.bind_some, bd_e, bd_e, Option.bind_some, ck_t (q.ps.KT t), c_fig (q.ps.T t), Option.bind_some, bd_e, bd_e]
theorem f_bats {s : Ps} {g : Int32} {h' : aH} (q : PlQ x h lb ad cp A g s h') (c : inL A.games g) (t k w : Int32) : F_X11_batsFigure x (ad 1 g 0 0) t k w h' = some (fBats (s.play (A.pg g)) (A.st g) t k w, h') := by
  unfold F_X11_batsFigure fBats
  have G := q.1.gm c
  have B := (q.ps.T t).bats
  by_cases c1 : w = 3
  · rw [if_pos c1, if_pos c1, ck_t G.1.1, g_playerAt G, Option.bind_some, bd_e, bd_e]
  · rw [if_neg c1, if_neg c1, q.1.fx.1.2.2.2.2.2.2.1, Option.bind_some, ck_t q.1.fx.2.2.2.2.2.1.1, c_tallyAt q.ps.1, Option.bind_some, bd_e, bd_e, Option.bind_some, ck_t (q.ps.KT t), (q.ps.1.2.2.2.2.2.2 t).2.1, Option.bind_some, ck_t B.1.1, gr_at B.1 gix_11_3, Option.bind_some, bd_e, bd_e, ← B.2.1]
    rfl
theorem f_fields {s : Ps} {g : Int32} {h' : aH} (q : PlQ x h lb ad cp A g s h') (c : inL A.games g) (t k w : Int32) : F_X11_fieldsFigure x (ad 1 g 0 0) t k w h' = some (fFields (s.play (A.pg g)) (A.st g) t k w, h') := by
  unfold F_X11_fieldsFigure fFields
  have G := q.1.gm c
  have B := (q.ps.T t).bats
  by_cases c1 : w = 3
  · rw [if_pos c1, if_pos c1, ck_t G.1.1, g_playerAt G, Option.bind_some, bd_e, bd_e]
  · rw [if_neg c1, if_neg c1, q.1.fx.1.2.2.2.2.2.2.1, Option.bind_some, ck_t q.1.fx.2.2.2.2.2.1.1, c_tallyAt q.ps.1, Option.bind_some, bd_e, bd_e, Option.bind_some, ck_t (q.ps.KT t), (q.ps.1.2.2.2.2.2.2 t).2.2.1, Option.bind_some, ck_t B.2.2.1.1, gr_at B.2.2.1 gix_11_3, Option.bind_some, bd_e, bd_e, ← B.2.2.2]
    rfl
def aScore (s : Ps) (g t w : Int32) (A : Bk) : Option Int32 := if inL A.games g ∧ inL (A.pg g).turns t ∧ inL 16 w then some (fScore (s.play (A.pg g)) (A.pg g) t w) else none
theorem c_score (r : CRp x h lb ad cp A) (ok : BkOK A) (g t w : Int32) : Rn (F_X11_score x g t w h) (fun q => ∃ s, TyNs s ∧ q.1 = aScore s g t w A ∧ Pst x h 0 0 A q.2) := by
  unfold F_X11_score F_X11_score_31
  have no : ¬ (inL A.games g ∧ inL (A.pg g).turns t ∧ inL 16 w) → ∀ h', h' = h → Rn (some ((none : Option Int32), h')) (fun q => ∃ s, TyNs s ∧ q.1 = aScore s g t w A ∧ Pst x h 0 0 A q.2) := fun n h' e => by
    subst e
    refine rn_s ⟨psOf (x + 129) h', tyN_ps _ _, ?_, r.same _ _⟩
    unfold aScore
    rw [if_neg n]
  refine rn_o (c_gameAt r g) (rn_bd (rn_bd ?_))
  dsimp only
  by_cases c : inL A.games g
  rotate_left
  · rw [if_neg c]
    exact no (fun q => c q.1) _ rfl
  rw [if_pos c]
  have G := r.gm c
  refine rn_ck G.1.1 (rn_o (g_turnAt G t) (rn_bd (rn_bd ?_)))
  dsimp only
  by_cases ct : inL (A.pg g).turns t
  rotate_left
  · rw [if_neg ct]
    exact no (fun q => ct q.2.1) _ rfl
  rw [if_pos ct]
  refine rn_i (fun c1 => no (fun q => absurd q.2.2.1 (Int32.not_le.mpr c1)) _ rfl) (fun c1 => rn_i (fun c2 => ?_) (fun c2 => no (fun q => c2 q.2.2.2) _ rfl))
  refine rn_ck r.k0 (rn_c (c_playOver r ok c) ?_)
  rintro h' ⟨s, s1, q⟩
  refine rn_ck q.1.k0 (rn_o (f_score q c ct w) (rn_bd (rn_bd (rn_s ⟨s, s1, ?_, q.pst _ _⟩))))
  unfold aScore
  rw [if_pos ⟨c, ct, Int32.not_lt.mp c1, c2⟩]
theorem c_isSeat (k w : Int32) : F_X11_isSeatFigure k w h = some (if inL 11 k ∧ inL 4 w then 1 else 0, h) := by
  unfold F_X11_isSeatFigure
  by_cases c1 : k < 0
  · rw [if_pos c1, if_neg (fun q => absurd q.1.1 (Int32.not_le.mpr c1))]
  rw [if_neg c1]
  by_cases c2 : 11 ≤ k
  · rw [if_pos c2, if_neg (fun q => absurd q.1.2 (Int32.not_lt.mpr c2))]
  rw [if_neg c2]
  by_cases c3 : w < 0
  · rw [if_pos c3, if_neg (fun q => absurd q.2.1 (Int32.not_le.mpr c3))]
  rw [if_neg c3]
  by_cases c4 : 4 ≤ w
  · rw [if_pos c4, if_neg (fun q => absurd q.2.2 (Int32.not_lt.mpr c4))]
  rw [if_neg c4, if_pos ⟨⟨Int32.not_lt.mp c1, Int32.not_le.mp c2⟩, Int32.not_lt.mp c3, Int32.not_le.mp c4⟩]
def aBats (s : Ps) (g t k w : Int32) (A : Bk) : Option Int32 := if inL A.games g ∧ inL (A.pg g).turns t ∧ inL 11 k ∧ inL 4 w then some (fBats (s.play (A.pg g)) (A.st g) t k w) else none
def aFields (s : Ps) (g t k w : Int32) (A : Bk) : Option Int32 := if inL A.games g ∧ inL (A.pg g).turns t ∧ inL 11 k ∧ inL 4 w then some (fFields (s.play (A.pg g)) (A.st g) t k w) else none
theorem c_bats (r : CRp x h lb ad cp A) (ok : BkOK A) (g t k w : Int32) : Rn (F_X11_bats x g t k w h) (fun q => ∃ s, TyNs s ∧ q.1 = aBats s g t k w A ∧ Pst x h 0 0 A q.2) := by
  unfold F_X11_bats F_X11_bats_30
  have no : ¬ (inL A.games g ∧ inL (A.pg g).turns t ∧ inL 11 k ∧ inL 4 w) → ∀ h', h' = h → Rn (some ((none : Option Int32), h')) (fun q => ∃ s, TyNs s ∧ q.1 = aBats s g t k w A ∧ Pst x h 0 0 A q.2) := fun n h' e => by
    subst e
    refine rn_s ⟨psOf (x + 129) h', tyN_ps _ _, ?_, r.same _ _⟩
    unfold aBats
    rw [if_neg n]
  refine rn_o (c_gameAt r g) (rn_bd (rn_bd ?_))
  dsimp only
  by_cases c : inL A.games g
  rotate_left
  · rw [if_neg c]
    exact no (fun q => c q.1) _ rfl
  rw [if_pos c]
  have G := r.gm c
  refine rn_ck G.1.1 (rn_o (g_turnAt G t) (rn_bd (rn_bd ?_)))
  dsimp only
  by_cases ct : inL (A.pg g).turns t
  rotate_left
  · rw [if_neg ct]
    exact no (fun q => ct q.2.1) _ rfl
  rw [if_pos ct]
  refine rn_o (c_isSeat k w) (rn_bd (rn_bd ?_))
  dsimp only
  by_cases ck : inL 11 k ∧ inL 4 w
  rotate_left
  · rw [if_neg ck]
    exact rn_p rfl (no (fun q => ck q.2.2) _ rfl)
  rw [if_pos ck]
  refine rn_n (by decide) (rn_ck r.k0 (rn_c (c_playOver r ok c) ?_))
  rintro h' ⟨s, s1, q⟩
  refine rn_ck q.1.k0 (rn_o (f_bats q c t k w) (rn_bd (rn_bd (rn_s ⟨s, s1, ?_, q.pst _ _⟩))))
  unfold aBats
  rw [if_pos ⟨c, ct, ck⟩]
theorem c_fields (r : CRp x h lb ad cp A) (ok : BkOK A) (g t k w : Int32) : Rn (F_X11_fields x g t k w h) (fun q => ∃ s, TyNs s ∧ q.1 = aFields s g t k w A ∧ Pst x h 0 0 A q.2) := by
  unfold F_X11_fields F_X11_fields_30
  have no : ¬ (inL A.games g ∧ inL (A.pg g).turns t ∧ inL 11 k ∧ inL 4 w) → ∀ h', h' = h → Rn (some ((none : Option Int32), h')) (fun q => ∃ s, TyNs s ∧ q.1 = aFields s g t k w A ∧ Pst x h 0 0 A q.2) := fun n h' e => by
    subst e
    refine rn_s ⟨psOf (x + 129) h', tyN_ps _ _, ?_, r.same _ _⟩
    unfold aFields
    rw [if_neg n]
  refine rn_o (c_gameAt r g) (rn_bd (rn_bd ?_))
  dsimp only
  by_cases c : inL A.games g
  rotate_left
  · rw [if_neg c]
    exact no (fun q => c q.1) _ rfl
  rw [if_pos c]
  have G := r.gm c
  refine rn_ck G.1.1 (rn_o (g_turnAt G t) (rn_bd (rn_bd ?_)))
  dsimp only
  by_cases ct : inL (A.pg g).turns t
  rotate_left
  · rw [if_neg ct]
    exact no (fun q => ct q.2.1) _ rfl
  rw [if_pos ct]
  refine rn_o (c_isSeat k w) (rn_bd (rn_bd ?_))
  dsimp only
  by_cases ck : inL 11 k ∧ inL 4 w
  rotate_left
  · rw [if_neg ck]
    exact rn_p rfl (no (fun q => ck q.2.2) _ rfl)
  rw [if_pos ck]
  refine rn_n (by decide) (rn_ck r.k0 (rn_c (c_playOver r ok c) ?_))
  rintro h' ⟨s, s1, q⟩
  refine rn_ck q.1.k0 (rn_o (f_fields q c t k w) (rn_bd (rn_bd (rn_s ⟨s, s1, ?_, q.pst _ _⟩))))
  unfold aFields
  rw [if_pos ⟨c, ct, ck⟩]
def aOvers (s : Ps) (g t o w : Int32) (A : Bk) : Option Int32 := if inO A g t o ∧ inL 8 w then some (if w = 0 then (A.pg g).bow t o else if w = 1 then (A.pg g).siz t o else ((s.play (A.pg g)).ty t).ovf o w) else none
theorem c_overs (r : CRp x h lb ad cp A) (ok : BkOK A) (g t o w : Int32) : Rn (F_X11_overs x g t o w h) (fun q => ∃ s, TyNs s ∧ q.1 = aOvers s g t o w A ∧ Pst x h 0 0 A q.2) := by
  unfold F_X11_overs F_X11_overs_26
  have no : ¬ (inO A g t o ∧ inL 8 w) → ∀ h', h' = h → Rn (some ((none : Option Int32), h')) (fun q => ∃ s, TyNs s ∧ q.1 = aOvers s g t o w A ∧ Pst x h 0 0 A q.2) := fun n h' e => by
    subst e
    refine rn_s ⟨psOf (x + 129) h', tyN_ps _ _, ?_, r.same _ _⟩
    unfold aOvers
    rw [if_neg n]
  refine rn_o (c_overOf r g t o) (rn_bd (rn_bd ?_))
  dsimp only
  by_cases c : inO A g t o
  rotate_left
  · rw [if_neg c]
    exact no (fun q => c q.1) _ rfl
  rw [if_pos c]
  refine rn_i (fun c1 => no (fun q => absurd q.2.1 (Int32.not_le.mpr c1)) _ rfl) (fun c1 => rn_i (fun c2 => ?_) (fun c2 => no (fun q => c2 q.2.2) _ rfl))
  refine rn_ck r.k0 (rn_o (c_gameAt r g) (rn_bd (rn_bd (rn_ck r.k0 ?_))))
  dsimp only
  rw [if_pos c.1]
  refine rn_c (c_playOver r ok c.1) ?_
  rintro h' ⟨s, s1, q⟩
  have v := (q.1.ov c).1
  have yes : ∀ w', w' = (if w = 0 then (A.pg g).bow t o else if w = 1 then (A.pg g).siz t o else ((s.play (A.pg g)).ty t).ovf o w) → some w' = aOvers s g t o w A := fun w' e => by
    unfold aOvers
    rw [if_pos ⟨c, Int32.not_lt.mp c1, c2⟩, e]
  refine rn_i (fun w0 => rn_ck v.1 (rn_s ⟨s, s1, yes _ ?_, q.pst _ _⟩)) (fun w0 => rn_i (fun w1 => rn_ck v.1 (rn_s ⟨s, s1, yes _ ?_, q.pst _ _⟩)) (fun w1 => ?_))
  · rw [if_pos w0]; exact v.2.2.2.2.1
  · rw [if_neg w0, if_pos w1]; exact v.2.2.2.2.2.1
  · refine rn_ck q.1.k0 (rn_o q.1.fx.1.2.2.2.2.2.2.1 (rn_ck q.1.fx.2.2.2.2.2.1.1 (rn_o (c_tallyAt q.ps.1 t) (rn_bd (rn_bd (rn_o rfl (rn_ck (q.ps.KT t) (rn_o (c_ovf (q.ps.T t)) (rn_bd (rn_bd (rn_s ⟨s, s1, yes _ ?_, q.pst _ _⟩)))))))))))
    rw [if_neg w0, if_neg w1]
end Py
