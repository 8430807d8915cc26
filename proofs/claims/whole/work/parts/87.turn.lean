/-! turn, over, ball on the class's side -/
section Tn
variable {x : Nat} {h : aH} {lb : Nat → Lab} {ad cp : Adr} {A : Bk}
/-- a call that is refused tells why -/
theorem CRp.why (r : CRp x h lb ad cp A) (v : Int32) : CRp x (sF h 1209 x v) lb ad cp (A.sI 4 v) ∧ Pst x h 0 0 (A.sI 4 v) (sF h 1209 x v) := by
  have F : frs (fun k => k = 0) x h (sF h 1209 x v) := frs_sF0 rfl (by decide)
  have fo : ∀ f, f ≠ 1209 → hF (sF h 1209 x v) f x = hF h f x := fun f n => if_neg (fun q => n q.1)
  have c : CRp x (sF h 1209 x v) lb ad cp (A.sI 4 v) := by
    refine ⟨r.fx.fs F (fun k hk => by omega), (r.pl.fs F (fun k hk => by omega)).cg rfl (fun g _ => ⟨rfl, rfl, rfl, rfl⟩), ?_, (r.hc.mv (F.c (by omega)) (fun k a b => F.c (by omega))).cg rfl (fun _ _ => rfl), (r.pc.mv (fo _ (by decide)) (psOf_cl (fun b b0 b1 => F.2 b (fun k hk e => by omega)))).cg (fun g hg => ⟨hg, rfl⟩), (r.rc.mv (fo _ (by decide)) (F.c (by omega))).cg rfl rfl rfl rfl rfl rfl rfl⟩
    obtain ⟨i1, i2, i3, i4, i5, i6, i7⟩ := r.ci
    have c1 := F.c (k := 1) (by omega)
    have c3 := F.c (k := 3) (by omega)
    have c4 := F.c (k := 4) (by omega)
    have c5 := F.c (k := 5) (by omega)
    have c6 := F.c (k := 6) (by omega)
    exact ⟨by rw [fo _ (by decide)]; exact i1, if_pos ⟨rfl, rfl⟩, by rw [c3.F]; exact i3, by rw [c5.F]; exact i4, fun i hi => by rw [c1.A]; exact i5 i hi, fun i hi => by rw [c4.A]; exact i6 i hi, fun i hi => by rw [c6.A]; exact i7 i hi⟩
  exact ⟨c, ⟨lb, ad, cp, c⟩, fun k k0 k1 => F.c (by omega), by rw [F.1.z]; omega, by rw [F.1.s]; omega⟩
/-- a call that is refused, behind what left the book as it was -/
theorem c_refused {h0 : aH} {c s : Nat} (r : CRp x h lb ad cp A) (v : Int32) (p : Pst x h0 c s A h) : Rn ((F_X11_refused x v h).bind fun q10 => bd q10.1 fun z9 => bd q10.2 fun h8 => (ck (z9 = 0 ∨ z9 = 1)).bind fun _ => some (z9, h8)) (fun q => q.1 = 0 ∧ Pst x h0 c s (A.sI 4 v) q.2) := by
  unfold F_X11_refused
  rw [bd_e, Option.bind_some]
  obtain ⟨w1, w2, w3, w4, w5⟩ := r.why v
  refine rn_bd (rn_bd (rn_ck (Or.inl rfl) (rn_s ⟨rfl, w2, fun k k0 k1 => (p.2.1 k k0 k1).trans (w3 k k0 k1), ?_, ?_⟩)))
  · have := p.2.2.1
    dsimp only
    omega
  · have := p.2.2.2
    dsimp only
    omega
/-- the end of a call that was done: the play is forgotten, no reason stands -/
theorem CRp.done {h1 h2 : aH} {B : Bk} {c s : Nat} (fx : FX x h1) (pl : PL x h1 lb ad cp B) (hc : HC x h1 B) (ci : CI x h1 B) (p2 : ∀ k, 173 ≤ k → k < 229 → cel h h1 (x + k)) (z : hz h1 ≤ hz h + c) (sl : hs h1 ≤ hs h + s) : Rn ((F_X11_done x h1).bind fun q29 => bd q29.1 fun z28 => bd q29.2 fun h27 => (ck (z28 = 0 ∨ z28 = 1)).bind fun _ => some (z28, h27)) (fun q => q.1 = 1 ∧ Pst x h c s (B.sI 4 0) q.2) := by
  unfold F_X11_done F_X11_forgetPlay
  rw [bd_e, bd_e, bd_e, Option.bind_some, Option.bind_some]
  have F0 : ∀ (hh : aH) (f : Nat) (v : Int32), f ≠ 500 ∧ f ≠ 501 → frs (fun k => k = 0) x hh (sF hh f x v) := fun hh f v hf => frs_sF0 rfl hf
  have F : frs (fun k => k = 0) x h1 (sF (sF (sF h1 1209 x 0) 1210 x (-1)) 1211 x 1) := ((F0 _ _ _ (by decide)).trans (F0 _ _ _ (by decide))).trans (F0 _ _ _ (by decide))
  have f9 : hF (sF (sF (sF h1 1209 x 0) 1210 x (-1)) 1211 x 1) 1209 x = 0 := by rw [rF_sF, if_neg (by omega), rF_sF, if_neg (by omega), rF_sF, if_pos ⟨rfl, rfl⟩]
  have f8 : hF (sF (sF (sF h1 1209 x 0) 1210 x (-1)) 1211 x 1) 1208 x = hF h1 1208 x := by rw [rF_sF, if_neg (by omega), rF_sF, if_neg (by omega), rF_sF, if_neg (by omega)]
  have f10 : hF (sF (sF (sF h1 1209 x 0) 1210 x (-1)) 1211 x 1) 1210 x = -1 := by rw [rF_sF, if_neg (by omega), rF_sF, if_pos ⟨rfl, rfl⟩]
  have f11 : hF (sF (sF (sF h1 1209 x 0) 1210 x (-1)) 1211 x 1) 1211 x = 1 := if_pos ⟨rfl, rfl⟩
  refine rn_bd (rn_bd (rn_ck (Or.inr rfl) (rn_s ⟨rfl, ⟨lb, ad, cp, fx.fs F (fun k hk => by omega), (pl.fs F (fun k hk => by omega)).cg rfl (fun g _ => ⟨rfl, rfl, rfl, rfl⟩), ?_, (hc.mv (F.c (by omega)) (fun k a b => F.c (by omega))).cg rfl (fun _ _ => rfl), PC.old f10, RC.old f11⟩, fun k k0 k1 => (p2 k k0 k1).trans (F.c (by omega)), z, sl⟩)))
  obtain ⟨i1, i2, i3, i4, i5, i6, i7⟩ := ci
  have c1 := F.c (k := 1) (by omega)
  have c3 := F.c (k := 3) (by omega)
  have c4 := F.c (k := 4) (by omega)
  have c5 := F.c (k := 5) (by omega)
  have c6 := F.c (k := 6) (by omega)
  exact ⟨f8.trans i1, f9, by rw [c3.F]; exact i3, by rw [c5.F]; exact i4, fun i hi => by rw [c1.A]; exact i5 i hi, fun i hi => by rw [c4.A]; exact i6 i hi, fun i hi => by rw [c6.A]; exact i7 i hi⟩
def tRule (S : Ps) (G : Pg) : Int32 := if S.rule = 0 then S.ruleT G.turns else S.rule
def aTurn (s : Ps) (g : Int32) (A : Bk) : Int32 × Bk := if inL A.games g then (if tRule (s.play (A.pg g)) (A.pg g) = 0 then (1, (A.chg g (A.pg g).addT).sI 4 0) else (0, A.sI 4 (tRule (s.play (A.pg g)) (A.pg g)))) else (0, A.sI 4 0)
theorem tRule_lt {s : Ps} {G : Pg} (ok : PgOK G) (e : tRule (s.play G) G = 0) : G.turns ≤ 2 * G.each - 1 ∧ G.turns < 4 ∧ (s.play G).rule = 0 ∧ (s.play G).ruleT G.turns = 0 := by
  unfold tRule at e
  by_cases c : (s.play G).rule = 0
  rotate_left
  · rw [if_neg c] at e
    exact absurd e c
  rw [if_pos c] at e
  have e0 := e
  unfold Ps.ruleT at e
  by_cases c1 : G.turns ≤ 0 ∨ ¬ ((s.play G).ty (G.turns - 1)).ended = 0
  rotate_left
  · rw [if_neg c1] at e
    exact absurd e (by decide)
  rw [if_pos c1] at e
  by_cases c2 : (s.play G).won = 0 ∧ G.turns ≤ (s.play G).last
  rotate_left
  · rw [if_neg c2] at e
    exact absurd e (by decide)
  have l := c2.2
  rw [play_last] at l
  refine ⟨l, ?_, c, e0⟩
  have : 2 * G.each - 1 < 4 := by rcases ok.1 with q | q <;> rw [q] <;> decide
  exact Int32.lt_of_le_of_lt l this
theorem PushQ.ci {h' : aH} {g kd t o : Int32} {j : Nat} (q : PushQ x h A g kd t o j h') (jl : j < 40) (r : CI x h A) : CI x h' A := by
  have F := q.1
  exact r.mv ⟨(F.2 x (fun k hk e => by omega)).F _, (F.2 x (fun k hk e => by omega)).F _⟩ (F.c (by omega)) (F.c (by omega)) (F.c (by omega)) (F.c (by omega)) (F.c (by omega))
theorem c_turn53 {h0 : aH} {s : Ps} {g : Int32} (q : PlQ x h0 lb ad cp A g s h) (ok : BkOK A) (c : inL A.games g) (cT : tRule (s.play (A.pg g)) (A.pg g) = 0) : Rn (F_X11_turn_53 x g (ad 1 g 0 0) 0 h) (fun w => w.1 = 1 ∧ Pst x h0 3 30 ((A.chg g (A.pg g).addT).sI 4 0) w.2) := by
  have r := q.1
  have G := r.gm c
  have og := ok.2.2.2.2.2.2.1 g c
  have tl := tRule_lt og.1 cT
  unfold F_X11_turn_53
  refine rn_p rfl (rn_ck r.k0 (rn_o r.fx.1.2.2.2.2.2.1 (rn_ck G.1.1 (rn_o (g_turnCount G) (rn_bd (rn_bd (rn_ck r.fx.2.2.2.2.1.1.1 ?_)))))))
  refine rn_c (c_push r.fx r.hc g 0 (A.pg g).turns (-1)) ?_
  rintro h12 ⟨j, jl, Q⟩
  have F := Q.1
  have fx12 := r.fx.fs F (fun k hk => by omega)
  have pl12 := r.pl.fs F (fun k hk => by omega)
  have G12 := pl12.2.2.2 g c.1 c.2
  refine rn_bd (rn_bd (rn_ck (if_pos rfl) ?_))
  refine rn_c (new_turn fx12.zE) (fun h19 w => ?_)
  have gk : hK h19 (ad 1 g 0 0) = 5 := by rw [(w.2.2.2.1 _ (by have := G12.2.2.2.1.1; omega)).K]; exact G12.1.1
  refine rn_ck gk (rn_c (gm_addT G12 w fx12.zE tl.2.1) ?_)
  rintro h23 ⟨lb', ad', cp', m1, m2, m3, -, -, m4, m5⟩
  have zx := fx12.2.2.2.2.2.2.2.2
  have lo : ∀ b, b < x + 229 → cel h12 h23 b := fun b hb => m2.1.2.2 b (by omega) (Or.inr (Or.inl (pl12.1 b hb)))
  have fx23 : FX x h23 := fx12.mv (fun b b0 b1 _ => (lo b (by omega)).scl) (fun b hb f => (lo b (by omega)).F f) (fx12.2.2.2.2.2.1.cl (fun b b0 b1 => lo b (by omega))) m2.1.2.1 m2.1.1
  refine rn_ck fx23.1.1 ?_
  have e12 : hz h12 = hz h0 := by rw [F.1.z, q.2.2.1.z]
  have s12 : hs h12 = hs h0 := by rw [F.1.s, q.2.2.1.s]
  refine CRp.done (h2 := h23) fx23 (B := A.chg g (A.pg g).addT) (lb := lb') (ad := ad') (cp := cp') ?_ ?_ ?_ ?_ (by omega) (by omega)
  · refine pl12.up (g := g) zx.2 (m2.1.wk (fun L hL => ?_)) (lo _ (by omega)) m2.2.1 m2.2.2 m3 (fun _ => ?_) rfl (fun g' n => ⟨rfl, rfl, rfl, if_neg n⟩)
    · rcases hL.2 with z | z
      · exact Or.inl z
      · exact Or.inr (Or.inr z)
    · rw [show (A.chg g (A.pg g).addT).pg g = (A.pg g).addT from if_pos rfl]
      exact m1
  · refine hc_done jl Q.2.1 Q.2.2.1 Q.2.2.2.1.1 Q.2.2.2.2 ?_ ?_ (lo _ (by omega)) (fun k _ _ => lo _ (by omega))
    · refine Or.inl ⟨Q.2.2.2.1.2.1, ?_, ?_⟩
      · show 0 < (A.pg g).turns + 1
        have := i32_succ tl.2.1
        have := Int32.le_iff_toInt_le.mp og.1.2.2.1.1
        have z : (0 : Int32).toInt = 0 := by decide
        exact Int32.lt_iff_toInt_lt.mpr (by omega)
      · rw [Q.2.2.2.1.2.2.1]
        exact pred1.symm
    · unfold capp
      rw [if_pos Q.2.2.2.1.2.1]
      refine ⟨rfl, rfl, pred1, fun t ht => ?_⟩
      have ht : inL ((A.pg g).turns + 1 - 1) t := ht
      rw [pred1] at ht
      have e : (A.pg g).addT.subT.many t = (A.pg g).many t := if_neg (lt_ne ht.2)
      exact ⟨e, fun o _ => ⟨rfl, rfl, fun _ _ => rfl⟩⟩
  · have ci12 := Q.ci jl r.ci
    exact ci12.mv ⟨(lo x (by omega)).F _, (lo x (by omega)).F _⟩ (lo _ (by omega)) (lo _ (by omega)) (lo _ (by omega)) (lo _ (by omega)) (lo _ (by omega))
  · intro k k0 k1
    exact ((q.2.2.2.1 _ (by omega) (by omega)).trans (F.c (by omega))).trans (lo _ (by omega))
theorem c_turn (r : CRp x h lb ad cp A) (ok : BkOK A) (g : Int32) : Rn (F_X11_turn x g h) (fun q => ∃ s, TyNs s ∧ q.1 = (aTurn s g A).1 ∧ Pst x h 3 30 (aTurn s g A).2 q.2) := by
  unfold F_X11_turn
  refine rn_o (c_gameAt r g) (rn_bd (rn_bd ?_))
  dsimp only
  by_cases c : inL A.games g
  rotate_left
  · rw [if_neg c]
    refine rn_ck r.k0 ((c_refused r 0 (r.same 3 30)).imp ?_)
    rintro q ⟨q1, q2⟩
    refine ⟨psOf (x + 129) h, tyN_ps _ _, ?_⟩
    unfold aTurn
    rw [if_neg c]
    exact ⟨q1, q2⟩
  rw [if_pos c]
  refine rn_ck r.k0 (rn_c (c_playOver r ok c) ?_)
  rintro h' ⟨s, s1, q⟩
  have G := q.1.gm c
  refine rn_ck q.1.k0 (rn_o q.1.fx.1.2.2.2.2.2.2.1 (rn_ck q.1.fx.2.2.2.2.2.1.1 ?_))
  rw [q.ps.rule]
  have main : ∀ v, v = tRule (s.play (A.pg g)) (A.pg g) → Rn (F_X11_turn_53 x g (ad 1 g 0 0) v h') (fun q => ∃ s, TyNs s ∧ q.1 = (aTurn s g A).1 ∧ Pst x h 3 30 (aTurn s g A).2 q.2) := by
    intro v hv
    by_cases c0 : v = 0
    · rw [c0]
      refine (c_turn53 q ok c (by rw [← hv]; exact c0)).imp ?_
      rintro w ⟨w1, w2⟩
      refine ⟨s, s1, ?_⟩
      unfold aTurn
      rw [if_pos c, if_pos (by rw [← hv]; exact c0)]
      exact ⟨w1, w2⟩
    · unfold F_X11_turn_53
      refine rn_n c0 (rn_ck q.1.k0 ((c_refused q.1 v (q.pst 3 30)).imp ?_))
      rintro w ⟨w1, w2⟩
      refine ⟨s, s1, ?_⟩
      unfold aTurn
      rw [if_pos c, if_neg (by rw [← hv]; exact c0), ← hv]
      exact ⟨w1, w2⟩
  refine rn_i (fun c1 => ?_) (fun c1 => ?_)
  · refine rn_o q.1.fx.1.2.2.2.2.2.2.1 (rn_ck G.1.1 (rn_o (g_turnCount G) (rn_bd (rn_bd (rn_ck q.1.fx.2.2.2.2.2.1.1 (rn_o (c_ruleT q.ps) (rn_bd (rn_bd (main _ ?_)))))))))
    unfold tRule
    rw [if_pos c1]
  · refine rn_o q.1.fx.1.2.2.2.2.2.2.1 (rn_ck q.1.fx.2.2.2.2.2.1.1 ?_)
    rw [q.ps.rule]
    refine main _ ?_
    unfold tRule
    rw [if_neg c1]
/-! over -/
def oRule (S : Ps) (G : Pg) (b : Int32) : Int32 := if S.rule = 0 then (if 0 < G.turns then S.ruleO b else 11) else S.rule
def aOver (s : Ps) (g b : Int32) (A : Bk) : Int32 × Bk := if inL A.games g then (if oRule (s.play (A.pg g)) (A.pg g) b = 0 then (1, (A.chg g ((A.pg g).addO ((A.pg g).turns - 1) b 0 (fun _ => 0))).sI 4 0) else (0, A.sI 4 (oRule (s.play (A.pg g)) (A.pg g) b))) else (0, A.sI 4 0)
theorem last_in {n : Int32} (h : 0 < n) : inL n (n - 1) := by
  have := i32_pred h
  have := Int32.lt_iff_toInt_lt.mp h
  have z : (0 : Int32).toInt = 0 := by decide
  exact ⟨Int32.le_iff_toInt_le.mpr (by omega), Int32.lt_iff_toInt_lt.mpr (by omega)⟩
theorem last_no {n : Int32} (h : 0 ≤ n) (c : ¬ 0 < n) : n = 0 := Int32.le_antisymm (Int32.not_lt.mp c) h
theorem c_over (r : CRp x h lb ad cp A) (ok : BkOK A) (g b : Int32) : Rn (F_X11_over x g b h) (fun q => ∃ s, TyNs s ∧ q.1 = (aOver s g b A).1 ∧ Pst x h 3 1500 (aOver s g b A).2 q.2) := by
  unfold F_X11_over
  refine rn_o (c_gameAt r g) (rn_bd (rn_bd ?_))
  dsimp only
  by_cases c : inL A.games g
  rotate_left
  · rw [if_neg c]
    refine rn_ck r.k0 ((c_refused r 0 (r.same 3 1500)).imp ?_)
    rintro q ⟨q1, q2⟩
    refine ⟨psOf (x + 129) h, tyN_ps _ _, ?_⟩
    unfold aOver
    rw [if_neg c]
    exact ⟨q1, q2⟩
  rw [if_pos c]
  have og := ok.2.2.2.2.2.2.1 g c
  refine rn_ck r.k0 (rn_c (c_playOver r ok c) ?_)
  rintro h' ⟨s, s1, q⟩
  have G := q.1.gm c
  have no : ∀ v, v = oRule (s.play (A.pg g)) (A.pg g) b → v ≠ 0 → Rn ((F_X11_refused x v h').bind fun q10 => bd q10.1 fun z9 => bd q10.2 fun h8 => (ck (z9 = 0 ∨ z9 = 1)).bind fun _ => some (z9, h8)) (fun q => ∃ s, TyNs s ∧ q.1 = (aOver s g b A).1 ∧ Pst x h 3 1500 (aOver s g b A).2 q.2) := by
    intro v hv v0
    refine (c_refused q.1 v (q.pst 3 1500)).imp ?_
    rintro w ⟨w1, w2⟩
    refine ⟨s, s1, ?_⟩
    unfold aOver
    rw [if_pos c, if_neg (by rw [← hv]; exact v0), ← hv]
    exact ⟨w1, w2⟩
  refine rn_ck q.1.k0 (rn_o q.1.fx.1.2.2.2.2.2.2.1 (rn_ck q.1.fx.2.2.2.2.2.1.1 ?_))
  rw [q.ps.rule]
  refine rn_i (fun c1 => ?_) (fun c1 => ?_)
  rotate_left
  · refine rn_o q.1.fx.1.2.2.2.2.2.2.1 (rn_ck q.1.fx.2.2.2.2.2.1.1 ?_)
    rw [q.ps.rule]
    refine no _ ?_ c1
    unfold oRule
    rw [if_neg c1]
  refine rn_ck G.1.1 (rn_o (g_turnCount G) (rn_bd (rn_bd (rn_ck G.1.1 (rn_o (g_turnAt G _) (rn_bd (rn_bd ?_)))))))
  dsimp only
  by_cases c2 : 0 < (A.pg g).turns
  rotate_left
  · have e0 := last_no og.1.2.2.1.1 c2
    rw [if_neg (fun z => by rw [e0] at z; exact absurd z.1 (by decide))]
    refine rn_ck q.1.k0 (no 11 ?_ (by decide))
    unfold oRule
    rw [if_pos c1, if_neg c2]
  have ct := last_in c2
  rw [if_pos ct]
  refine rn_ck q.1.k0 (rn_o q.1.fx.1.2.2.2.2.2.2.1 (rn_ck q.1.fx.2.2.2.2.2.1.1 (rn_o (c_pruleO q.ps) (rn_bd (rn_bd ?_)))))
  dsimp only
  have er : oRule (s.play (A.pg g)) (A.pg g) b = (s.play (A.pg g)).ruleO b := by
    unfold oRule
    rw [if_pos c1, if_pos c2]
  refine rn_i (fun c3 => ?_) (fun c3 => rn_ck q.1.k0 (no _ er.symm c3))
  have T := G.in_t ct
  have r' := q.1
  have mo := (og.1.2.2.2 _ ct.1 ct.2).1
  refine rn_ck r'.k0 (rn_o r'.fx.1.2.2.2.2.2.1 (rn_ck G.1.1 (rn_o (g_turnCount G) (rn_bd (rn_bd (rn_ck T.1.1 (rn_o (t_overCount T) (rn_bd (rn_bd (rn_ck r'.fx.2.2.2.2.1.1.1 ?_))))))))))
  refine rn_c (c_push r'.fx r'.hc g 1 ((A.pg g).turns - 1) ((A.pg g).many ((A.pg g).turns - 1))) ?_
  rintro h12 ⟨j, jl, Q⟩
  have F := Q.1
  have fx12 := r'.fx.fs F (fun k hk => by omega)
  have pl12 := r'.pl.fs F (fun k hk => by omega)
  have G12 := pl12.2.2.2 g c.1 c.2
  refine rn_bd (rn_bd (rn_ck (if_pos rfl) ?_))
  refine rn_c (new_over (b := b) (s := 0) (by decide)) (fun h19 w => ?_)
  have gk : hK h19 (ad 2 g ((A.pg g).turns - 1) 0) = 12 := by rw [(w.2.2.2.1 _ (by have := (G12.in_t ct).2.2.1.1; omega)).K]; exact (G12.in_t ct).1.1
  refine rn_ck gk (rn_c (gm_addO G12 w w.2.2.2.2 fx12.zE ct (Int32.lt_of_le_of_lt mo.2 (by decide))) ?_)
  rintro h23 ⟨lb', ad', cp', m1, m2, m3, m4, m5, m6, m7, m8, m9⟩
  have zx := fx12.2.2.2.2.2.2.2.2
  have lo : ∀ b, b < x + 229 → cel h12 h23 b := fun b hb => m2.1.2.2 b (by omega) (Or.inr (Or.inl (pl12.1 b hb)))
  have fx23 : FX x h23 := fx12.mv (fun b b0 b1 _ => (lo b (by omega)).scl) (fun b hb f => (lo b (by omega)).F f) (fx12.2.2.2.2.2.1.cl (fun b b0 b1 => lo b (by omega))) m2.1.2.1 m2.1.1
  refine rn_ck fx23.1.1 ?_
  have e12 : hz h12 = hz h := by rw [F.1.z, q.2.2.1.z]
  have s12 : hs h12 = hs h := by rw [F.1.s, q.2.2.1.s]
  have i0 : (fun i : Int32 => (0 : Int32)) = fun _ => 0 := rfl
  have cost : hs h23 ≤ hs h + 1500 := by
    have mm := Int32.le_iff_toInt_le.mp mo.2
    have z130 : (130 : Int32).toInt = 130 := by decide
    rcases m9 with z | z <;> omega
  refine (CRp.done (h := h) (h2 := h23) fx23 (B := A.chg g ((A.pg g).addO ((A.pg g).turns - 1) b 0 (fun _ => 0))) (lb := lb') (ad := ad') (cp := cp') (c := 3) (s := 1500) ?_ ?_ ?_ ?_ (by omega) cost).imp ?_
  · refine pl12.up (g := g) zx.2 (m2.1.wk (fun L hL => ?_)) (lo _ (by omega)) m2.2.1 m2.2.2 m4 (fun _ => ?_) rfl (fun g' n => ⟨rfl, rfl, rfl, if_neg n⟩)
    · rcases hL.2 with z | z
      · exact Or.inl z
      · exact Or.inr (Or.inr z)
    · rw [show (A.chg g ((A.pg g).addO ((A.pg g).turns - 1) b 0 (fun _ => 0))).pg g = (A.pg g).addO ((A.pg g).turns - 1) b 0 (fun _ => 0) from if_pos rfl]
      exact m1
  · refine hc_done jl Q.2.1 Q.2.2.1 Q.2.2.2.1.1 Q.2.2.2.2 ?_ ?_ (lo _ (by omega)) (fun k _ _ => lo _ (by omega))
    · refine Or.inr (Or.inl ⟨Q.2.2.2.1.2.1, by rw [Q.2.2.2.1.2.2.1]; exact ct, ?_⟩)
      rw [Q.2.2.2.1.2.2.1]
      show 0 < (if (A.pg g).turns - 1 = (A.pg g).turns - 1 then (A.pg g).many ((A.pg g).turns - 1) + 1 else _)
      rw [if_pos rfl]
      have := i32_succ (i := (A.pg g).many ((A.pg g).turns - 1)) (e := 131) (Int32.lt_of_le_of_lt mo.2 (by decide))
      have := Int32.le_iff_toInt_le.mp mo.1
      have z : (0 : Int32).toInt = 0 := by decide
      exact Int32.lt_iff_toInt_lt.mpr (by omega)
    · unfold capp
      rw [Q.2.2.2.1.2.1, if_neg (by decide), if_pos rfl, Q.2.2.2.1.2.2.1]
      have em : ∀ t, (((A.pg g).addO ((A.pg g).turns - 1) b 0 (fun _ => 0)).subO ((A.pg g).turns - 1)).many t = (A.pg g).many t := by
        intro t
        show (if t = (A.pg g).turns - 1 then (if (A.pg g).turns - 1 = (A.pg g).turns - 1 then (A.pg g).many ((A.pg g).turns - 1) + 1 else (A.pg g).many ((A.pg g).turns - 1)) - 1 else (if t = (A.pg g).turns - 1 then (A.pg g).many ((A.pg g).turns - 1) + 1 else (A.pg g).many t)) = _
        by_cases e : t = (A.pg g).turns - 1
        · rw [if_pos e, if_pos rfl, e]; exact pred1
        · rw [if_neg e, if_neg e]
      refine ⟨rfl, rfl, rfl, fun t ht => ⟨em t, fun o ho => ?_⟩⟩
      rw [em t] at ho
      have no : ¬ (t = (A.pg g).turns - 1 ∧ o = (A.pg g).many ((A.pg g).turns - 1)) := fun z => by
        have := ho.2
        rw [z.1, z.2] at this
        exact Int32.lt_irrefl this
      exact ⟨if_neg no, if_neg no, fun i _ => congrFun (show (if t = (A.pg g).turns - 1 ∧ o = (A.pg g).many ((A.pg g).turns - 1) then (fun _ => (0 : Int32)) else (A.pg g).ent t o) = (A.pg g).ent t o from if_neg no) i⟩
  · have ci12 := Q.ci jl r'.ci
    exact ci12.mv ⟨(lo x (by omega)).F _, (lo x (by omega)).F _⟩ (lo _ (by omega)) (lo _ (by omega)) (lo _ (by omega)) (lo _ (by omega)) (lo _ (by omega))
  · intro k k0 k1
    exact ((q.2.2.2.1 _ (by omega) (by omega)).trans (F.c (by omega))).trans (lo _ (by omega))
  · rintro w ⟨w1, w2⟩
    refine ⟨s, s1, ?_⟩
    unfold aOver
    rw [if_pos c, if_pos (by rw [er]; exact c3)]
    exact ⟨w1, w2⟩
/-! ball -/
def bRule (S : Ps) (G : Pg) (b : Int32) : Int32 := if S.rule = 0 then (if 0 < G.turns ∧ 0 < G.many (G.turns - 1) ∧ 0 ≤ G.siz (G.turns - 1) (G.many (G.turns - 1) - 1) then (if G.siz (G.turns - 1) (G.many (G.turns - 1) - 1) < 40 then S.ruleE (b &&& 255) else 12) else 11) else S.rule
def pBall (G : Pg) (b : Int32) : Pg := G.edit (G.turns - 1) (G.many (G.turns - 1) - 1) (G.bow (G.turns - 1) (G.many (G.turns - 1) - 1)) (G.siz (G.turns - 1) (G.many (G.turns - 1) - 1) + 1) (rIns (G.ent (G.turns - 1) (G.many (G.turns - 1) - 1)) (G.siz (G.turns - 1) (G.many (G.turns - 1) - 1)) (b &&& 255))
def aBall (s : Ps) (g b : Int32) (A : Bk) : Int32 × Bk := if inL A.games g then (if bRule (s.play (A.pg g)) (A.pg g) b = 0 then (1, (A.chg g (pBall (A.pg g) b)).sI 4 0) else (0, A.sI 4 (bRule (s.play (A.pg g)) (A.pg g) b))) else (0, A.sI 4 0)
theorem c_ball (r : CRp x h lb ad cp A) (ok : BkOK A) (g b : Int32) : Rn (F_X11_ball x g b h) (fun q => ∃ s, TyNs s ∧ q.1 = (aBall s g b A).1 ∧ Pst x h 0 0 (aBall s g b A).2 q.2) := by
  unfold F_X11_ball F_X11_ball_85 F_X5_isMissing F_X5_isFull
  refine rn_o (c_gameAt r g) (rn_bd (rn_bd ?_))
  dsimp only
  by_cases c : inL A.games g
  rotate_left
  · rw [if_neg c]
    refine rn_ck r.k0 ((c_refused r 0 (r.same 0 0)).imp ?_)
    rintro q ⟨q1, q2⟩
    refine ⟨psOf (x + 129) h, tyN_ps _ _, ?_⟩
    unfold aBall
    rw [if_neg c]
    exact ⟨q1, q2⟩
  rw [if_pos c]
  have og := ok.2.2.2.2.2.2.1 g c
  refine rn_ck r.k0 (rn_c (c_playOver r ok c) ?_)
  rintro h' ⟨s, s1, q⟩
  have r' := q.1
  have G := r'.gm c
  have no : ∀ v, v = bRule (s.play (A.pg g)) (A.pg g) b → v ≠ 0 → Rn ((F_X11_refused x v h').bind fun q10 => bd q10.1 fun z9 => bd q10.2 fun h8 => (ck (z9 = 0 ∨ z9 = 1)).bind fun _ => some (z9, h8)) (fun q => ∃ s, TyNs s ∧ q.1 = (aBall s g b A).1 ∧ Pst x h 0 0 (aBall s g b A).2 q.2) := by
    intro v hv v0
    refine (c_refused r' v (q.pst 0 0)).imp ?_
    rintro w ⟨w1, w2⟩
    refine ⟨s, s1, ?_⟩
    unfold aBall
    rw [if_pos c, if_neg (by rw [← hv]; exact v0), ← hv]
    exact ⟨w1, w2⟩
  refine rn_ck r'.k0 (rn_o r'.fx.1.2.2.2.2.2.2.1 (rn_ck r'.fx.2.2.2.2.2.1.1 ?_))
  rw [q.ps.rule]
  refine rn_i (fun c1 => ?_) (fun c1 => ?_)
  rotate_left
  · refine rn_o r'.fx.1.2.2.2.2.2.2.1 (rn_ck r'.fx.2.2.2.2.2.1.1 ?_)
    rw [q.ps.rule]
    refine no _ ?_ c1
    unfold bRule
    rw [if_neg c1]
  refine rn_ck G.1.1 (rn_o (g_turnCount G) (rn_bd (rn_bd (rn_bd (rn_ck G.1.1 (rn_o (g_overCountOf G _) (rn_bd (rn_bd (rn_bd (rn_ck G.1.1 (rn_o (g_overAt G _ _) (rn_bd (rn_bd ?_)))))))))))))
  dsimp only
  have n11 : ¬ (0 < (A.pg g).turns ∧ 0 < (A.pg g).many ((A.pg g).turns - 1) ∧ 0 ≤ (A.pg g).siz ((A.pg g).turns - 1) ((A.pg g).many ((A.pg g).turns - 1) - 1)) → Rn ((ck (hK h' x = 13)).bind fun _ => (F_X11_refused x 11 h').bind fun q5 => bd q5.1 fun z4 => bd q5.2 fun h3 => (ck (z4 = 0 ∨ z4 = 1)).bind fun _ => some (z4, h3)) (fun q => ∃ s, TyNs s ∧ q.1 = (aBall s g b A).1 ∧ Pst x h 0 0 (aBall s g b A).2 q.2) := by
    intro n
    refine rn_ck r'.k0 (no 11 ?_ (by decide))
    unfold bRule
    rw [if_pos c1, if_neg n]
  by_cases c2 : 0 < (A.pg g).turns
  rotate_left
  · have e0 := last_no og.1.2.2.1.1 c2
    rw [if_neg (show ¬ (inL (A.pg g).turns ((A.pg g).turns - 1) ∧ inL ((A.pg g).many ((A.pg g).turns - 1)) ((if inL (A.pg g).turns ((A.pg g).turns - 1) then (A.pg g).many ((A.pg g).turns - 1) else 0) - 1)) from fun z => by
      have := z.1
      rw [e0] at this
      exact absurd this.1 (by decide))]
    exact n11 (fun z => c2 z.1)
  have ct := last_in c2
  rw [if_pos ct]
  by_cases c3 : 0 < (A.pg g).many ((A.pg g).turns - 1)
  rotate_left
  · have e0 := last_no (og.1.2.2.2 _ ct.1 ct.2).1.1 c3
    rw [if_neg (show ¬ (inL (A.pg g).turns ((A.pg g).turns - 1) ∧ inL ((A.pg g).many ((A.pg g).turns - 1)) ((A.pg g).many ((A.pg g).turns - 1) - 1)) from fun z => by
      have := z.2
      rw [e0] at this
      exact absurd this.1 (by decide))]
    exact n11 (fun z => c3 z.2.1)
  have co := last_in c3
  rw [if_pos (show inL (A.pg g).turns ((A.pg g).turns - 1) ∧ inL ((A.pg g).many ((A.pg g).turns - 1)) ((A.pg g).many ((A.pg g).turns - 1) - 1) from ⟨ct, co⟩)]
  dsimp only
  have cO : inO A g ((A.pg g).turns - 1) ((A.pg g).many ((A.pg g).turns - 1) - 1) := ⟨c, ct, co⟩
  have v := (r'.ov cO).1
  refine rn_ck v.1 ?_
  rw [v.2.2.2.2.2.1]
  by_cases c4 : 0 ≤ (A.pg g).siz ((A.pg g).turns - 1) ((A.pg g).many ((A.pg g).turns - 1) - 1)
  rotate_left
  · rw [if_neg c4]
    exact rn_o rfl (rn_bd (rn_bd (rn_n (show ¬ (1 : Int32) = 0 by decide) (n11 (fun z => c4 z.2.2)))))
  rw [if_pos c4]
  refine rn_o rfl (rn_bd (rn_bd (rn_p rfl (rn_ck v.1 ?_))))
  dsimp only
  rw [v.2.2.2.2.2.1]
  by_cases c5 : (A.pg g).siz ((A.pg g).turns - 1) ((A.pg g).many ((A.pg g).turns - 1) - 1) < 40
  rotate_left
  · rw [if_neg c5]
    refine rn_o rfl (rn_bd (rn_bd (rn_n (show ¬ (1 : Int32) = 0 by decide) (rn_ck r'.k0 (no 12 ?_ (by decide))))))
    unfold bRule
    rw [if_pos c1, if_pos ⟨c2, c3, c4⟩, if_neg c5]
  rw [if_pos c5]
  have er : bRule (s.play (A.pg g)) (A.pg g) b = (s.play (A.pg g)).ruleE (b &&& 255) := by
    unfold bRule
    rw [if_pos c1, if_pos ⟨c2, c3, c4⟩, if_pos c5]
  refine rn_o rfl (rn_bd (rn_bd (rn_p rfl (rn_ck r'.k0 (rn_o r'.fx.1.2.2.2.2.2.2.1 (rn_ck r'.fx.2.2.2.2.2.1.1 (rn_o (c_pruleE q.ps) (rn_bd (rn_bd ?_)))))))))
  dsimp only
  refine rn_i (fun c6 => ?_) (fun c6 => rn_ck r'.k0 (no _ er.symm c6))
  refine rn_ck r'.k0 (rn_c (c_keep r' ok cO) (fun h1 K => ?_))
  have v1 := K.ov r' cO
  refine rn_ck v1.1 ?_
  rw [v1.2.2.2.2.2.1]
  refine rn_c (o_insert v1 c4 c5 (b &&& 255) c4 (Int32.le_refl _)) (fun h2 w => ?_)
  obtain ⟨a1, a2, a3, a4⟩ := c_edit r' ok cO K w.1 w.2
  refine rn_ck a1.k0 ?_
  refine (CRp.done (h := h) (h2 := h2) a1.fx a1.pl a1.hc a1.ci (c := 0) (s := 0) (fun k k0 k1 => (q.2.2.2.1 _ (by omega) (by omega)).trans (a2 k k0 k1)) (by rw [a3, q.2.2.1.z]; omega) (by rw [a4, q.2.2.1.s]; omega)).imp ?_
  rintro w ⟨w1, w2⟩
  refine ⟨s, s1, ?_⟩
  unfold aBall
  rw [if_pos c, if_pos (by rw [er]; exact c6)]
  exact ⟨w1, w2⟩
end Tn
