/-! The Play's methods -/
section PM
variable {p : Nat} {h0 h : aH} {s : Ps}
theorem c_target (q : PSt p h0 h s) : F_X6_target p h = some (s.target, h) := by
  unfold F_X6_target Ps.target
  simp only [PSt.last q, c_tallyAt q.1, Option.bind_some, bd_e, ck_t (q.KT _), ck_t q.K, (q.T _).score, (q.T _).means]
  by_cases c1 : s.last ≤ 1
  · rw [if_pos c1, if_pos c1]
    by_cases c2 : (s.ty 1).means ≤ (s.ty 0).means
    · rw [if_pos c2, if_pos c2]
      by_cases c3 : (s.ty 0).means ≤ 0
      · rw [if_pos c3, if_pos c3]
      · rw [if_neg c3, if_neg c3, ck_t (show ¬ (s.ty 0).means = 0 from fun e => c3 (by rw [e]; decide))]
    · rw [if_neg c2, if_neg c2]
  · rw [if_neg c1, if_neg c1]
theorem c_findW (q : PSt p h0 h s) : GP p h0 (F_X6_findWinner p (ta p s.hand) h) s.findW := by
  unfold F_X6_findWinner Ps.findW
  simp only [PSt.last q, PSt.hand q, c_target q, Option.bind_some, bd_e, ck_t (q.KT _), ck_t q.K, (q.T _).score]
  by_cases c1 : s.hand = s.last
  · rw [if_pos c1, if_pos c1]
    by_cases c2 : 0 < s.target - (s.ty s.hand).score
    · rw [if_pos c2, if_pos c2]
      by_cases c3 : s.target - (s.ty s.hand).score = 1
      · rw [if_pos c3, if_pos c3]; exact gp_end (pst_won q _) rfl
      · rw [if_neg c3, if_neg c3]; exact gp_end (pst_won q _) rfl
    · rw [if_neg c2, if_neg c2]; exact gp_end (pst_won q _) rfl
  · rw [if_neg c1, if_neg c1]
    by_cases c2 : s.hand = 2
    · rw [if_pos c2, if_pos c2]
      by_cases c3 : 1 ≤ s.target
      · rw [if_pos c3, if_pos c3]; exact gp_end q rfl
      · rw [if_neg c3, if_neg c3]; exact gp_end (pst_won q _) rfl
    · rw [if_neg c2, if_neg c2]; exact gp_end q rfl
theorem c_end84 (q : PSt p h0 h s) {t : Int32} (e : s.hand = t) : GP p h0 (F_X6_endTurn_84 p (some (ta p t)) h) s.end84 := by
  subst e
  unfold F_X6_endTurn_84 Ps.end84
  simp only [Option.bind_some, ck_t (q.KT _), ck_t q.K, (q.T _).ended]
  by_cases c1 : (s.ty s.hand).ended = 0
  · rw [if_pos c1, if_pos c1]; exact gp_end q rfl
  · rw [if_neg c1, if_neg c1]
    exact gp_call (c_findW q) (fun h q => gp_end q rfl)
theorem st_ended {a : Nat} {h1 h2 : aH} {T : Ty} (S : St a h1 h2 T) (v : Int32) : St a h1 (sF h2 1010 a v) (T.sEnded v) := ⟨S.1.F (by decide), S.2.1.trans (frn_sF ⟨Nat.le_refl _, by omega⟩), by rw [← S.2.2]; exact tyOf_sF (k := 7) (by decide)⟩
theorem pst_end (q : PSt p h0 h s) (h1 : 0 ≤ s.hand) (h2 : s.hand < 4) (v : Int32) : PSt p h0 (sF h 1010 (ta p s.hand) v) (s.sEnd v) := pst_T q h1 h2 (st_ended (q.T s.hand) v)
theorem c_end39 (q : PSt p h0 h s) (h1 : 0 ≤ s.hand) (h2 : s.hand < 4) {c : Int32} : GP p h0 (F_X6_endTurn_39 p c (some (ta p s.hand)) h) (s.end39 c) := by
  unfold F_X6_endTurn_39 Ps.end39
  simp only [Option.bind_some, ck_t (q.KT _), ck_t q.K, (q.T _).outs, (q.T _).whole, (q.T _).allowed, bd_e]
  by_cases c1 : (s.ty s.hand).outs < 10
  · rw [if_pos c1, if_pos c1]
    by_cases c2 : c = 0
    · rw [if_pos c2, if_pos c2]
      by_cases c3 : (s.ty s.hand).whole < (s.ty s.hand).allowed
      · rw [if_pos c3, if_pos c3]; exact c_end84 q rfl
      · rw [if_neg c3, if_neg c3]; exact c_end84 (pst_end q h1 h2 2) rfl
    · rw [if_neg c2, if_neg c2]; exact c_end84 (pst_end q h1 h2 3) rfl
  · rw [if_neg c1, if_neg c1]; exact c_end84 (pst_end q h1 h2 1) rfl
theorem c_endT (q : PSt p h0 h s) (h1 : 0 ≤ s.hand) (h2 : s.hand < 4) {c : Int32} : GP p h0 (F_X6_endTurn p c h) (s.endT c) := by
  unfold F_X6_endTurn Ps.endT
  simp only [PSt.last q, PSt.hand q, c_tallyAt q.1, c_target q, Option.bind_some, bd_e, ck_t (q.KT _), ck_t q.K, (q.T _).score]
  by_cases c1 : s.hand = s.last
  · rw [if_pos c1, if_pos c1]
    by_cases c2 : (s.ty s.hand).score < s.target
    · rw [if_pos c2, if_pos c2]; exact c_end39 q h1 h2
    · rw [if_neg c2, if_neg c2]; exact c_end84 (pst_end q h1 h2 4) rfl
  · rw [if_neg c1, if_neg c1]; exact c_end39 q h1 h2
theorem c_ruleT (q : PSt p h0 h s) {t : Int32} : F_X6_ruleOfTurn p t h = some (s.ruleT t, h) := by
  unfold F_X6_ruleOfTurn F_X6_ruleOfTurn_19 Ps.ruleT
  simp only [PSt.last q, PSt.won q, c_tallyAt q.1, Option.bind_some, bd_e, ck_t (q.KT _), ck_t q.K, (q.T _).ended]
  have k : (if s.won = 0 then if t ≤ s.last then some ((0 : Int32), h) else some (2, h) else some (2, h)) = some (if s.won = 0 ∧ t ≤ s.last then 0 else 2, h) := by
    by_cases c1 : s.won = 0
    · rw [if_pos c1]
      by_cases c2 : t ≤ s.last
      · rw [if_pos c2, if_pos ⟨c1, c2⟩]
      · rw [if_neg c2, if_neg (fun z => c2 z.2)]
    · rw [if_neg c1, if_neg (fun z => c1 z.1)]
  rw [k]
  by_cases c1 : t ≤ 0
  · rw [if_pos c1, if_pos (Or.inl c1)]
  · rw [if_neg c1]
    by_cases c2 : (s.ty (t - 1)).ended = 0
    · rw [if_pos c2, if_neg (fun z => z.elim c1 (fun z => z c2))]
    · rw [if_neg c2, if_pos (Or.inr c2)]
theorem c_pruleO (q : PSt p h0 h s) {b : Int32} : F_X6_ruleOfOver p b h = some (s.ruleO b, h) := by
  unfold F_X6_ruleOfOver Ps.ruleO
  simp only [PSt.hand q, PSt.gov q, c_tallyAt q.1, Option.bind_some, bd_e, ck_t (q.KT _), ck_t q.K, c_ruleO (q.T _)]
theorem c_pruleE (q : PSt p h0 h s) {c : Int32} : F_X6_ruleOfEntry p c h = some (s.ruleE c, h) := by
  unfold F_X6_ruleOfEntry Ps.ruleE
  simp only [PSt.hand q, PSt.last q, c_tallyAt q.1, Option.bind_some, bd_e, ck_t (q.KT _), ck_t q.K, c_ruleE (q.T _)]
  by_cases c1 : s.last = 1
  · rw [if_pos c1, if_pos c1]
  · rw [if_neg c1, if_neg c1]
/-- the page as the class's methods tell it, whatever Play's own ints are -/
def PgF (h : aH) (ga : Nat) (g : Pg) (oa : Int32 → Int32 → Nat) : Prop :=
  hK h ga = 5 ∧ hF h 402 ga = g.ovs ∧ hF h 403 ga = g.each ∧ F_X3_turnCount ga h = some (g.turns, h) ∧ (∀ t, 0 ≤ t → t < g.turns → F_X3_overCountOf ga t h = some (g.many t, h)) ∧
  (∀ t o, 0 ≤ t → t < g.turns → 0 ≤ o → o < g.many t → F_X3_overAt ga t o h = some (some (oa t o), h) ∧ hK h (oa t o) = 7 ∧ hF h 601 (oa t o) = g.bow t o ∧ hF h 602 (oa t o) = g.siz t o ∧ ∀ i, 0 ≤ i → i < g.siz t o → F_X5_at (oa t o) i h = some (g.ent t o i, h))
def PgO (p : Nat) (h0 : aH) (ga : Nat) (g : Pg) (oa : Int32 → Int32 → Nat) : Prop := (∀ h, frn p 37 h0 h → PgF h ga g oa) ∧ g.turns ≤ 4 ∧ (∀ t, 0 ≤ t → t < g.turns → g.many t ≤ 130 ∧ ∀ o, 0 ≤ o → o < g.many t → g.siz t o ≤ 40 ∧ ¬ (p ≤ oa t o ∧ oa t o < p + 37))
theorem c_begT (q : PSt p h0 h s) {t : Int32} (h1 : 0 ≤ t) (h2 : t < 4) : GP p h0 (F_X6_beginTurn p t h) (s.begT t) := by
  unfold F_X6_beginTurn
  refine gp_hand q (fun h q => ?_)
  have e : hF h 703 p = s.last := (PSt.last q).trans rfl
  have k1 : GP p h0 (F_X6_beginTurn_23 p t 1 h) ((s.sHand t).sTy t ((s.ty t).begin (s.ty 0).allowed)) := by
    unfold F_X6_beginTurn_23
    refine gp_K q (gp_at q (gp_bd (gp_bd ?_)))
    dsimp only
    rw [if_neg (by decide)]
    refine gp_K q (gp_at q (gp_bd (gp_bd ?_)))
    refine gp_o rfl (gp_KT q (gp_o rfl (gp_KT q ?_)))
    rw [(q.T 0).allowed]
    exact gp_tally q h1 h2 (c_begin (q.T t)) (fun h q => gp_end q rfl)
  have k0 : GP p h0 (F_X6_beginTurn_23 p t 0 h) ((s.sHand t).sTy t ((s.ty t).begin s.gov)) := by
    unfold F_X6_beginTurn_23
    refine gp_K q (gp_at q (gp_bd (gp_bd ?_)))
    dsimp only
    rw [if_pos rfl]
    refine gp_K q (gp_o rfl (gp_KT q ?_))
    rw [PSt.gov q]
    exact gp_tally q h1 h2 (c_begin (q.T t)) (fun h q => gp_end q rfl)
  unfold F_X6_beginTurn_22 Ps.begT
  rw [e]
  by_cases c1 : t = 1
  · rw [if_pos c1]
    by_cases c2 : s.last = 1
    · rw [if_pos c2, if_pos ⟨c1, c2⟩]; exact k1
    · rw [if_neg c2, if_neg (fun z => c2 z.2)]; exact k0
  · rw [if_neg c1, if_neg (fun z => c1 z.1)]; exact k0
theorem c_stops (q : PSt p h0 h s) {r t o i : Int32} (hr : r ≠ 0) : ∃ h', F_X6_stops p r t o i h = some (1, h') ∧ PSt p h0 h' (s.stop r t o i) := by
  unfold F_X6_stops
  rw [if_neg hr]
  exact ⟨_, rfl, pst_be (pst_bo (pst_bt (pst_rule q r) t) o) i⟩
theorem c_stops0 {t o i : Int32} : F_X6_stops p 0 t o i h = some (0, h) := rfl
theorem c_start52 {ga : Nat} {g : Pg} {oa : Int32 → Int32 → Nat} (hg : PgO p h0 ga g oa) : ∀ n t, (g.turns.toInt - t.toInt).toNat < n → ∀ h s, 0 ≤ t → PSt p h0 h s → GP p h0 (F_X6_start_52 n p ga t h) (Ps.clr (g.turns.toInt - t.toInt).toNat t s) := by
  refine i32_up ?_ ?_
  · intro n t hc h s h1 q
    rw [sub_none hc]
    have f := hg.1 h q.2.1
    unfold F_X6_start_52
    refine gp_ck f.1 (gp_o f.2.2.2.1 (gp_bd (gp_bd ?_)))
    dsimp only
    rw [if_pos hc]
    exact gp_end q rfl
  · intro n t hc ih h s h1 q
    rw [sub_succ hc]
    have f := hg.1 h q.2.1
    unfold F_X6_start_52
    refine gp_ck f.1 (gp_o f.2.2.2.1 (gp_bd (gp_bd ?_)))
    dsimp only
    rw [if_neg (Int32.not_le.mpr hc)]
    refine gp_K q (gp_at q (gp_bd (gp_bd (gp_o rfl (gp_KT q ?_)))))
    refine gp_tally q h1 (Int32.lt_of_lt_of_le hc hg.2.1) (c_clear (q.T t)) (fun h q => gp_bd ?_)
    exact ih h _ (i32_ps h1 hc) q
theorem t4 {x : Int32} (h : x ≤ 4) : x.toInt ≤ 4 := Int32.le_iff_toInt_le.mp h
theorem c_start {ga : Nat} {g : Pg} {oa : Int32 → Int32 → Nat} (hg : PgO p h0 ga g oa) (q : PSt p h0 h s) : GP p h0 (F_X6_start p ga h) (s.start g) := by
  have f := hg.1 h q.2.1
  unfold F_X6_start
  refine gp_ck f.1 ?_
  rw [f.2.1]
  refine gp_gov q (fun h q => ?_)
  have f := hg.1 h q.2.1
  rw [f.2.2.1]
  refine gp_last q (fun h q => gp_hand q (fun h q => gp_won q (fun h q => gp_rule q (fun h q => gp_bt q (fun h q => gp_bo q (fun h q => gp_be q (fun h q => ?_)))))))
  have e0 : (0 : Int32).toInt = 0 := by decide
  have := t4 hg.2.1
  refine gp_eq (c_start52 hg fu 0 (by unfold fu; omega) h _ (by decide) q) ?_
  rw [e0, Int.sub_zero]
  rfl
end PM
