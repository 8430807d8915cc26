/-! The Play goes over a page -/
theorem Ps.findW_k (s : Ps) : s.findW.rule = s.rule ∧ s.findW.hand = s.hand ∧ s.findW.last = s.last ∧ s.findW.gov = s.gov ∧ s.findW.ty = s.ty ∧ s.findW.bt = s.bt ∧ s.findW.bo = s.bo ∧ s.findW.be = s.be := by
  unfold Ps.findW
  repeat' split
  all_goals exact ⟨rfl, rfl, rfl, rfl, rfl, rfl, rfl, rfl⟩
theorem Ps.end84_k (s : Ps) : s.end84.rule = s.rule ∧ s.end84.hand = s.hand ∧ s.end84.last = s.last ∧ s.end84.gov = s.gov ∧ s.end84.ty = s.ty ∧ s.end84.bt = s.bt ∧ s.end84.bo = s.bo ∧ s.end84.be = s.be := by
  unfold Ps.end84
  split
  · exact ⟨rfl, rfl, rfl, rfl, rfl, rfl, rfl, rfl⟩
  · exact Ps.findW_k s
theorem Ps.endT_k (c : Int32) (s : Ps) : (s.endT c).rule = s.rule ∧ (s.endT c).hand = s.hand ∧ (s.endT c).last = s.last ∧ (s.endT c).gov = s.gov := by
  unfold Ps.endT Ps.end39
  repeat' split
  all_goals exact ⟨(Ps.end84_k _).1, (Ps.end84_k _).2.1, (Ps.end84_k _).2.2.1, (Ps.end84_k _).2.2.2.1⟩
theorem plE_k {g : Pg} {t o : Int32} : ∀ n i (s : Ps), (Ps.plE g t o n i s).hand = s.hand ∧ (Ps.plE g t o n i s).last = s.last ∧ (Ps.plE g t o n i s).gov = s.gov
  | 0, _, _ => ⟨rfl, rfl, rfl⟩
  | n + 1, i, s => by
    unfold Ps.plE
    split
    · have := plE_k (g := g) (t := t) (o := o) n (i + 1) (Ps.endT (if g.ent t o i / 16 = 9 then 1 else 0) (s.sTy t ((s.ty t).ent (g.ent t o i))))
      have k := Ps.endT_k (if g.ent t o i / 16 = 9 then 1 else 0) (s.sTy t ((s.ty t).ent (g.ent t o i)))
      exact ⟨this.1.trans k.2.1, this.2.1.trans k.2.2.1, this.2.2.trans k.2.2.2⟩
    · exact ⟨rfl, rfl, rfl⟩
theorem plE_hand {g : Pg} {t o : Int32} (n : Nat) (i : Int32) (s : Ps) (u : Int32) (e : s.hand = u) : (Ps.plE g t o n i s).hand = u := (plE_k n i s).1.trans e
section RP
variable {p : Nat} {h0 : aH} {ga : Nat} {g : Pg} {oa : Int32 → Int32 → Nat}
theorem c_98 (hg : PgO p h0 ga g oa) {t o : Int32} (t1 : 0 ≤ t) (t2 : t < g.turns) (o1 : 0 ≤ o) (o2 : o < g.many t) {k7 : Nat → Nat → Int32 → aH → Option aH} {k38 : Nat → Nat → Int32 → Int32 → aH → Option aH} {s' : Ps} : ∀ n i, ((g.siz t o).toInt - i.toInt).toNat < n → ∀ h s, 0 ≤ i → PSt p h0 h s → s.rule = 0 → s.hand = t →
    ((Ps.plE g t o ((g.siz t o).toInt - i.toInt).toNat i s).rule = 0 → ∀ h1, PSt p h0 h1 (Ps.plE g t o ((g.siz t o).toInt - i.toInt).toNat i s) → GP p h0 (k38 p ga t (o + 1) h1) s') →
    ((Ps.plE g t o ((g.siz t o).toInt - i.toInt).toNat i s).rule ≠ 0 → Ps.plE g t o ((g.siz t o).toInt - i.toInt).toNat i s = s') → GP p h0 (F_X6_replay_98 k7 k38 n p ga t o (oa t o) i h) s' := by
  have t4 : t < 4 := Int32.lt_of_lt_of_le t2 hg.2.1
  refine i32_up ?_ ?_
  · intro n i hc h s h1 q hr hh H1 H2
    rw [sub_none hc] at H1 H2
    have f := (hg.1 h q.2.1).2.2.2.2.2 t o t1 t2 o1 o2
    unfold F_X6_replay_98
    refine gp_ck f.2.1 ?_
    rw [f.2.2.2.1, if_pos hc]
    exact gp_bd (H1 hr h q)
  · intro n i hc ih h s h1 q hr hh H1 H2
    rw [sub_succ hc] at H1 H2
    unfold Ps.plE at H1 H2
    have f := (hg.1 h q.2.1).2.2.2.2.2 t o t1 t2 o1 o2
    have a1 := f.2.2.2.2 i h1 hc
    unfold F_X6_replay_98
    refine gp_ck f.2.1 ?_
    rw [f.2.2.2.1, if_neg (Int32.not_le.mpr hc)]
    refine gp_o a1 (gp_bd (gp_bd ?_))
    refine gp_K q (gp_o (c_pruleE q) (gp_bd (gp_bd (gp_K q ?_))))
    dsimp only
    by_cases c1 : s.ruleE (g.ent t o i) = 0
    · rw [if_pos c1] at H1 H2
      rw [c1]
      refine gp_o c_stops0 (gp_bd (gp_bd ?_))
      dsimp only
      rw [if_pos rfl]
      refine gp_K q (gp_at q (gp_bd (gp_bd (gp_ck f.2.1 (gp_o a1 (gp_bd (gp_bd (gp_o rfl (gp_KT q ?_)))))))))
      dsimp only
      refine gp_tally q t1 t4 (c_ent (q.T t)) (fun h q => ?_)
      have f := (hg.1 h q.2.1).2.2.2.2.2 t o t1 t2 o1 o2
      have a1 := f.2.2.2.2 i h1 hc
      refine gp_ck f.2.1 (gp_o a1 (gp_bd (gp_bd ?_)))
      dsimp only
      have hh' : ((s.sTy t ((s.ty t).ent (g.ent t o i))).hand) = t := hh
      by_cases c2 : g.ent t o i / 16 = 9
      · rw [if_pos c2] at H1 H2
        rw [if_pos c2]
        refine gp_K q (gp_call (c_endT q (by rw [hh']; exact t1) (by rw [hh']; exact t4)) (fun h q => gp_bd ?_))
        exact ih h _ (i32_ps h1 hc) q ((Ps.endT_k _ _).1.trans hr) ((Ps.endT_k _ _).2.1.trans hh) H1 H2
      · rw [if_neg c2] at H1 H2
        rw [if_neg c2]
        refine gp_K q (gp_call (c_endT q (by rw [hh']; exact t1) (by rw [hh']; exact t4)) (fun h q => gp_bd ?_))
        exact ih h _ (i32_ps h1 hc) q ((Ps.endT_k _ _).1.trans hr) ((Ps.endT_k _ _).2.1.trans hh) H1 H2
    · rw [if_neg c1] at H1 H2
      obtain ⟨h2, e2, q2⟩ := c_stops q (r := s.ruleE (g.ent t o i)) (t := t) (o := o) (i := i) c1
      refine gp_o e2 (gp_bd (gp_bd ?_))
      dsimp only
      rw [if_neg (by decide)]
      exact gp_end q2 (H2 c1)
theorem c_38 (hg : PgO p h0 ga g oa) {t : Int32} (t1 : 0 ≤ t) (t2 : t < g.turns) {k7 : Nat → Nat → Int32 → aH → Option aH} {s' : Ps} : ∀ n o, ((g.many t).toInt - o.toInt).toNat < n → ∀ h s, 0 ≤ o → PSt p h0 h s → s.rule = 0 → s.hand = t →
    ((Ps.plO g t ((g.many t).toInt - o.toInt).toNat o s).rule = 0 → ∀ h1, PSt p h0 h1 (Ps.plO g t ((g.many t).toInt - o.toInt).toNat o s) → GP p h0 (k7 p ga (t + 1) h1) s') →
    ((Ps.plO g t ((g.many t).toInt - o.toInt).toNat o s).rule ≠ 0 → Ps.plO g t ((g.many t).toInt - o.toInt).toNat o s = s') → GP p h0 (F_X6_replay_38 k7 n p ga t o h) s' := by
  have t4 : t < 4 := Int32.lt_of_lt_of_le t2 hg.2.1
  refine i32_up ?_ ?_
  · intro n o hc h s h1 q hr hh H1 H2
    rw [sub_none hc] at H1 H2
    have f := hg.1 h q.2.1
    unfold F_X6_replay_38
    refine gp_ck f.1 (gp_o (f.2.2.2.2.1 t t1 t2) (gp_bd (gp_bd ?_)))
    dsimp only
    rw [if_pos hc]
    exact gp_bd (H1 hr h q)
  · intro n o hc ih h s h1 q hr hh H1 H2
    rw [sub_succ hc] at H1 H2
    unfold Ps.plO at H1 H2
    have f := hg.1 h q.2.1
    have fo := f.2.2.2.2.2 t o t1 t2 h1 hc
    have so := ((hg.2.2 t t1 t2).2 o h1 hc)
    unfold F_X6_replay_38
    refine gp_ck f.1 (gp_o (f.2.2.2.2.1 t t1 t2) (gp_bd (gp_bd ?_)))
    dsimp only
    rw [if_neg (Int32.not_le.mpr hc)]
    refine gp_ck f.1 (gp_o fo.1 (gp_bd (gp_bd ?_)))
    dsimp only
    refine gp_ck fo.2.1 (gp_K q ?_)
    rw [fo.2.2.1]
    refine gp_o (c_pruleO q) (gp_bd (gp_bd (gp_K q ?_)))
    dsimp only
    by_cases c1 : s.ruleO (g.bow t o) = 0
    · rw [if_pos c1] at H1 H2
      rw [c1]
      refine gp_o c_stops0 (gp_bd (gp_bd ?_))
      dsimp only
      rw [if_pos rfl]
      refine gp_K q (gp_at q (gp_bd (gp_bd (gp_o rfl (gp_KT q ?_)))))
      dsimp only
      have hin := ta_in p t
      refine gp_tally q t1 t4 (c_begO (q.T t) (fun z => so.2 ⟨by omega, by omega⟩) fo.2.1 fo.2.2.1 fo.2.2.2.1) (fun h q => gp_K q ?_)
      have hh' : ((s.sTy t ((s.ty t).begO (g.bow t o) (g.siz t o))).hand) = t := hh
      refine gp_call (c_endT q (by rw [hh']; exact t1) (by rw [hh']; exact t4)) (fun h q => ?_)
      have e0 : (0 : Int32).toInt = 0 := by decide
      have hs : (g.siz t o).toInt ≤ 40 := Int32.le_iff_toInt_le.mp so.1
      refine c_98 hg t1 t2 h1 hc fu 0 (by unfold fu; omega) h _ (by decide) q ((Ps.endT_k _ _).1.trans hr) ((Ps.endT_k _ _).2.1.trans hh) ?_ ?_
      · rw [e0, Int.sub_zero]
        intro hz hx qx
        rw [if_pos (show (Ps.plE g t o (g.siz t o).toInt.toNat 0 (s.begO g t o)).rule = 0 from hz)] at H1 H2
        refine ih hx _ (i32_ps h1 hc) qx hz ?_ H1 H2
        exact plE_hand _ _ _ _ ((Ps.endT_k _ _).2.1.trans hh)
      · rw [e0, Int.sub_zero]
        intro hz
        rw [if_neg (show ¬ (Ps.plE g t o (g.siz t o).toInt.toNat 0 (s.begO g t o)).rule = 0 from hz)] at H2
        exact H2 hz
    · rw [if_neg c1] at H1 H2
      obtain ⟨h2, e2, q2⟩ := c_stops q (r := s.ruleO (g.bow t o)) (t := t) (o := o) (i := -1) c1
      refine gp_o e2 (gp_bd (gp_bd ?_))
      dsimp only
      rw [if_neg (by decide)]
      exact gp_end q2 (H2 c1)
theorem c_7 (hg : PgO p h0 ga g oa) {s' : Ps} : ∀ n t, (g.turns.toInt - t.toInt).toNat < n → ∀ h s, 0 ≤ t → PSt p h0 h s → s.rule = 0 → Ps.plT g (g.turns.toInt - t.toInt).toNat t s = s' → GP p h0 (F_X6_replay_7 n p ga t h) s' := by
  refine i32_up ?_ ?_
  · intro n t hc h s h1 q hr H
    rw [sub_none hc] at H
    have f := hg.1 h q.2.1
    unfold F_X6_replay_7
    refine gp_ck f.1 (gp_o f.2.2.2.1 (gp_bd (gp_bd ?_)))
    dsimp only
    rw [if_pos hc]
    exact gp_end q H
  · intro n t hc ih h s h1 q hr H
    rw [sub_succ hc] at H
    unfold Ps.plT at H
    have f := hg.1 h q.2.1
    have t4 : t < 4 := Int32.lt_of_lt_of_le hc hg.2.1
    unfold F_X6_replay_7
    refine gp_ck f.1 (gp_o f.2.2.2.1 (gp_bd (gp_bd ?_)))
    dsimp only
    rw [if_neg (Int32.not_le.mpr hc)]
    refine gp_K q (gp_o (c_ruleT q) (gp_bd (gp_bd (gp_K q ?_))))
    dsimp only
    by_cases c1 : s.ruleT t = 0
    · rw [if_pos c1] at H
      rw [c1]
      refine gp_o c_stops0 (gp_bd (gp_bd ?_))
      dsimp only
      rw [if_pos rfl]
      refine gp_K q (gp_call (c_begT q h1 t4) (fun h q => ?_))
      have e0 : (0 : Int32).toInt = 0 := by decide
      have hm : (g.many t).toInt ≤ 130 := Int32.le_iff_toInt_le.mp (hg.2.2 t h1 hc).1
      refine c_38 hg h1 hc fu 0 (by unfold fu; omega) h _ (by decide) q hr rfl ?_ ?_
      · rw [e0, Int.sub_zero]
        intro hz hx qx
        rw [if_pos hz] at H
        exact ih hx _ (i32_ps h1 hc) qx hz H
      · rw [e0, Int.sub_zero]
        intro hz
        rw [if_neg hz] at H
        exact H
    · rw [if_neg c1] at H
      obtain ⟨h2, e2, q2⟩ := c_stops q (r := s.ruleT t) (t := t) (o := -1) (i := -1) c1
      refine gp_o e2 (gp_bd (gp_bd ?_))
      dsimp only
      rw [if_neg (by decide)]
      exact gp_end q2 H
theorem clr_k : ∀ n t (s : Ps), (Ps.clr n t s).rule = s.rule ∧ (Ps.clr n t s).hand = s.hand ∧ (Ps.clr n t s).last = s.last ∧ (Ps.clr n t s).gov = s.gov ∧ (Ps.clr n t s).won = s.won ∧ (Ps.clr n t s).bt = s.bt ∧ (Ps.clr n t s).bo = s.bo ∧ (Ps.clr n t s).be = s.be
  | 0, _, _ => ⟨rfl, rfl, rfl, rfl, rfl, rfl, rfl, rfl⟩
  | n + 1, t, s => by unfold Ps.clr; exact clr_k n (t + 1) _
theorem c_replay (hg : PgO p h0 ga g oa) {h : aH} {s : Ps} (q : PSt p h0 h s) : GP p h0 (F_X6_replay p ga h) (s.play g) := by
  unfold F_X6_replay
  refine gp_call (c_start hg q) (fun h q => ?_)
  have e0 : (0 : Int32).toInt = 0 := by decide
  have := t4 hg.2.1
  refine c_7 hg fu 0 (by unfold fu; omega) h _ (by decide) q (clr_k _ _ _).1 ?_
  rw [e0, Int.sub_zero]
  rfl
end RP
