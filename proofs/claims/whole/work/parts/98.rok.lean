/-! What is read is a page that may be -/
theorem addT_ok {G : Pg} (ok : PgOK G) (h : G.turns < 2 * G.each) : PgOK G.addT := by
  obtain ⟨o1, o2, o3, o4⟩ := ok
  have e4 : 2 * G.each ≤ 4 := by rcases o1 with q | q <;> rw [q] <;> decide
  have s := i32_succ h
  have h' := Int32.lt_iff_toInt_lt.mp h
  have z : (0 : Int32).toInt = 0 := by decide
  have o3' := Int32.le_iff_toInt_le.mp o3.1
  refine ⟨o1, o2, ⟨Int32.le_iff_toInt_le.mpr (by show _ ≤ (G.turns + 1).toInt; omega), Int32.le_iff_toInt_le.mpr (by show (G.turns + 1).toInt ≤ (2 * G.each).toInt; omega)⟩, fun t t0 t1 => ?_⟩
  have t1 : t < G.turns + 1 := t1
  show (0 ≤ (if t = G.turns then (0 : Int32) else G.many t) ∧ (if t = G.turns then (0 : Int32) else G.many t) ≤ 130) ∧ ∀ o, 0 ≤ o → o < (if t = G.turns then (0 : Int32) else G.many t) → _
  by_cases e : t = G.turns
  · rw [if_pos e]
    exact ⟨⟨by decide, by decide⟩, fun o a b => absurd a (Int32.not_le.mpr b)⟩
  · rw [if_neg e]
    exact o4 t t0 (((i32_ls h).mp t1).resolve_right e)
theorem addO_ok {G : Pg} (ok : PgOK G) {t b s : Int32} {e : Int32 → Int32} (ct : inL G.turns t) (hm : G.many t < 130) (hb : 0 ≤ b ∧ b ≤ 15) (hs : -1 ≤ s ∧ s ≤ 40) (he : ∀ i, 0 ≤ i → i < s → 0 ≤ e i ∧ e i ≤ 255) : PgOK (G.addO t b s e) := by
  obtain ⟨o1, o2, o3, o4⟩ := ok
  refine ⟨o1, o2, o3, fun t' t0 t1 => ?_⟩
  have t1 : t' < G.turns := t1
  obtain ⟨y1, y2⟩ := o4 t' t0 t1
  show (0 ≤ (if t' = t then G.many t + 1 else G.many t') ∧ (if t' = t then G.many t + 1 else G.many t') ≤ 130) ∧ ∀ o, 0 ≤ o → o < (if t' = t then G.many t + 1 else G.many t') → (0 ≤ (if t' = t ∧ o = G.many t then b else G.bow t' o) ∧ (if t' = t ∧ o = G.many t then b else G.bow t' o) ≤ 15) ∧ (-1 ≤ (if t' = t ∧ o = G.many t then s else G.siz t' o) ∧ (if t' = t ∧ o = G.many t then s else G.siz t' o) ≤ 40) ∧ ∀ i, 0 ≤ i → i < (if t' = t ∧ o = G.many t then s else G.siz t' o) → 0 ≤ (if t' = t ∧ o = G.many t then e else G.ent t' o) i ∧ (if t' = t ∧ o = G.many t then e else G.ent t' o) i ≤ 255
  have ms := i32_succ hm
  have hm' := Int32.lt_iff_toInt_lt.mp hm
  have z : (0 : Int32).toInt = 0 := by decide
  by_cases c : t' = t
  · subst c
    have y1' := Int32.le_iff_toInt_le.mp y1.1
    rw [if_pos rfl]
    refine ⟨⟨Int32.le_iff_toInt_le.mpr (by omega), Int32.le_iff_toInt_le.mpr (by omega)⟩, fun o p0 p1 => ?_⟩
    by_cases c2 : o = G.many t'
    · rw [if_pos ⟨rfl, c2⟩, if_pos ⟨rfl, c2⟩, if_pos ⟨rfl, c2⟩]
      exact ⟨hb, hs, he⟩
    · rw [if_neg (fun q => c2 q.2), if_neg (fun q => c2 q.2), if_neg (fun q => c2 q.2)]
      exact y2 o p0 (((i32_ls hm).mp p1).resolve_right c2)
  · rw [if_neg c]
    refine ⟨y1, fun o p0 p1 => ?_⟩
    rw [if_neg (fun q => c q.1), if_neg (fun q => c q.1), if_neg (fun q => c q.1)]
    exact y2 o p0 p1
theorem rEnts_ok (f : Int32 → Int32) {e : Int32} : ∀ (n : Nat) (i : Int32) (s : Rh × Int32 × (Int32 → Int32)), 0 ≤ i → i.toInt + n ≤ 40 → (0 < n → s.2.1 = i) → (-1 ≤ s.2.1 ∧ s.2.1 ≤ 40) → (∀ j, 0 ≤ j → j < s.2.1 → 0 ≤ s.2.2 j ∧ s.2.2 j ≤ 255) → (-1 ≤ (rEnts f e n i s).2.1 ∧ (rEnts f e n i s).2.1 ≤ 40) ∧ ∀ j, 0 ≤ j → j < (rEnts f e n i s).2.1 → 0 ≤ (rEnts f e n i s).2.2 j ∧ (rEnts f e n i s).2.2 j ≤ 255 := by
  intro n
  induction n with
  | zero => exact fun i s _ _ _ a b => ⟨a, b⟩
  | succ n ih =>
    intro i s i0 hi hs sb sv
    unfold rEnts
    by_cases c : s.1.2 = 0
    · rw [if_pos c]
      have si := hs (by omega)
      have l0 := (rNext_lo (f := f) (e := e) (lo := 0) (hi := 255) (r := s.1)).1
      have l1 := rNext_hi (f := f) (e := e) (lo := 0) (hi := 255) (r := s.1) (by decide)
      generalize rNext f e 0 255 s.1 = u at *
      have i40 : i < 40 := Int32.lt_iff_toInt_lt.mpr (by have : (40 : Int32).toInt = 40 := by decide
                                                         omega)
      have is := i32_succ i40
      have i0' := Int32.le_iff_toInt_le.mp i0
      have z : (0 : Int32).toInt = 0 := by decide
      have m1 : (-1 : Int32).toInt = -1 := by decide
      have z40 : (40 : Int32).toInt = 40 := by decide
      refine ih (i + 1) (u.2, i + 1, rIns s.2.2 i u.1) (i32_ps i0 i40) (by omega) (fun _ => rfl) ⟨Int32.le_iff_toInt_le.mpr (by show _ ≤ (i + 1).toInt; omega), Int32.le_iff_toInt_le.mpr (by show (i + 1).toInt ≤ _; omega)⟩ ?_
      intro j j0 j1
      have j1 : j < i + 1 := j1
      show 0 ≤ rIns s.2.2 i u.1 j ∧ rIns s.2.2 i u.1 j ≤ 255
      unfold rIns
      rcases (i32_ls i40).mp j1 with y | y
      · rw [if_pos y]
        exact sv j j0 (by rw [si]; exact y)
      · rw [if_neg (fun q => lt_ne q y), if_pos y]
        exact ⟨l0, l1⟩
    · rw [if_neg c]
      exact ⟨sb, sv⟩
theorem rOvE_e (f : Int32 → Int32) (e : Int32) (r : Rh) : rOvE f e r = rEnts f e ((rOvS f e r).1 - 1).toInt.toNat 0 ((rOvS f e r).2, if 0 < (rOvS f e r).1 - 1 then 0 else (rOvS f e r).1 - 1, fun _ => 0) := rfl
theorem rOvS_b (f : Int32 → Int32) (e : Int32) (r : Rh) : 0 ≤ (rOvS f e r).1 ∧ (rOvS f e r).1 ≤ 41 := by
  unfold rOvS
  exact ⟨rNext_lo.1, rNext_hi (by decide)⟩
theorem rOvB_b (f : Int32 → Int32) (e : Int32) (r : Rh) : 0 ≤ (rOvB f e r).1 ∧ (rOvB f e r).1 ≤ 15 := by
  unfold rOvB
  exact ⟨rNext_lo.1, rNext_hi (by decide)⟩
theorem rOvE_ok (f : Int32 → Int32) (e : Int32) (r : Rh) : (-1 ≤ (rOvE f e r).2.1 ∧ (rOvE f e r).2.1 ≤ 40) ∧ ∀ j, 0 ≤ j → j < (rOvE f e r).2.1 → 0 ≤ (rOvE f e r).2.2 j ∧ (rOvE f e r).2.2 j ≤ 255 := by
  rw [rOvE_e]
  have b := rOvS_b f e r
  generalize rOvS f e r = u at *
  have m1 : (-1 : Int32).toInt = -1 := by decide
  have z : (0 : Int32).toInt = 0 := by decide
  have z40 : (40 : Int32).toInt = 40 := by decide
  have ub : -1 ≤ u.1 - 1 ∧ u.1 - 1 ≤ 40 := by
    obtain ⟨b1, b2⟩ := b
    generalize u.1 = w at *
    constructor <;> grind
  have ub' := Int32.le_iff_toInt_le.mp ub.2
  have ub1 := Int32.le_iff_toInt_le.mp ub.1
  refine rEnts_ok f _ 0 _ (by decide) (by omega) ?_ ?_ ?_
  · intro h
    show (if 0 < u.1 - 1 then (0 : Int32) else u.1 - 1) = 0
    rw [if_pos (Int32.lt_iff_toInt_lt.mpr (by omega))]
  · show -1 ≤ (if 0 < u.1 - 1 then (0 : Int32) else u.1 - 1) ∧ (if 0 < u.1 - 1 then (0 : Int32) else u.1 - 1) ≤ 40
    by_cases c : 0 < u.1 - 1
    · rw [if_pos c]; exact ⟨by decide, by decide⟩
    · rw [if_neg c]; exact ub
  · intro j j0 j1
    exact ⟨by show (0 : Int32) ≤ 0; decide, by show (0 : Int32) ≤ 255; decide⟩
theorem rOvs_ok (f : Int32 → Int32) {e t : Int32} : ∀ (n : Nat) (s : Rh × Pg), PgOK s.2 → inL s.2.turns t → (s.2.many t).toInt + n ≤ 130 → PgOK (rOvs f e t n s).2
  | 0, s, h, _, _ => h
  | n + 1, s, h, ct, hn => by
    unfold rOvs
    by_cases c : s.1.2 = 0
    · rw [if_pos c]
      have m130 : s.2.many t < 130 := Int32.lt_iff_toInt_lt.mpr (by have : (130 : Int32).toInt = 130 := by decide
                                                                    omega)
      have ms := i32_succ m130
      have k := rOvE_ok f e s.1
      refine rOvs_ok f n ((rOvE f e s.1).1, s.2.addO t (rOvB f e s.1).1 (rOvE f e s.1).2.1 (rOvE f e s.1).2.2) (addO_ok h ct m130 (rOvB_b f e s.1) k.1 k.2) ct ?_
      show (if t = t then s.2.many t + 1 else s.2.many t).toInt + n ≤ 130
      rw [if_pos rfl]
      omega
    · rw [if_neg c]; exact h
theorem rT1_e (f : Int32 → Int32) (e t : Int32) (s : Rh × Pg × (Int32 → Int32)) : rT1 f e t s = rOvs f e t (rNext f e 0 130 s.1).1.toInt.toNat ((rNext f e 0 130 s.1).2, s.2.1.addT) := rfl
theorem rT1_ok (f : Int32 → Int32) (e : Int32) (s : Rh × Pg × (Int32 → Int32)) {t : Int32} (ok : PgOK s.2.1) (et : s.2.1.turns = t) (ht : t < 2 * s.2.1.each) : PgOK (rT1 f e t s).2 ∧ (rT1 f e t s).2.turns = t + 1 ∧ (rT1 f e t s).2.ovs = s.2.1.ovs ∧ (rT1 f e t s).2.each = s.2.1.each := by
  rw [rT1_e]
  have l0 := (rNext_lo (f := f) (e := e) (lo := 0) (hi := 130) (r := s.1)).1
  have l1 := rNext_hi (f := f) (e := e) (lo := 0) (hi := 130) (r := s.1) (by decide)
  generalize rNext f e 0 130 s.1 = u at *
  have k := rOvs_turns f (e := e) (t := t) u.1.toInt.toNat (u.2, s.2.1.addT)
  have z : (0 : Int32).toInt = 0 := by decide
  have l0' := Int32.le_iff_toInt_le.mp l0
  have l1' := le_i l1 (by decide : (130 : Int32).toInt = 130)
  refine ⟨rOvs_ok f _ _ (addT_ok ok (by rw [et]; exact ht)) ?_ ?_, k.1.trans (by show s.2.1.turns + 1 = _; rw [et]), k.2.1, k.2.2⟩
  · show inL (s.2.1.turns + 1) t
    rw [et]
    exact ⟨by rw [← et]; exact ok.2.2.1.1, (i32_ls ht).mpr (Or.inr rfl)⟩
  · show (if t = s.2.1.turns then (0 : Int32) else s.2.1.many t).toInt + u.1.toInt.toNat ≤ 130
    rw [if_pos et.symm]
    omega
theorem rTurns_ok (f : Int32 → Int32) {e m : Int32} : ∀ n t, (m.toInt - t.toInt).toNat < n → ∀ (s : Rh × Pg × (Int32 → Int32)), PgOK s.2.1 → s.2.1.turns = t → m ≤ 2 * s.2.1.each → PgOK (rTurns0 f e (m.toInt - t.toInt).toNat t s).2.1 ∧ (rTurns0 f e (m.toInt - t.toInt).toNat t s).2.1.ovs = s.2.1.ovs ∧ (rTurns0 f e (m.toInt - t.toInt).toNat t s).2.1.each = s.2.1.each := by
  refine i32_up ?_ ?_
  · intro n t hc s ok et hm
    rw [sub_none hc]
    exact ⟨ok, rfl, rfl⟩
  · intro n t hc ih s ok et hm
    rw [sub_succ hc]
    unfold rTurns0
    by_cases c : s.1.2 = 0
    · rw [if_pos c]
      have k := rT1_ok f e s ok et (Int32.lt_of_lt_of_le hc hm)
      have := ih (rTurn1 f e t s) k.1 k.2.1 (by show m ≤ 2 * (rT1 f e t s).2.each; rw [k.2.2.2]; exact hm)
      exact ⟨this.1, this.2.1.trans k.2.2.1, this.2.2.trans k.2.2.2⟩
    · rw [if_neg c]
      exact ⟨ok, rfl, rfl⟩
theorem rH4_b (f : Int32 → Int32) (e n : Int32) : 1 ≤ (rH4 f e n).1 ∧ (rH4 f e n).1 ≤ 120 := by
  rw [rH4_e]
  exact ⟨rNext_lo.1, rNext_hi (by decide)⟩
theorem rH5_b (f : Int32 → Int32) (e n : Int32) : (rH5 f e n).1 = 1 ∨ (rH5 f e n).1 = 2 := by
  have : 1 ≤ (rH5 f e n).1 ∧ (rH5 f e n).1 ≤ 2 := by
    rw [rH5_e]
    exact ⟨rNext_lo.1, rNext_hi (by decide)⟩
  generalize (rH5 f e n).1 = w at *
  obtain ⟨a, b⟩ := this
  grind
theorem new_ok {n t : Int32} (h1 : 1 ≤ n ∧ n ≤ 120) (h2 : t = 1 ∨ t = 2) : PgOK (Pg.new n t) := ⟨h2, h1, ⟨by show (0 : Int32) ≤ 0; decide, by show (0 : Int32) ≤ 2 * t; rcases h2 with q | q <;> rw [q] <;> decide⟩, fun t t0 t1 => absurd t0 (Int32.not_le.mpr t1)⟩
theorem rTn_e (f : Int32 → Int32) (e : Int32) (A : Bk) : rTn f e A = rNext f e 0 (2 * (rH5 f e A.sides).1) (rS2 f e A).1 := rfl
theorem rTn_b (f : Int32 → Int32) (e : Int32) (A : Bk) : 0 ≤ (rTn f e A).1 ∧ (rTn f e A).1 ≤ 2 * (rH5 f e A.sides).1 ∧ 2 * (rH5 f e A.sides).1 ≤ 4 := by
  rw [rTn_e]
  have b := rH5_b f e A.sides
  have l : 0 ≤ 2 * (rH5 f e A.sides).1 ∧ 2 * (rH5 f e A.sides).1 ≤ 4 := by rcases b with q | q <;> rw [q] <;> exact ⟨by decide, by decide⟩
  exact ⟨rNext_lo.1, rNext_hi l.1, l.2⟩
theorem rBody_e (f : Int32 → Int32) (e : Int32) (A : Bk) : rBody f e A = rTurns0 f e (rTn f e A).1.toInt.toNat 0 ((rTn f e A).2, Pg.new (rH4 f e A.sides).1 (rH5 f e A.sides).1, fun _ => 0) := rfl
theorem rBody_ok (f : Int32 → Int32) (e : Int32) (A : Bk) : PgOK (rBody f e A).2.1 ∧ (rBody f e A).2.1.ovs = (rH4 f e A.sides).1 ∧ (rBody f e A).2.1.each = (rH5 f e A.sides).1 := by
  rw [rBody_e]
  have b := rTn_b f e A
  have b4 := rH4_b f e A.sides
  have b5 := rH5_b f e A.sides
  generalize rTn f e A = u at *
  generalize (rH4 f e A.sides).1 = o at *
  generalize (rH5 f e A.sides).1 = t at *
  have z : (0 : Int32).toInt = 0 := by decide
  have b' := le_i (i32_tr b.2.1 b.2.2) (by decide : (4 : Int32).toInt = 4)
  have k := rTurns_ok f (e := e) (m := u.1) fu 0 (by show _ < 10000000; omega) (u.2, Pg.new o t, fun _ => 0) (new_ok b4 b5) rfl b.2.1
  rw [z, Int.sub_zero] at k
  exact k
/-! where a play stops -/
theorem plE_bad {G : Pg} {t o : Int32} : ∀ n i, ((G.siz t o).toInt - i.toInt).toNat < n → 0 ≤ i → ∀ s : Ps, s.rule = 0 → (Ps.plE G t o ((G.siz t o).toInt - i.toInt).toNat i s).rule ≠ 0 → (Ps.plE G t o ((G.siz t o).toInt - i.toInt).toNat i s).bt = t ∧ (Ps.plE G t o ((G.siz t o).toInt - i.toInt).toNat i s).bo = o ∧ inL (G.siz t o) (Ps.plE G t o ((G.siz t o).toInt - i.toInt).toNat i s).be := by
  refine i32_up ?_ ?_
  · intro n i hc i0 s hr hn
    rw [sub_none hc] at hn
    exact absurd hr hn
  · intro n i hc ih i0 s hr hn
    rw [sub_succ hc] at hn ⊢
    unfold Ps.plE at hn ⊢
    by_cases c : s.ruleE (G.ent t o i) = 0
    · rw [if_pos c] at hn ⊢
      exact ih (i32_ps i0 hc) _ ((Ps.endT_k _ _).1.trans hr) hn
    · rw [if_neg c]
      exact ⟨rfl, rfl, i0, hc⟩
theorem plO_bad {G : Pg} (ok : PgOK G) {t : Int32} (ct : inL G.turns t) : ∀ n o, ((G.many t).toInt - o.toInt).toNat < n → 0 ≤ o → ∀ s : Ps, s.rule = 0 → (Ps.plO G t ((G.many t).toInt - o.toInt).toNat o s).rule ≠ 0 → (Ps.plO G t ((G.many t).toInt - o.toInt).toNat o s).bt = t ∧ inL (G.many t) (Ps.plO G t ((G.many t).toInt - o.toInt).toNat o s).bo ∧ ((Ps.plO G t ((G.many t).toInt - o.toInt).toNat o s).be = -1 ∨ inL (G.siz t (Ps.plO G t ((G.many t).toInt - o.toInt).toNat o s).bo) (Ps.plO G t ((G.many t).toInt - o.toInt).toNat o s).be) := by
  refine i32_up ?_ ?_
  · intro n o hc o0 s hr hn
    rw [sub_none hc] at hn
    exact absurd hr hn
  · intro n o hc ih o0 s hr hn
    rw [sub_succ hc] at hn ⊢
    unfold Ps.plO at hn ⊢
    by_cases c : s.ruleO (G.bow t o) = 0
    · rw [if_pos c] at hn ⊢
      by_cases c2 : (Ps.plE G t o (G.siz t o).toInt.toNat 0 (s.begO G t o)).rule = 0
      · rw [if_pos c2] at hn ⊢
        exact ih (i32_ps o0 hc) _ c2 hn
      · rw [if_neg c2] at hn ⊢
        have z : (0 : Int32).toInt = 0 := by decide
        have sb := le_i ((ok.2.2.2 t ct.1 ct.2).2 o o0 hc).2.1.2 (by decide : (40 : Int32).toInt = 40)
        have k := plE_bad (G := G) (t := t) (o := o) fu 0 (by show _ < 10000000; omega) (by decide) (s.begO G t o) ((Ps.endT_k _ _).1.trans hr)
        rw [z, Int.sub_zero] at k
        have := k c2
        exact ⟨this.1, by rw [this.2.1]; exact ⟨o0, hc⟩, Or.inr (by rw [this.2.1]; exact this.2.2)⟩
    · rw [if_neg c]
      exact ⟨rfl, ⟨o0, hc⟩, Or.inl rfl⟩
theorem plT_bad {G : Pg} (ok : PgOK G) : ∀ n t, (G.turns.toInt - t.toInt).toNat < n → 0 ≤ t → ∀ s : Ps, s.rule = 0 → (Ps.plT G (G.turns.toInt - t.toInt).toNat t s).rule ≠ 0 → inL G.turns (Ps.plT G (G.turns.toInt - t.toInt).toNat t s).bt ∧ (((Ps.plT G (G.turns.toInt - t.toInt).toNat t s).bo = -1 ∧ (Ps.plT G (G.turns.toInt - t.toInt).toNat t s).be = -1) ∨ (inL (G.many (Ps.plT G (G.turns.toInt - t.toInt).toNat t s).bt) (Ps.plT G (G.turns.toInt - t.toInt).toNat t s).bo ∧ ((Ps.plT G (G.turns.toInt - t.toInt).toNat t s).be = -1 ∨ inL (G.siz (Ps.plT G (G.turns.toInt - t.toInt).toNat t s).bt (Ps.plT G (G.turns.toInt - t.toInt).toNat t s).bo) (Ps.plT G (G.turns.toInt - t.toInt).toNat t s).be))) := by
  refine i32_up ?_ ?_
  · intro n t hc t0 s hr hn
    rw [sub_none hc] at hn
    exact absurd hr hn
  · intro n t hc ih t0 s hr hn
    rw [sub_succ hc] at hn ⊢
    unfold Ps.plT at hn ⊢
    by_cases c : s.ruleT t = 0
    · rw [if_pos c] at hn ⊢
      by_cases c2 : (Ps.plO G t (G.many t).toInt.toNat 0 (s.begT t)).rule = 0
      · rw [if_pos c2] at hn ⊢
        exact ih (i32_ps t0 hc) _ c2 hn
      · rw [if_neg c2] at hn ⊢
        have z : (0 : Int32).toInt = 0 := by decide
        have mb := le_i (ok.2.2.2 t t0 hc).1.2 (by decide : (130 : Int32).toInt = 130)
        have k := plO_bad ok ⟨t0, hc⟩ fu 0 (by show _ < 10000000; omega) (by decide) (s.begT t) hr
        rw [z, Int.sub_zero] at k
        have := k c2
        refine ⟨by rw [this.1]; exact ⟨t0, hc⟩, Or.inr ?_⟩
        rw [this.1]
        exact this.2
    · rw [if_neg c]
      exact ⟨⟨t0, hc⟩, Or.inl ⟨rfl, rfl⟩⟩
theorem play_bad {G : Pg} (ok : PgOK G) (s : Ps) (hn : (s.play G).rule ≠ 0) : inL G.turns (s.play G).bt ∧ (((s.play G).bo = -1 ∧ (s.play G).be = -1) ∨ (inL (G.many (s.play G).bt) (s.play G).bo ∧ ((s.play G).be = -1 ∨ inL (G.siz (s.play G).bt (s.play G).bo) (s.play G).be))) := by
  have z : (0 : Int32).toInt = 0 := by decide
  have T4 := le_i ok.t4 (by decide : (4 : Int32).toInt = 4)
  have k := plT_bad ok fu 0 (by show _ < 10000000; omega) (by decide) (s.start G) (by
    unfold Ps.start
    rw [(clr_k _ _ _).1]
    rfl)
  rw [z, Int.sub_zero] at k
  exact k hn
