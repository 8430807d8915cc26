/-! The class's reader: an over, a turn, all turns -/
section Rd
variable {x : Nat} {h0 h : aH} {lb0 lb : Nat → Lab} {ad0 cp0 ad cp : Adr} {A : Bk} {n : Int32} {r : Rh}
/-- the same book, other labels and addresses where nothing of the book lies -/
theorem PL.to {h' : aH} {lb' : Nat → Lab} {ad' cp' : Adr} (q : PL x h lb ad cp A) (zx : x + 229 ≤ hz h) (k : kpL lb (fun L => L.1 ≠ 0 ∧ (L.2.1 ≠ A.games ∨ L.1 = 4)) h h') (c2 : cel h h' (x + 2)) (hl : ∀ b, b < hz h → lb' b = lb b) (ha : ∀ k g' t o, (g' ≠ A.games ∨ k = 4) → ad' k g' t o = ad k g' t o ∧ cp' k g' t o = cp k g' t o) : PL x h' lb' ad' cp' A := by
  obtain ⟨r1, r2, r3, r4⟩ := q
  have a4 := ha 4 0 0 0 (Or.inr rfl)
  have gm : ∀ g', 0 ≤ g' → g' < A.games → GmL h' lb' ad' cp' g' (A.sd0 g') (A.sd1 g') (A.st g') (A.pg g') := fun g' g0 g1 => (r4 g' g0 g1).mv k hl (fun k t o hk _ => ⟨by show k ≠ 0; omega, Or.inl (lt_ne g1)⟩) (fun k t o _ _ => ha k g' t o (Or.inl (lt_ne g1)))
  refine ⟨fun a h => by rw [hl a (by omega)]; exact r1 a h, ?_, ?_, gm⟩
  · rw [a4.1, a4.2]
    refine r2.mv2 k.1 k.2.1 c2 (fun hc => k.2.2 _ r2.1.2.2.2.2 (by rw [r3 hc]; exact ⟨by decide, Or.inr rfl⟩)) ?_ (fun i i0 i1 => (ha 1 i 0 0 (Or.inl (lt_ne i1))).1)
    intro i i0 i1
    have e := (ha 1 i 0 0 (Or.inl (lt_ne i1))).1
    rw [← e, (gm i i0 i1).1.1, e]
    exact (r4 i i0 i1).1.1.symm
  · rw [a4.1, a4.2]
    intro hc
    rw [hl _ r2.1.2.2.2.2]
    exact r3 hc
/-- the reader's state at another heap in which its cells are the same -/
theorem RdH.to {h' : aH} {lb' : Nat → Lab} {ad' cp' : Adr} (q : RdH x h0 h lb ad cp A n r) (lo : ∀ b, x ≤ b → b < x + 229 → cel h h' b) (he : hE h' = hE h) (hz' : hz h ≤ hz h') (p : PL x h' lb' ad' cp' A) : RdH x h0 h' lb' ad' cp' A n r := by
  have c171 := lo (x + 171) (by omega) (by omega)
  refine ⟨q.1.mv (fun b b0 b1 _ => (lo b (by omega) (by omega)).scl) (fun b hb f => (lo b (by omega) (by omega)).F f) (q.1.2.2.2.2.2.1.cl (fun b b0 b1 => lo b (by omega) (by omega))) he hz', p, fun k k0 k1 k2 => (q.2.2.1 k k0 k1 k2).trans (lo _ (by omega) (by omega)), ⟨by rw [c171.F]; exact q.2.2.2.1.1, by rw [c171.G]; exact q.2.2.2.1.2⟩, ⟨fun z => ⟨by rw [c171.F]; exact (q.2.2.2.2.1.1 z).1, by rw [c171.F]; exact (q.2.2.2.2.1.1 z).2⟩, fun z => by rw [c171.F]; exact q.2.2.2.2.1.2 z⟩, q.2.2.2.2.2⟩
theorem RdH.z (q : RdH x h0 h lb ad cp A n r) : x + 229 ≤ hz h ∧ hE h < hz h := ⟨q.1.2.2.2.2.2.2.2.2.2, q.1.zE⟩
def OvrQ (x : Nat) (h0 h : aH) (cp : Adr) (A : Bk) (n : Int32) (a b : Int32) (st : Int32 → Int32 → Int32) (G : Pg) (t : Int32) (ad : Adr) (r : Rh) (h' : aH) : Prop := ∃ lb' ad' cp', RdH x h0 h' lb' ad' cp' A n (rOvE A.tape n r).1 ∧ GmL h' lb' ad' cp' A.games a b st (G.addO t (rOvB A.tape n r).1 (rOvE A.tape n r).2.1 (rOvE A.tape n r).2.2) ∧ (∀ t', ad' 2 A.games t' 0 = ad 2 A.games t' 0) ∧ ad' 1 A.games 0 0 = ad 1 A.games 0 0 ∧ hz h' ≤ hz h + 3 ∧ hs h' + 4 * cp 6 A.games t 0 ≤ hs h + 43 + 4 * cp' 6 A.games t 0 ∧ (cp' 6 A.games t 0 = cp 6 A.games t 0 ∨ (cp' 6 A.games t 0 : Int) ≤ 10 + 2 * (G.many t).toInt) ∧ cel h h' (x + 172)
theorem rd_over (bb : CRp x h0 lb0 ad0 cp0 A) (ok : BkOK A) (nt : n ≤ A.taped) (q : RdH x h0 h lb ad cp A n r) {a b : Int32} {st : Int32 → Int32 → Int32} {G : Pg} (m : GmL h lb ad cp A.games a b st G) {t : Int32} (ct : inL G.turns t) (tl : G.many t < 450) : Rn (F_X7_readOver (x + 171) (ad 2 A.games t 0) h) (OvrQ x h0 h cp A n a b st G t ad r) := by
  unfold F_X7_readOver
  refine rn_c (rd_next bb ok nt q (by decide) 15) ?_
  rintro ⟨z3, h2⟩ ⟨w1, w2, w3⟩
  dsimp only at w1 w2 w3
  obtain ⟨k1, k2⟩ := rd_k w2
  refine rn_bd (rn_bd ?_)
  dsimp only
  refine rn_ck k2 (rn_c (rd_next bb ok nt w2 (by decide) 41) ?_)
  rintro ⟨z8, h7⟩ ⟨y1, y2, y3⟩
  dsimp only at y1 y2 y3
  refine rn_bd (rn_bd ?_)
  dsimp only
  have F27 := w3.trans y3
  have lo7 := y2.2.1.1
  have m7 : GmL h7 lb ad cp A.games a b st G := gm_fs m q.2.1.1 F27 (fun k hk => by omega)
  have z7 := y2.z
  -- fresh labels
  have hl : ∀ b, b < hz h7 → (fun b => if b < hz h7 then lb b else ((0, 0, 0, 0) : Lab)) b = lb b := fun b hb => if_pos hb
  have sm : kpL lb (fun _ => True) h7 h7 := ⟨Nat.le_refl _, rfl, fun _ _ _ => cel.refl _ _⟩
  have m7s : GmL h7 (fun b => if b < hz h7 then lb b else (0, 0, 0, 0)) ad cp A.games a b st G := m7.mv sm hl (fun _ _ _ _ _ => trivial) (fun _ _ _ _ _ => ⟨rfl, rfl⟩)
  have p7s : PL x h7 (fun b => if b < hz h7 then lb b else (0, 0, 0, 0)) ad cp A := y2.2.1.to z7.1 (sm.wk (fun _ _ => trivial)) (cel.refl _ _) hl (fun _ _ _ _ _ => ⟨rfl, rfl⟩)
  have q7s : RdH x h0 h7 (fun b => if b < hz h7 then lb b else (0, 0, 0, 0)) ad cp A n (rNext A.tape n 0 41 (rNext A.tape n 0 15 r).2).2 := y2.to (fun _ _ _ => cel.refl _ _) rfl (Nat.le_refl _) p7s
  have lz : ∀ b, ((fun b => if b < hz h7 then lb b else ((0, 0, 0, 0) : Lab)) b).1 ≠ 0 → b < hz h7 := fun b nb => Nat.lt_of_not_le (fun z => nb (by dsimp only; rw [if_neg (by omega)]))
  generalize (fun b => if b < hz h7 then lb b else ((0, 0, 0, 0) : Lab)) = lbs at *
  have yl : -1 ≤ z8 - 1 ∧ z8 - 1 ≤ 40 := by
    have a1 : 0 ≤ z8 := by rw [y1]; exact rNext_lo.1
    have a2 : z8 ≤ 41 := by rw [y1]; exact rNext_hi (by decide)
    clear y1 y2 y3 w1 w2 w3 q7s p7s m7s
    constructor <;> grind
  have s0 : (if 0 < z8 - 1 then 0 else z8 - 1) ≤ 0 := by
    by_cases c : 0 < z8 - 1
    · rw [if_pos c]; decide
    · rw [if_neg c]; exact Int32.not_lt.mp c
  have s1 : -1 ≤ (if 0 < z8 - 1 then 0 else z8 - 1) := by
    by_cases c : 0 < z8 - 1
    · rw [if_pos c]; decide
    · rw [if_neg c]; exact yl.1
  refine rn_bd (rn_bd (rn_bd (rn_bd (rn_ck (if_pos rfl) (rn_c (new_over (b := z3) s0) (fun h16 nw => ?_))))))
  obtain ⟨n1, n2, n3, n4, n5⟩ := nw
  have q16 : RdH x h0 h16 lbs ad cp A n (rNext A.tape n 0 41 (rNext A.tape n 0 15 r).2).2 := by
    refine q7s.to (fun b b0 b1 => n4 b (by omega)) n3 (by omega) ?_
    exact q7s.2.1.to z7.1 ⟨by omega, n3, fun b hb _ => n4 b hb⟩ (n4 _ (by omega)) (fun _ _ => rfl) (fun _ _ _ _ _ => ⟨rfl, rfl⟩)
  have z0 : (0 : Int32).toInt = 0 := by decide
  have mb := le_i yl.2 (by decide : (40 : Int32).toInt = 40)
  refine rd_36 (hb := h16) bb ok nt yl.2 (by omega) (fun b nb hb => by have := lz b nb; omega) fu 0 (by show _ < 10000000; omega) h16 _ _ _ (by decide) (fun c => if_pos c) ⟨i32_tr s0 (by decide), s1⟩ q16 n5 ⟨sst.refl _, fun _ _ _ _ => cel.refl _ _⟩ ?_
  intro h' v1 v2 v3
  rw [z0, Int.sub_zero, y1] at v1 v2
  rw [w1] at v2
  have c7 : ∀ b, b < hz h7 → b ≠ x + 171 → cel h7 h' b := fun b hb nb => (n4 b hb).trans (v3.2 b nb (by omega) (by omega))
  have T := m7s.in_t ct
  have tz := T.2.2.1
  have t229 : x + 229 ≤ ad 2 A.games t 0 := Nat.le_of_not_lt (fun z => by
    have := q7s.2.1.1 _ z
    rw [show lbs (ad 2 A.games t 0) = (2, A.games, t, 0) from tz.2 0 (by decide)] at this
    exact absurd this (lab_1 (by decide)))
  unfold F_X7_readOver_70
  refine rn_ck (by rw [(c7 _ (by have := tz.1; omega) (by omega)).K]; exact T.1.1) ?_
  refine rn_c (gm_addO2 (h0 := h7) (h1 := h') m7s (by rw [v3.1.z]; exact n1) (by rw [v3.1.s]; exact n2) (by rw [v3.1.E]; exact n3) (fun b hb nb => c7 b hb (fun e => nb (q7s.2.1.1 b (by omega)))) v2 z7.2 ct tl) ?_
  rintro h3 ⟨lb', ad', cp', g1, ⟨g2, g3, g4, g5⟩, g6, g7, g8, g9, g10, g11, g12⟩
  have lo3 : ∀ b, x ≤ b → b < x + 229 → cel h' h3 b := fun b b0 b1 => g3 b (by omega) (q7s.2.1.1 b b1)
  have z3' : hz h7 + 2 ≤ hz h3 := by
    have := (g1.in_o (t := t) (o := G.many t) ct ⟨T.2.1.2.1.1, by
      show G.many t < if t = t then G.many t + 1 else _
      rw [if_pos rfl]
      exact (i32_ls tl).mpr (Or.inr rfl)⟩).2.1
    rw [g8] at this
    exact this
  refine rn_s ⟨lb', ad', cp', ?_, g1, g6, g7, ?_, ?_, g12, ((F27.c (by omega)).trans (c7 _ (by omega) (by omega))).trans (lo3 _ (by omega) (by omega))⟩
  · refine v1.to lo3 (by rw [g2.2.1, v3.1.E, n3]) (by have := v3.1.z; omega) ?_
    exact q7s.2.1.to z7.1 g2 ((c7 _ (by omega) (by omega)).trans (lo3 _ (by omega) (by omega))) g4 g5
  · rw [← F27.1.z]
    exact g10
  · rw [← F27.1.s]
    exact g11
/-! all overs of a turn -/
theorem rOvE_in (f : Int32 → Int32) {e : Int32} {r : Rh} : rIn e r → rIn e (rOvE f e r).1 := by
  have k : ∀ n i (s : Rh × Int32 × (Int32 → Int32)), rIn e s.1 → rIn e (rEnts f e n i s).1 := by
    intro n
    induction n with
    | zero => exact fun i s h => h
    | succ n ih =>
      intro i s h
      unfold rEnts
      by_cases c : s.1.2 = 0
      · rw [if_pos c]
        exact ih (i + 1) ((rNext f e 0 255 s.1).2, i + 1, rIns s.2.2 i (rNext f e 0 255 s.1).1) (rNext_in h)
      · rw [if_neg c]; exact h
  intro h
  exact k _ _ _ (rNext_in (rNext_in h))
theorem rEnts_ge (f : Int32 → Int32) {e : Int32} : ∀ n i (s : Rh × Int32 × (Int32 → Int32)), rIn e s.1 → e.toInt ≤ 6000 → (rEnts f e n i s).1.2 = 0 → s.1.2 = 0 ∧ s.1.1.toInt ≤ (rEnts f e n i s).1.1.toInt := by
  intro n
  induction n with
  | zero => exact fun i s h _ hz => ⟨hz, by show _ ≤ s.1.1.toInt; omega⟩
  | succ n ih =>
    intro i s h he hz
    unfold rEnts at hz ⊢
    by_cases c : s.1.2 = 0
    · rw [if_pos c] at hz ⊢
      have q := ih (i + 1) ((rNext f e 0 255 s.1).2, i + 1, rIns s.2.2 i (rNext f e 0 255 s.1).1) (rNext_in (f := f) (lo := 0) (hi := 255) h) he hz
      have w := (rNext_lo (f := f) (e := e) (lo := 0) (hi := 255) (r := s.1)).2 q.1
      have s1 := i32_succ w.2.2.1
      have q2 : (rNext f e 0 255 s.1).2.1.toInt ≤ _ := q.2
      rw [w.2.2.2.1] at q2
      generalize (rEnts f e n (i + 1) ((rNext f e 0 255 s.1).2, i + 1, rIns s.2.2 i (rNext f e 0 255 s.1).1)).1.1.toInt = V at *
      generalize (s.1.1 + 1).toInt = V2 at *
      exact ⟨c, by omega⟩
    · rw [if_neg c] at hz
      exact absurd hz c
/-- a right over takes two bytes at least -/
theorem rOvE_2 (f : Int32 → Int32) {e : Int32} {r : Rh} (h : rIn e r) (he : e.toInt ≤ 6000) (hz : (rOvE f e r).1.2 = 0) : r.2 = 0 ∧ r.1.toInt + 2 ≤ (rOvE f e r).1.1.toInt := by
  have h1 := rNext_in (f := f) (lo := 0) (hi := 15) h
  have h2 := rNext_in (f := f) (lo := 0) (hi := 41) h1
  have q := rEnts_ge f ((rOvS f e r).1 - 1).toInt.toNat 0 ((rOvS f e r).2, if 0 < (rOvS f e r).1 - 1 then 0 else (rOvS f e r).1 - 1, fun _ => 0) h2 he hz
  have w2 := (rNext_lo (f := f) (e := e) (lo := 0) (hi := 41) (r := (rOvB f e r).2)).2 q.1
  have w1 := (rNext_lo (f := f) (e := e) (lo := 0) (hi := 15) (r := r)).2 w2.2.1
  have s2 := i32_succ w2.2.2.1
  have s1 := i32_succ w1.2.2.1
  have q2 : (rNext f e 0 41 (rOvB f e r).2).2.1.toInt ≤ (rOvE f e r).1.1.toInt := q.2
  rw [w2.2.2.2.1] at q2
  have e1 : (rOvB f e r).2.1 = r.1 + 1 := w1.2.2.2.1
  rw [e1] at q2 s2
  exact ⟨w1.2.1, by omega⟩
/-- the place never falls -/
theorem rNext_ge (f : Int32 → Int32) {e lo hi : Int32} {r : Rh} : r.1.toInt ≤ (rNext f e lo hi r).2.1.toInt := by
  unfold rNext
  by_cases c : r.2 = 0
  · rw [if_pos c]
    by_cases c2 : r.1 < e ∧ lo ≤ f r.1 ∧ f r.1 ≤ hi
    · rw [if_pos c2]
      have := i32_succ c2.1
      show _ ≤ (r.1 + 1).toInt
      omega
    · rw [if_neg c2]
      exact Int.le_refl _
  · rw [if_neg c]
    exact Int.le_refl _
theorem rOvE_ge (f : Int32 → Int32) {e : Int32} {r : Rh} (h : rIn e r) (he : e.toInt ≤ 6000) : r.1.toInt ≤ (rOvE f e r).1.1.toInt := by
  have k : ∀ n i (s : Rh × Int32 × (Int32 → Int32)), s.1.1.toInt ≤ (rEnts f e n i s).1.1.toInt := by
    intro n
    induction n with
    | zero => exact fun i s => Int.le_refl _
    | succ n ih =>
      intro i s
      unfold rEnts
      by_cases c : s.1.2 = 0
      · rw [if_pos c]
        have a := ih (i + 1) ((rNext f e 0 255 s.1).2, i + 1, rIns s.2.2 i (rNext f e 0 255 s.1).1)
        have b := rNext_ge f (e := e) (lo := 0) (hi := 255) (r := s.1)
        exact Int.le_trans b a
      · rw [if_neg c]
        exact Int.le_refl _
  have a := k ((rOvS f e r).1 - 1).toInt.toNat 0 ((rOvS f e r).2, if 0 < (rOvS f e r).1 - 1 then 0 else (rOvS f e r).1 - 1, fun _ => 0)
  have b := rNext_ge f (e := e) (lo := 0) (hi := 15) (r := r)
  have c := rNext_ge f (e := e) (lo := 0) (hi := 41) (r := (rOvB f e r).2)
  exact Int.le_trans b (Int.le_trans c a)
theorem rOvs_ge (f : Int32 → Int32) {e t : Int32} : ∀ n (s : Rh × Pg), rIn e s.1 → e.toInt ≤ 6000 → s.1.1.toInt ≤ (rOvs f e t n s).1.1.toInt
  | 0, s, _, _ => Int.le_refl _
  | n + 1, s, h, he => by
    unfold rOvs
    by_cases c : s.1.2 = 0
    · rw [if_pos c]
      have a := rOvE_ge f h he
      have b := rOvs_ge f (e := e) (t := t) n ((rOvE f e s.1).1, s.2.addO t (rOvB f e s.1).1 (rOvE f e s.1).2.1 (rOvE f e s.1).2.2) (rOvE_in f h) he
      exact Int.le_trans a b
    · rw [if_neg c]
      exact Int.le_refl _
/-- what the overs cost: by how many there are, by how many bytes were read -/
def OvC (h h' : aH) (cp' : Adr) (g t : Int32) (k : Nat) : Prop := hz h' ≤ hz h + 3 * k ∧ hs h' ≤ hs h + 43 * k + 4 * cp' 6 g t 0 ∧ cp' 6 g t 0 ≤ 10 + 2 * k
theorem rd_59 (bb : CRp x h0 lb0 ad0 cp0 A) (ok : BkOK A) (nt : n ≤ A.taped) {a b : Int32} {st : Int32 → Int32 → Int32} {t m tn : Int32} {ga ta' : Nat} {hT : aH} (m130 : m ≤ 130) {k14 : Nat → Nat → Int32 → Int32 → aH → Option aH} {Q : aH → Prop} {pT : Int} : ∀ k o, (m.toInt - o.toInt).toNat < k → ∀ (h : aH) (lb : Nat → Lab) (ad cp : Adr) (r : Rh) (G : Pg) (kk : Nat), 0 ≤ o → o ≤ m → RdH x h0 h lb ad cp A n r → GmL h lb ad cp A.games a b st G → inL G.turns t → G.many t = o → o.toInt = kk → ad 2 A.games t 0 = ta' → ad 1 A.games 0 0 = ga → OvC hT h cp A.games t kk → cel hT h (x + 172) → (r.2 = 0 → pT + 2 * kk ≤ r.1.toInt) → (2 * (kk : Int) ≤ r.1.toInt - pT + 2) →
    (∀ (h' : aH) (lb' : Nat → Lab) (ad' cp' : Adr) (kk' : Nat), RdH x h0 h' lb' ad' cp' A n (rOvs A.tape n t (m.toInt - o.toInt).toNat (r, G)).1 → GmL h' lb' ad' cp' A.games a b st (rOvs A.tape n t (m.toInt - o.toInt).toNat (r, G)).2 → ad' 1 A.games 0 0 = ga → OvC hT h' cp' A.games t kk' → cel hT h' (x + 172) → 2 * (kk' : Int) ≤ (rOvs A.tape n t (m.toInt - o.toInt).toNat (r, G)).1.1.toInt - pT + 2 → Rn (F_X7_readTurns_85 k14 (x + 171) ga tn t h') Q) → Rn (F_X7_readTurns_59 k14 k (x + 171) ga tn t ta' m o h) Q := by
  have ne := le_i (i32_tr nt ok.2.2.1.2) (by decide : (6000 : Int32).toInt = 6000)
  refine i32_up ?_ ?_
  · intro k o hc h lb ad cp r G kk o0 om q gm ct em ek ea eg oc cs hp hp2 K
    rw [sub_none hc] at K
    unfold F_X7_readTurns_59
    exact rn_p hc (K h lb ad cp kk q gm eg oc cs hp2)
  · intro k o hc ih h lb ad cp r G kk o0 om q gm ct em ek ea eg oc cs hp hp2 K
    rw [sub_succ hc] at K
    unfold rOvs at K
    unfold F_X7_readTurns_59
    obtain ⟨k1, k2⟩ := rd_k q
    refine rn_n (Int32.not_le.mpr hc) (rn_ck k2 (rn_o (rd_right q) (rn_bd (rn_bd ?_))))
    dsimp only at K ⊢
    by_cases c : r.2 = 0
    rotate_left
    · rw [if_neg c] at K ⊢
      exact rn_p rfl (K h lb ad cp kk q gm eg oc cs hp2)
    rw [if_pos c] at K ⊢
    have tl : G.many t < 450 := by rw [em]; exact Int32.lt_of_lt_of_le hc (i32_tr m130 (by decide))
    rw [← ea]
    refine rn_n (by decide) (rn_ck k2 (rn_c (rd_over bb ok nt q gm ct tl) ?_))
    rintro h10 ⟨lb', ad', cp', w1, w2, w3, w4, w5, w6, w7, w8⟩
    have os := i32_succ hc
    have en := rOvE_in A.tape q.2.2.2.2.2
    have e2 := rOvE_2 A.tape q.2.2.2.2.2 ne
    have h2 := Int32.le_iff_toInt_le.mp en.1
    have z : (0 : Int32).toInt = 0 := by decide
    have hp' := hp c
    refine rn_bd ?_
    rw [ea]
    obtain ⟨c1, c2, c3⟩ := oc
    rw [em] at w7
    refine ih h10 lb' ad' cp' _ _ (kk + 1) (i32_ps o0 hc) ?_ w1 w2 ct ?_ ?_ ?_ ?_ ⟨by omega, ?_, ?_⟩ (cs.trans w8) ?_ ?_ K
    · have := Int32.lt_iff_toInt_lt.mp hc
      exact Int32.le_iff_toInt_le.mpr (by omega)
    · show (if t = t then G.many t + 1 else _) = o + 1
      rw [if_pos rfl, em]
    · omega
    · rw [w3]; exact ea
    · rw [w4]; exact eg
    · omega
    · rcases w7 with y | y <;> omega
    · intro hz
      have := e2 hz
      omega
    · have := rOvE_ge A.tape q.2.2.2.2.2 ne
      omega
end Rd
