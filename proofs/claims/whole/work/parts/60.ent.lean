/-! The entries of an over, on both sides -/
/-- the turns ahead of this one, where the target is made of them -/
def PrevOK (e0 : mE) (t : Int32) (s0 : Ps) (la : Int32) : Prop := t = la → (t = 1 ∧ la = 1 ∨ t = 3 ∧ la = 3) ∧ ∀ q, 0 ≤ q → q < t → e0.2 35 q = (s0.ty q).score ∧ e0.2 43 q = (s0.ty q).means ∧ 0 ≤ (s0.ty q).score ∧ (s0.ty q).score ≤ 40000 ∧ 0 ≤ (s0.ty q).means ∧ (s0.ty q).means ≤ 1000
theorem own_lo {t : Int32} {rw : Int32 → Int32} {mn : Int32} {k : Nat} {i : Int32} (h : k < 35) : ¬ ownT t rw mn k i := by
  intro q
  rcases q with q | q | q
  · omega
  · omega
  · omega
theorem own_ne {t : Int32} {rw : Int32 → Int32} {mn : Int32} {k : Nat} {i : Int32} (h : k < 53) (hi : i ≠ t) : ¬ ownT t rw mn k i := by
  intro q
  rcases q with q | q | q
  · exact hi q.2.2
  · omega
  · omega
section EN
variable {t : Int32} {rw : Int32 → Int32} {mn : Int32} {e0 e : mE} {T : Ty} {by' ro : Int32} {pl : Int32 → Int32} {x : Nat → Int32} {G : Pg} {s0 s : Ps} {m : Int32}
theorem tgR_of (S : RSt t rw mn e0 e T by' ro pl x) (hs : s.last = 2 * G.each - 1) (ho : ∀ q, q ≠ t → s.ty q = s0.ty q) (hS : Sim (s.ty t) T) (hi : Iv G.ovs m T) (hp : PrevOK e0 t s0 s.last) (ht : t = s.last) : TgR e t s := by
  obtain ⟨h1, h2⟩ := hp ht
  have prev : ∀ q, 0 ≤ q → q < t → e.2 35 q = (s.ty q).score ∧ e.2 43 q = (s.ty q).means ∧ 0 ≤ (s.ty q).score ∧ (s.ty q).score ≤ 40000 ∧ 0 ≤ (s.ty q).means ∧ (s.ty q).means ≤ 1000 := by
    intro q q0 q1
    have qt : q ≠ t := fun z => by rw [z] at q1; exact Int32.lt_irrefl q1
    have a := h2 q q0 q1
    rw [S.fr 35 q (own_ne (by decide) qt), S.fr 43 q (own_ne (by decide) qt), ho q qt]
    exact a
  rcases h1 with ⟨z1, z2⟩ | ⟨z1, z2⟩
  · have p0 := prev 0 (by decide) (by rw [z1]; decide)
    refine ⟨Or.inl ⟨z1, z2⟩, p0.1, ?_, fun z => absurd (z.symm.trans z1) (by decide), p0.2.1, ?_, p0.2.2.1, p0.2.2.2.1, p0.2.2.2.2.1, p0.2.2.2.2.2, ?_, ?_⟩
    · rw [← z1, RSt.score S, hS.score]
    · rw [← z1, RSt.means S, hS.means]
    · rw [← z1, hS.means]; exact hi.me0
    · rw [← z1, hS.means]; exact hi.m1
  · have p0 := prev 0 (by decide) (by rw [z1]; decide)
    have p1 := prev 1 (by decide) (by rw [z1]; decide)
    have p2 := prev 2 (by decide) (by rw [z1]; decide)
    exact ⟨Or.inr ⟨z1, z2⟩, p0.1, p1.1, fun _ => p2.1, p0.2.1, p1.2.1, p0.2.2.1, p0.2.2.2.1, p0.2.2.2.2.1, p0.2.2.2.2.2, p1.2.2.2.2.1, p1.2.2.2.2.2⟩
theorem sim_ruleE {A B : Ty} (h : Sim A B) {c rn : Int32} : A.ruleE c rn = B.ruleE c rn := by
  unfold Ty.ruleE
  rw [h.ended, h.whole, h.begun, h.allowed]
theorem Iv.ok {ovs m : Int32} {T : Ty} {mn : Int32} (h : Iv ovs m T) (ho : T.outs ≤ 9) (hb : T.begun ≠ 0) (hm : T.begun - 1 < mn) : EOK mn T := by
  obtain ⟨l1, l2, l3, l4, l5, l6, l7⟩ := h.lv ho
  have n1 := h.nx ho
  have r := h.rowR hb
  have b := h.bb hb
  have o0 := h.o0
  clear h
  refine ⟨⟨r.1, hm, r.2⟩, ⟨l1, by grind⟩, ⟨l3, by grind⟩, b, by grind, fun _ => by grind⟩
theorem Iv.w3 {ovs m : Int32} {T : Ty} (h : Iv ovs m T) (hb : T.begun ≠ 0) : T.ov (T.begun - 1) 3 = 0 ↔ ¬ T.whole = T.begun := by
  constructor
  · intro q z
    rw [h.cw hb z] at q
    exact absurd q (by decide)
  · intro z
    refine (h.cu hb ?_).1
    have := h.w1
    clear h
    grind
theorem stop_lp {r o i : Int32} (h : Lp G t s0 m T x s) : Lp G t s0 m T (fun j => if j = 31 then i else if j = 30 then o else if j = 29 then t else if j = 28 then r else x j) (s.stop r t o i) := by
  obtain ⟨h1, h2, h3, h4, h5, h6, h7, h8, h9, h10, h11⟩ := h
  have tg : (s.stop r t o i).target = s.target := rfl
  have wv : (s.stop r t o i).wonV = s.wonV := rfl
  refine ⟨h1, ⟨rfl, rfl, rfl, rfl, h2.2.2.2.2⟩, h3, h4, h5, h6, h7, h8, h9, h10, fun j hj => ?_⟩
  show (if j = 31 then i else if j = 30 then o else if j = 29 then t else if j = 28 then r else x j) = s0.1 j
  rw [if_neg (by omega), if_neg (by omega), if_neg (by omega), if_neg (by omega)]
  exact h11 j hj
theorem r_stop (S : RSt t rw mn e0 e T by' ro pl x) {a b c d : Int32} : GR t rw mn e0 (P_X12_stop a b c d e) T by' ro pl (fun j => if j = 31 then d else if j = 30 then c else if j = 29 then b else if j = 28 then a else x j) := by
  unfold P_X12_stop
  exact gr_mS S (fun e S => gr_mS S (fun e S => gr_mS S (fun e S => gr_mS S (fun e S => gr_end S rfl rfl rfl rfl rfl))))
end EN
section EL
variable {t : Int32} {rw : Int32 → Int32} {mn : Int32} {e0 : mE} {pl : Int32 → Int32} {G : Pg} {s0 : Ps} {g o : Int32}
/-- what the page's over is, in the reference -/
def OvR (e0 : mE) (rw : Int32 → Int32) (G : Pg) (t o : Int32) : Prop := e0.2 13 (rw o) = G.siz t o ∧ e0.2 12 (rw o) = G.bow t o ∧ G.siz t o ≤ 40 ∧ ∀ i, 0 ≤ i → i < G.siz t o → e0.2 14 (40 * rw o + i) = G.ent t o i ∧ 0 ≤ G.ent t o i ∧ G.ent t o i ≤ 255
theorem r_284 (g0 : 0 ≤ g) (g1 : g < 400) (hge : e0.2 6 g = G.each) (hea : G.each = 1 ∨ G.each = 2) (hO : OvR e0 rw G t o) (ho0 : 0 ≤ o) (hom : o < mn) (ho1 : o < 120) (hp : PrevOK e0 t s0 (2 * G.each - 1)) : ∀ n i, ((G.siz t o).toInt - i.toInt).toNat < n → (∀ e T by' ro x s m, RSt t rw mn e0 e T by' ro pl x → Lp G t s0 m T x s → SI T by' ro → 0 ≤ i → s.rule = 0 → T.begun = o + 1 → m.toInt ≤ 280 * o.toInt + 7 * i.toInt → i.toInt ≤ 40 → ∃ e' T' by2 ro2 x2 m2, P_X12_playOver_284 n g t o (rw o) i e = some e' ∧ RSt t rw mn e0 e' T' by2 ro2 pl x2 ∧ Lp G t s0 m2 T' x2 (Ps.plE G t o ((G.siz t o).toInt - i.toInt).toNat i s) ∧ SI T' by2 ro2 ∧ T'.begun = T.begun ∧ m2.toInt ≤ 280 * o.toInt + 280) ∧ ∀ e, e.2 13 (rw o) = G.siz t o → 0 ≤ rw o ∧ rw o < 6000 → e.1 28 ≠ 0 → P_X12_playOver_284 n g t o (rw o) i e = some e := by
  obtain ⟨O1, O2, O3, O4⟩ := hO
  have oo : o + 1 - 1 = o := by grind
  have on : o + 1 ≠ 0 := by grind
  refine i32_up ?_ ?_
  · intro n i hc
    refine ⟨?_, fun e z1 z2 z3 => by unfold P_X12_playOver_284; rw [ck_t z2, z1, if_pos hc]⟩
    intro e T by' ro x s m S L hSI i0 hr hb hm hi
    have e13 : e.2 13 (rw o) = G.siz t o := (S.fr 13 _ (own_lo (by decide))).trans O1
    rw [sub_none hc]
    unfold P_X12_playOver_284
    rw [ck_t (S.rk.1 o ho0 hom), e13, if_pos hc]
    exact ⟨e, T, by', ro, x, m, rfl, S, L, hSI, rfl, by omega⟩
  · intro n i hc ihh
    obtain ⟨ih, ihB⟩ := ihh
    refine ⟨?_, fun e z1 z2 z3 => by unfold P_X12_playOver_284; rw [ck_t z2, z1, if_neg (Int32.not_le.mpr hc), if_neg z3]⟩
    intro e T by' ro x s m S L hSI i0 hr hb hm hi
    have e13 : e.2 13 (rw o) = G.siz t o := (S.fr 13 _ (own_lo (by decide))).trans O1
    obtain ⟨a1, a2, a3⟩ := O4 i i0 hc
    have e14 : e.2 14 (40 * rw o + i) = G.ent t o i := (S.fr 14 _ (own_lo (by decide))).trans a1
    have e6 : e.2 6 g = G.each := (S.fr 6 _ (own_lo (by decide))).trans hge
    have rk := S.rk.1 o ho0 hom
    have hix : (0 : Int32) ≤ 40 * rw o + i ∧ 40 * rw o + i < 240000 := by
      have : i < 40 := Int32.lt_of_lt_of_le hc O3
      clear S L hSI ih
      constructor <;> grind
    obtain ⟨⟨L1a, L1b, L1c⟩, L2, L3, L4, L5, L6, L7, L8, L9, L10, L11⟩ := L
    have hb0 : T.begun ≠ 0 := by rw [hb]; exact on
    have hrow : T.begun - 1 = o := by rw [hb]; exact oo
    have x28 : e.1 28 = 0 := by rw [S.ex, L2.1]; exact hr
    rw [sub_succ hc]
    unfold P_X12_playOver_284 Ps.plE
    rw [ck_t rk, e13, if_neg (Int32.not_le.mpr hc), x28, if_pos rfl, ck_t hix, e14, bd_e]
    generalize hcc : G.ent t o i = c at *
    have hrn : (if s.last = 1 then (1 : Int32) else 0) = 0 ↔ e.2 6 g = 2 := by
      rw [e6, L1b]
      rcases hea with z | z <;> rw [z] <;> decide
    have rE : s.ruleE c = T.ruleE c (if s.last = 1 then 1 else 0) := by
      unfold Ps.ruleE
      rw [L1c]
      exact sim_ruleE L4
    have ag := r_against S (g := g) (c := c) a2 a3 g0 g1 hrn ⟨by rw [hrow]; exact ho0, by rw [hrow]; exact hom, by rw [hrow]; exact ho1⟩ (L6.w3 hb0)
    rw [hrow, ← rE] at ag
    rw [ag]
    simp only [Option.bind_some, bd_e]
    by_cases c1 : s.ruleE c = 0
    · rw [if_pos c1, if_pos c1]
      rw [rE] at c1
      obtain ⟨r1, r2, r3, r4⟩ := ruleE0 c1
      have outs9 := L7 r2
      have hm39 : m ≤ 39000 := by
        apply Int32.le_iff_toInt_le.mpr
        have z := Int32.lt_iff_toInt_lt.mp ho1
        have z1 : (39000 : Int32).toInt = 39000 := by decide
        have z2 : (120 : Int32).toInt = 120 := by decide
        omega
      have iT := L6.ent outs9 hm39 c1
      have hE := L6.ok (mn := mn) outs9 hb0 (by rw [hrow]; exact hom)
      have md := mod_eq a2 a3
      have req : ((T.ent1 (c / 16)).rent2 (c / 16) (c - c / 16 * 16)).rent3 (c / 16) = T.ent c := Ty.rent_eq md.1 md.2.1 hE.bow ⟨by rw [hrow]; exact ho0, by rw [hrow]; exact ho1⟩ (by have := L6.c5; clear S L6 iT hE ih; intro q; rw [q] at this; exact absurd this (by decide)) (fun z => (L6.cu hb0 (by
        have w1 := L6.w1
        have w2 : ¬ T.whole = T.begun := fun q => r3 ⟨q, Or.inl z⟩
        clear S L6 iT hE ih
        grind)).2)
      obtain ⟨zE, bE⟩ := zr_ent L5 (by rw [hb]; clear S L6 iT hE ih; grind) (c := c)
      have sE := sim_ent L4 (by rw [hb]; clear S L6 iT hE ih; grind) (c := c)
      have siE := hSI.ent L6 outs9 hb0 (c := c) (fun z => ⟨md.1, (isE_v r1).2.2.2.2.2.1 z⟩)
      have enE := (ent_ended T c).1.trans r2
      obtain ⟨w1, w2, w3⟩ := L9 r2
      have ee : (if c / 16 = 9 then (1 : Int32) else 0) = if c / 16 = 9 then 1 else 0 := rfl
      have hty : (s.sTy t ((s.ty t).ent c)).ty t = (s.ty t).ent c := sTy_at _ _ _
      have ho' : ∀ q, q ≠ t → (s.sTy t ((s.ty t).ent c)).ty q = s0.ty q := fun q hq => (sTy_ne _ _ hq).trans (L3 q hq)
      have sE' : Sim ((s.sTy t ((s.ty t).ent c)).ty t) (T.ent c) := by rw [hty]; exact sE
      have hla : (s.sTy t ((s.ty t).ent c)).last = 2 * G.each - 1 := L1b
      have hp' : PrevOK e0 t s0 (s.sTy t ((s.ty t).ent c)).last := by rw [hla]; exact hp
      generalize hs1 : s.sTy t ((s.ty t).ent c) = s1 at *
      have s1g : s1.gov = G.ovs ∧ s1.hand = t ∧ s1.rule = s.rule ∧ s1.bt = s.bt ∧ s1.bo = s.bo ∧ s1.be = s.be ∧ s1.won = s.won := by
        rw [← hs1]
        exact ⟨L1a, L1c, rfl, rfl, rfl, rfl, rfl⟩
      have rG := r_ent S hE (g := g) (k := c / 16) (v := c - c / 16 * 16) (fun e1 S1 => by
        rw [req] at S1
        have e61 : e1.2 6 g = G.each := (S1.fr 6 _ (own_lo (by decide))).trans hge
        exact r_466 S1 (g := g) (k := c / 16) (c := if c / 16 = 9 then 1 else 0) (la := s1.last) (s := s1) g0 g1 (by rw [e61, hla]) rfl (fun z => tgR_of S1 hla ho' sE' iT hp' z) rfl iT.o1 (i32_tr iT.w1 iT.ba))
      rw [hrow] at rG
      obtain ⟨e2, q1, q2⟩ := rG
      have q3 : Lp G t s0 (m + 7) (endR (endV (t = s1.last) s1.target (if c / 16 = 9 then 1 else 0) (T.ent c)) (T.ent c)) (xw (endV (t = s1.last) s1.target (if c / 16 = 9 then 1 else 0) (T.ent c)) (if t = s1.last then (fun j => if j = 34 then s1.target else x j) else x)) (s1.endT (if c / 16 = 9 then 1 else 0)) := by
        have hx33 : (if t = s1.last then (fun j => if j = 34 then s1.target else x j) else x) 33 = 0 := by
          split
          · exact w2
          · exact w2
        have hxk : ∀ j, j ≠ 34 → (if t = s1.last then (fun j => if j = 34 then s1.target else x j) else x) j = x j := by
          intro j hj
          split
          · exact if_neg hj
          · rfl
        refine lp_end (s0 := s0) ⟨s1g.1, hla, s1g.2.1⟩ ⟨?_, ?_, ?_, ?_, (hxk 32 (by decide)).trans L2.2.2.2.2⟩ ho' sE' zE iT enE (s1g.2.2.2.2.2.2.trans w1) hx33 (fun z => ?_) (fun j hj => (hxk j (by omega)).trans (L11 j hj))
        · rw [hxk 28 (by decide), s1g.2.2.1]; exact L2.1
        · rw [hxk 29 (by decide), s1g.2.2.2.1]; exact L2.2.1
        · rw [hxk 30 (by decide), s1g.2.2.2.2.1]; exact L2.2.2.1
        · rw [hxk 31 (by decide), s1g.2.2.2.2.2.1]; exact L2.2.2.2.1
        · rw [if_pos z]
          exact if_pos rfl
      generalize hV : endV (t = s1.last) s1.target (if c / 16 = 9 then 1 else 0) (T.ent c) = V at *
      have q4 : SI (endR V (T.ent c)) (byD (c / 16) by') (roD (c / 16) ro) := by
        unfold endR
        split
        · exact siE
        · exact siE.of (fun _ => rfl) (fun _ => rfl)
      have q5 : (endR V (T.ent c)).begun = T.begun := by
        unfold endR
        split
        · exact bE
        · exact bE
      rw [q1]
      simp only [Option.bind_some]
      unfold P_X12_playOver_374
      rw [bd_e]
      have m7 : (m + 7).toInt = m.toInt + 7 := by
        have := Int32.le_iff_toInt_le.mp hm39
        have z1 : (39000 : Int32).toInt = 39000 := by decide
        have z0 : (7 : Int32).toInt = 7 := by decide
        have := Int32.le_toInt m
        rw [Int32.toInt_add, z0]
        apply Int.bmod_eq_of_le <;> omega
      have i1 := i32_succ hc
      have hi1 : (i + 1).toInt ≤ 40 := by
        have := Int32.lt_iff_toInt_lt.mp (Int32.lt_of_lt_of_le hc O3)
        have z : (40 : Int32).toInt = 40 := by decide
        omega
      have hrule : (s1.endT (if c / 16 = 9 then 1 else 0)).rule = 0 := (Ps.endT_k _ _).1.trans (s1g.2.2.1.trans hr)
      obtain ⟨e3, T3, by3, ro3, x3, m3, p1, p2, p3, p4, p5, p6⟩ := ih e2 _ _ _ _ _ (m + 7) q2 q3 q4 (i32_ps i0 hc) hrule (q5.trans hb) (by rw [m7, i1]; omega) hi1
      exact ⟨e3, T3, by3, ro3, x3, m3, p1, p2, p3, p4, p5.trans q5, p6⟩
    · rw [if_neg c1, if_neg c1]
      obtain ⟨e2, q1, q2⟩ := r_stop S (a := s.ruleE c) (b := t) (c := o) (d := i)
      rw [q1]
      simp only [Option.bind_some]
      unfold P_X12_playOver_374
      rw [bd_e]
      have fin : P_X12_playOver_284 n g t o (rw o) (i + 1) e2 = some e2 := ihB e2 ((q2.fr 13 _ (own_lo (by decide))).trans O1) rk (by rw [q2.ex]; exact c1)
      rw [fin]
      refine ⟨e2, T, by', ro, _, m, rfl, q2, stop_lp ⟨⟨L1a, L1b, L1c⟩, L2, L3, L4, L5, L6, L7, L8, L9, L10, L11⟩, hSI, rfl, by omega⟩
end EL
