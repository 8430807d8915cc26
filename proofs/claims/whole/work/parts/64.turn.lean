/-! The overs of a turn, on both sides; how it ends -/
/-- a turn of the page, in the reference -/
def TurnR (e0 : mE) (rw : Int32 → Int32) (G : Pg) (g t : Int32) : Prop := e0.2 9 (4 * g + t) = G.many t ∧ 0 ≤ G.many t ∧ G.many t ≤ 130 ∧ ∀ o, 0 ≤ o → o < G.many t → e0.2 10 (130 * (4 * g + t) + o) = rw o ∧ (0 ≤ rw o ∧ rw o < 6000) ∧ OvR e0 rw G t o ∧ 0 ≤ G.bow t o ∧ -1 ≤ G.siz t o
/-- the turns ahead -/
def Prev (e0 : mE) (t : Int32) (s0 : Ps) : Prop := ∀ q, 0 ≤ q → q < t → e0.2 35 q = (s0.ty q).score ∧ e0.2 43 q = (s0.ty q).means ∧ 0 ≤ (s0.ty q).score ∧ (s0.ty q).score ≤ 40000 ∧ 0 ≤ (s0.ty q).means ∧ (s0.ty q).means ≤ 1000
theorem Prev.ok {e0 : mE} {t : Int32} {s0 : Ps} {la : Int32} (h : Prev e0 t s0) (hl : la = 1 ∨ la = 3) : PrevOK e0 t s0 la := by
  intro z
  refine ⟨?_, h⟩
  rcases hl with q | q
  · exact Or.inl ⟨z.trans q, q⟩
  · exact Or.inr ⟨z.trans q, q⟩
theorem last13 {G : Pg} (h : G.each = 1 ∨ G.each = 2) : 2 * G.each - 1 = 1 ∨ 2 * G.each - 1 = 3 := by
  rcases h with q | q <;> rw [q] <;> decide
section TU
variable {t : Int32} {rw : Int32 → Int32} {mn : Int32} {e0 : mE} {G : Pg} {s0 : Ps} {g : Int32}
theorem ix4 (g0 : 0 ≤ g) (g1 : g < 400) (t1 : 0 ≤ t) (t2 : t < 4) : (0 : Int32) ≤ 4 * g + t ∧ 4 * g + t < 1600 := by constructor <;> grind
theorem r_120 (g0 : 0 ≤ g) (g1 : g < 400) (t1 : 0 ≤ t) (t2 : t < 4) (hge : e0.2 6 g = G.each) (hea : G.each = 1 ∨ G.each = 2) (hov : e0.2 5 g = G.ovs) (hTR : TurnR e0 rw G g t) (hmn : mn = imin (G.many t) 120) (hp : Prev e0 t s0) : ∀ n o, ((G.many t).toInt - o.toInt).toNat < n → (∀ e T by' ro pl x s m, RSt t rw mn e0 e T by' ro pl x → Lp G t s0 m T x s → SI T by' ro → PLs mn pl T → 0 ≤ o → o ≤ G.many t → T.begun = o → s.rule = 0 → m.toInt ≤ 280 * o.toInt → ∃ e1 T' by2 ro2 pl2 x2 m2, P_X12_playTurn_120 n g t o e = P_X12_playTurn_154 g t e1 ∧ RSt t rw mn e0 e1 T' by2 ro2 pl2 x2 ∧ Lp G t s0 m2 T' x2 (Ps.plO G t ((G.many t).toInt - o.toInt).toNat o s) ∧ SI T' by2 ro2 ∧ PLs mn pl2 T' ∧ T'.begun ≤ G.many t ∧ m2.toInt ≤ 36400) ∧ ∀ e, e.2 9 (4 * g + t) = G.many t → e.1 28 ≠ 0 → P_X12_playTurn_120 n g t o e = P_X12_playTurn_154 g t e := by
  obtain ⟨R1, R2, R3, R4⟩ := hTR
  have ix := ix4 g0 g1 t1 t2
  have z130 : (130 : Int32).toInt = 130 := by decide
  have m130 : (G.many t).toInt ≤ 130 := by have := Int32.le_iff_toInt_le.mp R3; omega
  refine i32_up ?_ ?_
  · intro n o hc
    refine ⟨?_, fun e z1 z2 => by unfold P_X12_playTurn_120; rw [ck_t ix, z1, if_pos hc]⟩
    intro e T by' ro pl x s m S L hSI hPL o0 om hT hr hm
    rw [sub_none hc]
    unfold P_X12_playTurn_120
    rw [ck_t ix, (S.fr 9 _ (own_lo (by decide))).trans R1, if_pos hc]
    refine ⟨e, T, by', ro, pl, x, m, rfl, S, L, hSI, hPL, by rw [hT]; exact om, ?_⟩
    have := Int32.le_iff_toInt_le.mp om
    omega
  · intro n o hc ihh
    obtain ⟨ih, ihB⟩ := ihh
    refine ⟨?_, fun e z1 z2 => by unfold P_X12_playTurn_120; rw [ck_t ix, z1, if_neg (Int32.not_le.mpr hc), if_neg z2]⟩
    intro e T by' ro pl x s m S L hSI hPL o0 om hT hr hm
    have x28 : e.1 28 = 0 := by rw [S.ex, L.2.1.1]; exact hr
    obtain ⟨q1, q2, q3, q4, q5⟩ := R4 o o0 hc
    have o130 : o < 130 := Int32.lt_of_lt_of_le hc R3
    have oprev : 0 < o → e0.2 10 (130 * (4 * g + t) + (o - 1)) = rw (o - 1) := fun z => (R4 (o - 1) (by clear S L hSI hPL ih ihB; grind) (by clear S L hSI hPL ih ihB; grind)).1
    obtain ⟨e2, T2, by2, ro2, pl2, x2, m2, p1, p2, p3, p4, p5, p6, p7, p8⟩ := r_over g0 g1 hge hea hov q1 oprev q2 q3 q4 q5 o0 o130 (fun z => by
      rw [hmn]
      apply Int32.not_le.mp
      rw [imin_spec]
      intro w
      rcases w with w | w
      · exact absurd hc (Int32.not_lt.mpr w)
      · exact absurd z (Int32.not_lt.mpr w)) (hp.ok (last13 hea)) S L hSI hPL hT hr hm
    rw [sub_succ hc, plO_step]
    have o1 := i32_succ hc
    have oi := Int32.lt_iff_toInt_lt.mp hc
    unfold P_X12_playTurn_120
    rw [ck_t ix, (S.fr 9 _ (own_lo (by decide))).trans R1, if_neg (Int32.not_le.mpr hc), x28, if_pos rfl, p1]
    simp only [Option.bind_some, bd_e]
    by_cases c : (s.plOne G t o).rule = 0
    · rw [if_pos c]
      have hb := p6 c
      have om1 : o + 1 ≤ G.many t := Int32.le_iff_toInt_le.mpr (by omega)
      obtain ⟨e3, T3, by3, ro3, pl3, x3, m3, w1, w2, w3, w4, w5, w6, w7⟩ := ih e2 T2 by2 ro2 pl2 x2 _ m2 p2 p3 p4 p5 (i32_ps o0 hc) om1 hb c (by omega)
      exact ⟨e3, T3, by3, ro3, pl3, x3, m3, w1, w2, w3, w4, w5, w6, w7⟩
    · rw [if_neg c]
      have x28' : e2.1 28 ≠ 0 := by rw [p2.ex, p3.2.1.1]; exact c
      rw [ihB e2 ((p2.fr 9 _ (own_lo (by decide))).trans R1) x28']
      refine ⟨e2, T2, by2, ro2, pl2, x2, m2, rfl, p2, p3, p4, p5, ?_, by omega⟩
      exact i32_tr p7 (Int32.le_iff_toInt_le.mpr (by omega))
end TU
/-- the target is no great number -/
theorem tgt_le {a n m : Int32} (a0 : 0 ≤ a) (a1 : a ≤ 40000) (n0 : 0 ≤ n) (nm : n ≤ m) (m1 : m ≤ 1000) (mz : ¬ m = 0) : 0 ≤ a * n / m ∧ a * n / m ≤ 40000 := by
  have b0 := Int32.le_iff_toInt_le.mp a0
  have b1 := Int32.le_iff_toInt_le.mp a1
  have c0 := Int32.le_iff_toInt_le.mp n0
  have c1 := Int32.le_iff_toInt_le.mp nm
  have d1 := Int32.le_iff_toInt_le.mp m1
  have e0 : (0 : Int32).toInt = 0 := by decide
  have e4 : (40000 : Int32).toInt = 40000 := by decide
  have e5 : (1000 : Int32).toInt = 1000 := by decide
  rw [e0] at b0 c0
  rw [e4] at b1
  rw [e5] at d1
  have m0 : m.toInt ≠ 0 := fun q => mz (Int32.toInt_inj.mp (q.trans e0.symm))
  have p0 : 0 ≤ a.toInt * n.toInt := Int.mul_nonneg b0 c0
  have p1 : a.toInt * n.toInt ≤ 40000 * 1000 := Int.mul_le_mul b1 (by omega) c0 (by decide)
  have hmul32 : (a * n).toInt = a.toInt * n.toInt := by
    rw [Int32.toInt_mul]
    apply Int.bmod_eq_of_le <;> omega
  have q0 : 0 ≤ (a.toInt * n.toInt).tdiv m.toInt := Int.tdiv_nonneg p0 (by omega)
  have q1 : (a.toInt * n.toInt).tdiv m.toInt ≤ a.toInt := by
    rw [Int.tdiv_eq_ediv_of_nonneg p0]
    apply Int.ediv_le_of_le_mul (by omega)
    exact Int.mul_le_mul_of_nonneg_left c1 b0
  have hd : (a * n / m).toInt = (a.toInt * n.toInt).tdiv m.toInt := by
    rw [Int32.toInt_div, hmul32]
    apply Int.bmod_eq_of_le <;> omega
  constructor
  · apply Int32.le_iff_toInt_le.mpr; omega
  · apply Int32.le_iff_toInt_le.mpr; omega
theorem d1000 {z : Int32} (h0 : 0 ≤ z) (h1 : z ≤ 1000) : 0 ≤ 200 * z / 1000 ∧ 200 * z / 1000 ≤ 200 := by
  have k : ∀ n, n < 1001 → 0 ≤ 200 * Int32.ofNat n / 1000 ∧ 200 * Int32.ofNat n / 1000 ≤ 200 := by decide +kernel
  have a1 := Int32.le_iff_toInt_le.mp h1
  have e5 : (1000 : Int32).toInt = 1000 := by decide
  obtain ⟨n, p1, p2, p3⟩ := i32_nat (N := 1000) h0 (by omega) (by decide)
  rw [p2]
  exact k n (by omega)
theorem tgt_bd {s : Ps} (hl : s.last = 1 ∨ s.last = 3) (h0 : 0 ≤ (s.ty 0).score ∧ (s.ty 0).score ≤ 40000 ∧ 0 ≤ (s.ty 0).means ∧ (s.ty 0).means ≤ 1000) (h1 : s.last = 1 → 0 ≤ (s.ty 1).means ∧ (s.ty 1).means ≤ 1000) (h3 : s.last = 3 → 0 ≤ (s.ty 1).score ∧ (s.ty 1).score ≤ 40000 ∧ 0 ≤ (s.ty 2).score ∧ (s.ty 2).score ≤ 40000) : -50000 ≤ s.target ∧ s.target ≤ 100000 ∧ (s.last = 1 → 1 ≤ s.target) := by
  unfold Ps.target
  rcases hl with q | q
  · have a := h1 q
    rw [if_pos (by rw [q]; decide)]
    by_cases c1 : (s.ty 1).means ≤ (s.ty 0).means
    · rw [if_pos c1]
      by_cases c2 : (s.ty 0).means ≤ 0
      · rw [if_pos c2]; exact ⟨by decide, by decide, fun _ => by decide⟩
      · rw [if_neg c2]
        have b := tgt_le h0.1 h0.2.1 a.1 c1 h0.2.2.2 (fun z => c2 (by rw [z]; decide))
        generalize (s.ty 0).score * (s.ty 1).means / (s.ty 0).means = w at *
        clear h0 h1 h3 a
        exact ⟨by grind, by grind, fun _ => by grind⟩
    · rw [if_neg c1]
      have b := d1000 (z := (s.ty 1).means - (s.ty 0).means) (by clear h1 h3; grind) (by clear h1 h3; grind)
      generalize 200 * ((s.ty 1).means - (s.ty 0).means) / 1000 = w at *
      have c := h0.1
      have d := h0.2.1
      clear h0 h1 h3 a
      exact ⟨by grind, by grind, fun _ => by grind⟩
  · have a := h3 q
    rw [if_neg (by rw [q]; decide)]
    have c := h0.1
    have d := h0.2.1
    obtain ⟨a1, a2, a3, a4⟩ := a
    clear h0 h1 h3
    exact ⟨by grind, by grind, fun z => absurd (z.symm.trans q) (by decide)⟩
section TE
variable {t : Int32} {rw : Int32 → Int32} {mn : Int32} {e0 e : mE} {T : Ty} {by' ro : Int32} {pl : Int32 → Int32} {x : Nat → Int32} {G : Pg} {s0 s : Ps} {m : Int32} {g : Int32}
theorem r_154 (g0 : 0 ≤ g) (g1 : g < 400) (hge : e0.2 6 g = G.each) (hea : G.each = 1 ∨ G.each = 2) (hla : t ≤ 2 * G.each - 1) (hp : Prev e0 t s0) (S : RSt t rw mn e0 e T by' ro pl x) (L : Lp G t s0 m T x s) (hm : m.toInt ≤ 36400) : ∃ e' x', P_X12_playTurn_154 g t e = some e' ∧ RSt t rw mn e0 e' T by' ro pl x' ∧ x' 33 = s.won ∧ ∀ j, j ≠ 33 → x' j = x j := by
  obtain ⟨⟨La, Lb, Lc⟩, L2, L3, L4, L5, L6, L7, L8, L9, L10, L11⟩ := L
  have e6 : e.2 6 g = G.each := (S.fr 6 _ (own_lo (by decide))).trans hge
  have ms : T.score ≤ 40000 := by
    have a := Int32.le_iff_toInt_le.mp L6.s1
    have z : (40000 : Int32).toInt = 40000 := by decide
    exact Int32.le_iff_toInt_le.mpr (by omega)
  have prev : ∀ q, 0 ≤ q → q < t → e.2 35 q = (s.ty q).score ∧ 0 ≤ (s.ty q).score ∧ (s.ty q).score ≤ 40000 ∧ 0 ≤ (s.ty q).means ∧ (s.ty q).means ≤ 1000 := by
    intro q q0 q1
    have qt : q ≠ t := fun z => by rw [z] at q1; exact Int32.lt_irrefl q1
    have a := hp q q0 q1
    rw [S.fr 35 q (own_ne (by decide) qt), L3 q qt]
    exact ⟨a.1, a.2.2⟩
  have cur : e.2 35 t = (s.ty t).score ∧ 0 ≤ (s.ty t).score ∧ (s.ty t).score ≤ 40000 ∧ 0 ≤ (s.ty t).means ∧ (s.ty t).means ≤ 1000 := by
    rw [RSt.score S, L4.score, L4.means]
    exact ⟨rfl, L6.s0, ms, L6.me0, L6.m1⟩
  unfold P_X12_playTurn_154
  rw [ck_t ⟨S.t1, S.t2⟩, RSt.ended S]
  by_cases c1 : T.ended = 0
  · rw [if_pos c1]
    obtain ⟨w1, w2, w3⟩ := L9 c1
    exact ⟨e, x, rfl, S, w2.trans w1.symm, fun _ _ => rfl⟩
  · rw [if_neg c1, r_last g0 g1]
    simp only [Option.bind_some, bd_e]
    rw [e6]
    obtain ⟨w1, w2, w3, w4⟩ := L10 c1
    have set33 : ∀ v, ∃ e' x', some (mS e 33 v) = some e' ∧ RSt t rw mn e0 e' T by' ro pl x' ∧ x' 33 = v ∧ ∀ j, j ≠ 33 → x' j = x j := by
      intro v
      refine ⟨_, fun j => if j = 33 then v else x j, rfl, ⟨S.t1, S.t2, S.rk, S.re, S.eb, S.er, S.ep, ?_, S.fr⟩, if_pos rfl, fun j hj => if_neg hj⟩
      funext j
      show (if j = 33 then v else e.1 j) = _
      rw [S.ex]
    have hsc : (s.ty s.hand).score = T.score := by rw [Lc, L4.score]
    by_cases c2 : t = 2 * G.each - 1
    · have tl : t = s.last := c2.trans Lb.symm
      have l13 : s.last = 1 ∨ s.last = 3 := by rw [Lb]; exact last13 hea
      have bd : -50000 ≤ s.target ∧ s.target ≤ 100000 := by
        rcases l13 with q | q
        · have t1' : t = 1 := tl.trans q
          have p0 := prev 0 (by decide) (by rw [t1']; decide)
          rw [t1'] at cur
          have := tgt_bd (s := s) (Or.inl q) ⟨p0.2.1, p0.2.2.1, p0.2.2.2.1, p0.2.2.2.2⟩ (fun _ => ⟨cur.2.2.2.1, cur.2.2.2.2⟩) (fun z => absurd (q.symm.trans z) (by decide))
          exact ⟨this.1, this.2.1⟩
        · have t3 : t = 3 := tl.trans q
          have p0 := prev 0 (by decide) (by rw [t3]; decide)
          have p1 := prev 1 (by decide) (by rw [t3]; decide)
          have p2 := prev 2 (by decide) (by rw [t3]; decide)
          have := tgt_bd (s := s) (Or.inr q) ⟨p0.2.1, p0.2.2.1, p0.2.2.2.1, p0.2.2.2.2⟩ (fun z => absurd (q.symm.trans z) (by decide)) (fun _ => ⟨p1.2.1, p1.2.2.1, p2.2.1, p2.2.2.1⟩)
          exact ⟨this.1, this.2.1⟩
      have s0' := L6.s0
      rw [if_pos c2, S.ex]
      have x34 := L8 tl
      have wv : s.won = if 0 < s.target - T.score then (if s.target - T.score = 1 then 3 else 1) else 2 := by
        rw [w1]
        unfold Ps.wonV
        rw [if_pos (show s.hand = s.last by rw [Lc]; exact tl), hsc]
      by_cases c3 : T.ended = 4
      · rw [if_pos c3] at w2
        rw [w2, if_neg (by decide)]
        refine ⟨e, x, rfl, S, ?_, fun _ _ => rfl⟩
        have ns := (w4 tl).mp c3
        rw [w2, wv, if_neg (by clear S L4 L5 L6 prev cur set33 hsc; grind)]
      · rw [if_neg c3] at w2
        have ls : T.score < s.target := by
          by_cases z : T.score < s.target
          · exact z
          · exact absurd ((w4 tl).mpr z) c3
        rw [w2, if_pos rfl, ck_t ⟨S.t1, S.t2⟩, RSt.score S, x34]
        have pos : 0 < s.target - T.score := by clear S L4 L5 L6 prev cur set33 hsc; grind
        rw [if_pos pos] at wv
        by_cases c4 : T.score = s.target - 1
        · rw [if_pos c4]
          rw [if_pos (by clear S L4 L5 L6 prev cur set33 hsc; grind)] at wv
          obtain ⟨e', x', k1, k2, k3, k4⟩ := set33 3
          exact ⟨e', x', k1, k2, k3.trans wv.symm, k4⟩
        · rw [if_neg c4]
          rw [if_neg (by clear S L4 L5 L6 prev cur set33 hsc; grind)] at wv
          obtain ⟨e', x', k1, k2, k3, k4⟩ := set33 1
          exact ⟨e', x', k1, k2, k3.trans wv.symm, k4⟩
    · have tl : ¬ t = s.last := fun z => c2 (z.trans Lb)
      have n4 : ¬ T.ended = 4 := fun z => tl (w3 z)
      rw [if_neg n4] at w2
      rw [if_neg c2, ck_t ⟨g0, g1⟩]
      have wv : s.won = if t = 2 then (if 1 ≤ s.target then 0 else 2) else 0 := by
        rw [w1]
        unfold Ps.wonV
        rw [if_neg (show ¬ s.hand = s.last by rw [Lc]; exact tl), Lc]
      by_cases c3 : G.each = 2
      · rw [if_pos c3]
        by_cases c4 : t = 2
        · have tg : s.target = (s.ty 0).score + (s.ty 2).score - (s.ty 1).score + 1 := by
            unfold Ps.target
            rw [if_neg (by rw [Lb, c3]; decide)]
          have p0 := prev 0 (by decide) (by rw [c4]; decide)
          have p1 := prev 1 (by decide) (by rw [c4]; decide)
          rw [if_pos c4, ck_t (by decide), ck_t (by decide), ck_t (by decide), p0.1, p1.1]
          rw [c4] at cur
          rw [cur.1, ← tg]
          rw [if_pos c4] at wv
          by_cases c5 : 1 ≤ s.target
          · rw [if_pos c5]
            rw [if_pos c5] at wv
            exact ⟨e, x, rfl, S, w2.trans wv.symm, fun _ _ => rfl⟩
          · rw [if_neg c5]
            rw [if_neg c5] at wv
            obtain ⟨e', x', k1, k2, k3, k4⟩ := set33 2
            exact ⟨e', x', k1, k2, k3.trans wv.symm, k4⟩
        · rw [if_neg c4]
          rw [if_neg c4] at wv
          exact ⟨e, x, rfl, S, w2.trans wv.symm, fun _ _ => rfl⟩
      · rw [if_neg c3]
        have e1 : G.each = 1 := hea.resolve_right c3
        have n2 : ¬ t = 2 := by
          intro z
          rw [z, e1] at hla
          exact absurd hla (by decide)
        rw [if_neg n2] at wv
        exact ⟨e, x, rfl, S, w2.trans wv.symm, fun _ _ => rfl⟩
end TE
