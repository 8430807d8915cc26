/-! One over after the other, on both sides -/
abbrev PLs (mn : Int32) (pl : Int32 → Int32) (T : Ty) : Prop := ∀ q, 0 ≤ q → q < mn → pl q = if q < T.begun then 1 else 0
def Ps.plOne (G : Pg) (t o : Int32) (s : Ps) : Ps := if s.ruleO (G.bow t o) = 0 then Ps.plE G t o (G.siz t o).toInt.toNat 0 (s.begO G t o) else s.stop (s.ruleO (G.bow t o)) t o (-1)
theorem plO_step (G : Pg) (t o : Int32) (n : Nat) (s : Ps) : Ps.plO G t (n + 1) o s = if (s.plOne G t o).rule = 0 then Ps.plO G t n (o + 1) (s.plOne G t o) else s.plOne G t o := by
  unfold Ps.plOne
  rw [Ps.plO]
  by_cases c : s.ruleO (G.bow t o) = 0
  · rw [if_pos c, if_pos c]
  · rw [if_neg c, if_neg c]
    rw [if_neg (show ¬ (s.stop (s.ruleO (G.bow t o)) t o (-1)).rule = 0 from c)]
theorem sTy_target {s : Ps} {t : Int32} {A : Ty} (h1 : A.score = (s.ty t).score) (h2 : A.means = (s.ty t).means) : (s.sTy t A).target = s.target := by
  have key : ∀ q, ((s.sTy t A).ty q).score = (s.ty q).score ∧ ((s.sTy t A).ty q).means = (s.ty q).means := by
    intro q
    by_cases c : q = t
    · rw [c, sTy_at]; exact ⟨h1, h2⟩
    · rw [sTy_ne _ _ c]; exact ⟨rfl, rfl⟩
  unfold Ps.target
  simp only [(key _).1, (key _).2]
  rfl
theorem i32_p1 {o : Int32} (h : o < 1000) : (o + 1).toInt = o.toInt + 1 := i32_succ h
section OV
variable {t : Int32} {rw : Int32 → Int32} {mn : Int32} {e0 e : mE} {T : Ty} {by' ro : Int32} {pl : Int32 → Int32} {x : Nat → Int32} {G : Pg} {s0 s : Ps} {m : Int32} {g o : Int32}
theorem r_over (g0 : 0 ≤ g) (g1 : g < 400) (hge : e0.2 6 g = G.each) (hea : G.each = 1 ∨ G.each = 2) (hov : e0.2 5 g = G.ovs) (hrw : e0.2 10 (130 * (4 * g + t) + o) = rw o) (hrw1 : 0 < o → e0.2 10 (130 * (4 * g + t) + (o - 1)) = rw (o - 1)) (hrk : 0 ≤ rw o ∧ rw o < 6000) (hO : OvR e0 rw G t o) (hb0 : 0 ≤ G.bow t o) (hsz : -1 ≤ G.siz t o) (o0 : 0 ≤ o) (o1 : o < 130) (hmn : o < 120 → o < mn) (hp : PrevOK e0 t s0 (2 * G.each - 1))
    (S : RSt t rw mn e0 e T by' ro pl x) (L : Lp G t s0 m T x s) (hSI : SI T by' ro) (hPL : PLs mn pl T) (hT : T.begun = o) (hr : s.rule = 0) (hm : m.toInt ≤ 280 * o.toInt) :
    ∃ e' T' by2 ro2 pl2 x2 m2, P_X12_playOver g t o e = some e' ∧ RSt t rw mn e0 e' T' by2 ro2 pl2 x2 ∧ Lp G t s0 m2 T' x2 (s.plOne G t o) ∧ SI T' by2 ro2 ∧ PLs mn pl2 T' ∧ ((s.plOne G t o).rule = 0 → T'.begun = o + 1) ∧ T'.begun ≤ o + 1 ∧ m2.toInt ≤ 280 * (o.toInt + 1) := by
  have hO' := hO
  obtain ⟨O1, O2, O3, O4⟩ := hO
  have lo : ∀ k i, k < 35 → e.2 k i = e0.2 k i := fun k i hk => S.fr k i (own_lo hk)
  have L' := L
  obtain ⟨⟨La, Lb, Lc⟩, L2, L3, L4, L5, L6, L7, L8, L9, L10, L11⟩ := L
  have rO : s.ruleO (G.bow t o) = T.ruleO (G.bow t o) ((G.ovs + 4) / 5) := by
    unfold Ps.ruleO
    rw [Lc, La]
    exact sim_ruleO L4
  rw [r_rule S g0 g1 o0 o1 ((lo 10 _ (by decide)).trans hrw) hrk ((lo 12 _ (by decide)).trans O2) hb0 ((lo 5 _ (by decide)).trans hov) L6]
  have hoi := Int32.lt_iff_toInt_lt.mp o1
  have z130 : (130 : Int32).toInt = 130 := by decide
  have oi0 := Int32.le_iff_toInt_le.mp o0
  have z0 : (0 : Int32).toInt = 0 := by decide
  have o11 : (o + 1).toInt = o.toInt + 1 := i32_p1 (Int32.lt_of_lt_of_le o1 (by decide))
  unfold Ps.plOne
  rw [rO]
  by_cases c0 : T.ruleO (G.bow t o) ((G.ovs + 4) / 5) = 0
  · rw [if_pos c0, c0]
    obtain ⟨iB, bB, boB, wB⟩ := L6.begO (s := G.siz t o) c0
    have kB := begO_k T (G.bow t o) (G.siz t o)
    -- what the rule says
    have r1 : T.ended = 0 ∧ T.begun < T.allowed := by
      by_cases c : T.ended = 0 ∧ T.begun < T.allowed
      · exact c
      · unfold Ty.ruleO at c0; rw [if_neg c] at c0; exact absurd c0 (by decide)
    have r2 : G.bow t o < 11 := by
      unfold Ty.ruleO at c0
      rw [if_pos r1] at c0
      by_cases c : 0 ≤ G.bow t o ∧ G.bow t o < 11
      · exact c.2
      · rw [if_neg c] at c0; exact absurd c0 (by decide)
    have o120 : o < 120 := by
      have a1 := L6.ao
      have a2 := L6.v2
      have a3 := r1.2
      rw [hT] at a3
      clear L6 L' iB S L9 L10
      grind
    have om : o < mn := hmn o120
    have outs9 := L7 r1.1
    obtain ⟨w1, w2, w3⟩ := L9 r1.1
    obtain ⟨simB, zrB⟩ := sim_begO L4 L5 (by rw [hT]; exact o120) (by rw [hT]; exact o0) (b := G.bow t o) (v := G.siz t o)
    -- the row ahead
    have ahead : ∃ e1 T1, P_X12_playOver_103 g t o (rw o) (G.bow t o) 0 e = P_X12_playOver_180 g t o (rw o) (G.bow t o) e1 ∧ RSt t rw mn e0 e1 T1 by' ro pl x ∧ Zr T1 ∧ T1.begun = o ∧ T.begO (G.bow t o) (G.siz t o) = T1.begO2 (G.bow t o) (G.siz t o) := by
      unfold P_X12_playOver_103
      rw [if_pos rfl]
      by_cases c1 : o ≤ 0
      · rw [if_pos c1]
        refine ⟨e, T, rfl, S, L5, hT, ?_⟩
        unfold Ty.begO
        rw [if_pos]
        have a1 := L6.w0
        rw [hT]
        clear L6 L' iB S L9 L10
        grind
      · rw [if_neg c1]
        have o1' : 0 ≤ o - 1 ∧ o - 1 < 130 ∧ o - 1 < mn ∧ o - 1 < 120 ∧ 0 < o := by
          clear L6 L' iB S L9 L10
          refine ⟨by grind, by grind, by grind, by grind, by grind⟩
        have q10 : e.2 10 (130 * (4 * g + t) + (o - 1)) = rw (o - 1) := (lo 10 _ (by decide)).trans (hrw1 o1'.2.2.2.2)
        have rk1 := S.rk.1 (o - 1) o1'.1 o1'.2.2.1
        have b1 : T.begun - 1 = o - 1 := by rw [hT]
        have hb0' : T.begun ≠ 0 := by
          rw [hT]; intro q; rw [q] at c1; exact c1 (by decide)
        have e62 : e.2 62 (rw (o - 1)) = T.ov (T.begun - 1) 3 := by rw [← b1]; exact RSt.ov3 S (by rw [b1]; exact o1'.1) (by rw [b1]; exact o1'.2.2.1) (by rw [b1]; exact o1'.2.2.2.1)
        rw [r_rowOf g0 g1 S.t1 S.t2 o1'.1 o1'.2.1]
        simp only [Option.bind_some, bd_e]
        rw [q10, ck_t rk1, e62]
        by_cases c2 : T.ov (T.begun - 1) 3 = 0
        · rw [if_pos c2]
          have nw := (L6.w3 hb0').mp c2
          have wl : T.whole < T.begun := by
            have a1 := L6.w1
            clear L6 L' iB S L9 L10
            grind
          obtain ⟨e2, E2, S2⟩ := rs_open S ⟨by rw [b1]; exact o1'.1, by rw [b1]; exact o1'.2.2.1, by rw [b1]; exact o1'.2.2.2.1⟩
          rw [b1] at E2
          rw [r_rowOf g0 g1 S.t1 S.t2 o1'.1 o1'.2.1]
          simp only [Option.bind_some]
          rw [q10, ck_t rk1, ck_t ⟨S.t1, S.t2⟩]
          simp only [bd_e] at E2
          rw [ck_t ⟨S.t1, S.t2⟩] at E2
          rw [r_rowOf g0 g1 S.t1 S.t2 o1'.1 o1'.2.1]
          simp only [Option.bind_some]
          have q10' : (mA (mA e 63 (rw (o - 1)) 1) 42 t ((mA e 63 (rw (o - 1)) 1).2 42 t + 1)).2 10 (130 * (4 * g + t) + (o - 1)) = rw (o - 1) := by
            rw [mA_rd, if_neg (fun q => absurd q.1 (by decide)), mA_rd, if_neg (fun q => absurd q.1 (by decide))]
            exact q10
          rw [q10']
          obtain ⟨e3, E3, E4⟩ := bind_o E2
          cases E4
          rw [E3]
          refine ⟨_, T.endP, rfl, S2, zr_endP L5 ?_, hT, ?_⟩
          · rw [hT]
            clear L6 L' iB S L9 L10 S2
            grind
          · unfold Ty.begO
            rw [if_neg (Int32.not_le.mpr wl)]
        · rw [if_neg c2]
          refine ⟨e, T, rfl, S, L5, hT, ?_⟩
          unfold Ty.begO
          rw [if_pos]
          have nw : T.whole = T.begun := by
            by_cases q : T.whole = T.begun
            · exact q
            · exact absurd ((L6.w3 hb0').mpr q) c2
          rw [nw]
          exact Int32.le_refl _
    obtain ⟨e1, T1, A1, S1, Z1, B1, Q1⟩ := ahead
    rw [A1]
    obtain ⟨E180, S180⟩ := r_beg (g := g) S1 B1 om o0 o120 hb0 r2 Z1
    rw [E180]
    dsimp only
    generalize mA (mA (mA (mA e1 44 t (T1.begun + 1)) 51 t (G.bow t o)) 56 (11 * t + G.bow t o) (T1.bow (G.bow t o) 0 + 1)) 64 (rw o) 1 = e2 at *
    have e213 : e2.2 13 (rw o) = G.siz t o := (S180.fr 13 _ (own_lo (by decide))).trans O1
    rw [e213]
    -- the class's side
    have hzB : Zr (T.begO (G.bow t o) (G.siz t o)) := by
      apply zrB
      by_cases q : T.begun ≤ T.whole
      · exact Or.inl q
      · refine Or.inr ?_
        have a1 := L6.w0
        rw [hT] at q ⊢
        clear L6 L' iB S L9 L10 S1 S180
        grind
    have hty : (s.sTy t ((s.ty t).begO (G.bow t o) (G.siz t o))).ty t = (s.ty t).begO (G.bow t o) (G.siz t o) := sTy_at _ _ _
    have ho' : ∀ q, q ≠ t → (s.sTy t ((s.ty t).begO (G.bow t o) (G.siz t o))).ty q = s0.ty q := fun q hq => (sTy_ne _ _ hq).trans (L3 q hq)
    have kA := begO_k (s.ty t) (G.bow t o) (G.siz t o)
    have htgt : (s.sTy t ((s.ty t).begO (G.bow t o) (G.siz t o))).target = s.target := sTy_target kA.1 kA.2.1
    have lpE := lp_end (c := 0) (s0 := s0) (s := s.sTy t ((s.ty t).begO (G.bow t o) (G.siz t o))) (x := x) ⟨La, Lb, Lc⟩ L2 ho' (by rw [hty]; exact simB) hzB iB (kB.2.2.2.1.trans r1.1) w1 w2 (fun z => by rw [htgt]; exact L8 z) L11
    have sbeg : (s.sTy t ((s.ty t).begO (G.bow t o) (G.siz t o))).endT 0 = s.begO G t o := rfl
    rw [sbeg, htgt] at lpE
    have hlast : (s.sTy t ((s.ty t).begO (G.bow t o) (G.siz t o))).last = s.last := rfl
    rw [hlast] at lpE
    have rule0 : (s.begO G t o).rule = 0 := (Ps.endT_k _ _).1.trans hr
    have noWin : ¬ (t = s.last ∧ ¬ (T.begO (G.bow t o) (G.siz t o)).score < s.target) := fun q => q.2 (by rw [kB.1]; exact w3 q.1)
    have out10 : (T.begO (G.bow t o) (G.siz t o)).outs < 10 := by
      rw [kB.2.2.1]
      clear L6 L' iB S L9 L10 S1 S180 lpE
      grind
    have siB : SI (T.begO (G.bow t o) (G.siz t o)) by' ro := hSI.of kB.2.2.2.2.2.2 (fun q => by rw [kB.2.2.2.2.2.1])
    have plB : PLs mn (fun j => if j = o then 1 else pl j) (T.begO (G.bow t o) (G.siz t o)) := by
      intro q q0 q1
      have p := hPL q q0 q1
      show (if q = o then (1 : Int32) else pl q) = _
      rw [bB, p, hT]
      have k := i32_ls (j := q) o120
      by_cases c : q = o
      · rw [if_pos c, if_pos (k.mpr (Or.inr c))]
      · rw [if_neg c]
        by_cases c' : q < o
        · rw [if_pos c', if_pos (k.mpr (Or.inl c'))]
        · rw [if_neg c', if_neg (fun z => (k.mp z).elim c' c)]
    by_cases c3 : G.siz t o = -1
    · -- the row is missing
      rw [if_pos c3]
      have s0' : (G.siz t o).toInt.toNat = 0 := by rw [c3]; decide
      rw [s0']
      have q2 : T1.begO2 (G.bow t o) (G.siz t o) = (T1.begO1 (G.bow t o)).endP := by
        unfold Ty.begO2
        rw [if_pos (by rw [c3]; decide)]
      have bb1 : (T1.begO1 (G.bow t o)).begun - 1 = o := by
        show T1.begun + 1 - 1 = o
        rw [B1]
        clear L6 L' iB S L9 L10 S1 S180 lpE
        grind
      obtain ⟨e3, E3, S3⟩ := rs_open S180 ⟨by rw [bb1]; exact o0, by rw [bb1]; exact om, by rw [bb1]; exact o120⟩
      rw [bb1] at E3
      simp only [bd_e] at E3 ⊢
      rw [ck_t ⟨S.t1, S.t2⟩] at E3 ⊢
      obtain ⟨e4, E4, E5⟩ := bind_o E3
      cases E5
      rw [E4]
      simp only [Option.bind_some]
      rw [ck_t ⟨S.t1, S.t2⟩, ck_t ⟨S.t1, S.t2⟩]
      rw [← q2, ← Q1] at S3
      rw [RSt.whole S3, RSt.allowed S3]
      have hV : endV (t = s.last) s.target 0 (T.begO (G.bow t o) (G.siz t o)) = if (T.begO (G.bow t o) (G.siz t o)).whole < (T.begO (G.bow t o) (G.siz t o)).allowed then 0 else 2 := by
        unfold endV
        rw [if_neg noWin, if_pos out10, if_pos rfl]
      have wa : (T.begO (G.bow t o) (G.siz t o)).whole ≤ (T.begO (G.bow t o) (G.siz t o)).allowed := i32_tr iB.w1 iB.ba
      rw [hV] at lpE
      by_cases c4 : (T.begO (G.bow t o) (G.siz t o)).whole = (T.begO (G.bow t o) (G.siz t o)).allowed
      · have c4' : ¬ (T.begO (G.bow t o) (G.siz t o)).whole < (T.begO (G.bow t o) (G.siz t o)).allowed := fun q => by rw [c4] at q; exact Int32.lt_irrefl q
        rw [if_pos c4, ck_t ⟨S.t1, S.t2⟩]
        rw [if_neg c4'] at lpE
        have S4 := rs_ended S3 2
        refine ⟨_, _, _, _, _, _, m, rfl, S4, ?_, ?_, ?_, fun _ => bB.trans (by rw [hT]), ?_, by omega⟩
        · have : xw 2 x = x := by unfold xw; rw [if_neg (by decide)]
          rw [this] at lpE
          exact lpE
        · exact siB.of (fun _ => rfl) (fun _ => rfl)
        · exact plB
        · show (T.begO (G.bow t o) (G.siz t o)).begun ≤ o + 1
          rw [bB, hT]; exact Int32.le_refl _
      · have c4' : (T.begO (G.bow t o) (G.siz t o)).whole < (T.begO (G.bow t o) (G.siz t o)).allowed := by
          clear L6 L' iB S L9 L10 S1 S180 lpE S3 hV
          grind
        rw [if_neg c4]
        rw [if_pos c4'] at lpE
        refine ⟨_, _, _, _, _, _, m, rfl, S3, ?_, siB, plB, fun _ => bB.trans (by rw [hT]), by rw [bB, hT]; exact Int32.le_refl _, by omega⟩
        have : xw 0 x = x := by unfold xw; rw [if_neg (by decide)]
        rw [this] at lpE
        exact lpE
    · -- the row's entries
      rw [if_neg c3]
      have sz0 : 0 ≤ G.siz t o := by
        clear L6 L' iB S L9 L10 S1 S180 lpE
        grind
      have q2 : T1.begO2 (G.bow t o) (G.siz t o) = T1.begO1 (G.bow t o) := by
        unfold Ty.begO2
        rw [if_neg (Int32.not_lt.mpr sz0)]
      rw [← q2, ← Q1] at S180
      have hV : endV (t = s.last) s.target 0 (T.begO (G.bow t o) (G.siz t o)) = 0 := by
        unfold endV
        rw [if_neg noWin, if_pos out10, if_pos rfl, if_pos (Int32.lt_of_lt_of_le (wB sz0) iB.ba)]
      rw [hV] at lpE
      have x0 : xw 0 x = x := by unfold xw; rw [if_neg (by decide)]
      rw [x0] at lpE
      have lpE' : Lp G t s0 m (T.begO (G.bow t o) (G.siz t o)) x (s.begO G t o) := lpE
      have szi : (G.siz t o).toInt ≤ 40 := Int32.le_iff_toInt_le.mp O3
      obtain ⟨e3, T3, by3, ro3, x3, m3, p1, p2, p3, p4, p5, p6⟩ := (r_284 (pl := fun j => if j = o then 1 else pl j) (mn := mn) (g := g) g0 g1 hge hea hO' o0 om o120 hp fu 0 (by unfold fu; omega)).1 e2 _ _ _ x (s.begO G t o) m S180 lpE' siB (by decide) rule0 (by rw [bB, hT]) (by omega) (by omega)
      rw [z0, Int.sub_zero] at p3
      refine ⟨e3, T3, by3, ro3, _, x3, m3, p1, p2, p3, p4, ?_, fun _ => by rw [p5, bB, hT], by rw [p5, bB, hT]; exact Int32.le_refl _, by omega⟩
      intro q q0 q1
      rw [p5]
      exact plB q q0 q1
  · rw [if_neg c0]
    unfold P_X12_playOver_103
    rw [if_neg c0]
    obtain ⟨e2, q1, q2⟩ := r_stop S (a := T.ruleO (G.bow t o) ((G.ovs + 4) / 5)) (b := t) (c := o) (d := -1)
    rw [q1]
    refine ⟨e2, T, by', ro, pl, _, m, rfl, q2, stop_lp L', hSI, hPL, fun z => absurd z c0, ?_, by omega⟩
    rw [hT]
    clear L6 L' S L9 L10 q2
    grind
end OV
