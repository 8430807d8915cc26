/-! A turn in play: class and reference side by side -/
def xw (v : Int32) (x : Nat → Int32) : Nat → Int32 := if v = 4 then (fun j => if j = 33 then 2 else x j) else x
section RE
variable {t : Int32} {rw : Int32 → Int32} {mn : Int32} {e0 e : mE} {T : Ty} {by' ro : Int32} {pl : Int32 → Int32} {x : Nat → Int32}
theorem r_last {g : Int32} (g0 : 0 ≤ g) (g1 : g < 400) : P_X12_lastTurn g e = some (2 * e.2 6 g - 1, e) := by
  unfold P_X12_lastTurn
  rw [ck_t ⟨g0, g1⟩]
theorem r_ends37 (S : RSt t rw mn e0 e T by' ro pl x) {k c : Int32} (hc : c = if k = 9 then 1 else 0) (ho : T.outs ≤ 10) (hw : T.whole ≤ T.allowed) : GR t rw mn e0 (P_X12_ends_37 t k e) (endR (if T.outs < 10 then (if c = 0 then (if T.whole < T.allowed then 0 else 2) else 3) else 1) T) by' ro pl x := by
  unfold P_X12_ends_37
  refine gr_t S ?_
  rw [RSt.outs S, RSt.whole S, RSt.allowed S]
  by_cases c1 : T.outs = 10
  · have c1' : ¬ T.outs < 10 := by rw [c1]; decide
    rw [if_pos c1, if_neg c1', endR, if_neg (by decide)]
    exact gr_t S (gr_ended S (fun e S => gr_end S rfl rfl rfl rfl rfl))
  · have c1' : T.outs < 10 := by clear S hc hw; grind
    rw [if_neg c1, if_pos c1']
    by_cases c2 : k = 9
    · rw [if_pos c2] at hc
      rw [if_pos c2, hc, if_neg (by decide), endR, if_neg (by decide)]
      exact gr_t S (gr_ended S (fun e S => gr_end S rfl rfl rfl rfl rfl))
    · rw [if_neg c2] at hc
      rw [if_neg c2, hc, if_pos rfl]
      refine gr_t S (gr_t S ?_)
      by_cases c3 : T.whole = T.allowed
      · have c3' : ¬ T.whole < T.allowed := fun q => by rw [c3] at q; exact Int32.lt_irrefl q
        rw [if_pos c3, if_neg c3', endR, if_neg (by decide)]
        exact gr_t S (gr_ended S (fun e S => gr_end S rfl rfl rfl rfl rfl))
      · have c3' : T.whole < T.allowed := by clear S hc ho c1 c1' c2; grind
        rw [if_neg c3, if_pos c3', endR, if_pos rfl]
        exact gr_end S rfl rfl rfl rfl rfl
theorem r_ends (S : RSt t rw mn e0 e T by' ro pl x) {g k c la tg : Int32} (g0 : 0 ≤ g) (g1 : g < 400) (hl : 2 * e.2 6 g - 1 = la) (htg : t = la → x 34 = tg) (hc : c = if k = 9 then 1 else 0) (ho : T.outs ≤ 10) (hw : T.whole ≤ T.allowed) : GR t rw mn e0 (P_X12_ends g t k e) (endR (endV (t = la) tg c T) T) by' ro pl (xw (endV (t = la) tg c T) x) := by
  unfold P_X12_ends
  refine gr_o (r_last g0 g1) (gr_bd (gr_bd ?_))
  dsimp only
  rw [hl]
  have k37 := r_ends37 S hc ho hw
  by_cases c1 : t = la
  · rw [if_pos c1]
    refine gr_t S ?_
    rw [RSt.score S, S.ex, htg c1]
    by_cases c2 : T.score < tg
    · rw [if_pos c2]
      have e1 : endV (t = la) tg c T = (if T.outs < 10 then (if c = 0 then (if T.whole < T.allowed then 0 else 2) else 3) else 1) := by
        unfold endV; rw [if_neg (fun q => q.2 c2)]
      have e2 : xw (endV (t = la) tg c T) x = x := by
        unfold xw; rw [if_neg]; rw [e1]; repeat' split
        all_goals decide
      rw [e2, e1]
      exact k37
    · rw [if_neg c2]
      have e1 : endV (t = la) tg c T = 4 := by unfold endV; rw [if_pos ⟨c1, c2⟩]
      rw [e1, endR, if_neg (by decide)]
      unfold xw
      rw [if_pos rfl]
      exact gr_t S (gr_ended S (fun e S => gr_mS S (fun e S => gr_end S rfl rfl rfl rfl rfl)))
  · rw [if_neg c1]
    have e1 : endV (t = la) tg c T = (if T.outs < 10 then (if c = 0 then (if T.whole < T.allowed then 0 else 2) else 3) else 1) := by
      unfold endV; rw [if_neg (fun q => c1 q.1)]
    have e2 : xw (endV (t = la) tg c T) x = x := by
      unfold xw; rw [if_neg]; rw [e1]; repeat' split
      all_goals decide
    rw [e2, e1]
    exact k37
/-- the figures that the target is made of -/
def TgR (e : mE) (t : Int32) (s : Ps) : Prop := (t = 1 ∧ s.last = 1 ∨ t = 3 ∧ s.last = 3) ∧ e.2 35 0 = (s.ty 0).score ∧ e.2 35 1 = (s.ty 1).score ∧ (t = 3 → e.2 35 2 = (s.ty 2).score) ∧ e.2 43 0 = (s.ty 0).means ∧ e.2 43 1 = (s.ty 1).means ∧ 0 ≤ (s.ty 0).score ∧ (s.ty 0).score ≤ 40000 ∧ 0 ≤ (s.ty 0).means ∧ (s.ty 0).means ≤ 1000 ∧ 0 ≤ (s.ty 1).means ∧ (s.ty 1).means ≤ 1000
theorem r_aim {g : Int32} {s : Ps} (h : TgR e t s) : P_X12_aim g t e = some (mS e 34 s.target) := by
  obtain ⟨h1, h2, h3, h4, h5, h6, h7, h8, h9, h10, h11, h12⟩ := h
  unfold P_X12_aim Ps.target
  rcases h1 with ⟨q1, q2⟩ | ⟨q1, q2⟩
  · rw [if_neg (by rw [q1]; decide), if_pos (by rw [q2]; decide), ck_t (by decide), bd_e, ck_t (by decide), bd_e, ck_t (by decide), bd_e, h2, h5, h6]
    by_cases c1 : (s.ty 1).means ≤ (s.ty 0).means
    · rw [if_pos c1, if_pos c1]
      by_cases c2 : (s.ty 0).means = 0
      · rw [if_pos c2, if_pos (by rw [c2]; decide), bd_e]
      · have c3 : ¬ (s.ty 0).means ≤ 0 := by clear h2 h3 h4 h5 h6; grind
        rw [if_neg c2, if_neg c3, ck_t (P := ¬ (s.ty 0).means.toInt64 = 0) (fun q => c2 (by
          have z := congrArg Int64.toInt q
          rw [Int32.toInt_toInt64] at z
          exact Int32.toInt_inj.mp (z.trans (by decide)))), bd_e, tgt64 h7 h8 h11 c1 h10 c2]
    · rw [if_neg c1, if_neg c1, bd_e]
  · rw [if_pos q1, if_neg (by rw [q2]; decide), ck_t (by decide), ck_t (by decide), ck_t (by decide), bd_e, h2, h3, h4 q1]
theorem r_466 (S : RSt t rw mn e0 e T by' ro pl x) {g k c la : Int32} {s : Ps} (g0 : 0 ≤ g) (g1 : g < 400) (hl : 2 * e.2 6 g - 1 = la) (hla : s.last = la) (htg : t = la → TgR e t s) (hc : c = if k = 9 then 1 else 0) (ho : T.outs ≤ 10) (hw : T.whole ≤ T.allowed) : GR t rw mn e0 (P_X12_playEntry_466 g t k e) (endR (endV (t = la) s.target c T) T) by' ro pl (xw (endV (t = la) s.target c T) (if t = la then (fun j => if j = 34 then s.target else x j) else x)) := by
  unfold P_X12_playEntry_466 P_X12_playEntry_481
  refine gr_o (r_last g0 g1) (gr_bd (gr_bd ?_))
  dsimp only
  rw [hl]
  by_cases c1 : t = la
  · rw [if_pos c1, if_pos c1]
    refine gr_o (r_aim (htg c1)) ?_
    have S1 : RSt t rw mn e0 (mS e 34 s.target) T by' ro pl (fun j => if j = 34 then s.target else x j) := ⟨S.t1, S.t2, S.rk, S.re, S.eb, S.er, S.ep, by funext j; show (if j = 34 then s.target else e.1 j) = _; rw [S.ex], S.fr⟩
    exact gr_call (r_ends S1 g0 g1 hl (fun _ => if_pos rfl) hc ho hw) (fun e S => gr_end S rfl rfl rfl rfl rfl)
  · rw [if_neg c1, if_neg c1]
    exact gr_call (r_ends S g0 g1 hl (fun z => absurd z c1) hc ho hw) (fun e S => gr_end S rfl rfl rfl rfl rfl)
end RE
/-- the two sides of a turn in play -/
abbrev Lp (G : Pg) (t : Int32) (s0 : Ps) (m : Int32) (T : Ty) (x : Nat → Int32) (s : Ps) : Prop :=
  (s.gov = G.ovs ∧ s.last = 2 * G.each - 1 ∧ s.hand = t) ∧ (x 28 = s.rule ∧ x 29 = s.bt ∧ x 30 = s.bo ∧ x 31 = s.be ∧ x 32 = t) ∧ (∀ q, q ≠ t → s.ty q = s0.ty q) ∧ Sim (s.ty t) T ∧ Zr T ∧ Iv G.ovs m T ∧ (T.ended = 0 → T.outs ≤ 9) ∧ (t = s.last → x 34 = s.target) ∧ (T.ended = 0 → s.won = 0 ∧ x 33 = 0 ∧ (t = s.last → T.score < s.target)) ∧ (T.ended ≠ 0 → s.won = s.wonV ∧ x 33 = (if T.ended = 4 then 2 else 0) ∧ (T.ended = 4 → t = s.last) ∧ (t = s.last → (T.ended = 4 ↔ ¬ T.score < s.target))) ∧ (∀ j, j < 28 ∨ 34 < j → x j = s0.1 j)
theorem endV_4 {L : Prop} [Decidable L] {tg c : Int32} {T : Ty} : endV L tg c T = 4 ↔ L ∧ ¬ T.score < tg := by
  unfold endV
  by_cases h : L ∧ ¬ T.score < tg
  · rw [if_pos h]; exact ⟨fun _ => h, fun _ => rfl⟩
  · rw [if_neg h]
    constructor
    · intro q
      exfalso
      revert q
      repeat' split
      all_goals decide
    · intro q; exact absurd q h
theorem endV_0 {L : Prop} [Decidable L] {tg c : Int32} {T : Ty} (h : endV L tg c T = 0) : T.outs < 10 ∧ (L → T.score < tg) := by
  unfold endV at h
  by_cases h1 : L ∧ ¬ T.score < tg
  · rw [if_pos h1] at h; exact absurd h (by decide)
  · rw [if_neg h1] at h
    by_cases h2 : T.outs < 10
    · refine ⟨h2, fun l => ?_⟩
      by_cases h3 : T.score < tg
      · exact h3
      · exact absurd ⟨l, h3⟩ h1
    · rw [if_neg h2] at h; exact absurd h (by decide)
theorem sim_endV {A B : Ty} (s : Sim A B) {L : Prop} [Decidable L] {tg c : Int32} : endV L tg c A = endV L tg c B := by
  unfold endV
  rw [s.score, s.outs, s.whole, s.allowed]
theorem sim_endR {A B : Ty} (s : Sim A B) {v : Int32} : Sim (endR v A) (endR v B) := by
  unfold endR
  split
  · exact s
  · exact sim_I s (by decide) rfl
/-- the end of a turn, on both sides -/
theorem lp_end {G : Pg} {t m c : Int32} {s0 s : Ps} {T : Ty} {x : Nat → Int32} (hG : s.gov = G.ovs ∧ s.last = 2 * G.each - 1 ∧ s.hand = t) (hx : x 28 = s.rule ∧ x 29 = s.bt ∧ x 30 = s.bo ∧ x 31 = s.be ∧ x 32 = t) (ho : ∀ q, q ≠ t → s.ty q = s0.ty q) (hs : Sim (s.ty t) T) (hz : Zr T) (hi : Iv G.ovs m T) (he : T.ended = 0) (hw : s.won = 0) (h33 : x 33 = 0) (h34 : t = s.last → x 34 = s.target) (hf : ∀ j, j < 28 ∨ 34 < j → x j = s0.1 j) : Lp G t s0 m (endR (endV (t = s.last) s.target c T) T) (xw (endV (t = s.last) s.target c T) x) (s.endT c) := by
  obtain ⟨g1, g2, g3⟩ := hG
  have h0 : (s.ty s.hand).ended = 0 := by rw [g3, hs.ended]; exact he
  have E := endT_eq s c h0 hw
  have eV : endV (s.hand = s.last) s.target c (s.ty s.hand) = endV (t = s.last) s.target c T := by
    rw [sim_endV (by rw [g3]; exact hs)]
    unfold endV
    simp only [g3]
  rw [eV] at E
  obtain ⟨E1, E2, E3, E4, E5, E6, E7, E8, E9, E10, E11, E12⟩ := E
  generalize hv : endV (t = s.last) s.target c T = v at *
  have xk : ∀ j, j ≠ 33 → xw v x j = x j := by
    intro j hj
    unfold xw
    split
    · exact if_neg hj
    · rfl
  have zR : Zr (endR v T) := by
    unfold endR; split
    · exact hz
    · exact hz
  have iR : Iv G.ovs m (endR v T) := by
    unfold endR; split
    · exact hi
    · exact hi.end1
  have sc : (endR v T).score = T.score ∧ (endR v T).outs = T.outs := by unfold endR; split <;> exact ⟨rfl, rfl⟩
  have en : (endR v T).ended = v := by
    unfold endR; split
    · rename_i q; rw [he, q]
    · rfl
  have E9' : (s.endT c).ty t = endR v (s.ty t) := by rw [← g3]; exact E9
  refine ⟨⟨E7.trans g1, E6.trans g2, E5.trans g3⟩, ⟨(xk 28 (by decide)).trans (hx.1.trans E1.symm), (xk 29 (by decide)).trans (hx.2.1.trans E2.symm), (xk 30 (by decide)).trans (hx.2.2.1.trans E3.symm), (xk 31 (by decide)).trans (hx.2.2.2.1.trans E4.symm), (xk 32 (by decide)).trans hx.2.2.2.2⟩, fun q hq => (E8 q (by rw [g3]; exact hq)).trans (ho q hq), by rw [E9']; exact sim_endR hs, zR, iR, ?_, ?_, ?_, ?_, fun j hj => (xk j (by omega)).trans (hf j hj)⟩
  · rw [en, sc.2]
    intro q
    have := (endV_0 (hv.trans q)).1
    grind
  · rw [E6, E10, xk 34 (by decide)]
    exact h34
  · rw [en, E6, E10, sc.1]
    intro q
    refine ⟨E11 q, ?_, (endV_0 (hv.trans q)).2⟩
    unfold xw
    rw [if_neg (by rw [q]; decide)]
    exact h33
  · rw [en, E6, E10, sc.1]
    intro q
    refine ⟨E12 q, ?_, ?_, ?_⟩
    · unfold xw
      by_cases z : v = 4
      · rw [if_pos z, if_pos z]; rfl
      · rw [if_neg z, if_neg z]; exact h33
    · intro z
      exact (endV_4.mp (hv.trans z)).1
    · intro l
      rw [← hv]
      rw [endV_4]
      exact ⟨fun z => z.2, fun z => ⟨l, z⟩⟩
