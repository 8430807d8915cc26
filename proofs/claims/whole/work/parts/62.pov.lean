/-! An over, on both sides -/
section POV
variable {t : Int32} {rw : Int32 → Int32} {mn : Int32} {e0 e : mE} {T : Ty} {by' ro : Int32} {pl : Int32 → Int32} {x : Nat → Int32} {G : Pg} {s0 s : Ps} {m : Int32} {g o : Int32}
theorem rs_bow0 (S : RSt t rw mn e0 e T by' ro pl x) {k v : Int32} (h1 : 0 ≤ k) (h2 : k < 11) : RSt t rw mn e0 (mA e 56 (11 * t + k) v) (T.sBow (gS 11 3 T.bow k 0 v)) by' ro pl x := by
  obtain ⟨e', q, s'⟩ := gr_bow0 S h1 h2 rfl (v := v) (f := some) (fun e1 s1 => ⟨e1, rfl, s1⟩)
  cases q
  exact s'
theorem rs_pl (S : RSt t rw mn e0 e T by' ro pl x) {k v : Int32} (h1 : 0 ≤ k) (h2 : k < mn) : RSt t rw mn e0 (mA e 64 (rw k) v) T by' ro (fun j => if j = k then v else pl j) x := by
  obtain ⟨e', q, s'⟩ := gr_pl S h1 h2 (v := v) (f := some) (fun e1 s1 => ⟨e1, rfl, s1⟩)
  cases q
  exact s'
theorem rs_open (S : RSt t rw mn e0 e T by' ro pl x) (hr : HRow mn T) : ∃ e2, (bd (mA e 63 (rw (T.begun - 1)) 1) fun e20 => (ck ((0 : Int32) ≤ t ∧ t < (4 : Int32))).bind fun _ => bd (mA e20 42 t ((e20.2 42 t) + 1)) fun e25 => (P_X12_becomesWhole t (rw (T.begun - 1)) e25).bind some) = some e2 ∧ RSt t rw mn e0 e2 T.endP by' ro pl x := r_open S hr (f := some) (fun e1 s1 => ⟨e1, rfl, s1⟩)
/-- the rule of an over is the class's -/
theorem sim_ruleO {A B : Ty} (h : Sim A B) {b mx : Int32} : A.ruleO b mx = B.ruleO b mx := by
  unfold Ty.ruleO
  rw [h.ended, h.begun, h.allowed, h.bowler, h.bow]
theorem r_rowOf (g0 : 0 ≤ g) (g1 : g < 400) (t1 : 0 ≤ t) (t2 : t < 4) (o0 : 0 ≤ o) (o1 : o < 130) : P_X12_rowOf g t o e = some (e.2 10 (130 * (4 * g + t) + o), e) := by
  unfold P_X12_rowOf
  rw [ck_t (by constructor <;> grind)]
theorem r_rule (S : RSt t rw mn e0 e T by' ro pl x) (g0 : 0 ≤ g) (g1 : g < 400) (o0 : 0 ≤ o) (o1 : o < 130) (hrw : e.2 10 (130 * (4 * g + t) + o) = rw o) (hrk : 0 ≤ rw o ∧ rw o < 6000) {b ovs : Int32} (hb : e.2 12 (rw o) = b) (b0 : 0 ≤ b) (hov : e.2 5 g = ovs) (hi : Iv ovs m T) : P_X12_playOver g t o e = P_X12_playOver_103 g t o (rw o) b (T.ruleO b ((ovs + 4) / 5)) e := by
  unfold P_X12_playOver
  rw [r_rowOf g0 g1 S.t1 S.t2 o0 o1]
  simp only [Option.bind_some, bd_e]
  rw [hrw, ck_t hrk, hb, ck_t ⟨S.t1, S.t2⟩, RSt.ended S, RSt.begun S, RSt.allowed S, RSt.bowler S]
  unfold Ty.ruleO
  by_cases c1 : T.ended = 0
  · rw [if_pos c1, ck_t ⟨S.t1, S.t2⟩, ck_t ⟨S.t1, S.t2⟩]
    by_cases c2 : T.begun = T.allowed
    · have c2' : ¬ T.begun < T.allowed := fun q => by rw [c2] at q; exact Int32.lt_irrefl q
      rw [if_pos c2, if_neg (fun q => c2' q.2)]
      rfl
    · have c2' : T.begun < T.allowed := by have := hi.ba; clear S hi; grind
      rw [if_neg c2, if_pos (And.intro c1 c2')]
      by_cases c3 : b ≤ 10
      · have c3' : b < 11 := by clear S hi; grind
        rw [if_pos c3, if_pos (And.intro b0 c3'), ck_t ⟨S.t1, S.t2⟩]
        by_cases c4 : b = T.bowler
        · rw [if_pos c4, if_pos c4]
        · have hix : (0 : Int32) ≤ 11 * t + b ∧ 11 * t + b < 44 := by
            have a1 := S.t1
            have a2 := S.t2
            clear S hi
            constructor <;> grind
          rw [if_neg c4, if_neg c4, ck_t hix, ck_t ⟨g0, g1⟩, RSt.bow0 S b0 c3', hov]
          by_cases c5 : T.bow b 0 = (ovs + 4) / 5
          · have c5' : ¬ T.bow b 0 < (ovs + 4) / 5 := fun q => by rw [c5] at q; exact Int32.lt_irrefl q
            rw [if_pos c5, if_neg c5']
          · have c5' : T.bow b 0 < (ovs + 4) / 5 := by
              have := (hi.ob b b0 c3').2
              clear S hi
              generalize (ovs + 4) / 5 = M at *
              grind
            rw [if_neg c5, if_pos c5']
      · rw [if_neg c3, if_neg (fun q => c3 (by have := q.2; clear S hi; grind))]
  · rw [if_neg c1, if_neg (fun q => c1 q.1)]
    rfl
theorem r_beg (S : RSt t rw mn e0 e T by' ro pl x) (hT : T.begun = o) (hm : o < mn) (o0 : 0 ≤ o) (o2 : o < 120) {b : Int32} (b0 : 0 ≤ b) (b1 : b < 11) (z : Zr T) : P_X12_playOver_180 g t o (rw o) b e = (let e2 := mA (mA (mA (mA e 44 t (T.begun + 1)) 51 t b) 56 (11 * t + b) (T.bow b 0 + 1)) 64 (rw o) 1; if e2.2 13 (rw o) = -1 then (bd (mA e2 63 (rw o) 1) fun e29 => (ck ((0 : Int32) ≤ t ∧ t < (4 : Int32))).bind fun _ => bd (mA e29 42 t ((e29.2 42 t) + 1)) fun e34 => (P_X12_becomesWhole t (rw o) e34).bind fun e37 => (ck ((0 : Int32) ≤ t ∧ t < (4 : Int32))).bind fun _ => (ck ((0 : Int32) ≤ t ∧ t < (4 : Int32))).bind fun _ => if e37.2 37 t = e37.2 40 t then (ck ((0 : Int32) ≤ t ∧ t < (4 : Int32))).bind fun _ => bd (mA e37 41 t 2) fun e50 => some e50 else some e37) else P_X12_playOver_284 fu g t o (rw o) 0 e2) ∧ RSt t rw mn e0 (mA (mA (mA (mA e 44 t (T.begun + 1)) 51 t b) 56 (11 * t + b) (T.bow b 0 + 1)) 64 (rw o) 1) (T.begO1 b) by' ro (fun j => if j = o then 1 else pl j) x := by
  have S1 := rs_begun S (T.begun + 1)
  have S2 := rs_bowler S1 b
  have S3 := rs_bow0 S2 (k := b) (v := T.bow b 0 + 1) b0 b1
  have S4 := rs_pl S3 (k := o) (v := 1) o0 hm
  have rk := S.rk.1 o o0 hm
  have hix : (0 : Int32) ≤ 11 * t + b ∧ 11 * t + b < 44 := by
    have a1 := S.t1
    have a2 := S.t2
    clear S S1 S2 S3 S4 z
    constructor <;> grind
  have e56 : (mA (mA e 44 t (T.begun + 1)) 51 t b).2 56 (11 * t + b) = T.bow b 0 := (RSt.bow0 S2 b0 b1).trans rfl
  refine ⟨?_, ?_⟩
  · unfold P_X12_playOver_180
    rw [ck_t ⟨S.t1, S.t2⟩, RSt.begun S, bd_e, ck_t ⟨S.t1, S.t2⟩, bd_e, ck_t hix, e56, bd_e, ck_t rk, bd_e, ck_t rk]
    dsimp only
    by_cases c : (mA (mA (mA (mA e 44 t (T.begun + 1)) 51 t b) 56 (11 * t + b) (T.bow b 0 + 1)) 64 (rw o) 1).2 13 (rw o) = -1
    · rw [if_pos c, if_pos c, ck_t rk]
    · rw [if_neg c, if_neg c]
  · rw [begO1_z z]
    exact S4
end POV
