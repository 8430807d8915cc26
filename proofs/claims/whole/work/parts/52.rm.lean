/-! The reference's steps on its record -/
namespace Ty
def rAdds (v : Int32) (T : Ty) : Ty := (T.sScore (T.score + v)).sOv (gA 120 5 T.ov (T.begun - 1) 0 v)
def rHit (v : Int32) (T : Ty) : Ty := rAdds v ((T.sBat (gA 11 3 T.bat T.faces 0 v)).sBow (gA 11 3 T.bow T.bowler 1 v))
def rCross (v : Int32) (T : Ty) : Ty := if v - v / 2 * 2 = 1 then T.chg else T
def rWide (v : Int32) (T : Ty) : Ty := rCross v (rAdds (v + 1) (((T.sBow (gA 11 3 T.bow T.bowler 1 1)).sNobodys (T.nobodys + v)).sExtras (T.extras + (v + 1))))
def rFoul (v : Int32) (T : Ty) : Ty := rCross v (rAdds 1 (((T.rHit v).sBow (gA 11 3 (gA 11 3 T.bow T.bowler 1 v) T.bowler 1 1)).sExtras (T.extras + 1)))
def rBye (v : Int32) (T : Ty) : Ty := rCross v (rAdds v ((T.sNobodys (T.nobodys + v)).sExtras (T.extras + v)))
def rRain (v : Int32) (T : Ty) : Ty := (T.sAllowed (T.allowed - v)).sMeans (T.means - (tb (6 * T.allowed - 6 * T.whole - T.counted) T.outs - tb (6 * (T.allowed - v) - 6 * T.whole - T.counted) T.outs))
def rent2 (k v : Int32) (T : Ty) : Ty := if k = 0 then (T.rHit v).rCross v else if k = 1 then T.rWide v else if k = 2 then T.rFoul v else if k = 3 then (T.sBow (gA 11 3 T.bow T.bowler 2 1)).leave 1 (2 + v) else if k = 4 then (if v - v / 2 * 2 = 0 then ((T.rHit (v / 2)).rCross (v / 2)).leave 1 6 else ((T.rHit (v / 2)).rCross (v / 2)).leave 0 6) else if k = 6 then T.rBye v else if k = 8 then T.rRain v else T
def rCount (T : Ty) : Ty := (T.sOv (gA 120 5 T.ov (T.begun - 1) 2 1)).sCounted (T.counted + 1)
def rent3 (k : Int32) (T : Ty) : Ty := if kc k then (if T.rCount.ov (T.begun - 1) 2 = 6 then T.rCount.endO else T.rCount) else T
end Ty
set_option hygiene false in
macro "rr" : tactic => `(tactic| ((try simp only [RSt.played S, RSt.score S, RSt.outs S, RSt.extras S, RSt.nobodys S, RSt.allowed S, RSt.means S, RSt.ended S, RSt.begun S, RSt.whole S, RSt.opn S, RSt.counted S, RSt.bowler S, RSt.faces S, RSt.other S, RSt.next S, RSt.eb S, RSt.er S]); (try simp only [Ty.sPlayed, Ty.sScore, Ty.sOuts, Ty.sExtras, Ty.sNobodys, Ty.sAllowed, Ty.sMeans, Ty.sEnded, Ty.sBegun, Ty.sWhole, Ty.sOpn, Ty.sCounted, Ty.sBowler, Ty.sFaces, Ty.sOther, Ty.sNext, Ty.sBat, Ty.sBow, Ty.sOv]); (try simp only [RSt.bat0 S hf1 hf2, RSt.bat1 S hf1 hf2, RSt.bow0 S hb1 hb2, RSt.bow1 S hb1 hb2, RSt.bow2 S hb1 hb2, RSt.ov0 S ho1 ho2 ho3, RSt.ov1 S ho1 ho2 ho3, RSt.ov2 S ho1 ho2 ho3, RSt.ov3 S ho1 ho2 ho3]); (try simp only [Ty.sPlayed, Ty.sScore, Ty.sOuts, Ty.sExtras, Ty.sNobodys, Ty.sAllowed, Ty.sMeans, Ty.sEnded, Ty.sBegun, Ty.sWhole, Ty.sOpn, Ty.sCounted, Ty.sBowler, Ty.sFaces, Ty.sOther, Ty.sNext, Ty.sBat, Ty.sBow, Ty.sOv])))
set_option hygiene false in
macro "rs1" : tactic => `(tactic| first
  | with_reducible refine gr_t S ?_
  | with_reducible refine gr_r S ho1 ho2 ?_
  | with_reducible refine gr_s S hf1 hf2 ?_
  | with_reducible refine gr_s S hb1 hb2 ?_
  | with_reducible refine gr_by S (fun e S => ?_)
  | with_reducible refine gr_ro S (fun e S => ?_)
  | with_reducible refine gr_played S (fun e S => ?_)
  | with_reducible refine gr_score S (fun e S => ?_)
  | with_reducible refine gr_outs S (fun e S => ?_)
  | with_reducible refine gr_extras S (fun e S => ?_)
  | with_reducible refine gr_nobodys S (fun e S => ?_)
  | with_reducible refine gr_allowed S (fun e S => ?_)
  | with_reducible refine gr_means S (fun e S => ?_)
  | with_reducible refine gr_ended S (fun e S => ?_)
  | with_reducible refine gr_begun S (fun e S => ?_)
  | with_reducible refine gr_whole S (fun e S => ?_)
  | with_reducible refine gr_opn S (fun e S => ?_)
  | with_reducible refine gr_counted S (fun e S => ?_)
  | with_reducible refine gr_bowler S (fun e S => ?_)
  | with_reducible refine gr_faces S (fun e S => ?_)
  | with_reducible refine gr_other S (fun e S => ?_)
  | with_reducible refine gr_next S (fun e S => ?_)
  | with_reducible refine gr_bat0 S hf1 hf2 (by first | (dsimp only [Ty.sPlayed, Ty.sScore, Ty.sOuts, Ty.sExtras, Ty.sNobodys, Ty.sAllowed, Ty.sMeans, Ty.sEnded, Ty.sBegun, Ty.sWhole, Ty.sOpn, Ty.sCounted, Ty.sBowler, Ty.sFaces, Ty.sOther, Ty.sNext, Ty.sBat, Ty.sBow, Ty.sOv]; done) | (dsimp only [Ty.sPlayed, Ty.sScore, Ty.sOuts, Ty.sExtras, Ty.sNobodys, Ty.sAllowed, Ty.sMeans, Ty.sEnded, Ty.sBegun, Ty.sWhole, Ty.sOpn, Ty.sCounted, Ty.sBowler, Ty.sFaces, Ty.sOther, Ty.sNext, Ty.sBat, Ty.sBow, Ty.sOv]; exact rfl) | exact rfl) (fun e S => ?_)
  | with_reducible refine gr_bat1 S hf1 hf2 (by first | (dsimp only [Ty.sPlayed, Ty.sScore, Ty.sOuts, Ty.sExtras, Ty.sNobodys, Ty.sAllowed, Ty.sMeans, Ty.sEnded, Ty.sBegun, Ty.sWhole, Ty.sOpn, Ty.sCounted, Ty.sBowler, Ty.sFaces, Ty.sOther, Ty.sNext, Ty.sBat, Ty.sBow, Ty.sOv]; done) | (dsimp only [Ty.sPlayed, Ty.sScore, Ty.sOuts, Ty.sExtras, Ty.sNobodys, Ty.sAllowed, Ty.sMeans, Ty.sEnded, Ty.sBegun, Ty.sWhole, Ty.sOpn, Ty.sCounted, Ty.sBowler, Ty.sFaces, Ty.sOther, Ty.sNext, Ty.sBat, Ty.sBow, Ty.sOv]; exact rfl) | exact rfl) (fun e S => ?_)
  | with_reducible refine gr_bat2 S hf1 hf2 (by first | (dsimp only [Ty.sPlayed, Ty.sScore, Ty.sOuts, Ty.sExtras, Ty.sNobodys, Ty.sAllowed, Ty.sMeans, Ty.sEnded, Ty.sBegun, Ty.sWhole, Ty.sOpn, Ty.sCounted, Ty.sBowler, Ty.sFaces, Ty.sOther, Ty.sNext, Ty.sBat, Ty.sBow, Ty.sOv]; done) | (dsimp only [Ty.sPlayed, Ty.sScore, Ty.sOuts, Ty.sExtras, Ty.sNobodys, Ty.sAllowed, Ty.sMeans, Ty.sEnded, Ty.sBegun, Ty.sWhole, Ty.sOpn, Ty.sCounted, Ty.sBowler, Ty.sFaces, Ty.sOther, Ty.sNext, Ty.sBat, Ty.sBow, Ty.sOv]; exact rfl) | exact rfl) (fun e S => ?_)
  | with_reducible refine gr_bow0 S hb1 hb2 (by first | (dsimp only [Ty.sPlayed, Ty.sScore, Ty.sOuts, Ty.sExtras, Ty.sNobodys, Ty.sAllowed, Ty.sMeans, Ty.sEnded, Ty.sBegun, Ty.sWhole, Ty.sOpn, Ty.sCounted, Ty.sBowler, Ty.sFaces, Ty.sOther, Ty.sNext, Ty.sBat, Ty.sBow, Ty.sOv]; done) | (dsimp only [Ty.sPlayed, Ty.sScore, Ty.sOuts, Ty.sExtras, Ty.sNobodys, Ty.sAllowed, Ty.sMeans, Ty.sEnded, Ty.sBegun, Ty.sWhole, Ty.sOpn, Ty.sCounted, Ty.sBowler, Ty.sFaces, Ty.sOther, Ty.sNext, Ty.sBat, Ty.sBow, Ty.sOv]; exact rfl) | exact rfl) (fun e S => ?_)
  | with_reducible refine gr_bow1 S hb1 hb2 (by first | (dsimp only [Ty.sPlayed, Ty.sScore, Ty.sOuts, Ty.sExtras, Ty.sNobodys, Ty.sAllowed, Ty.sMeans, Ty.sEnded, Ty.sBegun, Ty.sWhole, Ty.sOpn, Ty.sCounted, Ty.sBowler, Ty.sFaces, Ty.sOther, Ty.sNext, Ty.sBat, Ty.sBow, Ty.sOv]; done) | (dsimp only [Ty.sPlayed, Ty.sScore, Ty.sOuts, Ty.sExtras, Ty.sNobodys, Ty.sAllowed, Ty.sMeans, Ty.sEnded, Ty.sBegun, Ty.sWhole, Ty.sOpn, Ty.sCounted, Ty.sBowler, Ty.sFaces, Ty.sOther, Ty.sNext, Ty.sBat, Ty.sBow, Ty.sOv]; exact rfl) | exact rfl) (fun e S => ?_)
  | with_reducible refine gr_bow2 S hb1 hb2 (by first | (dsimp only [Ty.sPlayed, Ty.sScore, Ty.sOuts, Ty.sExtras, Ty.sNobodys, Ty.sAllowed, Ty.sMeans, Ty.sEnded, Ty.sBegun, Ty.sWhole, Ty.sOpn, Ty.sCounted, Ty.sBowler, Ty.sFaces, Ty.sOther, Ty.sNext, Ty.sBat, Ty.sBow, Ty.sOv]; done) | (dsimp only [Ty.sPlayed, Ty.sScore, Ty.sOuts, Ty.sExtras, Ty.sNobodys, Ty.sAllowed, Ty.sMeans, Ty.sEnded, Ty.sBegun, Ty.sWhole, Ty.sOpn, Ty.sCounted, Ty.sBowler, Ty.sFaces, Ty.sOther, Ty.sNext, Ty.sBat, Ty.sBow, Ty.sOv]; exact rfl) | exact rfl) (fun e S => ?_)
  | with_reducible refine gr_ov0 S ho1 ho2 ho3 (by first | (dsimp only [Ty.sPlayed, Ty.sScore, Ty.sOuts, Ty.sExtras, Ty.sNobodys, Ty.sAllowed, Ty.sMeans, Ty.sEnded, Ty.sBegun, Ty.sWhole, Ty.sOpn, Ty.sCounted, Ty.sBowler, Ty.sFaces, Ty.sOther, Ty.sNext, Ty.sBat, Ty.sBow, Ty.sOv]; done) | (dsimp only [Ty.sPlayed, Ty.sScore, Ty.sOuts, Ty.sExtras, Ty.sNobodys, Ty.sAllowed, Ty.sMeans, Ty.sEnded, Ty.sBegun, Ty.sWhole, Ty.sOpn, Ty.sCounted, Ty.sBowler, Ty.sFaces, Ty.sOther, Ty.sNext, Ty.sBat, Ty.sBow, Ty.sOv]; exact rfl) | exact rfl) (fun e S => ?_)
  | with_reducible refine gr_ov1 S ho1 ho2 ho3 (by first | (dsimp only [Ty.sPlayed, Ty.sScore, Ty.sOuts, Ty.sExtras, Ty.sNobodys, Ty.sAllowed, Ty.sMeans, Ty.sEnded, Ty.sBegun, Ty.sWhole, Ty.sOpn, Ty.sCounted, Ty.sBowler, Ty.sFaces, Ty.sOther, Ty.sNext, Ty.sBat, Ty.sBow, Ty.sOv]; done) | (dsimp only [Ty.sPlayed, Ty.sScore, Ty.sOuts, Ty.sExtras, Ty.sNobodys, Ty.sAllowed, Ty.sMeans, Ty.sEnded, Ty.sBegun, Ty.sWhole, Ty.sOpn, Ty.sCounted, Ty.sBowler, Ty.sFaces, Ty.sOther, Ty.sNext, Ty.sBat, Ty.sBow, Ty.sOv]; exact rfl) | exact rfl) (fun e S => ?_)
  | with_reducible refine gr_ov2 S ho1 ho2 ho3 (by first | (dsimp only [Ty.sPlayed, Ty.sScore, Ty.sOuts, Ty.sExtras, Ty.sNobodys, Ty.sAllowed, Ty.sMeans, Ty.sEnded, Ty.sBegun, Ty.sWhole, Ty.sOpn, Ty.sCounted, Ty.sBowler, Ty.sFaces, Ty.sOther, Ty.sNext, Ty.sBat, Ty.sBow, Ty.sOv]; done) | (dsimp only [Ty.sPlayed, Ty.sScore, Ty.sOuts, Ty.sExtras, Ty.sNobodys, Ty.sAllowed, Ty.sMeans, Ty.sEnded, Ty.sBegun, Ty.sWhole, Ty.sOpn, Ty.sCounted, Ty.sBowler, Ty.sFaces, Ty.sOther, Ty.sNext, Ty.sBat, Ty.sBow, Ty.sOv]; exact rfl) | exact rfl) (fun e S => ?_)
  | with_reducible refine gr_ov3 S ho1 ho2 ho3 (by first | (dsimp only [Ty.sPlayed, Ty.sScore, Ty.sOuts, Ty.sExtras, Ty.sNobodys, Ty.sAllowed, Ty.sMeans, Ty.sEnded, Ty.sBegun, Ty.sWhole, Ty.sOpn, Ty.sCounted, Ty.sBowler, Ty.sFaces, Ty.sOther, Ty.sNext, Ty.sBat, Ty.sBow, Ty.sOv]; done) | (dsimp only [Ty.sPlayed, Ty.sScore, Ty.sOuts, Ty.sExtras, Ty.sNobodys, Ty.sAllowed, Ty.sMeans, Ty.sEnded, Ty.sBegun, Ty.sWhole, Ty.sOpn, Ty.sCounted, Ty.sBowler, Ty.sFaces, Ty.sOther, Ty.sNext, Ty.sBat, Ty.sBow, Ty.sOv]; exact rfl) | exact rfl) (fun e S => ?_)
  | with_reducible refine gr_ov4 S ho1 ho2 ho3 (by first | (dsimp only [Ty.sPlayed, Ty.sScore, Ty.sOuts, Ty.sExtras, Ty.sNobodys, Ty.sAllowed, Ty.sMeans, Ty.sEnded, Ty.sBegun, Ty.sWhole, Ty.sOpn, Ty.sCounted, Ty.sBowler, Ty.sFaces, Ty.sOther, Ty.sNext, Ty.sBat, Ty.sBow, Ty.sOv]; done) | (dsimp only [Ty.sPlayed, Ty.sScore, Ty.sOuts, Ty.sExtras, Ty.sNobodys, Ty.sAllowed, Ty.sMeans, Ty.sEnded, Ty.sBegun, Ty.sWhole, Ty.sOpn, Ty.sCounted, Ty.sBowler, Ty.sFaces, Ty.sOther, Ty.sNext, Ty.sBat, Ty.sBow, Ty.sOv]; exact rfl) | exact rfl) (fun e S => ?_))
set_option hygiene false in
macro "rs" : tactic => `(tactic| (rr; rs1))
section RM
variable {t : Int32} {rw : Int32 → Int32} {mn : Int32} {e0 e : mE} {T T' : Ty} {by' ro by2 ro2 : Int32} {pl pl2 : Int32 → Int32} {x x2 : Nat → Int32}
abbrev HRow (mn : Int32) (T : Ty) : Prop := 0 ≤ T.begun - 1 ∧ T.begun - 1 < mn ∧ T.begun - 1 < 120
abbrev HFac (T : Ty) : Prop := 0 ≤ T.faces ∧ T.faces < 11
abbrev HBow (T : Ty) : Prop := 0 ≤ T.bowler ∧ T.bowler < 11
theorem r_change (S : RSt t rw mn e0 e T by' ro pl x) : GR t rw mn e0 (P_X12_change t e) T.chg by' ro pl x := by
  unfold P_X12_change
  refine gr_t S (gr_bd (gr_t S (gr_t S ?_)))
  rw [RSt.faces S, RSt.other S]
  refine gr_faces S (fun e S => gr_t S (gr_other S (fun e S => gr_end S rfl rfl rfl rfl rfl)))
theorem r_cross (S : RSt t rw mn e0 e T by' ro pl x) {v : Int32} : GR t rw mn e0 (P_X12_crosses t v e) (T.rCross v) by' ro pl x := by
  unfold P_X12_crosses Ty.rCross
  by_cases c : v - v / 2 * 2 = 1
  · rw [if_pos c, if_pos c]
    exact gr_call (r_change S) (fun e S => gr_end S rfl rfl rfl rfl rfl)
  · rw [if_neg c, if_neg c]
    exact gr_end S rfl rfl rfl rfl rfl
theorem r_adds (S : RSt t rw mn e0 e T by' ro pl x) (hr : HRow mn T) {v : Int32} : GR t rw mn e0 (P_X12_adds t (rw (T.begun - 1)) v e) (T.rAdds v) by' ro pl x := by
  unfold P_X12_adds
  obtain ⟨ho1, ho2, ho3⟩ := hr
  refine gr_t S ?_
  rw [RSt.score S]
  refine gr_score S (fun e S => ?_)
  have e1 : e.2 59 (rw (T.begun - 1)) = T.ov (T.begun - 1) 0 := (RSt.ov0 S ho1 ho2 ho3).trans rfl
  refine gr_r S ho1 ho2 ?_
  rw [e1]
  exact gr_ov0 S ho1 ho2 ho3 rfl (fun e S => gr_end S rfl rfl rfl rfl rfl)
theorem r_hit (S : RSt t rw mn e0 e T by' ro pl x) (hf : HFac T) (hb : HBow T) (hr : HRow mn T) {v : Int32} : GR t rw mn e0 (P_X12_hit t (rw (T.begun - 1)) v e) (T.rHit v) by' ro pl x := by
  unfold P_X12_hit
  obtain ⟨ho1, ho2, ho3⟩ := hr
  obtain ⟨hf1, hf2⟩ := hf
  obtain ⟨hb1, hb2⟩ := hb
  refine gr_t S ?_
  rw [RSt.faces S]
  refine gr_s S hf1 hf2 ?_
  rw [RSt.bat0 S hf1 hf2]
  refine gr_bat0 S hf1 hf2 rfl (fun e S => gr_t S ?_)
  have e1 : e.2 51 t = T.bowler := (RSt.bowler S).trans rfl
  rw [e1]
  refine gr_s S hb1 hb2 ?_
  have e2 : e.2 57 (11 * t + T.bowler) = T.bow T.bowler 1 := (RSt.bow1 S hb1 hb2).trans rfl
  rw [e2]
  refine gr_bow1 S hb1 hb2 rfl (fun e S => ?_)
  exact gr_call (r_adds S ⟨ho1, ho2, ho3⟩) (fun e S => gr_end S rfl rfl rfl rfl rfl)
theorem r_whole (S : RSt t rw mn e0 e T by' ro pl x) (hr : HRow mn T) : GR t rw mn e0 (P_X12_becomesWhole t (rw (T.begun - 1)) e) T.endO by' ro pl x := by
  unfold P_X12_becomesWhole
  obtain ⟨ho1, ho2, ho3⟩ := hr
  refine gr_r S ho1 ho2 (gr_ov3 S ho1 ho2 ho3 rfl (fun e S => gr_t S ?_))
  rw [RSt.whole S]
  refine gr_whole S (fun e S => gr_t S (gr_counted S (fun e S => ?_)))
  exact gr_call (r_change S) (fun e S => gr_end S rfl rfl rfl rfl rfl)
theorem r_fin (S : RSt t rw mn e0 e T by' ro pl x) {wf c : Int32} : GR t rw mn e0 (P_X12_leaves_100 t wf c e) (T.fin wf c) by' ro pl x := by
  unfold P_X12_leaves_100 Ty.fin
  by_cases k : wf = 0
  · rw [if_pos k, if_pos k]; exact gr_t S (gr_other S (fun e S => gr_end S rfl rfl rfl rfl rfl))
  · rw [if_neg k, if_neg k]; exact gr_t S (gr_faces S (fun e S => gr_end S rfl rfl rfl rfl rfl))
theorem r_leave (S : RSt t rw mn e0 e T by' ro pl x) (hr : HRow mn T) {wf how k : Int32} (hk : k = (if wf = 0 then T.other else T.faces)) (k1 : 0 ≤ k) (k2 : k < 11) (hn1 : 0 ≤ T.next) (hn2 : ¬ 10 ≤ T.outs + 1 → T.next < 11) : GR t rw mn e0 (P_X12_leaves_19 t (rw (T.begun - 1)) wf how k e) (T.leave wf how) by' ro pl x := by
  unfold P_X12_leaves_19
  obtain ⟨ho1, ho2, ho3⟩ := hr
  refine gr_s S k1 k2 (gr_bat2 S k1 k2 rfl (fun e S => gr_t S ?_))
  rw [RSt.outs S]
  refine gr_outs S (fun e S => gr_r S ho1 ho2 ?_)
  have e1 : e.2 60 (rw (T.begun - 1)) = T.ov (T.begun - 1) 1 := (RSt.ov1 S ho1 ho2 ho3).trans rfl
  rw [e1]
  refine gr_ov1 S ho1 ho2 ho3 rfl (fun e S => gr_t S ?_)
  have e2 : e.2 36 t = T.outs + 1 := (RSt.outs S).trans rfl
  have e3 : e.2 47 t = T.next := (RSt.next S).trans rfl
  rw [e2, e3]
  subst hk
  by_cases c : 10 ≤ T.outs + 1
  · rw [if_pos c]
    obtain ⟨e', q1, q2⟩ := r_fin S (wf := wf) (c := -1)
    refine ⟨e', q1, ?_⟩
    unfold Ty.leave Ty.leave1
    rw [if_pos (show 10 ≤ Ty.outs (Ty.sOv (Ty.sOuts (Ty.sBat T _) (T.outs + 1)) _) from c)]
    exact q2
  · rw [if_neg c]
    refine gr_t S (gr_bd (gr_t S (gr_next S (fun e S => gr_s S hn1 (hn2 c) (gr_bat2 S hn1 (hn2 c) rfl (fun e S => ?_))))))
    obtain ⟨e', q1, q2⟩ := r_fin S (wf := wf) (c := T.next)
    refine ⟨e', q1, ?_⟩
    unfold Ty.leave Ty.leave1
    rw [if_neg (show ¬ 10 ≤ Ty.outs (Ty.sOv (Ty.sOuts (Ty.sBat T _) (T.outs + 1)) _) from c)]
    exact q2
theorem r_leaves (S : RSt t rw mn e0 e T by' ro pl x) (hr : HRow mn T) {wf how : Int32} (k1 : 0 ≤ (if wf = 0 then T.other else T.faces)) (k2 : (if wf = 0 then T.other else T.faces) < 11) (hn1 : 0 ≤ T.next) (hn2 : ¬ 10 ≤ T.outs + 1 → T.next < 11) : GR t rw mn e0 (P_X12_leaves t (rw (T.begun - 1)) wf how e) (T.leave wf how) by' ro pl x := by
  unfold P_X12_leaves
  rw [RSt.faces S, RSt.other S]
  by_cases c : wf = 0
  · rw [if_pos c] at k1 k2
    rw [if_pos c]
    exact gr_t S (r_leave S hr (by rw [if_pos c]) k1 k2 hn1 hn2)
  · rw [if_neg c] at k1 k2
    rw [if_neg c]
    exact gr_t S (r_leave S hr (by rw [if_neg c]) k1 k2 hn1 hn2)
theorem r_counts {k : Int32} : P_X12_counts k e = some (if kc k then 1 else 0, e) := by
  unfold P_X12_counts
  by_cases k0 : k = 0
  · rw [if_pos k0, if_pos (Or.inl k0)]
  · rw [if_neg k0]
    by_cases k3 : k = 3
    · rw [if_pos k3, if_pos (Or.inr (Or.inl k3))]
    · rw [if_neg k3]
      by_cases k4 : k = 4
      · rw [if_pos k4, if_pos (Or.inr (Or.inr (Or.inl k4)))]
      · rw [if_neg k4]
        by_cases k6 : k = 6
        · rw [if_pos k6, if_pos (Or.inr (Or.inr (Or.inr k6)))]
        · rw [if_neg k6, if_neg (fun q => by rcases q with q | q | q | q <;> contradiction)]
theorem r_421 (S : RSt t rw mn e0 e T by' ro pl x) (hr : HRow mn T) {g k : Int32} (kk : ∀ e1, RSt t rw mn e0 e1 (T.rent3 k) by' ro pl x → GR t rw mn e0 (P_X12_playEntry_466 g t k e1) T' by2 ro2 pl2 x2) : GR t rw mn e0 (P_X12_playEntry_421 g t (rw (T.begun - 1)) k e) T' by2 ro2 pl2 x2 := by
  unfold P_X12_playEntry_421
  obtain ⟨ho1, ho2, ho3⟩ := hr
  refine gr_o r_counts (gr_bd (gr_bd ?_))
  dsimp only
  by_cases c : kc k
  · rw [if_pos c, if_neg (by decide)]
    refine gr_r S ho1 ho2 ?_
    rw [RSt.ov2 S ho1 ho2 ho3]
    refine gr_ov2 S ho1 ho2 ho3 rfl (fun e S => gr_t S ?_)
    have e1 : e.2 38 t = T.counted := (RSt.counted S).trans rfl
    rw [e1]
    refine gr_counted S (fun e S => gr_r S ho1 ho2 ?_)
    have e2 : e.2 61 (rw (T.begun - 1)) = T.rCount.ov (T.begun - 1) 2 := (RSt.ov2 S ho1 ho2 ho3).trans rfl
    rw [e2]
    unfold Ty.rent3 at kk
    rw [if_pos c] at kk
    by_cases c2 : T.rCount.ov (T.begun - 1) 2 = 6
    · rw [if_pos c2] at kk
      rw [if_pos c2]
      exact gr_call (r_whole S ⟨ho1, ho2, ho3⟩) kk
    · rw [if_neg c2] at kk
      rw [if_neg c2]
      exact kk e S
  · rw [if_neg c, if_pos rfl]
    unfold Ty.rent3 at kk
    rw [if_neg c] at kk
    exact kk e S
theorem r_left (S : RSt t rw mn e0 e T by' ro pl x) : P_X12_left t e = some (6 * T.allowed - 6 * T.whole - T.counted, e) := by
  unfold P_X12_left
  rw [ck_t ⟨S.t1, S.t2⟩, ck_t ⟨S.t1, S.t2⟩, ck_t ⟨S.t1, S.t2⟩, RSt.allowed S, RSt.whole S, RSt.counted S]
theorem r_table {b w : Int32} : P_X12_table b w e = some (tb b w, e) := rfl
theorem crossk (T : Ty) (v : Int32) : (T.rCross v).begun = T.begun ∧ (T.rCross v).next = T.next ∧ (T.rCross v).outs = T.outs ∧ (T.rCross v).bowler = T.bowler ∧ ((T.rCross v).faces = T.faces ∧ (T.rCross v).other = T.other ∨ (T.rCross v).faces = T.other ∧ (T.rCross v).other = T.faces) := by
  unfold Ty.rCross
  split
  · exact ⟨rfl, rfl, rfl, rfl, Or.inr ⟨rfl, rfl⟩⟩
  · exact ⟨rfl, rfl, rfl, rfl, Or.inl ⟨rfl, rfl⟩⟩
theorem rWide_begun (T : Ty) (v : Int32) : (T.rWide v).begun = T.begun := (crossk _ _).1
theorem rFoul_begun (T : Ty) (v : Int32) : (T.rFoul v).begun = T.begun := (crossk _ _).1
theorem rBye_begun (T : Ty) (v : Int32) : (T.rBye v).begun = T.begun := (crossk _ _).1
theorem leave_begun (T : Ty) (wf how : Int32) : (T.leave wf how).begun = T.begun := by
  unfold Ty.leave Ty.leave1 Ty.fin
  repeat' split
  all_goals rfl
/-- what must hold of a turn at an entry -/
structure EOK (mn : Int32) (T : Ty) : Prop where
  row : HRow mn T
  fac : HFac T
  oth : 0 ≤ T.other ∧ T.other < 11
  bow : HBow T
  nx1 : 0 ≤ T.next
  nx2 : ¬ 10 ≤ T.outs + 1 → T.next < 11
theorem EOK.cross {v : Int32} (h : EOK mn T) : EOK mn (T.rCross v) := by
  obtain ⟨k1, k2, k3, k4, k5⟩ := crossk T v
  refine ⟨by rw [HRow, k1]; exact h.row, ?_, ?_, by rw [HBow, k4]; exact h.bow, by rw [k2]; exact h.nx1, by rw [k2, k3]; exact h.nx2⟩
  · rcases k5 with q | q
    · rw [HFac, q.1]; exact h.fac
    · rw [HFac, q.1]; exact h.oth
  · rcases k5 with q | q
    · rw [q.2]; exact h.oth
    · rw [q.2]; exact h.fac
def byD (k by' : Int32) : Int32 := if k = 3 then by' + 1 else by'
def roD (k ro : Int32) : Int32 := if k = 4 then ro + 1 else ro
theorem r_38 (S : RSt t rw mn e0 e T by' ro pl x) (hE : EOK mn T) {g k v : Int32} (kk : ∀ e1, RSt t rw mn e0 e1 ((T.rent2 k v).rent3 k) (byD k by') (roD k ro) pl x → GR t rw mn e0 (P_X12_playEntry_466 g t k e1) T' by2 ro2 pl2 x2) : GR t rw mn e0 (P_X12_playEntry_38 g t (rw (T.begun - 1)) k v e) T' by2 ro2 pl2 x2 := by
  have hE' := hE
  obtain ⟨⟨ho1, ho2, ho3⟩, ⟨hf1, hf2⟩, hoth, ⟨hb1, hb2⟩, hn1, hn2⟩ := hE
  unfold P_X12_playEntry_38
  unfold Ty.rent2 byD roD at kk
  by_cases k0 : k = 0
  · subst k0
    rw [if_pos rfl]
    simp only [show ¬ (0 : Int32) = 3 from by decide, show ¬ (0 : Int32) = 4 from by decide, if_false, if_true] at kk
    exact gr_call (r_hit S ⟨hf1, hf2⟩ ⟨hb1, hb2⟩ ⟨ho1, ho2, ho3⟩) (fun e S => gr_call (r_cross S) (fun e S => by
      have h := crossk (T.rHit v) v
      have e1 : rw (T.begun - 1) = rw (((T.rHit v).rCross v).begun - 1) := by rw [h.1]; rfl
      rw [e1]
      exact r_421 S (by rw [HRow, h.1]; exact ⟨ho1, ho2, ho3⟩) kk))
  rw [if_neg k0]; rw [if_neg k0] at kk
  by_cases k1 : k = 1
  · subst k1
    rw [if_pos rfl]
    simp only [show ¬ (1 : Int32) = 3 from by decide, show ¬ (1 : Int32) = 4 from by decide, if_false, if_true] at kk
    rs; rs; rs; rs; rs; rs; rs
    exact gr_call (r_adds S ⟨ho1, ho2, ho3⟩) (fun e S => gr_call (r_cross S) (fun e S => by
      have e1 : rw (T.begun - 1) = rw ((T.rWide v).begun - 1) := by rw [rWide_begun]
      rw [e1]
      exact r_421 (T := T.rWide v) S (by rw [HRow, rWide_begun]; exact ⟨ho1, ho2, ho3⟩) kk))
  rw [if_neg k1]; rw [if_neg k1] at kk
  by_cases k2 : k = 2
  · subst k2
    rw [if_pos rfl]
    simp only [show ¬ (2 : Int32) = 3 from by decide, show ¬ (2 : Int32) = 4 from by decide, if_false, if_true] at kk
    refine gr_call (r_hit S ⟨hf1, hf2⟩ ⟨hb1, hb2⟩ ⟨ho1, ho2, ho3⟩) (fun e S => gr_t S ?_)
    have e1 : e.2 51 t = T.bowler := (RSt.bowler S).trans rfl
    rw [e1]
    refine gr_s S hb1 hb2 ?_
    have e2 : e.2 57 (11 * t + T.bowler) = (gA 11 3 T.bow T.bowler 1 v) T.bowler 1 := (RSt.bow1 S hb1 hb2).trans rfl
    rw [e2]
    refine gr_bow1 S hb1 hb2 rfl (fun e S => gr_t S ?_)
    have e3 : e.2 39 t = T.extras := (RSt.extras S).trans rfl
    rw [e3]
    refine gr_extras S (fun e S => ?_)
    exact gr_call (r_adds S ⟨ho1, ho2, ho3⟩) (fun e S => gr_call (r_cross S) (fun e S => by
      have e1 : rw (T.begun - 1) = rw ((T.rFoul v).begun - 1) := by rw [rFoul_begun]
      rw [e1]
      exact r_421 (T := T.rFoul v) S (by rw [HRow, rFoul_begun]; exact ⟨ho1, ho2, ho3⟩) kk))
  rw [if_neg k2]; rw [if_neg k2] at kk
  by_cases k3 : k = 3
  · subst k3
    rw [if_pos rfl]
    simp only [show ¬ (3 : Int32) = 4 from by decide, if_false, if_true] at kk
    refine gr_t S ?_
    rw [RSt.bowler S]
    refine gr_s S hb1 hb2 ?_
    rw [RSt.bow2 S hb1 hb2]
    refine gr_bow2 S hb1 hb2 rfl (fun e S => gr_t S ?_)
    rw [RSt.eb S]
    refine gr_by S (fun e S => ?_)
    refine gr_call (r_leaves S ⟨ho1, ho2, ho3⟩ (wf := 1) hf1 hf2 hn1 hn2) (fun e S => ?_)
    have e1 : ((T.sBow (gA 11 3 T.bow T.bowler 2 1)).leave 1 (2 + v)).begun = T.begun := leave_begun _ _ _
    have e2 : rw (T.begun - 1) = rw (((T.sBow (gA 11 3 T.bow T.bowler 2 1)).leave 1 (2 + v)).begun - 1) := by rw [e1]
    rw [e2]
    exact r_421 S (by rw [HRow, e1]; exact ⟨ho1, ho2, ho3⟩) kk
  rw [if_neg k3]; rw [if_neg k3] at kk
  by_cases k4 : k = 4
  · subst k4
    rw [if_pos rfl]
    simp only [show ¬ (4 : Int32) = 3 from by decide, if_false, if_true] at kk
    have hE2 : EOK mn ((T.rHit (v / 2)).rCross (v / 2)) := EOK.cross ⟨⟨ho1, ho2, ho3⟩, ⟨hf1, hf2⟩, hoth, ⟨hb1, hb2⟩, hn1, hn2⟩
    refine gr_call (r_hit S ⟨hf1, hf2⟩ ⟨hb1, hb2⟩ ⟨ho1, ho2, ho3⟩) (fun e S => gr_call (r_cross S) (fun e S => gr_t S ?_))
    rw [RSt.er S]
    refine gr_ro S (fun e S => ?_)
    have e0 : ((T.rHit (v / 2)).rCross (v / 2)).begun = T.begun := (crossk (T.rHit (v / 2)) (v / 2)).1
    by_cases p : v - v / 2 * 2 = 0
    · rw [if_pos p]
      simp only [if_pos p] at kk
      have e2 : rw (T.begun - 1) = rw (((T.rHit (v / 2)).rCross (v / 2)).begun - 1) := by rw [e0]
      rw [e2]
      refine gr_call (r_leaves S hE2.row (wf := 1) hE2.fac.1 hE2.fac.2 hE2.nx1 hE2.nx2) (fun e S => ?_)
      have e3 : rw (((T.rHit (v / 2)).rCross (v / 2)).begun - 1) = rw ((((T.rHit (v / 2)).rCross (v / 2)).leave 1 6).begun - 1) := by rw [leave_begun]
      rw [e3]
      exact r_421 S (by rw [HRow, leave_begun]; exact hE2.row) kk
    · rw [if_neg p]
      simp only [if_neg p] at kk
      have e2 : rw (T.begun - 1) = rw (((T.rHit (v / 2)).rCross (v / 2)).begun - 1) := by rw [e0]
      rw [e2]
      refine gr_call (r_leaves S hE2.row (wf := 0) hE2.oth.1 hE2.oth.2 hE2.nx1 hE2.nx2) (fun e S => ?_)
      have e3 : rw (((T.rHit (v / 2)).rCross (v / 2)).begun - 1) = rw ((((T.rHit (v / 2)).rCross (v / 2)).leave 0 6).begun - 1) := by rw [leave_begun]
      rw [e3]
      exact r_421 S (by rw [HRow, leave_begun]; exact hE2.row) kk
  rw [if_neg k4]; rw [if_neg k4] at kk
  rw [if_neg k3, if_neg k4] at kk
  by_cases k6 : k = 6
  · subst k6
    rw [if_pos rfl]
    simp only [if_true] at kk
    rs; rs; rs; rs
    exact gr_call (r_adds S ⟨ho1, ho2, ho3⟩) (fun e S => gr_call (r_cross S) (fun e S => by
      have e1 : rw (T.begun - 1) = rw ((T.rBye v).begun - 1) := by rw [rBye_begun]
      rw [e1]
      exact r_421 (T := T.rBye v) S (by rw [HRow, rBye_begun]; exact ⟨ho1, ho2, ho3⟩) kk))
  rw [if_neg k6]; rw [if_neg k6] at kk
  by_cases k8 : k = 8
  · subst k8
    rw [if_pos rfl]
    simp only [if_true] at kk
    refine gr_o (r_left S) (gr_bd (gr_bd (gr_t S ?_)))
    dsimp only
    rw [RSt.outs S]
    refine gr_o r_table (gr_bd (gr_bd (gr_t S ?_)))
    dsimp only
    rw [RSt.allowed S]
    refine gr_allowed S (fun e S => gr_t S ?_)
    refine gr_o (r_left S) (gr_bd (gr_bd (gr_t S ?_)))
    dsimp only
    have e1 : e.2 36 t = T.outs := (RSt.outs S).trans rfl
    have e2 : e.2 43 t = T.means := (RSt.means S).trans rfl
    rw [e1, e2]
    refine gr_o r_table (gr_bd (gr_bd (gr_t S ?_)))
    dsimp only
    refine gr_means S (fun e S => ?_)
    exact r_421 S ⟨ho1, ho2, ho3⟩ kk
  rw [if_neg k8]; rw [if_neg k8] at kk
  exact r_421 S ⟨ho1, ho2, ho3⟩ kk
theorem r_ent (S : RSt t rw mn e0 e T by' ro pl x) (hE : EOK mn T) {g k v : Int32} (kk : ∀ e1, RSt t rw mn e0 e1 (((T.ent1 k).rent2 k v).rent3 k) (byD k by') (roD k ro) pl x → GR t rw mn e0 (P_X12_playEntry_466 g t k e1) T' by2 ro2 pl2 x2) : GR t rw mn e0 (P_X12_playEntry g t (rw (T.begun - 1)) k v e) T' by2 ro2 pl2 x2 := by
  unfold P_X12_playEntry
  refine gr_t S (gr_bd (gr_o r_counts (gr_bd (gr_bd ?_))))
  dsimp only
  rw [RSt.faces S]
  have key : (kc k ∨ k = 2) → GR t rw mn e0 (P_X12_playEntry_27 g t (rw (T.begun - 1)) k v (11 * t + T.faces) e) T' by2 ro2 pl2 x2 := by
    intro c
    unfold Ty.ent1 at kk
    rw [if_pos c] at kk
    unfold P_X12_playEntry_27
    refine gr_s S hE.fac.1 hE.fac.2 ?_
    rw [RSt.bat1 S hE.fac.1 hE.fac.2]
    refine gr_bat1 S hE.fac.1 hE.fac.2 rfl (fun e S => ?_)
    exact r_38 S ⟨hE.row, hE.fac, hE.oth, hE.bow, hE.nx1, hE.nx2⟩ kk
  by_cases c : kc k
  · rw [if_pos c, if_neg (by decide)]; exact key (Or.inl c)
  · rw [if_neg c, if_pos rfl]
    by_cases c2 : k = 2
    · rw [if_pos c2]; exact key (Or.inr c2)
    · rw [if_neg c2]
      unfold Ty.ent1 at kk
      rw [if_neg (fun q => q.elim c c2)] at kk
      exact r_38 S hE kk
end RM
