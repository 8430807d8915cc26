/-! What the Play tells -/
section PQ
variable {p : Nat} {h0 h : aH} {s : Ps}
theorem c_had (q : PSt p h0 h s) : F_X6_stillToBeHad p (ta p s.hand) h = some (s.had, h) := by
  unfold F_X6_stillToBeHad Ps.had
  simp only [Option.bind_some, bd_e, ck_t (q.KT _), (q.T _).ended, c_left (q.T _)]
  by_cases c1 : (s.ty s.hand).ended = 0
  · rw [if_pos c1, if_pos c1]
  · rw [if_neg c1, if_neg c1]
theorem c_chase (q : PSt p h0 h s) {w : Int32} : F_X6_figureOfChase p (ta p s.hand) w h = some (s.chase w, h) := by
  unfold F_X6_figureOfChase Ps.chase
  simp only [c_target q, Option.bind_some, bd_e, ck_t (q.KT _), ck_t q.K, (q.T _).score, c_had q]
  by_cases c6 : w = 6
  · rw [if_pos c6, if_pos c6]
  rw [if_neg c6, if_neg c6]
  by_cases c7 : w = 7
  · rw [if_pos c7, if_pos c7]
  rw [if_neg c7, if_neg c7]
  by_cases c8 : s.had < (if s.target - (s.ty s.hand).score < 0 then 0 else s.target - (s.ty s.hand).score)
  · rw [if_pos c8, if_pos c8]
  · rw [if_neg c8, if_neg c8]
theorem c_figH (q : PSt p h0 h s) {w : Int32} : F_X6_figureAtHand p w h = some (s.figH w, h) := by
  unfold F_X6_figureAtHand Ps.figH
  simp only [PSt.hand q, PSt.last q, c_tallyAt q.1, Option.bind_some, bd_e, ck_t (q.KT _), ck_t q.K, (q.T _).score, (q.T _).faces, (q.T _).other, (q.T _).bowler, (q.T _).ended, c_left (q.T _), c_had q, c_chase q]
  by_cases c1 : w = 1
  · rw [if_pos c1, if_pos c1]
  rw [if_neg c1, if_neg c1]
  by_cases c2 : w = 2
  · rw [if_pos c2, if_pos c2]
  rw [if_neg c2, if_neg c2]
  by_cases c3 : w = 3
  · rw [if_pos c3, if_pos c3]
  rw [if_neg c3, if_neg c3]
  by_cases c4 : w = 4
  · rw [if_pos c4, if_pos c4]
  rw [if_neg c4, if_neg c4]
  by_cases c5 : w = 5
  · rw [if_pos c5, if_pos c5]
  rw [if_neg c5, if_neg c5]
  by_cases c9 : w = 9
  · rw [if_pos c9, if_pos c9]
  rw [if_neg c9, if_neg c9]
  by_cases c : s.hand = s.last
  · rw [if_pos c, if_pos c]
  · rw [if_neg c, if_neg c]
theorem c_pfig (q : PSt p h0 h s) {w : Int32} : F_X6_figure p w h = some (s.fig w, h) := by
  unfold F_X6_figure Ps.fig
  simp only [PSt.hand q, PSt.won q, PSt.rule q, PSt.bt q, PSt.bo q, PSt.be q, c_figH q, Option.bind_some, bd_e]
  by_cases c1 : w = 0
  · rw [if_pos c1, if_pos c1]
  rw [if_neg c1, if_neg c1]
  by_cases c2 : w = 10
  · rw [if_pos c2, if_pos c2]
  rw [if_neg c2, if_neg c2]
  by_cases c3 : w = 11
  · rw [if_pos c3, if_pos c3]
  rw [if_neg c3, if_neg c3]
  by_cases c4 : w = 12
  · rw [if_pos c4, if_pos c4]
  rw [if_neg c4, if_neg c4]
  by_cases c5 : w = 13
  · rw [if_pos c5, if_pos c5]
  rw [if_neg c5, if_neg c5]
  by_cases c6 : w = 14
  · rw [if_pos c6, if_pos c6]
  rw [if_neg c6, if_neg c6]
  by_cases c : s.hand = -1
  · rw [if_pos c, if_pos c]
  · rw [if_neg c, if_neg c]
end PQ
