/-! One call of the law after another (wip/tools/genE5.py) -/
section Ecl
variable {x S0 k : Nat} {h : aH} {A B : Bk} {L : Nat} {X : Nat → Int32}
/-- a call that leaves the count of rows -/
theorem ca_mp {c s : Nat} {P12 : mE → Option (Int32 × mE)} {q : Int32 × aH} {v : Int32} (d : Nat) (p : Pst x h c s B q.2) (e : q.1 = v) (P : Rn (P12 (menv (x + 173) h)) (fun w => w.1 = v ∧ MP (menv (x + 173) h) B w.2)) (okB : BkOK B) (tp : B.taped.toInt ≤ A.taped.toInt + d) (hc : c + 2 * d ≤ 100) (hs' : s + 26 * d ≤ 2000) (hd : d ≤ 20) : CaQ x h A P12 q := by
  obtain ⟨p1, p2, p3, p4⟩ := p
  refine ⟨B, p1, p2, by omega, by omega, okB, P.imp (fun w hw => ⟨hw.1.trans e.symm, hw.2.1, ?_⟩)⟩
  rw [hw.2.2]
  omega
theorem i32t0 {v : Int32} (h : 0 ≤ v) : (0 : Int32).toInt ≤ v.toInt := Int32.le_iff_toInt_le.mp h
theorem tp_side (ok : BkOK A) (n : Int32) : (aSide n A).2.taped.toInt ≤ A.taped.toInt + (0 : Nat) := by
  have t0 := i32t0 ok.2.2.1.1
  have r : A.taped.toInt ≤ A.taped.toInt + (0 : Nat) := by omega
  unfold aSide
  repeat' split
  all_goals first | exact r | (refine Int.le_trans ?_ r; exact t0)
theorem tp_player (ok : BkOK A) (s : Int32) : (aPlayer s A).2.taped.toInt ≤ A.taped.toInt + (0 : Nat) := by
  have t0 := i32t0 ok.2.2.1.1
  have r : A.taped.toInt ≤ A.taped.toInt + (0 : Nat) := by omega
  unfold aPlayer
  repeat' split
  all_goals first | exact r | (refine Int.le_trans ?_ r; exact t0)
theorem tp_toss (ok : BkOK A) (a b n t : Int32) : (aToss a b n t A).2.taped.toInt ≤ A.taped.toInt + (0 : Nat) := by
  have t0 := i32t0 ok.2.2.1.1
  have r : A.taped.toInt ≤ A.taped.toInt + (0 : Nat) := by omega
  unfold aToss
  repeat' split
  all_goals first | exact r | (refine Int.le_trans ?_ r; exact t0)
theorem tp_seat (ok : BkOK A) (g s k p : Int32) : (aSeat g s k p A).2.taped.toInt ≤ A.taped.toInt + (0 : Nat) := by
  have t0 := i32t0 ok.2.2.1.1
  have r : A.taped.toInt ≤ A.taped.toInt + (0 : Nat) := by omega
  unfold aSeat
  repeat' split
  all_goals first | exact r | (refine Int.le_trans ?_ r; exact t0)
theorem tp_open (ok : BkOK A) (g t o n : Int32) : (aOpen g t o n A).2.taped.toInt ≤ A.taped.toInt + (0 : Nat) := by
  have t0 := i32t0 ok.2.2.1.1
  have r : A.taped.toInt ≤ A.taped.toInt + (0 : Nat) := by omega
  unfold aOpen
  repeat' split
  all_goals first | exact r | (refine Int.le_trans ?_ r; exact t0)
theorem tp_tear (ok : BkOK A) (g t o : Int32) : (aTear g t o A).2.taped.toInt ≤ A.taped.toInt + (0 : Nat) := by
  have t0 := i32t0 ok.2.2.1.1
  have r : A.taped.toInt ≤ A.taped.toInt + (0 : Nat) := by omega
  unfold aTear
  repeat' split
  all_goals first | exact r | (refine Int.le_trans ?_ r; exact t0)
theorem tp_put (ok : BkOK A) (g t o i c : Int32) : (aPut g t o i c A).2.taped.toInt ≤ A.taped.toInt + (0 : Nat) := by
  have t0 := i32t0 ok.2.2.1.1
  have r : A.taped.toInt ≤ A.taped.toInt + (0 : Nat) := by omega
  unfold aPut
  repeat' split
  all_goals first | exact r | (refine Int.le_trans ?_ r; exact t0)
theorem tp_mend (ok : BkOK A) (g t o i c : Int32) : (aMend g t o i c A).2.taped.toInt ≤ A.taped.toInt + (0 : Nat) := by
  have t0 := i32t0 ok.2.2.1.1
  have r : A.taped.toInt ≤ A.taped.toInt + (0 : Nat) := by omega
  unfold aMend
  repeat' split
  all_goals first | exact r | (refine Int.le_trans ?_ r; exact t0)
theorem tp_out (ok : BkOK A) (g t o i : Int32) : (aOut g t o i A).2.taped.toInt ≤ A.taped.toInt + (0 : Nat) := by
  have t0 := i32t0 ok.2.2.1.1
  have r : A.taped.toInt ≤ A.taped.toInt + (0 : Nat) := by omega
  unfold aOut
  repeat' split
  all_goals first | exact r | (refine Int.le_trans ?_ r; exact t0)
theorem tp_bowls (ok : BkOK A) (g t o b : Int32) : (aBowls g t o b A).2.taped.toInt ≤ A.taped.toInt + (0 : Nat) := by
  have t0 := i32t0 ok.2.2.1.1
  have r : A.taped.toInt ≤ A.taped.toInt + (0 : Nat) := by omega
  unfold aBowls
  repeat' split
  all_goals first | exact r | (refine Int.le_trans ?_ r; exact t0)
theorem tp_turn (s : Ps) (g : Int32) : (aTurn s g A).2.taped.toInt ≤ A.taped.toInt + (0 : Nat) := by
  have r : A.taped.toInt ≤ A.taped.toInt + (0 : Nat) := by omega
  unfold aTurn
  repeat' split
  all_goals exact r
theorem tp_over (s : Ps) (g b : Int32) : (aOver s g b A).2.taped.toInt ≤ A.taped.toInt + (0 : Nat) := by
  have r : A.taped.toInt ≤ A.taped.toInt + (0 : Nat) := by omega
  unfold aOver
  repeat' split
  all_goals exact r
theorem tp_ball (s : Ps) (g b : Int32) : (aBall s g b A).2.taped.toInt ≤ A.taped.toInt + (0 : Nat) := by
  have r : A.taped.toInt ≤ A.taped.toInt + (0 : Nat) := by omega
  unfold aBall
  repeat' split
  all_goals exact r
theorem tp_image (s : Ps) (g : Int32) : (aImage s g A).2.taped.toInt ≤ A.taped.toInt + (0 : Nat) := by
  have r : A.taped.toInt ≤ A.taped.toInt + (0 : Nat) := by omega
  unfold aImage
  repeat' split
  all_goals exact r
theorem tp_undo : (aUndo A).2.taped.toInt ≤ A.taped.toInt + (0 : Nat) := by
  have r : A.taped.toInt ≤ A.taped.toInt + (0 : Nat) := by omega
  unfold aUndo
  repeat' split
  all_goals exact r
theorem tp_feed (ok : BkOK A) (a b c d e : Int32) : (aFeed a b c d e A).2.taped.toInt ≤ A.taped.toInt + (20 : Nat) := by
  unfold aFeed
  by_cases c' : A.taped ≤ 5980
  · rw [if_pos c']
    show (A.taped + 20).toInt ≤ _
    have i0 := i32t0 ok.2.2.1.1
    have z : (0 : Int32).toInt = 0 := by decide
    have i1 := le_i c' (by decide : (5980 : Int32).toInt = 5980)
    have i2 : (20 : Int32).toInt = 20 := by decide
    have : (A.taped + 20).toInt = A.taped.toInt + 20 := by
      rw [Int32.toInt_add, i2]
      apply Int.bmod_eq_of_le <;> omega
    omega
  · rw [if_neg c']
    show A.taped.toInt ≤ _
    omega
theorem ca_side (I : LI x S0 k h A) (kb : k ≤ 512) (y1 : Int32) : Rn (F_X11_side x y1 h) (CaQ x h A (fun e => P_X12_side y1 e)) := by
  obtain ⟨⟨lb, ad, cp, r⟩, I2, I3, ok, I5, I6, I7, I8⟩ := I
  exact (c_side r ok y1).imp (fun q w => ca_mp 0 w.2 w.1 (m_side I3 ok y1) (ok_side ok y1) (tp_side ok y1) (by decide) (by decide) (by decide))
theorem ca_player (I : LI x S0 k h A) (kb : k ≤ 512) (y1 : Int32) : Rn (F_X11_player x y1 h) (CaQ x h A (fun e => P_X12_player y1 e)) := by
  obtain ⟨⟨lb, ad, cp, r⟩, I2, I3, ok, I5, I6, I7, I8⟩ := I
  exact (c_player r ok y1).imp (fun q w => ca_mp 0 w.2 w.1 (m_player I3 ok y1) (ok_player ok y1) (tp_player ok y1) (by decide) (by decide) (by decide))
theorem ca_toss (I : LI x S0 k h A) (kb : k ≤ 512) (y1 y2 y3 y4 : Int32) : Rn (F_X11_toss x y1 y2 y3 y4 h) (CaQ x h A (fun e => P_X12_toss y1 y2 y3 y4 e)) := by
  obtain ⟨⟨lb, ad, cp, r⟩, I2, I3, ok, I5, I6, I7, I8⟩ := I
  exact (c_toss r ok y1 y2 y3 y4).imp (fun q w => ca_mp 0 w.2 w.1 (m_toss I3 ok y1 y2 y3 y4) (ok_toss ok y1 y2 y3 y4) (tp_toss ok y1 y2 y3 y4) (by decide) (by decide) (by decide))
theorem ca_seat (I : LI x S0 k h A) (kb : k ≤ 512) (y1 y2 y3 y4 : Int32) : Rn (F_X11_seat x y1 y2 y3 y4 h) (CaQ x h A (fun e => P_X12_seat y1 y2 y3 y4 e)) := by
  obtain ⟨⟨lb, ad, cp, r⟩, I2, I3, ok, I5, I6, I7, I8⟩ := I
  exact (c_seat r ok y1 y2 y3 y4).imp (fun q w => ca_mp 0 w.2 w.1 (m_seat I3 ok y1 y2 y3 y4) (ok_seat ok y1 y2 y3 y4) (tp_seat ok y1 y2 y3 y4) (by decide) (by decide) (by decide))
theorem ca_turn (I : LI x S0 k h A) (kb : k ≤ 512) (y1 : Int32) : Rn (F_X11_turn x y1 h) (CaQ x h A (fun e => P_X12_turn y1 e)) := by
  obtain ⟨⟨lb, ad, cp, r⟩, I2, I3, ok, I5, I6, I7, I8⟩ := I
  refine (c_turn r ok y1).imp ?_
  rintro q ⟨s, hs', e, p⟩
  exact ca_mp 0 p e (m_turn I3 ok hs' y1) (ok_turn ok s y1) (tp_turn s y1) (by decide) (by decide) (by decide)
theorem ca_over (I : LI x S0 k h A) (kb : k ≤ 512) (y1 y2 : Int32) : Rn (F_X11_over x y1 y2 h) (CaQ x h A (fun e => P_X12_over y1 y2 e)) := by
  obtain ⟨⟨lb, ad, cp, r⟩, I2, I3, ok, I5, I6, I7, I8⟩ := I
  refine (c_over r ok y1 y2).imp ?_
  rintro q ⟨s, hs', e, p1, p2, p3, p4⟩
  have tp := tp_over (A := A) s y1 y2
  have t0 := i32t0 ok.2.2.1.1
  have z : (0 : Int32).toInt = 0 := by decide
  have i58 : (5800 : Int32).toInt = 5800 := by decide
  have lt : (menv (x + 173) h).1 11 < 5800 := Int32.lt_iff_toInt_lt.mpr (by omega)
  refine ⟨(aOver s y1 y2 A).2, p1, p2, by omega, by omega, ok_over I3 ok hs' y1 y2, (m_over I3 ok hs' lt y1 y2).imp (fun w hw => ⟨hw.1.trans e.symm, hw.2.1, ?_⟩)⟩
  rcases hw.2.2 with y | y
  · rw [y]
    omega
  · have := i32_succ lt
    rw [y]
    omega
theorem ca_ball (I : LI x S0 k h A) (kb : k ≤ 512) (y1 y2 : Int32) : Rn (F_X11_ball x y1 y2 h) (CaQ x h A (fun e => P_X12_ball y1 y2 e)) := by
  obtain ⟨⟨lb, ad, cp, r⟩, I2, I3, ok, I5, I6, I7, I8⟩ := I
  refine (c_ball r ok y1 y2).imp ?_
  rintro q ⟨s, hs', e, p⟩
  exact ca_mp 0 p e (m_ball I3 ok hs' y1 y2) (ok_ball ok s y1 y2) (tp_ball s y1 y2) (by decide) (by decide) (by decide)
theorem ca_feed (I : LI x S0 k h A) (kb : k ≤ 512) (y1 y2 y3 y4 y5 : Int32) : Rn (F_X11_feed x y1 y2 y3 y4 y5 h) (CaQ x h A (fun e => P_X12_feed y1 y2 y3 y4 y5 e)) := by
  obtain ⟨⟨lb, ad, cp, r⟩, I2, I3, ok, I5, I6, I7, I8⟩ := I
  exact (c_feed r ok y1 y2 y3 y4 y5).imp (fun q w => ca_mp 20 w.2 w.1 (m_feed I3 ok y1 y2 y3 y4 y5) (ok_feed ok y1 y2 y3 y4 y5) (tp_feed ok y1 y2 y3 y4 y5) (by decide) (by decide) (by decide))
theorem ca_open (I : LI x S0 k h A) (kb : k ≤ 512) (y1 y2 y3 y4 : Int32) : Rn (F_X11_open x y1 y2 y3 y4 h) (CaQ x h A (fun e => P_X12_open y1 y2 y3 y4 e)) := by
  obtain ⟨⟨lb, ad, cp, r⟩, I2, I3, ok, I5, I6, I7, I8⟩ := I
  exact (c_open r ok).imp (fun q w => ca_mp 0 w.2 w.1 (m_open I3 ok y1 y2 y3 y4) (ok_open ok y1 y2 y3 y4) (tp_open ok y1 y2 y3 y4) (by decide) (by decide) (by decide))
theorem ca_tear (I : LI x S0 k h A) (kb : k ≤ 512) (y1 y2 y3 : Int32) : Rn (F_X11_tear x y1 y2 y3 h) (CaQ x h A (fun e => P_X12_tear y1 y2 y3 e)) := by
  obtain ⟨⟨lb, ad, cp, r⟩, I2, I3, ok, I5, I6, I7, I8⟩ := I
  exact (c_tear r ok).imp (fun q w => ca_mp 0 w.2 w.1 (m_tear I3 ok y1 y2 y3) (ok_tear ok y1 y2 y3) (tp_tear ok y1 y2 y3) (by decide) (by decide) (by decide))
theorem ca_put (I : LI x S0 k h A) (kb : k ≤ 512) (y1 y2 y3 y4 y5 : Int32) : Rn (F_X11_put x y1 y2 y3 y4 y5 h) (CaQ x h A (fun e => P_X12_put y1 y2 y3 y4 y5 e)) := by
  obtain ⟨⟨lb, ad, cp, r⟩, I2, I3, ok, I5, I6, I7, I8⟩ := I
  exact (c_put r ok).imp (fun q w => ca_mp 0 w.2 w.1 (m_put I3 ok y1 y2 y3 y4 y5) (ok_put ok y1 y2 y3 y4 y5) (tp_put ok y1 y2 y3 y4 y5) (by decide) (by decide) (by decide))
theorem ca_mend (I : LI x S0 k h A) (kb : k ≤ 512) (y1 y2 y3 y4 y5 : Int32) : Rn (F_X11_mend x y1 y2 y3 y4 y5 h) (CaQ x h A (fun e => P_X12_mend y1 y2 y3 y4 y5 e)) := by
  obtain ⟨⟨lb, ad, cp, r⟩, I2, I3, ok, I5, I6, I7, I8⟩ := I
  exact (c_mend r ok).imp (fun q w => ca_mp 0 w.2 w.1 (m_mend I3 ok y1 y2 y3 y4 y5) (ok_mend ok y1 y2 y3 y4 y5) (tp_mend ok y1 y2 y3 y4 y5) (by decide) (by decide) (by decide))
theorem ca_out (I : LI x S0 k h A) (kb : k ≤ 512) (y1 y2 y3 y4 : Int32) : Rn (F_X11_out x y1 y2 y3 y4 h) (CaQ x h A (fun e => P_X12_out y1 y2 y3 y4 e)) := by
  obtain ⟨⟨lb, ad, cp, r⟩, I2, I3, ok, I5, I6, I7, I8⟩ := I
  exact (c_out r ok).imp (fun q w => ca_mp 0 w.2 w.1 (m_out I3 ok y1 y2 y3 y4) (ok_out ok y1 y2 y3 y4) (tp_out ok y1 y2 y3 y4) (by decide) (by decide) (by decide))
theorem ca_bowls (I : LI x S0 k h A) (kb : k ≤ 512) (y1 y2 y3 y4 : Int32) : Rn (F_X11_bowls x y1 y2 y3 y4 h) (CaQ x h A (fun e => P_X12_bowls y1 y2 y3 y4 e)) := by
  obtain ⟨⟨lb, ad, cp, r⟩, I2, I3, ok, I5, I6, I7, I8⟩ := I
  exact (c_bowls r ok).imp (fun q w => ca_mp 0 w.2 w.1 (m_bowls I3 ok y1 y2 y3 y4) (ok_bowls ok y1 y2 y3 y4) (tp_bowls ok y1 y2 y3 y4) (by decide) (by decide) (by decide))
theorem ca_undo (I : LI x S0 k h A) (kb : k ≤ 512) : Rn (F_X11_undo x  h) (CaQ x h A (fun e => P_X12_undo  e)) := by
  obtain ⟨⟨lb, ad, cp, r⟩, I2, I3, ok, I5, I6, I7, I8⟩ := I
  exact (c_undo r ok).imp (fun q w => ca_mp 0 w.2 w.1 (m_undo I3 ok) (ok_undo ok) tp_undo (by decide) (by decide) (by decide))
theorem ca_why (I : LI x S0 k h A) (kb : k ≤ 512) : Rn (F_X11_why x  h) (CaQ x h A (fun e => P_X12_why  e)) := by
  obtain ⟨⟨lb, ad, cp, r⟩, I2, I3, ok, I5, I6, I7, I8⟩ := I
  exact ⟨_, c_why r, ca_mp (c := 0) (s := 0) (B := A) 0 (r.same 0 0) rfl (m_why I3) ok (by omega) (by decide) (by decide) (by decide)⟩
theorem ca_image (I : LI x S0 k h A) (kb : k ≤ 512) (y1 : Int32) : Rn (F_X11_image x y1 h) (CaQ x h A (fun e => P_X12_image y1 e)) := by
  obtain ⟨⟨lb, ad, cp, r⟩, I2, I3, ok, I5, I6, I7, I8⟩ := I
  refine (c_image r ok y1).imp ?_
  rintro q ⟨s, hs', e, p⟩
  exact ca_mp 0 p e (m_image I3 ok hs' y1) (ok_image ok s y1) (tp_image s y1) (by decide) (by decide) (by decide)
theorem ca_check (I : LI x S0 k h A) (kb : k ≤ 512) (y1 : Int32) : Rn (F_X11_check x y1 h) (CaQ x h A (fun e => P_X12_check y1 e)) := by
  obtain ⟨⟨lb, ad, cp, r⟩, I2, I3, ok, I5, I6, I7, I8⟩ := I
  refine (c_check r ok y1).imp ?_
  rintro q ⟨s, hs', e, p1, p2, p3, p4⟩
  have t0 := i32t0 ok.2.2.1.1
  have z : (0 : Int32).toInt = 0 := by decide
  have tp : (aCheck s y1 A).2.taped.toInt ≤ A.taped.toInt := by
    unfold aCheck
    repeat' split
    all_goals first | exact Int.le_refl _ | exact t0
  refine ⟨(aCheck s y1 A).2, p1, p2, by omega, by omega, ok_check ok s y1, (m_check I3 ok hs' (by omega) y1).imp (fun w hw => ⟨hw.1.trans e.symm, hw.2.1, ?_⟩)⟩
  rw [hw.2.2]
  omega
theorem ca_take (I : LI x S0 k h A) (kb : k ≤ 512) (y1 : Int32) : Rn (F_X11_take x y1 h) (CaQ x h A (fun e => P_X12_take y1 e)) := by
  obtain ⟨⟨lb, ad, cp, r⟩, I2, I3, ok, I5, I6, I7, I8⟩ := I
  refine (c_take r ok y1).imp ?_
  rintro q ⟨s, hs', e, p1, p2, p3, p4⟩
  have MT := m_take I3 ok hs' (by omega) y1
  refine ⟨(aTake s y1 A).2, p1, p2, by omega, by omega, ?_, MT.imp (fun w hw => ⟨hw.1.trans e.symm, hw.2.1, ?_⟩)⟩
  · obtain ⟨w, -, hw⟩ := MT
    exact hw.2.2.1
  · have := hw.2.2.2
    omega
theorem qa_now (I : LI x S0 k h A) (y1 y2 : Int32) : Rn (F_L_now x y1 y2 (x + 228) h) (fun q => ∃ o, AsQ x h A (fun v : Int32 => v.toInt64) o q ∧ Rn (P_X12_now y1 y2 (menv (x + 173) h)) (MQ1 (menv (x + 173) h) A o)) := by
  have k13 := I.k13
  obtain ⟨⟨lb, ad, cp, r⟩, I2, I3, ok, I5, I6, I7, I8⟩ := I
  have C : Rn (F_X11_now x y1 y2 h) (fun q => Pst x h 0 0 A q.2 ∧ Rn (P_X12_now y1 y2 (menv (x + 173) h)) (MQ1 (menv (x + 173) h) A q.1)) := by
    refine (c_now r ok y1 y2).imp ?_
    rintro q ⟨s, hs', e, p⟩
    refine ⟨p, ?_⟩
    rw [e]
    exact m_now I3 ok hs' y1 y2
  unfold F_L_now
  refine rn_ck k13 (rn_c C ?_)
  rintro ⟨o, h1⟩ ⟨p, M⟩
  dsimp only at p M
  cases o with
  | none => exact rn_s ⟨none, as_none p, M⟩
  | some v =>
    have c228 := p.2.1 228 (by decide) (by decide)
    exact rn_ck ⟨by show hK h1 _ = _; rw [c228.K]; exact I5.1, by show inR 0 (hN h1 _); rw [c228.N, I5.2]; decide⟩ (rn_s ⟨some v, as_some (cv := (fun v : Int32 => v.toInt64)) p v, M⟩)
theorem qa_score (I : LI x S0 k h A) (y1 y2 y3 : Int32) : Rn (F_L_score x y1 y2 y3 (x + 228) h) (fun q => ∃ o, AsQ x h A (fun v : Int32 => v.toInt64) o q ∧ Rn (P_X12_score y1 y2 y3 (menv (x + 173) h)) (MQ1 (menv (x + 173) h) A o)) := by
  have k13 := I.k13
  obtain ⟨⟨lb, ad, cp, r⟩, I2, I3, ok, I5, I6, I7, I8⟩ := I
  have C : Rn (F_X11_score x y1 y2 y3 h) (fun q => Pst x h 0 0 A q.2 ∧ Rn (P_X12_score y1 y2 y3 (menv (x + 173) h)) (MQ1 (menv (x + 173) h) A q.1)) := by
    refine (c_score r ok y1 y2 y3).imp ?_
    rintro q ⟨s, hs', e, p⟩
    refine ⟨p, ?_⟩
    rw [e]
    exact m_score I3 ok hs' y1 y2 y3
  unfold F_L_score
  refine rn_ck k13 (rn_c C ?_)
  rintro ⟨o, h1⟩ ⟨p, M⟩
  dsimp only at p M
  cases o with
  | none => exact rn_s ⟨none, as_none p, M⟩
  | some v =>
    have c228 := p.2.1 228 (by decide) (by decide)
    exact rn_ck ⟨by show hK h1 _ = _; rw [c228.K]; exact I5.1, by show inR 0 (hN h1 _); rw [c228.N, I5.2]; decide⟩ (rn_s ⟨some v, as_some (cv := (fun v : Int32 => v.toInt64)) p v, M⟩)
theorem qa_overs (I : LI x S0 k h A) (y1 y2 y3 y4 : Int32) : Rn (F_L_overs x y1 y2 y3 y4 (x + 228) h) (fun q => ∃ o, AsQ x h A (fun v : Int32 => v.toInt64) o q ∧ Rn (P_X12_overs y1 y2 y3 y4 (menv (x + 173) h)) (MQ1 (menv (x + 173) h) A o)) := by
  have k13 := I.k13
  obtain ⟨⟨lb, ad, cp, r⟩, I2, I3, ok, I5, I6, I7, I8⟩ := I
  have C : Rn (F_X11_overs x y1 y2 y3 y4 h) (fun q => Pst x h 0 0 A q.2 ∧ Rn (P_X12_overs y1 y2 y3 y4 (menv (x + 173) h)) (MQ1 (menv (x + 173) h) A q.1)) := by
    refine (c_overs r ok y1 y2 y3 y4).imp ?_
    rintro q ⟨s, hs', e, p⟩
    refine ⟨p, ?_⟩
    rw [e]
    exact m_overs I3 ok hs' y1 y2 y3 y4
  unfold F_L_overs
  refine rn_ck k13 (rn_c C ?_)
  rintro ⟨o, h1⟩ ⟨p, M⟩
  dsimp only at p M
  cases o with
  | none => exact rn_s ⟨none, as_none p, M⟩
  | some v =>
    have c228 := p.2.1 228 (by decide) (by decide)
    exact rn_ck ⟨by show hK h1 _ = _; rw [c228.K]; exact I5.1, by show inR 0 (hN h1 _); rw [c228.N, I5.2]; decide⟩ (rn_s ⟨some v, as_some (cv := (fun v : Int32 => v.toInt64)) p v, M⟩)
theorem qa_entry (I : LI x S0 k h A) (y1 y2 y3 y4 : Int32) : Rn (F_L_entry x y1 y2 y3 y4 (x + 228) h) (fun q => ∃ o, AsQ x h A (fun v : Int32 => v.toInt64) o q ∧ Rn (P_X12_entry y1 y2 y3 y4 (menv (x + 173) h)) (MQ1 (menv (x + 173) h) A o)) := by
  have k13 := I.k13
  obtain ⟨⟨lb, ad, cp, r⟩, I2, I3, ok, I5, I6, I7, I8⟩ := I
  have M := m_entry I3 ok y1 y2 y3 y4
  have C : Rn (F_X11_entry x y1 y2 y3 y4 h) (fun q => Pst x h 0 0 A q.2 ∧ Rn (P_X12_entry y1 y2 y3 y4 (menv (x + 173) h)) (MQ1 (menv (x + 173) h) A q.1)) := ⟨_, c_entry r ok y1 y2 y3 y4, r.same 0 0, M⟩
  unfold F_L_entry
  refine rn_ck k13 (rn_c C ?_)
  rintro ⟨o, h1⟩ ⟨p, M⟩
  dsimp only at p M
  cases o with
  | none => exact rn_s ⟨none, as_none p, M⟩
  | some v =>
    have c228 := p.2.1 228 (by decide) (by decide)
    exact rn_ck ⟨by show hK h1 _ = _; rw [c228.K]; exact I5.1, by show inR 0 (hN h1 _); rw [c228.N, I5.2]; decide⟩ (rn_s ⟨some v, as_some (cv := (fun v : Int32 => v.toInt64)) p v, M⟩)
theorem qa_bats (I : LI x S0 k h A) (y1 y2 y3 y4 : Int32) : Rn (F_L_bats x y1 y2 y3 y4 (x + 228) h) (fun q => ∃ o, AsQ x h A (fun v : Int32 => v.toInt64) o q ∧ Rn (P_X12_bats y1 y2 y3 y4 (menv (x + 173) h)) (MQ1 (menv (x + 173) h) A o)) := by
  have k13 := I.k13
  obtain ⟨⟨lb, ad, cp, r⟩, I2, I3, ok, I5, I6, I7, I8⟩ := I
  have C : Rn (F_X11_bats x y1 y2 y3 y4 h) (fun q => Pst x h 0 0 A q.2 ∧ Rn (P_X12_bats y1 y2 y3 y4 (menv (x + 173) h)) (MQ1 (menv (x + 173) h) A q.1)) := by
    refine (c_bats r ok y1 y2 y3 y4).imp ?_
    rintro q ⟨s, hs', e, p⟩
    refine ⟨p, ?_⟩
    rw [e]
    exact (m_bats I3 ok hs' y1 y2 y3 y4).1
  unfold F_L_bats
  refine rn_ck k13 (rn_c C ?_)
  rintro ⟨o, h1⟩ ⟨p, M⟩
  dsimp only at p M
  cases o with
  | none => exact rn_s ⟨none, as_none p, M⟩
  | some v =>
    have c228 := p.2.1 228 (by decide) (by decide)
    exact rn_ck ⟨by show hK h1 _ = _; rw [c228.K]; exact I5.1, by show inR 0 (hN h1 _); rw [c228.N, I5.2]; decide⟩ (rn_s ⟨some v, as_some (cv := (fun v : Int32 => v.toInt64)) p v, M⟩)
theorem qa_fields (I : LI x S0 k h A) (y1 y2 y3 y4 : Int32) : Rn (F_L_fields x y1 y2 y3 y4 (x + 228) h) (fun q => ∃ o, AsQ x h A (fun v : Int32 => v.toInt64) o q ∧ Rn (P_X12_fields y1 y2 y3 y4 (menv (x + 173) h)) (MQ1 (menv (x + 173) h) A o)) := by
  have k13 := I.k13
  obtain ⟨⟨lb, ad, cp, r⟩, I2, I3, ok, I5, I6, I7, I8⟩ := I
  have C : Rn (F_X11_fields x y1 y2 y3 y4 h) (fun q => Pst x h 0 0 A q.2 ∧ Rn (P_X12_fields y1 y2 y3 y4 (menv (x + 173) h)) (MQ1 (menv (x + 173) h) A q.1)) := by
    refine (c_fields r ok y1 y2 y3 y4).imp ?_
    rintro q ⟨s, hs', e, p⟩
    refine ⟨p, ?_⟩
    rw [e]
    exact (m_bats I3 ok hs' y1 y2 y3 y4).2
  unfold F_L_fields
  refine rn_ck k13 (rn_c C ?_)
  rintro ⟨o, h1⟩ ⟨p, M⟩
  dsimp only at p M
  cases o with
  | none => exact rn_s ⟨none, as_none p, M⟩
  | some v =>
    have c228 := p.2.1 228 (by decide) (by decide)
    exact rn_ck ⟨by show hK h1 _ = _; rw [c228.K]; exact I5.1, by show inR 0 (hN h1 _); rw [c228.N, I5.2]; decide⟩ (rn_s ⟨some v, as_some (cv := (fun v : Int32 => v.toInt64)) p v, M⟩)
theorem qa_record (I : LI x S0 k h A) (y1 y2 : Int32) : Rn (F_L_record x y1 y2 (x + 228) h) (fun q => ∃ o, AsQ x h A (fun v : Int32 => v.toInt64) o q ∧ Rn (P_X12_record y1 y2 (menv (x + 173) h)) (MQ1 (menv (x + 173) h) A o)) := by
  have k13 := I.k13
  obtain ⟨⟨lb, ad, cp, r⟩, I2, I3, ok, I5, I6, I7, I8⟩ := I
  have C : Rn (F_X11_record x y1 y2 h) (fun q => Pst x h 0 0 A q.2 ∧ Rn (P_X12_record y1 y2 (menv (x + 173) h)) (MQ1 (menv (x + 173) h) A q.1)) := by
    refine (c_record r ok y1 y2).imp ?_
    rintro q ⟨s, hs', e, p⟩
    refine ⟨p, ?_⟩
    rw [e]
    exact m_record I3 ok hs' y1 y2
  unfold F_L_record
  refine rn_ck k13 (rn_c C ?_)
  rintro ⟨o, h1⟩ ⟨p, M⟩
  dsimp only at p M
  cases o with
  | none => exact rn_s ⟨none, as_none p, M⟩
  | some v =>
    have c228 := p.2.1 228 (by decide) (by decide)
    exact rn_ck ⟨by show hK h1 _ = _; rw [c228.K]; exact I5.1, by show inR 0 (hN h1 _); rw [c228.N, I5.2]; decide⟩ (rn_s ⟨some v, as_some (cv := (fun v : Int32 => v.toInt64)) p v, M⟩)
theorem qa_told (I : LI x S0 k h A) (y1 : Int32) : Rn (F_L_told x y1 (x + 228) h) (fun q => ∃ o, AsQ x h A (fun v : Int32 => v.toInt64) o q ∧ Rn (P_X12_told y1 (menv (x + 173) h)) (MQ1 (menv (x + 173) h) A o)) := by
  have k13 := I.k13
  obtain ⟨⟨lb, ad, cp, r⟩, I2, I3, ok, I5, I6, I7, I8⟩ := I
  have M := m_told I3 ok y1
  have C : Rn (F_X11_told x y1 h) (fun q => Pst x h 0 0 A q.2 ∧ Rn (P_X12_told y1 (menv (x + 173) h)) (MQ1 (menv (x + 173) h) A q.1)) := ⟨_, c_told r ok y1, r.same 0 0, M⟩
  unfold F_L_told
  refine rn_ck k13 (rn_c C ?_)
  rintro ⟨o, h1⟩ ⟨p, M⟩
  dsimp only at p M
  cases o with
  | none => exact rn_s ⟨none, as_none p, M⟩
  | some v =>
    have c228 := p.2.1 228 (by decide) (by decide)
    exact rn_ck ⟨by show hK h1 _ = _; rw [c228.K]; exact I5.1, by show inR 0 (hN h1 _); rw [c228.N, I5.2]; decide⟩ (rn_s ⟨some v, as_some (cv := (fun v : Int32 => v.toInt64)) p v, M⟩)
theorem qa_list (I : LI x S0 k h A) (y1 : Int32) : Rn (F_L_list x y1 (x + 228) h) (fun q => ∃ o, AsQ x h A (fun v : Int32 => v.toInt64) o q ∧ Rn (P_X12_list y1 (menv (x + 173) h)) (MQ1 (menv (x + 173) h) A o)) := by
  have k13 := I.k13
  obtain ⟨⟨lb, ad, cp, r⟩, I2, I3, ok, I5, I6, I7, I8⟩ := I
  have M := m_list I3 ok y1
  have C : Rn (F_X11_list x y1 h) (fun q => Pst x h 0 0 A q.2 ∧ Rn (P_X12_list y1 (menv (x + 173) h)) (MQ1 (menv (x + 173) h) A q.1)) := ⟨_, c_list r ok y1, r.same 0 0, M⟩
  unfold F_L_list
  refine rn_ck k13 (rn_c C ?_)
  rintro ⟨o, h1⟩ ⟨p, M⟩
  dsimp only at p M
  cases o with
  | none => exact rn_s ⟨none, as_none p, M⟩
  | some v =>
    have c228 := p.2.1 228 (by decide) (by decide)
    exact rn_ck ⟨by show hK h1 _ = _; rw [c228.K]; exact I5.1, by show inR 0 (hN h1 _); rw [c228.N, I5.2]; decide⟩ (rn_s ⟨some v, as_some (cv := (fun v : Int32 => v.toInt64)) p v, M⟩)
theorem qa_sum (I : LI x S0 k h A) (y1 : Int32) : Rn (F_L_sum x y1 (x + 228) h) (fun q => ∃ o, AsQ x h A (fun v : Int64 => v) o q ∧ Rn (P_X12_sum y1 (menv (x + 173) h)) (MQ1 (menv (x + 173) h) A o)) := by
  have k13 := I.k13
  obtain ⟨⟨lb, ad, cp, r⟩, I2, I3, ok, I5, I6, I7, I8⟩ := I
  have C : Rn (F_X11_sum x y1 h) (fun q => Pst x h 0 0 A q.2 ∧ Rn (P_X12_sum y1 (menv (x + 173) h)) (MQ1 (menv (x + 173) h) A q.1)) := by
    refine (c_sum r ok y1).imp ?_
    rintro q ⟨s, hs', e, p⟩
    refine ⟨p, ?_⟩
    rw [e]
    exact m_sum I3 ok hs' y1
  unfold F_L_sum
  refine rn_ck k13 (rn_c C ?_)
  rintro ⟨o, h1⟩ ⟨p, M⟩
  dsimp only at p M
  cases o with
  | none => exact rn_s ⟨none, as_none p, M⟩
  | some v =>
    have c228 := p.2.1 228 (by decide) (by decide)
    exact rn_ck ⟨by show hK h1 _ = _; rw [c228.K]; exact I5.1, by show inR 0 (hN h1 _); rw [c228.N, I5.2]; decide⟩ (rn_s ⟨some v, as_some (cv := (fun v : Int64 => v)) p v, M⟩)
end Ecl
