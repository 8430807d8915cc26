/-! The Tally's methods -/
section TM
variable {a : Nat} {h0 h : aH} {T : Ty}
theorem gt_eq {X : Option aH} {T1 T' : Ty} (c : GT a h0 X T1) (e : T1 = T') : GT a h0 X T' := e ▸ c
theorem gt_ite {c : Prop} [Decidable c] {A B : Option aH} {T' : Ty} (k1 : c → GT a h0 A T') (k2 : ¬ c → GT a h0 B T') : GT a h0 (if c then A else B) T' := by
  by_cases hc : c
  · rw [if_pos hc]; exact k1 hc
  · rw [if_neg hc]; exact k2 hc
theorem c_changeEnds (S : St a h0 h T) : GT a h0 (F_X9_changeEnds a h) T.chg := by
  unfold F_X9_changeEnds
  tr
  refine gt_bd ?_
  ts; ts
  exact gt_end S rfl
theorem c_cross (S : St a h0 h T) {v : Int32} : GT a h0 (F_X9_cross a v h) (T.cross v) := by
  unfold F_X9_cross Ty.cross
  by_cases c : v - v / 2 * 2 = 0
  · rw [if_pos c, if_pos c]; exact gt_end S rfl
  · rw [if_neg c, if_neg c]
    exact gt_call (c_changeEnds S) (fun h S => gt_end S rfl)
theorem c_hit (S : St a h0 h T) {v : Int32} : GT a h0 (F_X9_hit a v h) (T.hit v) := by
  unfold F_X9_hit
  ts; ts; ts; ts; ts; ts; ts; ts; ts
  exact gt_call (c_cross S) (fun h S => gt_end S rfl)
theorem c_concede (S : St a h0 h T) : GT a h0 (F_X9_concede a h) T.concede := by
  unfold F_X9_concede
  ts; ts; ts; ts; ts; ts
  exact gt_end S rfl
theorem c_nob (S : St a h0 h T) {v : Int32} : GT a h0 (F_X9_runOfNobody a v h) (T.nob v) := by
  unfold F_X9_runOfNobody
  ts; ts; ts
  exact gt_call (c_cross S) (fun h S => gt_end S rfl)
theorem c_end44 (S : St a h0 h T) : GT a h0 (F_X9_endOver_44 a h) T.end44 := by
  unfold F_X9_endOver_44
  ts; ts; ts
  exact gt_call (c_changeEnds S) (fun h S => gt_end S rfl)
theorem c_endO (S : St a h0 h T) : GT a h0 (F_X9_endOver a 0 h) T.endO := by
  unfold F_X9_endOver
  ts; ts; ts
  simp only [↓reduceIte]
  exact c_end44 S
theorem c_endP (S : St a h0 h T) : GT a h0 (F_X9_endOver a 1 h) T.endP := by
  unfold F_X9_endOver
  ts; ts; ts
  rw [if_neg (by decide)]
  ts; ts; ts; ts; ts; ts
  exact c_end44 S
theorem c_fin (S : St a h0 h T) {wf c : Int32} : GT a h0 (F_X9_leave_85 a wf c h) (T.fin wf c) := by
  unfold F_X9_leave_85 Ty.fin
  by_cases k : wf = 0
  · rw [if_pos k, if_pos k]; ts; ts; exact gt_end S rfl
  · rw [if_neg k, if_neg k]; ts; ts; exact gt_end S rfl
theorem c_leave (S : St a h0 h T) {wf how : Int32} : GT a h0 (F_X9_leave a wf how h) (T.leave wf how) := by
  unfold F_X9_leave
  ts
  by_cases k : wf = 0
  · rw [if_pos k]
    ts; ts; ts; ts; ts; ts; ts; ts
    tr
    refine gt_ite (fun k2 => ?_) (fun k2 => ?_)
    · refine gt_eq (c_fin S) ?_
      unfold Ty.leave Ty.leave1
      rw [if_pos k]
      split
      · rfl
      · rename_i q; exact absurd k2 q
    · refine gt_bd ?_
      ts; ts; ts; ts
      refine gt_eq (c_fin S) ?_
      unfold Ty.leave Ty.leave1
      rw [if_pos k]
      split
      · rename_i q; exact absurd q k2
      · rfl
  · rw [if_neg k]
    ts; ts; ts; ts; ts; ts; ts; ts
    tr
    refine gt_ite (fun k2 => ?_) (fun k2 => ?_)
    · refine gt_eq (c_fin S) ?_
      unfold Ty.leave Ty.leave1
      rw [if_neg k]
      split
      · rfl
      · rename_i q; exact absurd k2 q
    · refine gt_bd ?_
      ts; ts; ts; ts
      refine gt_eq (c_fin S) ?_
      unfold Ty.leave Ty.leave1
      rw [if_neg k]
      split
      · rename_i q; exact absurd q k2
      · rfl
theorem c_left (S : St a h0 h T) : F_X9_ballsLeft a h = some (T.left, h) := by
  unfold F_X9_ballsLeft Ty.left
  tr
theorem c_table {b w : Int32} : F_X11_table b w h = some (tb b w, h) := rfl
theorem c_away (S : St a h0 h T) {v : Int32} : GT a h0 (F_X9_takeAway a v h) (T.away v) := by
  unfold F_X9_takeAway
  refine gt_o (c_left S) (gt_bd (gt_bd ?_))
  dsimp only
  ts
  tr
  refine gt_o c_table (gt_bd (gt_bd ?_))
  dsimp only
  ts
  have S1 := S
  ts
  refine gt_o (c_left S) (gt_bd (gt_bd ?_))
  dsimp only
  ts
  tr
  refine gt_o c_table (gt_bd (gt_bd ?_))
  dsimp only
  ts
  ts
  exact gt_end S rfl
theorem c_counts {k : Int32} : F_X11_counts k h = some (if kc k then 1 else 0, h) := by
  unfold F_X11_counts
  by_cases k0 : k = 0
  · rw [if_pos k0, if_pos (Or.inl k0)]
  · rw [if_neg k0]
    by_cases k3 : k = 3
    · rw [if_pos k3, if_pos (Or.inr (Or.inl k3))]
    · rw [if_neg k3]
      by_cases k4 : k = 4
      · rw [if_pos k4, if_pos (Or.inr (Or.inr (Or.inl k4)))]
      · rw [if_neg k4]
        by_cases k6 : k = 6
        · rw [if_pos k6, if_pos (Or.inr (Or.inr (Or.inr k6)))]
        · rw [if_neg k6, if_neg (fun q => by rcases q with q | q | q | q <;> contradiction)]
theorem c_ent4 (S : St a h0 h T) : GT a h0 (F_X9_playEntry_247 a h) T.ent4 := by
  unfold F_X9_playEntry_247 Ty.ent4
  ts
  tr
  by_cases k : T.counted = 6
  · rw [if_pos k, if_pos k]
    exact gt_call (c_endO S) (fun h S => gt_end S rfl)
  · rw [if_neg k, if_neg k]; exact gt_end S rfl
theorem c_ent3 (S : St a h0 h T) {k s : Int32} : GT a h0 (F_X9_playEntry_191 a k s h) (T.ent3 k s).ent4 := by
  unfold F_X9_playEntry_191
  ts; ts; ts; ts
  refine gt_o c_counts (gt_bd (gt_bd ?_))
  dsimp only
  by_cases c : kc k
  · rw [if_pos c, if_neg (by decide)]
    ts; ts; ts; ts; ts
    refine gt_eq (c_ent4 S) ?_
    unfold Ty.ent3
    rw [if_pos c]
    rfl
  · rw [if_neg c, if_pos rfl]
    refine gt_eq (c_ent4 S) ?_
    unfold Ty.ent3
    rw [if_neg c]
theorem c_ent2 (S : St a h0 h T) {k v s : Int32} : GT a h0 (F_X9_playEntry_41 a k v s h) ((T.ent2 k v).ent3 k s).ent4 := by
  unfold F_X9_playEntry_41
  by_cases k0 : k = 0
  · rw [if_pos k0]; ts
    refine gt_call (c_hit S) (fun h S => gt_eq (c_ent3 S) ?_)
    unfold Ty.ent2
    rw [if_pos k0]
  rw [if_neg k0]
  by_cases k1 : k = 1
  · rw [if_pos k1]; ts
    refine gt_call (c_concede S) (fun h S => ?_); ts
    refine gt_call (c_nob S) (fun h S => gt_eq (c_ent3 S) ?_)
    unfold Ty.ent2
    rw [if_neg k0, if_pos k1]
  rw [if_neg k1]
  by_cases k2 : k = 2
  · rw [if_pos k2]; ts
    refine gt_call (c_concede S) (fun h S => ?_); ts
    refine gt_call (c_hit S) (fun h S => gt_eq (c_ent3 S) ?_)
    unfold Ty.ent2
    rw [if_neg k0, if_neg k1, if_pos k2]
  rw [if_neg k2]
  by_cases k3 : k = 3
  · rw [if_pos k3]
    ts; ts; ts; ts; ts
    refine gt_call (c_leave S) (fun h S => gt_eq (c_ent3 S) ?_)
    unfold Ty.ent2
    rw [if_neg k0, if_neg k1, if_neg k2, if_pos k3]
  rw [if_neg k3]
  by_cases k4 : k = 4
  · rw [if_pos k4]; ts
    refine gt_call (c_hit S) (fun h S => ?_)
    by_cases p : v - v / 2 * 2 = 0
    · rw [if_pos p]; ts
      refine gt_call (c_leave S) (fun h S => gt_eq (c_ent3 S) ?_)
      unfold Ty.ent2
      rw [if_neg k0, if_neg k1, if_neg k2, if_neg k3, if_pos k4, if_pos p]
    · rw [if_neg p]; ts
      refine gt_call (c_leave S) (fun h S => gt_eq (c_ent3 S) ?_)
      unfold Ty.ent2
      rw [if_neg k0, if_neg k1, if_neg k2, if_neg k3, if_pos k4, if_neg p]
  rw [if_neg k4]
  by_cases k6 : k = 6
  · rw [if_pos k6]; ts
    refine gt_call (c_nob S) (fun h S => gt_eq (c_ent3 S) ?_)
    unfold Ty.ent2
    rw [if_neg k0, if_neg k1, if_neg k2, if_neg k3, if_neg k4, if_pos k6]
  rw [if_neg k6]
  by_cases k8 : k = 8
  · rw [if_pos k8]; ts
    refine gt_call (c_away S) (fun h S => gt_eq (c_ent3 S) ?_)
    unfold Ty.ent2
    rw [if_neg k0, if_neg k1, if_neg k2, if_neg k3, if_neg k4, if_neg k6, if_pos k8]
  rw [if_neg k8]
  refine gt_eq (c_ent3 S) ?_
  unfold Ty.ent2
  rw [if_neg k0, if_neg k1, if_neg k2, if_neg k3, if_neg k4, if_neg k6, if_neg k8]
theorem c_ent (S : St a h0 h T) {c : Int32} : GT a h0 (F_X9_playEntry a c h) (T.ent c) := by
  unfold F_X9_playEntry
  tr
  refine gt_bd (gt_bd (gt_bd ?_))
  refine gt_o c_counts (gt_bd (gt_bd ?_))
  dsimp only
  have key : GT a h0 (F_X9_playEntry_28 a (c / 16) (c - c / 16 * 16) T.score h) ((((T.sBat (gA 11 3 T.bat T.faces 1 1)).ent2 (c / 16) (c - c / 16 * 16)).ent3 (c / 16) T.score).ent4) := by
    unfold F_X9_playEntry_28
    ts; ts; ts; ts
    exact c_ent2 S
  by_cases k : kc (c / 16)
  · rw [if_pos k, if_neg (by decide)]
    refine gt_eq key ?_
    unfold Ty.ent Ty.ent1
    rw [if_pos (Or.inl k)]
  · rw [if_neg k, if_pos rfl]
    by_cases k2 : c / 16 = 2
    · rw [if_pos k2]
      refine gt_eq key ?_
      unfold Ty.ent Ty.ent1
      rw [if_pos (Or.inr k2)]
    · rw [if_neg k2]
      refine gt_eq (c_ent2 S) ?_
      unfold Ty.ent Ty.ent1
      rw [if_neg (fun q => q.elim k k2)]
theorem c_clear (S : St a h0 h T) : GT a h0 (F_X9_clear a h) (Ty.zero T.ov) := by
  unfold F_X9_clear
  ts; ts; ts; ts; ts; ts; ts; ts; ts; ts; ts; ts; ts; ts; ts; ts; ts; ts; ts; ts; ts; ts; ts; ts
  exact gt_end S rfl
theorem c_begin (S : St a h0 h T) {n : Int32} : GT a h0 (F_X9_begin a n h) (T.begin n) := by
  unfold F_X9_begin
  ts; ts
  tr
  refine gt_o c_table (gt_bd (gt_bd ?_))
  dsimp only
  ts; ts; ts; ts; ts; ts; ts; ts; ts; ts; ts; ts
  exact gt_end S rfl
theorem c_begO2 (S : St a h0 h T) {o : Nat} {b s : Int32} (ho : ¬ (a ≤ o ∧ o < a + 7)) (hk : hK h0 o = 7) (hb : hF h0 601 o = b) (hs : hF h0 602 o = s) : GT a h0 (F_X9_beginOver_16 a o h) (T.begO2 b s) := by
  unfold F_X9_beginOver_16
  ts; ts; ts; ts; ts; ts
  refine gt_o (x := ()) (by rw [ck, if_pos (by rw [S.2.1.1.K]; exact hk)]) ?_
  rw [S.2.1.F ho, hb]
  ts; ts; ts; ts
  refine gt_o (x := ()) (by rw [ck, if_pos (by rw [S.2.1.1.K]; exact hk)]) ?_
  have e : F_X5_isMissing o h = some (if s < 0 then 1 else 0, h) := by
    unfold F_X5_isMissing
    rw [S.2.1.F ho, hs]
    by_cases c : s < 0
    · rw [if_neg (by grind), if_pos c]
    · rw [if_pos (by grind), if_neg c]
  refine gt_o e (gt_bd (gt_bd ?_))
  dsimp only
  by_cases c : s < 0
  · rw [if_pos c, if_neg (by decide)]
    ts
    refine gt_call (c_endP S) (fun h S => gt_end S ?_)
    unfold Ty.begO2
    rw [if_pos c]
    rfl
  · rw [if_neg c, if_pos rfl]
    refine gt_end S ?_
    unfold Ty.begO2
    rw [if_neg c]
    rfl
theorem c_begO (S : St a h0 h T) {o : Nat} {b s : Int32} (ho : ¬ (a ≤ o ∧ o < a + 7)) (hk : hK h0 o = 7) (hb : hF h0 601 o = b) (hs : hF h0 602 o = s) : GT a h0 (F_X9_beginOver a o h) (T.begO b s) := by
  unfold F_X9_beginOver Ty.begO
  tr
  by_cases c : T.begun ≤ T.whole
  · rw [if_pos c, if_pos c]; exact c_begO2 S ho hk hb hs
  · rw [if_neg c, if_neg c]
    exact gt_call (c_endP S) (fun h S => c_begO2 S ho hk hb hs)
theorem c_at0 (S : St a h0 h T) {r c : Int32} (hc : gin 11 3 r c) : F_X4_at (a + 1) r c h = some (T.bat r c, h) := by
  rw [gr_at S.1.2.2.2.2.1 gix_11_3, ← S.2.2]; rfl
theorem c_at1 (S : St a h0 h T) {r c : Int32} : F_X4_at (a + 3) r c h = some (T.bow r c, h) := by
  rw [gr_at S.1.2.2.2.2.2.1 gix_11_3, ← S.2.2]; rfl
theorem c_at2 (S : St a h0 h T) {r c : Int32} : F_X4_at (a + 5) r c h = some (T.ov r c, h) := by
  rw [gr_at S.1.2.2.2.2.2.2 gix_120_5, ← S.2.2]; rfl
theorem c_ruleO (S : St a h0 h T) {b m : Int32} : F_X9_ruleOfOver a b m h = some (T.ruleO b m, h) := by
  unfold F_X9_ruleOfOver Ty.ruleO
  tr
  by_cases c1 : T.ended = 0
  · rw [if_pos c1]
    by_cases c2 : T.begun < T.allowed
    · rw [if_pos c2, if_pos (And.intro c1 c2)]
      by_cases c3 : b < 0
      · rw [if_pos c3, if_neg (fun q => by have := q.1; grind)]
      · rw [if_neg c3]
        by_cases c4 : b < 11
        · rw [if_pos c4, if_pos (And.intro (show 0 ≤ b by grind) c4)]
          by_cases c5 : b = T.bowler
          · rw [if_pos c5, if_pos c5]
          · rw [if_neg c5, if_neg c5, S.1.2.2.1, Option.bind_some, ck_t S.1.2.2.2.2.2.1.1, c_at1 S]
            simp only [Option.bind_some, bd_e]
            by_cases c6 : T.bow b 0 < m
            · rw [if_pos c6, if_pos c6]
            · rw [if_neg c6, if_neg c6]
        · rw [if_neg c4, if_neg (fun q => c4 q.2)]
    · rw [if_neg c2, if_neg (fun q => c2 q.2)]
  · rw [if_neg c1, if_neg (fun q => c1 q.1)]
end TM
