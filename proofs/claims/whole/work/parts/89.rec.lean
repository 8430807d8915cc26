/-! The records on the class's side -/
section Rc
variable {x : Nat} {h : aH} {lb : Nat → Lab} {ad cp : Adr} {A : Bk}
abbrev RS (k : Nat) : Prop := k = 168 ∨ k = 170
/-- the book, its records' tables being R -/
def RQ (x : Nat) (h : aH) (lb : Nat → Lab) (ad cp : Adr) (A : Bk) (S : Ps) (R : Rc) : Prop := CRp x h lb ad cp A ∧ hF h 1211 x ≠ 0 ∧ psOf (x + 129) h = S ∧ gv h (x + 168) 4 6 = R.1 ∧ gv h (x + 170) 60 30 = R.2
theorem RQ.fs {S : Ps} {R R' : Rc} {h' : aH} (q : RQ x h lb ad cp A S R) (F : frs RS x h h') (e1 : gv h' (x + 168) 4 6 = R'.1) (e2 : gv h' (x + 170) 60 30 = R'.2) : RQ x h' lb ad cp A S R' := by
  obtain ⟨r, q1, q2, -, -⟩ := q
  have x0 := F.2 x (fun k hk e => by omega)
  have ps := psOf_cl (p := x + 129) (fun b b0 b1 => F.2 b (fun k hk e => by omega))
  refine ⟨⟨r.fx.fs F (fun k hk => by omega), r.pl.fs F (fun k hk => by omega), r.ci.mv ⟨x0.F _, x0.F _⟩ (F.c (by omega)) (F.c (by omega)) (F.c (by omega)) (F.c (by omega)) (F.c (by omega)), r.hc.mv (F.c (by omega)) (fun k _ _ => F.c (by omega)), r.pc.mv (x0.F _) ps, fun z => absurd (by rw [x0.F] at z; exact z) q1⟩, by rw [x0.F]; exact q1, by rw [ps]; exact q2, e1, e2⟩
theorem rx_set {S : Ps} {R : Rc} (q : RQ x h lb ad cp A S R) {s w : Int32} (c : gin 4 6 s w) (v : Int32) : ∃ h', F_X4_set (x + 167) s w v h = some h' ∧ RQ x h' lb ad cp A S (gS 4 6 R.1 s w v, R.2) ∧ frs RS x h h' := by
  have gr := q.1.fx.2.2.2.2.2.2.1.2.1
  refine ⟨_, by rw [gr_set gr gix_4_6, if_pos c], ?_, frs_wr (k := 168) (Or.inl rfl)⟩
  refine q.fs (frs_wr (k := 168) (Or.inl rfl)) ?_ ?_
  · show gv (wrA h (x + 168) _ v) (x + 168) 4 6 = _
    rw [gv_set gix_4_6 gij_4_6 c, q.2.2.2.1]
  · show gv (wrA h (x + 168) _ v) (x + 170) 60 30 = _
    have i0 := (gix_4_6 s w c.1 c.2.1 c.2.2.1 c.2.2.2).1
    rw [gv_wr_ne i0 (by omega)]
    exact q.2.2.2.2
theorem rx_k {S : Ps} {R : Rc} (q : RQ x h lb ad cp A S R) : hK h (x + 166) = 10 ∧ hG h 900 (x + 166) = some (x + 167) ∧ hG h 901 (x + 166) = some (x + 169) ∧ hK h (x + 167) = 6 ∧ hK h (x + 169) = 6 := by
  have g := q.1.fx.2.2.2.2.2.2.1
  exact ⟨g.1.1, g.1.2.1, g.1.2.2, g.2.1.1, g.2.2.1⟩
theorem rx_at {S : Ps} {R : Rc} (q : RQ x h lb ad cp A S R) (s w : Int32) : F_X4_at (x + 167) s w h = some (R.1 s w, h) := by
  rw [gr_at q.1.fx.2.2.2.2.2.2.1.2.1 gix_4_6, ← q.2.2.2.1]
  rfl
theorem rx_tot {S : Ps} {R : Rc} (q : RQ x h lb ad cp A S R) (s w : Int32) : F_X4_at (x + 169) s w h = some (R.2 s w, h) := by
  rw [gr_at q.1.fx.2.2.2.2.2.2.1.2.2 gix_60_30, ← q.2.2.2.2]
  rfl
theorem rx_note {S : Ps} {R : Rc} (q : RQ x h lb ad cp A S R) {s : Int32} (hs : inL 4 s) (n g t d p r : Int32) : Rn (F_X8_note (x + 166) s n g t d p r h) (fun h' => RQ x h' lb ad cp A S (rNote R.1 s n g t d p r, R.2) ∧ frs RS x h h') := by
  unfold F_X8_note
  have gi : ∀ w : Int32, 0 ≤ w → w < 6 → gin 4 6 s w := fun w a b => ⟨hs.1, hs.2, a, b⟩
  obtain ⟨k1, k2, k3, k4, k5⟩ := rx_k q
  obtain ⟨h1, e1, q1, f1⟩ := rx_set q (gi 0 (by decide) (by decide)) n
  refine rn_o k2 (rn_ck k4 (rn_o e1 ?_))
  obtain ⟨k1, k2, k3, k4, k5⟩ := rx_k q1
  obtain ⟨h2, e1, q2, f2⟩ := rx_set q1 (gi 1 (by decide) (by decide)) g
  refine rn_ck k1 (rn_o k2 (rn_ck k4 (rn_o e1 ?_)))
  obtain ⟨k1, k2, k3, k4, k5⟩ := rx_k q2
  obtain ⟨h3, e1, q3, f3⟩ := rx_set q2 (gi 2 (by decide) (by decide)) t
  refine rn_ck k1 (rn_o k2 (rn_ck k4 (rn_o e1 ?_)))
  obtain ⟨k1, k2, k3, k4, k5⟩ := rx_k q3
  obtain ⟨h4, e1, q4, f4⟩ := rx_set q3 (gi 3 (by decide) (by decide)) d
  refine rn_ck k1 (rn_o k2 (rn_ck k4 (rn_o e1 ?_)))
  obtain ⟨k1, k2, k3, k4, k5⟩ := rx_k q4
  obtain ⟨h5, e1, q5, f5⟩ := rx_set q4 (gi 4 (by decide) (by decide)) p
  refine rn_ck k1 (rn_o k2 (rn_ck k4 (rn_o e1 ?_)))
  obtain ⟨k1, k2, k3, k4, k5⟩ := rx_k q5
  obtain ⟨h6, e1, q6, f6⟩ := rx_set q5 (gi 5 (by decide) (by decide)) r
  refine rn_ck k1 (rn_o k2 (rn_ck k4 (rn_o e1 (rn_s ⟨q6, ((((f1.trans f2).trans f3).trans f4).trans f5).trans f6⟩))))
theorem rx_add {S : Ps} {R : Rc} (q : RQ x h lb ad cp A S R) (b p n : Int32) : ∃ h', F_X4_add (x + 169) b p n h = some h' ∧ RQ x h' lb ad cp A S (R.1, gAd 60 30 R.2 b p n) ∧ frs RS x h h' := by
  have gr := q.1.fx.2.2.2.2.2.2.1.2.2
  rw [gr_ad0 gr gix_60_30]
  by_cases c : 0 ≤ b ∧ b < 60 ∧ 0 ≤ p ∧ p < 30
  · rw [if_pos c]
    have i0 := (gix_60_30 b p c.1 c.2.1 c.2.2.1 c.2.2.2).1
    have ev : rdA h (x + 170) (b * 30 + p) = R.2 b p := by
      rw [← q.2.2.2.2]
      exact (if_pos c).symm
    refine ⟨_, rfl, ?_, frs_wr (k := 170) (Or.inr rfl)⟩
    refine q.fs (frs_wr (k := 170) (Or.inr rfl)) ?_ ?_
    · show gv (wrA h (x + 170) _ _) (x + 168) 4 6 = _
      rw [gv_wr_ne i0 (by omega)]
      exact q.2.2.2.1
    · show gv (wrA h (x + 170) _ (rdA h (x + 170) (b * 30 + p) + n)) (x + 170) 60 30 = _
      rw [gv_set gix_60_30 gij_60_30 c, q.2.2.2.2, ev]
  · rw [if_neg c]
    refine ⟨h, rfl, ?_, frs.refl⟩
    have e : gAd 60 30 R.2 b p n = R.2 := by
      funext r' c'
      exact if_neg (fun z => c z.1)
    rw [e]
    exact q
/-- one seat of one turn -/
theorem rx_better {S : Ps} {R : Rc} (q : RQ x h lb ad cp A S R) (o w : Int32) : F_X8_isBetterBowler (x + 166) o w h = some (if R.1 1 0 < o ∨ (o = R.1 1 0 ∧ w < R.1 1 5) then 1 else 0, h) := by
  obtain ⟨k1, k2, k3, k4, k5⟩ := rx_k q
  unfold F_X8_isBetterBowler
  rw [k2, Option.bind_some, ck_t k4, rx_at q, Option.bind_some, bd_e, bd_e]
  dsimp only
  by_cases c1 : R.1 1 0 < o
  · rw [if_pos c1, if_pos (Or.inl c1)]
  rw [if_neg c1]
  by_cases c2 : o = R.1 1 0
  · rw [if_pos c2, ck_t k1, k2, Option.bind_some, ck_t k4, rx_at q, Option.bind_some, bd_e, bd_e]
    dsimp only
    by_cases c3 : R.1 1 5 ≤ w
    · rw [if_pos c3, if_neg (fun z => z.elim c1 (fun y => absurd y.2 (Int32.not_lt.mpr c3)))]
    · rw [if_neg c3, if_pos (Or.inr ⟨c2, Int32.not_le.mp c3⟩)]
  · rw [if_neg c2, if_neg (fun z => z.elim c1 (fun y => c2 y.1))]
theorem rx_56 {S : Ps} {g : Int32} (c : inL A.games g) {t b f : Int32} : ∀ n k, ((11 : Int32).toInt - k.toInt).toNat < n → ∀ (h : aH) (R : Rc), RQ x h lb ad cp A S R → Rn (F_X8_addTurn_56 n (x + 166) g t (ad 1 g 0 0) (ta (x + 129) t) b f k h) (fun h' => RQ x h' lb ad cp A S (rSeats (A.st g) b f (S.ty t) g t ((11 : Int32).toInt - k.toInt).toNat k R) ∧ frs RS x h h') := by
  refine i32_up ?_ ?_
  · intro n k hc h R q
    rw [sub_none hc]
    unfold F_X8_addTurn_56
    exact rn_p hc (rn_s ⟨q, frs.refl⟩)
  · intro n k hc ih h R q
    rw [sub_succ hc]
    unfold F_X8_addTurn_56 rSeats
    have G := q.1.gm c
    have PS1 : PSt (x + 129) h h S := ⟨q.1.fx.2.2.2.2.2.1, frn.refl _ _ _, q.2.2.1⟩
    have B := (PS1.T t).bats
    have T := PS1.1.2.2.2.2.2.2 t
    obtain ⟨k1, k2, k3, k4, k5⟩ := rx_k q
    refine rn_n (Int32.not_le.mpr hc) (rn_ck G.1.1 (rn_o (g_playerAt G _ _) (rn_bd (rn_bd (rn_ck T.1 (rn_o T.2.1 (rn_ck B.1.1 (rn_o (gr_at B.1 gix_11_3 k 0) (rn_bd (rn_bd (rn_ck k1 (rn_o k3 (rn_ck k5 ?_)))))))))))))
    dsimp only
    rw [show (if 0 ≤ k ∧ k < 11 ∧ 0 ≤ (0 : Int32) ∧ (0 : Int32) < 3 then rdA h (ta (x + 129) t + 1 + 1) (k * 3 + 0) else 0) = (S.ty t).bat k 0 from congrFun (congrFun B.2.1 k) 0]
    obtain ⟨h1, e1, q1, f1⟩ := rx_add q b (A.st g (md2 t) k) ((S.ty t).bat k 0)
    obtain ⟨k1, k2, k3, k4, k5⟩ := rx_k q1
    refine rn_o e1 (rn_ck k1 (rn_o k2 (rn_ck k4 (rn_o (rx_at q1 0 0) (rn_bd (rn_bd ?_))))))
    dsimp only
    -- the second half, from any tables
    have half : ∀ (h2 : aH) (R2 : Rc), RQ x h2 lb ad cp A S R2 → frs RS x h h2 → Rn (F_X8_addTurn_128 (F_X8_addTurn_56 n) (x + 166) g t (ad 1 g 0 0) (ta (x + 129) t) b f k h2) (fun h' => RQ x h' lb ad cp A S (rSeats (A.st g) b f (S.ty t) g t ((11 : Int32).toInt - (k + 1).toInt).toNat (k + 1) (rSeat2 f (A.st g (1 - md2 t) k) ((S.ty t).bow k 0) ((S.ty t).bow k 2) ((S.ty t).bow k 1) g t R2)) ∧ frs RS x h h') := by
      intro h2 R2 q2 f2
      unfold F_X8_addTurn_128 F_X8_addTurn_203
      have G := q2.1.gm c
      have PS1 : PSt (x + 129) h2 h2 S := ⟨q2.1.fx.2.2.2.2.2.1, frn.refl _ _ _, q2.2.2.1⟩
      have B := (PS1.T t).bats
      have T := PS1.1.2.2.2.2.2.2 t
      have ev : ∀ w : Int32, F_X4_at (ta (x + 129) t + 3) k w h2 = some ((S.ty t).bow k w, h2) := fun w => by
        rw [gr_at B.2.2.1 gix_11_3, ← B.2.2.2]
        rfl
      refine rn_ck T.1 (rn_o T.2.2.1 (rn_ck B.2.2.1.1 (rn_o (ev 2) (rn_bd (rn_bd (rn_ck T.1 (rn_o T.2.2.1 (rn_ck B.2.2.1.1 (rn_o (ev 1) (rn_bd (rn_bd (rn_ck T.1 (rn_o T.2.2.1 (rn_ck B.2.2.1.1 (rn_o (ev 0) (rn_bd (rn_bd ?_)))))))))))))))))
      dsimp only
      unfold rSeat2
      refine rn_i (fun c1 => ?_) (fun c1 => ?_)
      · rw [if_pos c1]
        refine rn_bd ((ih h2 R2 q2).imp (fun h' w => ⟨w.1, f2.trans w.2⟩))
      rw [if_neg c1]
      obtain ⟨k1, k2, k3, k4, k5⟩ := rx_k q2
      refine rn_ck k1 (rn_o (rx_better q2 _ _) (rn_bd (rn_bd ?_)))
      dsimp only
      by_cases c2 : R2.1 1 0 < (S.ty t).bow k 2 ∨ ((S.ty t).bow k 2 = R2.1 1 0 ∧ (S.ty t).bow k 1 < R2.1 1 5)
      · rw [if_pos c2, if_pos c2]
        refine rn_n (by decide) (rn_ck G.1.1 (rn_o (g_playerAt G _ _) (rn_bd (rn_bd (rn_ck k1 (rn_c (rx_note q2 ⟨by decide, by decide⟩ _ _ _ _ _ _) (fun h3 w => rn_bd ((ih h3 _ w.1).imp (fun h' y => ⟨y.1, (f2.trans w.2).trans y.2⟩)))))))))
      · rw [if_neg c2, if_neg c2]
        exact rn_p rfl (rn_bd ((ih h2 R2 q2).imp (fun h' w => ⟨w.1, f2.trans w.2⟩)))
    unfold rSeat1
    refine rn_i (fun c1 => ?_) (fun c1 => ?_)
    · rw [if_pos c1]
      exact half h1 _ q1 f1
    · rw [if_neg c1]
      exact rn_ck k1 (rn_c (rx_note q1 ⟨by decide, by decide⟩ _ _ _ _ _ _) (fun h3 w => half h3 _ w.1 (f1.trans w.2)))
theorem rx_turn {S : Ps} {R : Rc} {g : Int32} (q : RQ x h lb ad cp A S R) (c : inL A.games g) (t : Int32) : Rn (F_X8_addTurn (x + 166) g t (ad 1 g 0 0) (ta (x + 129) t) h) (fun h' => RQ x h' lb ad cp A S (rTurn (A.sd0 g) (A.sd1 g) (A.st g) (S.ty t) g t R) ∧ frs RS x h h') := by
  unfold F_X8_addTurn F_X8_addTurn_53 rTurn
  have G := q.1.gm c
  have PS1 : PSt (x + 129) h h S := ⟨q.1.fx.2.2.2.2.2.1, frn.refl _ _ _, q.2.2.1⟩
  have T := PS1.1.2.2.2.2.2.2 t
  obtain ⟨k1, k2, k3, k4, k5⟩ := rx_k q
  refine rn_ck G.1.1 (rn_o (g_sideAt G _) (rn_bd (rn_bd (rn_ck G.1.1 (rn_o (g_sideAt G _) (rn_bd (rn_bd (rn_ck T.1 (rn_ck k1 (rn_o k2 (rn_ck k4 (rn_o (rx_at q 2 0) (rn_bd (rn_bd ?_))))))))))))))
  dsimp only
  have es : hF h 1004 (ta (x + 129) t) = (S.ty t).score := (PS1.T t).score
  rw [es]
  refine rn_i (fun c1 => ?_) (fun c1 => ?_)
  · rw [if_pos c1]
    have := rx_56 (S := S) c (t := t) (b := if md2 t = 0 then A.sd0 g else A.sd1 g) (f := if 1 - md2 t = 0 then A.sd0 g else A.sd1 g) fu 0 (by decide) h R q
    rw [nz11] at this
    exact this
  · rw [if_neg c1]
    refine rn_ck T.1 (rn_ck k1 (rn_c (rx_note q ⟨by decide, by decide⟩ _ _ _ _ _ _) (fun h3 w => ?_)))
    have := rx_56 (S := S) c (t := t) (b := if md2 t = 0 then A.sd0 g else A.sd1 g) (f := if 1 - md2 t = 0 then A.sd0 g else A.sd1 g) fu 0 (by decide) h3 _ w.1
    rw [nz11] at this
    exact this.imp (fun h' y => ⟨y.1, w.2.trans y.2⟩)
/-- the totals of one side -/
theorem rx_pl {S : Ps} {s m : Int32} : ∀ n p, (m.toInt - p.toInt).toNat < n → ∀ (h : aH) (R : Rc), RQ x h lb ad cp A S R → Rn (F_X8_addTotals_2 n (x + 166) s m p h) (fun h' => RQ x h' lb ad cp A S (rPl s (m.toInt - p.toInt).toNat p R) ∧ frs RS x h h') := by
  refine i32_up ?_ ?_
  · intro n p hc h R q
    rw [sub_none hc]
    unfold F_X8_addTotals_2
    exact rn_p hc (rn_s ⟨q, frs.refl⟩)
  · intro n p hc ih h R q
    rw [sub_succ hc]
    unfold F_X8_addTotals_2 F_X8_addTotals_44 rPl
    obtain ⟨k1, k2, k3, k4, k5⟩ := rx_k q
    refine rn_n (Int32.not_le.mpr hc) (rn_ck k1 (rn_o k3 (rn_ck k5 (rn_o (rx_tot q s p) (rn_bd (rn_bd (rn_ck k1 (rn_o k2 (rn_ck k4 (rn_o (rx_at q 3 0) (rn_bd (rn_bd ?_))))))))))))
    dsimp only
    refine rn_i (fun c1 => ?_) (fun c1 => ?_)
    · rw [if_pos c1]
      exact rn_bd (ih h R q)
    · rw [if_neg c1]
      exact rn_ck k1 (rn_c (rx_note q ⟨by decide, by decide⟩ _ _ _ _ _ _) (fun h3 w => rn_bd ((ih h3 _ w.1).imp (fun h' y => ⟨y.1, w.2.trans y.2⟩))))
/-- what is changed over all: x, the play, the tables -/
def frR (x : Nat) (h h' : aH) : Prop := hz h' = hz h ∧ hs h' = hs h ∧ ∀ k, 173 ≤ k → k < 229 → cel h h' (x + k)
theorem frR.trans {h1 h2 : aH} (a : frR x h h1) (b : frR x h1 h2) : frR x h h2 := ⟨b.1.trans a.1, b.2.1.trans a.2.1, fun k k0 k1 => (a.2.2 k k0 k1).trans (b.2.2 k k0 k1)⟩
theorem frR_s {h' : aH} (F : frs RS x h h') : frR x h h' := ⟨F.1.z, F.1.s, fun k k0 k1 => F.c (by omega)⟩
theorem rx_87 (ok : BkOK A) {S : Ps} : ∀ n s, (A.sides.toInt - s.toInt).toNat < n → ∀ (h : aH) (R : Rc), 0 ≤ s → RQ x h lb ad cp A S R → Rn (F_X11_findRecords_87 n x s h) (fun h' => (∃ h1, RQ x h1 lb ad cp A S (rSides A (A.sides.toInt - s.toInt).toNat s R) ∧ h' = sF h1 1211 x 0 ∧ frR x h h1)) := by
  refine i32_up ?_ ?_
  · intro n s hc h R s0 q
    rw [sub_none hc]
    unfold F_X11_findRecords_87
    refine rn_ck q.1.k0 ?_
    rw [q.1.ci.1]
    exact rn_p hc (rn_bd (rn_s ⟨h, q, rfl, rfl, rfl, fun _ _ _ => cel.refl _ _⟩))
  · intro n s hc ih h R s0 q
    rw [sub_succ hc]
    unfold F_X11_findRecords_87 F_X8_addTotals rSides
    refine rn_ck q.1.k0 ?_
    rw [q.1.ci.1]
    have hb := (ok.2.2.2.2.1 s ⟨s0, hc⟩).2
    have hb' := le_i hb (by decide : (30 : Int32).toInt = 30)
    have z : (0 : Int32).toInt = 0 := by decide
    refine rn_n (Int32.not_le.mpr hc) (rn_o q.1.fx.1.2.2.2.2.2.2.2.1 (rn_o (c_playersOf q.1 ok s) (rn_bd (rn_bd ?_))))
    dsimp only
    rw [if_pos ⟨s0, hc⟩]
    have P := rx_pl (S := S) (s := s) (m := A.pl s) fu 0 (by show _ < 10000000; omega) h R q
    rw [z, Int.sub_zero] at P
    refine rn_ck (rx_k q).1 (rn_c P (fun h13 w => rn_bd ((ih h13 _ (i32_ps s0 hc) w.1).imp ?_)))
    rintro h' ⟨h1, y1, y2, y3⟩
    exact ⟨h1, y1, y2, (frR_s w.2).trans y3⟩
theorem rx_47 (ok : BkOK A) {S : Ps} {g : Int32} (c : inL A.games g) {k9 : Nat → Int32 → aH → Option aH} {Q : aH → Prop} : ∀ n t, ((A.pg g).turns.toInt - t.toInt).toNat < n → ∀ (h : aH) (R : Rc), 0 ≤ t → RQ x h lb ad cp A S R → (∀ h', RQ x h' lb ad cp A S (rTurns (A.sd0 g) (A.sd1 g) (A.st g) S g ((A.pg g).turns.toInt - t.toInt).toNat t R) → frR x h h' → Rn (k9 x (g + 1) h') Q) → Rn (F_X11_findRecords_47 k9 n x g (ad 1 g 0 0) t h) Q := by
  refine i32_up ?_ ?_
  · intro n t hc h R t0 q K
    rw [sub_none hc] at K
    unfold F_X11_findRecords_47
    have G := q.1.gm c
    refine rn_ck G.1.1 (rn_o (g_turnCount G) (rn_bd (rn_bd (rn_p hc (rn_bd (K h q ⟨rfl, rfl, fun _ _ _ => cel.refl _ _⟩))))))
  · intro n t hc ih h R t0 q K
    rw [sub_succ hc] at K
    unfold F_X11_findRecords_47
    have G := q.1.gm c
    have PS1 : PSt (x + 129) h h S := ⟨q.1.fx.2.2.2.2.2.1, frn.refl _ _ _, q.2.2.1⟩
    refine rn_ck G.1.1 (rn_o (g_turnCount G) (rn_bd (rn_bd (rn_n (Int32.not_le.mpr hc) (rn_ck q.1.k0 (rn_o q.1.fx.1.2.2.2.2.2.2.2.1 (rn_o q.1.fx.1.2.2.2.2.2.2.1 (rn_ck q.1.fx.2.2.2.2.2.1.1 (rn_o (c_tallyAt PS1.1 t) (rn_bd (rn_bd (rn_o rfl (rn_ck (rx_k q).1 ?_)))))))))))))
    dsimp only
    refine rn_c (rx_turn q c t) (fun h22 w => rn_bd (ih h22 _ (i32_ps t0 hc) w.1 ?_))
    intro h' y1 y2
    exact K h' y1 ((frR_s w.2).trans y2)
theorem rGames_sf {sf sf' : Int32 → Ps} : ∀ n g, (A.games.toInt - g.toInt).toNat < n → ∀ R, (∀ g', g ≤ g' → g' < A.games → sf' g' = sf g') → rGames A sf' (A.games.toInt - g.toInt).toNat g R = rGames A sf (A.games.toInt - g.toInt).toNat g R := by
  refine i32_up ?_ ?_
  · intro n g hc R H
    rw [sub_none hc]
    rfl
  · intro n g hc ih R H
    rw [sub_succ hc]
    unfold rGames
    rw [H g (Int32.le_refl _) hc]
    refine ih _ (fun g' a b => H g' ?_ b)
    have := i32_succ hc
    have := Int32.le_iff_toInt_le.mp a
    exact Int32.le_iff_toInt_le.mpr (by omega)
theorem rx_9 (ok : BkOK A) : ∀ n g, (A.games.toInt - g.toInt).toNat < n → ∀ (h : aH) (S : Ps) (R : Rc), 0 ≤ g → RQ x h lb ad cp A S R → Rn (F_X11_findRecords_9 n x g h) (fun h' => ∃ sf S' h1, (∀ g, TyNs (sf g)) ∧ RQ x h1 lb ad cp A S' (rSides A A.sides.toInt.toNat 0 (rGames A sf (A.games.toInt - g.toInt).toNat g R)) ∧ h' = sF h1 1211 x 0 ∧ frR x h h1) := by
  have z : (0 : Int32).toInt = 0 := by decide
  refine i32_up ?_ ?_
  · intro n g hc h S R g0 q
    rw [sub_none hc]
    unfold F_X11_findRecords_9
    have L := q.1.pl.2.1
    have s60 := le_i ok.1.2 (by decide : (60 : Int32).toInt = 60)
    refine rn_ck q.1.k0 (rn_o q.1.fx.1.2.2.1 (rn_ck L.1.1 (rn_o L.size (rn_bd (rn_bd (rn_p hc ?_))))))
    refine (rx_87 ok (S := S) fu 0 (by show _ < 10000000; omega) h R (by decide) q).imp ?_
    rintro h' ⟨h1, y1, y2, y3⟩
    rw [z, Int.sub_zero] at y1
    exact ⟨fun _ => S, S, h1, fun _ => by rw [← q.2.2.1]; exact tyN_ps _ _, y1, y2, y3⟩
  · intro n g hc ih h S R g0 q
    rw [sub_succ hc]
    unfold F_X11_findRecords_9
    have L := q.1.pl.2.1
    have c : inL A.games g := ⟨g0, hc⟩
    have G := q.1.gm c
    have og := ok.2.2.2.2.2.2.1 g c
    have T4 := le_i og.1.t4 (by decide : (4 : Int32).toInt = 4)
    refine rn_ck q.1.k0 (rn_o q.1.fx.1.2.2.1 (rn_ck L.1.1 (rn_o L.size (rn_bd (rn_bd (rn_n (Int32.not_le.mpr hc) (rn_ck q.1.k0 (rn_o q.1.fx.1.2.2.1 (rn_ck L.1.1 (rn_o (L.get g0 hc) (rn_bd (rn_bd (rn_o rfl (rn_ck G.1.1 (rn_ck q.1.k0 (rn_o q.1.fx.1.2.2.2.2.2.2.1 (rn_ck q.1.fx.2.2.2.2.2.1.1 ?_)))))))))))))))))
    dsimp only
    refine rn_c (c_replayG q.1.fx G og.1 q.1.pl.1) (fun h7 w => ?_)
    obtain ⟨q1, q2, q3⟩ := w
    have k7 : hK h7 x = 13 := by rw [q2.1.K]; exact q.1.k0
    have x0 : ∀ b, b ≠ x → cel h7 (sF h7 1210 x g) b := fun b hb => cel_sF hb
    have fP : frP x h (sF h7 1210 x g) := ⟨q2.1.trans sst_sF, fun b b0 b1 => (cel_frn q2 (by omega)).trans (x0 b b0), fun f n => by rw [rF_sF, if_neg (fun z => n z.1), (cel_frn q2 (by omega)).F]⟩
    have pp : psOf (x + 129) (sF h7 1210 x g) = S.play (A.pg g) := by
      rw [psOf_cl (h := h7) (fun b b0 b1 => x0 b (by omega)), q3, q.2.2.1]
    have tS : TyNs S := by rw [← q.2.2.1]; exact tyN_ps _ _
    have c' : CRp x (sF h7 1210 x g) lb ad cp A := q.1.frP fP (q1.cl (fun b b0 b1 => x0 b (by omega))) (Or.inr (by
      rw [show hF (sF h7 1210 x g) 1210 x = g from if_pos ⟨rfl, rfl⟩]
      exact ⟨c, S, tS, pp⟩))
    have Q' : RQ x (sF h7 1210 x g) lb ad cp A (S.play (A.pg g)) R := ⟨c', by rw [fP.2.2 _ (by decide)]; exact q.2.1, pp, by rw [gv_cel (fP.2.1 _ (by omega) (by omega))]; exact q.2.2.2.1, by rw [gv_cel (fP.2.1 _ (by omega) (by omega))]; exact q.2.2.2.2⟩
    have frx : frR x h (sF h7 1210 x g) := ⟨fP.1.z, fP.1.s, fun k k0 k1 => fP.2.1 _ (by omega) (by omega)⟩
    refine rn_ck k7 (rn_bd (rx_47 ok c fu 0 (by show _ < 10000000; omega) _ R (by decide) Q' ?_))
    intro h' y1 y2
    rw [z, Int.sub_zero] at y1
    refine (ih h' _ _ (i32_ps g0 hc) y1).imp ?_
    rintro h'' ⟨sf, S', h1, w1, w2, w3, w4⟩
    refine ⟨fun g' => if g' = g then S else sf g', S', h1, fun g' => ?_, ?_, w3, (frx.trans y2).trans w4⟩
    · show TyNs (if g' = g then S else sf g')
      by_cases e : g' = g
      · rw [if_pos e]; exact tS
      · rw [if_neg e]; exact w1 g'
    · unfold rGames
      rw [if_pos rfl, rGames_sf (sf := sf) fu (g + 1) ?_ _ ?_]
      · exact w2
      · have := le_i ok.2.1.2 (by decide : (400 : Int32).toInt = 400)
        have := i32_succ hc
        have := Int32.le_iff_toInt_le.mp g0
        show _ < 10000000
        omega
      · intro g' a b
        rw [if_neg (fun e => ?_)]
        rw [e] at a
        have := i32_succ hc
        have := Int32.le_iff_toInt_le.mp a
        omega
def aRecord (sf : Int32 → Ps) (s w : Int32) (A : Bk) : Option Int32 := if inL 4 s ∧ inL 6 w then some ((recs A sf).1 s w) else none
theorem c_record (r : CRp x h lb ad cp A) (ok : BkOK A) (s w : Int32) : Rn (F_X11_record x s w h) (fun q => ∃ sf, (∀ g, TyNs (sf g)) ∧ q.1 = aRecord sf s w A ∧ Pst x h 0 0 A q.2) := by
  unfold F_X11_record F_X11_record_19
  have no : ¬ (inL 4 s ∧ inL 6 w) → Rn (some ((none : Option Int32), h)) (fun q => ∃ sf, (∀ g, TyNs (sf g)) ∧ q.1 = aRecord sf s w A ∧ Pst x h 0 0 A q.2) := fun n => by
    refine rn_s ⟨fun _ => psOf (x + 129) h, fun _ => tyN_ps _ _, ?_, r.same _ _⟩
    unfold aRecord
    rw [if_neg n]
  refine rn_i (fun c1 => no (fun q => absurd q.1.1 (Int32.not_le.mpr c1))) (fun c1 => rn_i (fun c2 => no (fun q => absurd q.1.2 (Int32.not_lt.mpr c2))) (fun c2 => rn_i (fun c3 => no (fun q => absurd q.2.1 (Int32.not_le.mpr c3))) (fun c3 => rn_i (fun c4 => ?_) (fun c4 => no (fun q => c4 q.2.2)))))
  have c : inL 4 s ∧ inL 6 w := ⟨⟨Int32.not_lt.mp c1, Int32.not_le.mp c2⟩, Int32.not_lt.mp c3, c4⟩
  have fin : ∀ (h' : aH) (sf : Int32 → Ps), CRp x h' lb ad cp A → (∀ g, TyNs (sf g)) → gv h' (x + 168) 4 6 = (recs A sf).1 → Pst x h 0 0 A h' → Rn (F_X11_record_41 x s w h') (fun q => ∃ sf, (∀ g, TyNs (sf g)) ∧ q.1 = aRecord sf s w A ∧ Pst x h 0 0 A q.2) := by
    intro h' sf r' t e p
    unfold F_X11_record_41
    have g := r'.fx.2.2.2.2.2.2.1
    refine rn_ck r'.k0 (rn_o r'.fx.1.2.2.2.2.2.2.2.1 (rn_ck g.1.1 (rn_o g.1.2.1 (rn_ck g.2.1.1 (rn_o (gr_at g.2.1 gix_4_6 s w) (rn_bd (rn_bd (rn_s ⟨sf, t, ?_, p⟩))))))))
    unfold aRecord
    rw [if_pos c, ← e]
    rfl
  refine rn_i (fun c5 => ?_) (fun c5 => ?_)
  · obtain ⟨sf, t, e⟩ := r.rc c5
    exact fin h sf r t e (r.same _ _)
  · unfold F_X11_findRecords F_X8_clear
    have g := r.fx.2.2.2.2.2.2.1
    refine rn_c (R := fun h' => ∃ sf S' h1, (∀ g, TyNs (sf g)) ∧ RQ x h1 lb ad cp A S' (recs A sf) ∧ h' = sF h1 1211 x 0 ∧ frR x h h1) ?_ ?_
    · obtain ⟨h5, a1, a2, a3, a4⟩ := gr_fillA (v := -1) g.2.1 gix_4_6 (by decide)
      have F5 : frs RS x h h5 := ⟨a3.1, fun b hb => cel_frn a3 (by have := hb 168 (Or.inl rfl); omega)⟩
      have q0 : RQ x h lb ad cp A (psOf (x + 129) h) (gv h (x + 168) 4 6, gv h (x + 170) 60 30) := ⟨r, c5, rfl, rfl, rfl⟩
      have q5 : RQ x h5 lb ad cp A (psOf (x + 129) h) (gAll 4 6 (-1), gv h (x + 170) 60 30) := q0.fs F5 a4 (gv_cel (cel_frn a3 (by omega)))
      obtain ⟨h12, b1, b2, b3, b4⟩ := gr_fillA (v := 0) q5.1.fx.2.2.2.2.2.2.1.2.2 gix_60_30 (by decide)
      have F12 : frs RS x h5 h12 := ⟨b3.1, fun b hb => cel_frn b3 (by have := hb 170 (Or.inr rfl); omega)⟩
      have q12 : RQ x h12 lb ad cp A (psOf (x + 129) h) (gAll 4 6 (-1), gAll 60 30 0) := q5.fs F12 (by rw [gv_cel (cel_frn b3 (by omega))]; exact q5.2.2.2.1) b4
      have k5 := rx_k q5
      refine rn_o r.fx.1.2.2.2.2.2.2.2.1 (rn_ck g.1.1 (rn_c (R := fun h' => h' = h12) ?_ ?_))
      · exact rn_o g.1.2.1 (rn_ck g.2.1.1 (rn_o a1 (rn_ck k5.1 (rn_o k5.2.2.1 (rn_ck k5.2.2.2.2 (rn_o b1 (rn_s rfl)))))))
      · rintro h' rfl
        have g400 := le_i ok.2.1.2 (by decide : (400 : Int32).toInt = 400)
        have z : (0 : Int32).toInt = 0 := by decide
        refine (rx_9 ok fu 0 (by show _ < 10000000; omega) h' _ _ (by decide) q12).imp ?_
        rintro h'' ⟨sf, S', h1, w1, w2, w3, w4⟩
        rw [z, Int.sub_zero] at w2
        exact ⟨sf, S', h1, w1, w2, w3, ((frR_s F5).trans (frR_s F12)).trans w4⟩
    · rintro h7 ⟨sf, S', h1, w1, w2, w3, w4⟩
      have F : frs (fun k => k = 0) x h1 h7 := by rw [w3]; exact frs_sF0 rfl (by decide)
      have fo : ∀ f, f ≠ 1211 → hF h7 f x = hF h1 f x := fun f n => by rw [w3]; exact if_neg (fun q => n q.1)
      have r1 := w2.1
      have e7 : gv h7 (x + 168) 4 6 = (recs A sf).1 := by rw [gv_cel (F.c (by omega))]; exact w2.2.2.2.1
      have r7 : CRp x h7 lb ad cp A := ⟨r1.fx.fs F (fun k hk => by omega), r1.pl.fs F (fun k hk => by omega), r1.ci.mv ⟨fo _ (by decide), fo _ (by decide)⟩ (F.c (by omega)) (F.c (by omega)) (F.c (by omega)) (F.c (by omega)) (F.c (by omega)), r1.hc.mv (F.c (by omega)) (fun k _ _ => F.c (by omega)), r1.pc.mv (fo _ (by decide)) (psOf_cl (fun b b0 b1 => F.2 b (fun k hk e => by omega))), fun _ => ⟨sf, w1, e7⟩⟩
      exact fin h7 sf r7 w1 e7 ⟨⟨lb, ad, cp, r7⟩, fun k k0 k1 => (w4.2.2 k k0 k1).trans (F.c (by omega)), by rw [F.1.z, w4.1]; omega, by rw [F.1.s, w4.2.1]; omega⟩
end Rc
