/-! the reference's records: turns, games, all -/
theorem gAd_0 {f : Int32 → Int32 → Int32} {r c : Int32} : gAd 60 30 f r c 0 = f := by
  funext r' c'
  show (if gin 60 30 r c ∧ r' = r ∧ c' = c then f r c + 0 else f r' c') = f r' c'
  by_cases q : gin 60 30 r c ∧ r' = r ∧ c' = c
  · rw [if_pos q, q.2.1, q.2.2]
    grind
  · rw [if_neg q]
def TyC (T : Ty) : Prop := T.score = 0 ∧ ∀ k, T.bat k 0 = 0 ∧ T.bow k 0 = 0
theorem rSeats_clr {st : Int32 → Int32 → Int32} {b f g t : Int32} {T : Ty} (h : TyC T) : ∀ n k (R : Rc), 0 ≤ R.1 0 0 → rSeats st b f T g t n k R = R
  | 0, _, _, _ => rfl
  | n + 1, k, R, r0 => by
    have e1 : rSeat1 b (st (md2 t) k) (T.bat k 0) g t R = R := by
      unfold rSeat1
      rw [(h.2 k).1, if_pos r0, gAd_0]
    have e2 : rSeat2 f (st (1 - md2 t) k) (T.bow k 0) (T.bow k 2) (T.bow k 1) g t R = R := by
      unfold rSeat2
      rw [(h.2 k).2, if_pos (by decide)]
    show rSeats st b f T g t n (k + 1) (rSeat2 f (st (1 - md2 t) k) (T.bow k 0) (T.bow k 2) (T.bow k 1) g t (rSeat1 b (st (md2 t) k) (T.bat k 0) g t R)) = R
    rw [e1, e2]
    exact rSeats_clr h n _ R r0
theorem rTurn_clr {a b : Int32} {st : Int32 → Int32 → Int32} {T : Ty} {g t : Int32} {R : Rc} (h : TyC T) (r0 : 0 ≤ R.1 0 0) (r2 : 0 ≤ R.1 2 0) : rTurn a b st T g t R = R := by
  unfold rTurn
  rw [h.1, if_pos r2]
  exact rSeats_clr h _ _ _ r0
theorem rTurns_clr {a b : Int32} {st : Int32 → Int32 → Int32} {S : Ps} {g m : Int32} : ∀ n q, (m.toInt - q.toInt).toNat < n → ∀ R : Rc, (∀ j, q ≤ j → j < m → TyC (S.ty j)) → 0 ≤ R.1 0 0 → 0 ≤ R.1 2 0 → rTurns a b st S g (m.toInt - q.toInt).toNat q R = R := by
  refine i32_up ?_ ?_
  · intro n q hc R _ _ _
    rw [sub_none hc]
    rfl
  · intro n q hc ih R h r0 r2
    rw [sub_succ hc]
    show rTurns a b st S g (m.toInt - (q + 1).toInt).toNat (q + 1) (rTurn a b st (S.ty q) g q R) = R
    rw [rTurn_clr (h q (Int32.le_refl _) hc) r0 r2]
    refine ih R (fun j j0 j1 => h j ?_ j1) r0 r2
    have := i32_succ hc
    have := Int32.le_iff_toInt_le.mp j0
    exact Int32.le_iff_toInt_le.mpr (by omega)
theorem seat_ge {st : Int32 → Int32 → Int32} {b f g t p p' v o w n : Int32} {R : Rc} (n0 : 0 ≤ n) : 0 ≤ (rSeat2 f p' v o w g t (rSeat1 b p n g t R)).1 0 0 ∧ (rSeat2 f p' v o w g t (rSeat1 b p n g t R)).1 2 = R.1 2 := by
  have a : 0 ≤ (rSeat1 b p n g t R).1 0 0 ∧ (rSeat1 b p n g t R).1 2 = R.1 2 := by
    unfold rSeat1
    by_cases c : n ≤ R.1 0 0
    · rw [if_pos c]
      exact ⟨i32_tr n0 c, rfl⟩
    · rw [if_neg c]
      exact ⟨by show 0 ≤ rNote R.1 0 n g t b p 0 0 0; rw [(rNote_at ⟨by decide, by decide⟩).1]; exact n0, show rNote R.1 0 n g t b p 0 2 = R.1 2 from rNote_ne (by decide)⟩
  generalize rSeat1 b p n g t R = X at a
  unfold rSeat2
  repeat' split
  · exact a
  · exact ⟨by show 0 ≤ rNote X.1 1 o g t f p' w 0 0; rw [rNote_ne (show (0 : Int32) ≠ 1 by decide)]; exact a.1, (show rNote X.1 1 o g t f p' w 2 = X.1 2 from rNote_ne (by decide)).trans a.2⟩
  · exact a
theorem rSeats_ge {st : Int32 → Int32 → Int32} {b f g t : Int32} {T : Ty} (h : ∀ k, 0 ≤ T.bat k 0) : ∀ n k (R : Rc), (0 ≤ R.1 0 0 ∨ 0 < n) → 0 ≤ (rSeats st b f T g t n k R).1 0 0 ∧ (rSeats st b f T g t n k R).1 2 = R.1 2
  | 0, _, R, r0 => ⟨r0.resolve_right (by decide), rfl⟩
  | n + 1, k, R, _ => by
    have q := seat_ge (st := st) (b := b) (f := f) (g := g) (t := t) (p := st (md2 t) k) (p' := st (1 - md2 t) k) (v := T.bow k 0) (o := T.bow k 2) (w := T.bow k 1) (R := R) (h k)
    have := rSeats_ge (st := st) (b := b) (f := f) (g := g) (t := t) h n (k + 1) _ (Or.inl q.1)
    exact ⟨this.1, this.2.trans q.2⟩
theorem rTurn_ge {a b : Int32} {st : Int32 → Int32 → Int32} {T : Ty} {g t : Int32} {R : Rc} (h : ∀ k, 0 ≤ T.bat k 0) (s0 : 0 ≤ T.score) : 0 ≤ (rTurn a b st T g t R).1 0 0 ∧ 0 ≤ (rTurn a b st T g t R).1 2 0 := by
  unfold rTurn
  have q := rSeats_ge (st := st) (b := if md2 t = 0 then a else b) (f := if 1 - md2 t = 0 then a else b) (g := g) (t := t) h 11 0 (if T.score ≤ R.1 2 0 then R else (rNote R.1 2 T.score g t (if md2 t = 0 then a else b) (-1) 0, R.2)) (Or.inr (by decide))
  refine ⟨q.1, ?_⟩
  rw [q.2]
  by_cases c : T.score ≤ R.1 2 0
  · rw [if_pos c]
    exact i32_tr s0 c
  · rw [if_neg c]
    show 0 ≤ rNote R.1 2 T.score g t (if md2 t = 0 then a else b) (-1) 0 2 0
    rw [(rNote_at ⟨by decide, by decide⟩).1]
    exact s0
theorem clear_C (X : Ty) : TyC X.clear := by
  have z3 : ∀ k : Int32, gAll 11 3 0 k 0 = 0 := fun k => by
    unfold gAll
    split <;> rfl
  unfold Ty.clear
  refine ⟨?_, fun k => ⟨?_, ?_⟩⟩
  · simp only [Ty.i1, Ty.i2, Ty.g1, Ty.g2, ↓reduceIte, Nat.reduceEqDiff]
  · simp only [Ty.i1, Ty.i2, Ty.g1, Ty.g2, ↓reduceIte, Nat.reduceEqDiff]
    exact z3 k
  · simp only [Ty.i1, Ty.i2, Ty.g1, Ty.g2, ↓reduceIte, Nat.reduceEqDiff]
    exact z3 k
section Mrg
variable {e e0 eb : mE} {A : Bk} {g x : Int32} {S : Ps} {G : Pg}
/-- a turn was played, or it and all behind it are clear, and it isn't the first -/
theorem FR.pl (h : FR eb g G e0 S) {q : Int32} (cq : inL G.turns q) : (S.ty q).played = 1 ∨ (q ≠ 0 ∧ (S.ty q).played = 0 ∧ ∀ j, q ≤ j → j < G.turns → TyC (S.ty j)) := by
  obtain ⟨t, t0, t1, t2, I⟩ := h
  by_cases c : q < t
  · left
    obtain ⟨T, by', ro, pl, m, -, s2, -, s4, -⟩ := I.2.2.2.1 q cq.1 c
    exact (congrFun s2.1 0).trans s4.1
  · right
    have c := Int32.not_lt.mp c
    have cl : ∀ j, q ≤ j → j < G.turns → ∃ X : Ty, S.ty j = X.clear := fun j j0 j1 => by
      obtain ⟨⟨X, -, e⟩, -⟩ := I.2.2.2.2.1 j (i32_tr c j0) j1
      exact ⟨X, e⟩
    refine ⟨fun z => ?_, ?_, fun j j0 j1 => ?_⟩
    · have z0 : (0 : Int32).toInt = 0 := by decide
      have a := Int32.le_iff_toInt_le.mp cq.1
      have b := Int32.lt_iff_toInt_lt.mp cq.2
      have p := t2 (Int32.lt_iff_toInt_lt.mpr (by omega))
      rw [z] at c
      exact absurd p (Int32.not_lt.mpr c)
    · obtain ⟨X, e⟩ := cl q (Int32.le_refl _) cq.2
      rw [e]
      unfold Ty.clear
      simp only [Ty.i1, Ty.i2, Ty.g1, Ty.g2, ↓reduceIte, Nat.reduceEqDiff]
    · obtain ⟨X, e⟩ := cl j j0 j1
      rw [e]
      exact clear_C X
theorem r_7 (hx : inL 4 x) (r : MR e0 A) (ok : BkOK A) (c : inL A.games g) (pw : PgW eb g (A.pg g)) (f : FR eb g (A.pg g) e0 S) (hb : ∀ q, inL (A.pg g).turns q → ∀ k, 0 ≤ (S.ty q).bat k 0) : ∀ n q, ((A.pg g).turns.toInt - q.toInt).toNat < n → ∀ e R, 0 ≤ q → RcQ e0 x R e → (q = 0 ∨ (0 ≤ R.1 0 0 ∧ 0 ≤ R.1 2 0)) → Rn (P_X12_recordOf_7 n x g q e) (RcQ e0 x (rTurns (A.sd0 g) (A.sd1 g) (A.st g) S g ((A.pg g).turns.toInt - q.toInt).toNat q R)) := by
  have g4 := g400 ok c
  have GR := r.2.2.1 g c
  have h8 : e0.2 8 g = (A.pg g).turns := GR.2.2.2.2.2.1
  have oo := ok.2.2.2.2.2.2.1 g c
  refine i32_up ?_ ?_
  · intro n q hc e R q0 Q _
    unfold P_X12_recordOf_7
    rw [sub_none hc, Q.2.1 8 (by decide) (by decide), h8]
    exact rn_ck g4 (rn_p hc (rn_s Q))
  · intro n q hc ih e R q0 Q hq
    unfold P_X12_recordOf_7
    have cq : inL (A.pg g).turns q := ⟨q0, hc⟩
    have t4 : inL 4 q := ⟨q0, t_lt4 ok c cq⟩
    have tq := f.tq pw q0 hc
    have h52 : e0.2 52 q = (S.ty q).played := tq.1 0 (by decide)
    have h35 : e0.2 35 q = (S.ty q).score := tq.1 1 (by decide)
    rw [Q.2.1 8 (by decide) (by decide), h8, Q.2.1 52 (by decide) (by decide), h52]
    refine rn_ck g4 (rn_n (Int32.not_le.mpr hc) (rn_ck t4 ?_))
    rcases f.pl cq with p | ⟨n0, p, cl⟩
    rotate_left
    · have z := hq.resolve_left n0
      have T4 := le_i (ok.pgo c).t4 (by decide : (4 : Int32).toInt = 4)
      have z0 : (0 : Int32).toInt = 0 := by decide
      have q0' := Int32.le_iff_toInt_le.mp q0
      rw [p, rTurns_clr fu q (by show _ < 10000000; omega) R cl z.1 z.2]
      exact rn_p rfl (rn_s Q)
    rw [p, sub_succ hc]
    refine rn_n (by decide) ?_
    have m := md2_b t4.1 t4.2
    have mi : inL 2 (md2 q) := by rcases m with y | y <;> rw [y] <;> exact ⟨by decide, by decide⟩
    have m' : (1 - md2 q = 0 ∨ 1 - md2 q = 1) := by rcases m with y | y <;> rw [y] <;> decide
    have mi' : inL 2 (1 - md2 q) := by rcases m' with y | y <;> rw [y] <;> exact ⟨by decide, by decide⟩
    have sdv : ∀ w : Int32, (w = 0 ∨ w = 1) → e0.2 4 (2 * g + w) = if w = 0 then A.sd0 g else A.sd1 g := fun w hw => by
      rcases hw with y | y
      · rw [y, if_pos rfl, ad0]; exact GR.1
      · rw [y, if_neg (by decide)]; exact GR.2.1
    have ix : 2 * g + 1 - md2 q = 2 * g + (1 - md2 q) := by
      generalize md2 q = v
      clear ih hb f pw oo GR Q tq
      grind
    have bI : inL 60 (if md2 q = 0 then A.sd0 g else A.sd1 g) := by
      have k : ∀ v, inL A.sides v → inL 60 v := fun v h => ⟨h.1, Int32.lt_of_lt_of_le h.2 ok.1.2⟩
      split
      · exact k _ oo.2.1
      · exact k _ oo.2.2.1
    have I : TuQ e0 g q (if md2 q = 0 then A.sd0 g else A.sd1 g) (if 1 - md2 q = 0 then A.sd0 g else A.sd1 g) (A.st g) (S.ty q) := by
      refine ⟨g4, t4, bI, fun k hk => ⟨⟨?_, ?_, ?_, ?_⟩, GR.2.2.1 _ _ (gin_01 m hk), GR.2.2.1 _ _ (gin_01 m' hk), ?_⟩⟩
      · exact ((show reBat q e0 k 0 = e0.2 53 (11 * q + k) from if_pos ⟨hk.1, hk.2, by decide, by decide⟩).symm).trans (tq.2.1 k 0 ⟨hk.1, hk.2, by decide, by decide⟩).1
      · exact ((show reBow q e0 k 0 = e0.2 56 (11 * q + k) from if_pos ⟨hk.1, hk.2, by decide, by decide⟩).symm).trans (tq.2.1 k 0 ⟨hk.1, hk.2, by decide, by decide⟩).2
      · exact ((show reBow q e0 k 1 = e0.2 57 (11 * q + k) from if_pos ⟨hk.1, hk.2, by decide, by decide⟩).symm).trans (tq.2.1 k 1 ⟨hk.1, hk.2, by decide, by decide⟩).2
      · exact ((show reBow q e0 k 2 = e0.2 58 (11 * q + k) from if_pos ⟨hk.1, hk.2, by decide, by decide⟩).symm).trans (tq.2.1 k 2 ⟨hk.1, hk.2, by decide, by decide⟩).2
      · have o2 := oo.2.2.2 k hk
        have fin : ∀ sd v, inL A.sides sd → inL (A.pl sd) v → inL 30 v := fun sd v h1 h2 => ⟨h2.1, Int32.lt_of_lt_of_le h2.2 (ok.2.2.2.2.1 sd h1).2⟩
        rcases m with y | y
        · rw [y]; exact fin _ _ oo.2.1 o2.1
        · rw [y]; exact fin _ _ oo.2.2.1 o2.2
    have l1 := (lin2 g4 mi).1
    have l2 := (lin2 g4 mi').1
    refine rn_ck l1 (rn_bd ?_)
    rw [ix, Q.2.1 4 (by decide) (by decide), Q.2.1 4 (by decide) (by decide), sdv _ m, sdv _ m', Q.2.1 35 (by decide) (by decide), h35]
    refine rn_ck l2 (rn_bd ?_)
    have n11 : ((11 : Int32).toInt - (0 : Int32).toInt).toNat = 11 := by decide
    have go : ∀ e1, RcQ e0 x (if (S.ty q).score ≤ R.1 2 0 then R else (rNote R.1 2 (S.ty q).score g q (if md2 q = 0 then A.sd0 g else A.sd1 g) (-1) 0, R.2)) e1 → Rn (P_X12_recordOf_92 (P_X12_recordOf_7 n) x g q (if md2 q = 0 then A.sd0 g else A.sd1 g) (if 1 - md2 q = 0 then A.sd0 g else A.sd1 g) e1) (RcQ e0 x (rTurns (A.sd0 g) (A.sd1 g) (A.st g) S g (((A.pg g).turns.toInt - (q + 1).toInt).toNat + 1) q R)) := fun e1 Q1 => by
      unfold P_X12_recordOf_92
      refine r_95 hx I fu 0 (by decide) e1 _ (by decide) Q1 (fun e2 Q2 => ?_)
      rw [n11] at Q2
      exact ih e2 (rTurn (A.sd0 g) (A.sd1 g) (A.st g) (S.ty q) g q R) (i32_ps q0 hc) Q2 (Or.inr (rTurn_ge (hb q cq) tq.2.2.2.2.2.2.2.1.1))
    by_cases cx : x = 2
    rotate_left
    · rw [if_neg cx]
      refine go e (Q.cg ?_ ?_)
      · split
        · rfl
        · exact rNote_ne cx
      · split <;> rfl
    · subst cx
      rw [if_pos rfl, Q.2.2.1 0 i6.1]
      refine rn_ck t4 (rn_ck (by decide) (rn_i (fun c1 => go e ?_) (fun c1 => rn_ck t4 ?_)))
      · rw [if_pos c1]; exact Q
      · refine rn_c (r_bet Q hx _ _ _ _ _ _) (fun e1 Q1 => go e1 ?_)
        rw [if_neg c1]; exact Q1
/-- between two games -/
def RgQ (e0 : mE) (A : Bk) (x : Int32) (R : Rc) (e : mE) : Prop := MR e A ∧ e.1 0 = e0.1 0 ∧ e.1 11 = e0.1 11 ∧ RcQ e x R e
theorem r_62 (hx : inL 4 x) (ok : BkOK A) {sf : Int32 → Ps} (hs : ∀ g, TyNs (sf g)) {w : Int32} {Q : Int32 × mE → Prop} (K : ∀ e R, R = rGames A sf A.games.toInt.toNat 0 (gAll 4 6 (-1), gAll 60 30 0) → RgQ e0 A x R e → Rn (P_X12_record_84 fu x w 0 e) Q) : ∀ n g, (A.games.toInt - g.toInt).toNat < n → ∀ e R, 0 ≤ g → RgQ e0 A x R e → rGames A sf (A.games.toInt - g.toInt).toNat g R = rGames A sf A.games.toInt.toNat 0 (gAll 4 6 (-1), gAll 60 30 0) → Rn (P_X12_record_62 n x w g e) Q := by
  refine i32_up ?_ ?_
  · intro n g hc e R g0 q hR
    unfold P_X12_record_62
    rw [show e.1 2 = A.games from q.1.1.2.1]
    rw [sub_none hc] at hR
    exact rn_p hc (K e R hR q)
  · intro n g hc ih e R g0 q hR
    unfold P_X12_record_62 P_X12_recordOf
    rw [show e.1 2 = A.games from q.1.1.2.1]
    have c : inL A.games g := ⟨g0, hc⟩
    obtain ⟨e', p1, p2, p3, p4, p5⟩ := m_play q.1 ok c (hs g)
    have pw := q.1.pgW ok c
    rw [sub_succ hc] at hR
    have hi : ∀ k, 64 < k → ∀ i, e'.2 k i = e.2 k i := by
      obtain ⟨t, -, -, -, I⟩ := p2
      exact fun k hk i => I.1 k i (Or.inr hk)
    have Q1 : RcQ e' x R e' := ⟨rfl, fun _ _ _ _ => rfl, fun c hc => by rw [hi 67 (by decide)]; exact q.2.2.2.2.2.1 c hc, fun s p h => by rw [hi 68 (by decide)]; exact q.2.2.2.2.2.2 s p h⟩
    have z0 : (0 : Int32).toInt = 0 := by decide
    have T4 := le_i (ok.pgo c).t4 (by decide : (4 : Int32).toInt = 4)
    have F := r_7 hx p3 ok c pw p2 (fun q cq k => play_BB (ok.pgo c) (sf g) cq k) fu 0 (by show _ < 10000000; omega) e' R (by decide) Q1 (Or.inl rfl)
    rw [z0, Int.sub_zero] at F
    refine rn_n (Int32.not_le.mpr hc) (rn_c (R := RcQ e' x (rTurns (A.sd0 g) (A.sd1 g) (A.st g) ((sf g).play (A.pg g)) g (A.pg g).turns.toInt.toNat 0 R)) (rn_o p1 F) (fun e2 Q2 => rn_bd (ih e2 _ (i32_ps g0 hc) ⟨p3.low ⟨fun k _ _ => by rw [Q2.1], fun k i hk => Q2.2.1 k (by omega) (by omega) i⟩, ?_, ?_, ⟨rfl, fun _ _ _ _ => rfl, Q2.2.2⟩⟩ hR)))
    · rw [Q2.1, p5 0 (Or.inl rfl)]; exact q.2.1
    · rw [Q2.1, p4.1 11 (by decide) (by decide)]; exact q.2.2.1
theorem r_100 {w s : Int32} {Q : Int32 × mE → Prop} {k84 : Int32 → Int32 → Int32 → mE → Option (Int32 × mE)} (r : MR e0 A) (ok : BkOK A) (cs : inL A.sides s) : ∀ n p, ((A.pl s).toInt - p.toInt).toNat < n → ∀ e R, 0 ≤ p → RcQ e0 3 R e → (∀ e', RcQ e0 3 (rPl s ((A.pl s).toInt - p.toInt).toNat p R) e' → Rn (k84 3 w (s + 1) e') Q) → Rn (P_X12_record_100 k84 n 3 w s p e) Q := by
  have s60 : inL 60 s := ⟨cs.1, Int32.lt_of_lt_of_le cs.2 ok.1.2⟩
  have ps := r.2.1.1 s cs
  have p30 := (ok.2.2.2.2.1 s cs).2
  refine i32_up ?_ ?_
  · intro n p hc e R p0 q K
    unfold P_X12_record_100
    rw [q.2.1 3 (by decide) (by decide), ps]
    rw [sub_none hc] at K
    exact rn_ck s60 (rn_p hc (rn_bd (K e q)))
  · intro n p hc ih e R p0 q K
    unfold P_X12_record_100 P_X12_record_154
    have gi : gin 60 30 s p := ⟨s60.1, s60.2, p0, Int32.lt_of_lt_of_le hc p30⟩
    rw [q.2.1 3 (by decide) (by decide), ps, q.2.2.2 _ _ gi, q.2.2.1 0 i6.1]
    rw [sub_succ hc] at K
    have K : ∀ e', RcQ e0 3 (rPl s ((A.pl s).toInt - (p + 1).toInt).toNat (p + 1) (if R.2 s p ≤ R.1 3 0 then R else (rNote R.1 3 (R.2 s p) (-1) (-1) s p 0, R.2))) e' → Rn (k84 3 w (s + 1) e') Q := K
    refine rn_ck s60 (rn_n (Int32.not_le.mpr hc) (rn_ck (lin30 gi).1 (rn_ck (by decide) (rn_i (fun c => rn_bd (ih e R (i32_ps p0 hc) q ?_)) (fun c => rn_ck (lin30 gi).1 (rn_c (r_bet q ⟨by decide, by decide⟩ _ _ _ _ _ _) (fun e1 q1 => rn_bd (ih e1 _ (i32_ps p0 hc) q1 ?_))))))))
    · rw [if_pos c] at K; exact K
    · rw [if_neg c] at K; exact K
theorem rPl_ne {s : Int32} (h : x ≠ 3) : ∀ n p (R : Rc), (rPl s n p R).1 x = R.1 x
  | 0, _, _ => rfl
  | n + 1, p, R => by
    show (rPl s n (p + 1) (if R.2 s p ≤ R.1 3 0 then R else (rNote R.1 3 (R.2 s p) (-1) (-1) s p 0, R.2))).1 x = R.1 x
    rw [rPl_ne h n]
    split
    · rfl
    · exact rNote_ne h
theorem rSides_ne (h : x ≠ 3) : ∀ n s (R : Rc), (rSides A n s R).1 x = R.1 x
  | 0, _, _ => rfl
  | n + 1, s, R => by
    show (rSides A n (s + 1) (rPl s (A.pl s).toInt.toNat 0 R)).1 x = R.1 x
    rw [rSides_ne h n, rPl_ne h]
theorem r_84 {w : Int32} (hx : inL 4 x) (hw : inL 6 w) (r : MR e0 A) (ok : BkOK A) : ∀ n s, (A.sides.toInt - s.toInt).toNat < n → ∀ e R, 0 ≤ s → RcQ e0 x R e → Rn (P_X12_record_84 n x w s e) (fun q => q.1 = (rSides A (A.sides.toInt - s.toInt).toNat s R).1 x w ∧ q.2.1 = e0.1 ∧ ∀ k, k ≠ 67 → k ≠ 68 → ∀ i, q.2.2 k i = e0.2 k i) := by
  refine i32_up ?_ ?_
  · intro n s hc e R s0 q
    unfold P_X12_record_84
    rw [sub_none hc, show e.1 1 = A.sides from by rw [q.1]; exact r.1.1]
    exact rn_p hc (rn_ck hw (rn_s ⟨q.2.2.1 w hw, q.1, q.2.1⟩))
  · intro n s hc ih e R s0 q
    unfold P_X12_record_84
    rw [show e.1 1 = A.sides from by rw [q.1]; exact r.1.1]
    refine rn_n (Int32.not_le.mpr hc) ?_
    by_cases cx : x = 3
    rotate_left
    · rw [if_neg cx, rSides_ne cx]
      exact rn_ck hw (rn_s ⟨q.2.2.1 w hw, q.1, q.2.1⟩)
    subst cx
    rw [if_pos rfl, sub_succ hc]
    have cs : inL A.sides s := ⟨s0, hc⟩
    have p30 := le_i (ok.2.2.2.2.1 s cs).2 (by decide : (30 : Int32).toInt = 30)
    have z0 : (0 : Int32).toInt = 0 := by decide
    refine r_100 r ok cs fu 0 (by show _ < 10000000; omega) e R (by decide) q (fun e1 q1 => ?_)
    rw [z0, Int.sub_zero] at q1
    exact ih e1 _ (i32_ps s0 hc) q1
theorem r_40 {w : Int32} {Q : Int32 × mE → Prop} (K : ∀ e, e.1 = e0.1 → (∀ k, k ≠ 68 → ∀ i, e.2 k i = e0.2 k i) → (∀ i, inL 1800 i → e.2 68 i = 0) → Rn (P_X12_record_62 fu x w 0 e) Q) : ∀ n i, ((1800 : Int32).toInt - i.toInt).toNat < n → ∀ e, 0 ≤ i → e.1 = e0.1 → (∀ k, k ≠ 68 → ∀ i, e.2 k i = e0.2 k i) → (∀ j, inL 1800 j → j < i → e.2 68 j = 0) → Rn (P_X12_record_40 n x w i e) Q := by
  refine i32_up ?_ ?_
  · intro n i hc e i0 q1 q2 q3
    unfold P_X12_record_40
    exact rn_p hc (K e q1 q2 (fun j hj => q3 j hj (Int32.lt_of_lt_of_le hj.2 hc)))
  · intro n i hc ih e i0 q1 q2 q3
    unfold P_X12_record_40
    refine rn_n (Int32.not_le.mpr hc) (rn_ck ⟨i0, hc⟩ (rn_bd (rn_bd (ih _ (i32_ps i0 hc) q1 (fun k hk i => (mA_ne hk).trans (q2 k hk i)) (fun j hj hl => ?_)))))
    rw [mA_at]
    rcases (i32_ls hc).mp hl with y | y
    · rw [if_neg (lt_ne y)]; exact q3 j hj y
    · rw [if_pos y]
theorem m_record (r : MR e A) (ok : BkOK A) {sf : Int32 → Ps} (hs : ∀ g, TyNs (sf g)) (x w : Int32) : Rn (P_X12_record x w e) (MQ1 e A (aRecord sf x w A)) := by
  unfold P_X12_record P_X12_record_23 P_X12_fail aRecord
  have r0 := r.c0
  have no : ∀ (h : ¬ (inL 4 x ∧ inL 6 w)), Rn (some ((0 : Int32), mS (mS e 0 0) 0 1)) (MQ1 e A (if inL 4 x ∧ inL 6 w then some ((recs A sf).1 x w) else none)) := fun h => by
    rw [if_neg h]
    exact rn_s (mq_no r0 rfl _)
  have lt : w ≤ 5 ↔ w < 6 := by
    clear r0 r ok hs no
    constructor <;> intro q <;> grind
  have lt4 : ¬ 3 < x ↔ x < 4 := by
    clear r0 r ok hs no lt
    constructor <;> intro q <;> grind
  refine rn_bd (rn_i (fun c1 => no (fun q => absurd q.1.1 (Int32.not_le.mpr c1))) (fun c1 => rn_i (fun c2 => no (fun q => lt4.mpr q.1.2 c2)) (fun c2 => rn_i (fun c3 => no (fun q => absurd q.2.1 (Int32.not_le.mpr c3))) (fun c3 => rn_i (fun c4 => ?_) (fun c4 => no (fun q => c4 (lt.mpr q.2.2)))))))
  have hx : inL 4 x := ⟨Int32.not_lt.mp c1, lt4.mp c2⟩
  have hw : inL 6 w := ⟨Int32.not_lt.mp c3, lt.mp c4⟩
  rw [if_pos (show inL 4 x ∧ inL 6 w from ⟨hx, hw⟩)]
  have fG := le_i ok.2.1.2 (by decide : (400 : Int32).toInt = 400)
  have fS := le_i ok.1.2 (by decide : (60 : Int32).toInt = 60)
  have z0 : (0 : Int32).toInt = 0 := by decide
  have f18 : (1800 : Int32).toInt = 1800 := by decide
  -- first all is set to none
  have B : Rn (P_X12_better (-1) (-1) (-1) (-1) (-1) (-1) (mS e 0 0)) (fun e1 => e1.1 = (mS e 0 0).1 ∧ (∀ k, k ≠ 67 → ∀ i, e1.2 k i = (mS e 0 0).2 k i) ∧ ∀ c, inL 6 c → e1.2 67 c = -1) := by
    unfold P_X12_better
    refine rn_ck (by decide) (rn_bd (rn_ck (by decide) (rn_bd (rn_ck (by decide) (rn_bd (rn_ck (by decide) (rn_bd (rn_ck (by decide) (rn_bd (rn_ck (by decide) (rn_bd (rn_s ⟨rfl, fun k n1 i => ?_, fun c hc => ?_⟩))))))))))))
    · rw [mA_ne n1, mA_ne n1, mA_ne n1, mA_ne n1, mA_ne n1, mA_ne n1]
    · have : c = 0 ∨ c = 1 ∨ c = 2 ∨ c = 3 ∨ c = 4 ∨ c = 5 := by
        obtain ⟨a, b⟩ := hc
        clear r0 r ok hs no lt lt4
        grind
      rcases this with y | y | y | y | y | y <;> subst y <;> simp [mA]
  refine rn_c B (fun e1 b => r_40 (e0 := e1) (fun e2 q1 q2 q3 => ?_) fu 0 (by show _ < 10000000; omega) e1 (by decide) rfl (fun _ _ _ => rfl) (fun j hj hl => absurd hj.1 (Int32.not_le.mpr hl)))
  have m2 : MR e2 A := r0.low ⟨fun k _ _ => by rw [q1, b.1], fun k i hk => (q2 k (by omega) i).trans (b.2.1 k (by omega) i)⟩
  have R0 : RgQ (mS e 0 0) A x (gAll 4 6 (-1), gAll 60 30 0) e2 := by
    refine ⟨m2, by rw [q1, b.1], by rw [q1, b.1], rfl, fun _ _ _ _ => rfl, fun c hc => ?_, fun s p h => ?_⟩
    · rw [q2 67 (by decide), b.2.2 c hc]
      exact (if_pos (show gin 4 6 x c from ⟨hx.1, hx.2, hc.1, hc.2⟩)).symm
    · rw [q3 _ (lin30 h).1]
      exact (if_pos h).symm
  refine r_62 (e0 := mS e 0 0) hx ok hs (fun e3 R hR q => ?_) fu 0 (by show _ < 10000000; omega) e2 _ (by decide) R0 (by rw [z0, Int.sub_zero])
  have F := r_84 hx hw q.1 ok fu 0 (by show _ < 10000000; omega) e3 R (by decide) q.2.2.2
  rw [z0, Int.sub_zero] at F
  refine F.imp (fun y Y => ?_)
  have my : MR y.2 A := q.1.low ⟨fun k _ _ => by rw [Y.2.1], fun k i hk => Y.2.2 k (by omega) (by omega) i⟩
  have v : y.1 = (recs A sf).1 x w := by
    unfold recs
    rw [← hR]
    exact Y.1
  exact ⟨fun z => (nomatch z), fun u hu => ⟨v.trans (Option.some.inj hu), by rw [Y.2.1]; exact q.2.1⟩, my, by rw [Y.2.1]; exact q.2.2.1⟩
end Mrg
