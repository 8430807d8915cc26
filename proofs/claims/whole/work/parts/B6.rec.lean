/-! the reference's records -/
theorem rNote_ne {f : Int32 → Int32 → Int32} {s n g t d p r x : Int32} (h : x ≠ s) : rNote f s n g t d p r x = f x := funext fun c => by
  unfold rNote
  have k : ∀ c', ¬ (x = s ∧ c = c') := fun _ q => h q.1
  rw [gS_ne (k _), gS_ne (k _), gS_ne (k _), gS_ne (k _), gS_ne (k _), gS_ne (k _)]
theorem rNote_at {f : Int32 → Int32 → Int32} {s n g t d p r : Int32} (hs : inL 4 s) : rNote f s n g t d p r s 0 = n ∧ rNote f s n g t d p r s 1 = g ∧ rNote f s n g t d p r s 2 = t ∧ rNote f s n g t d p r s 3 = d ∧ rNote f s n g t d p r s 4 = p ∧ rNote f s n g t d p r s 5 = r := by
  unfold rNote
  have gi : ∀ w : Int32, 0 ≤ w → w < 6 → gin 4 6 s w := fun w a b => ⟨hs.1, hs.2, a, b⟩
  refine ⟨?_, ?_, ?_, ?_, ?_, ?_⟩
  · rw [gS_ne (by simp), gS_ne (by simp), gS_ne (by simp), gS_ne (by simp), gS_ne (by simp), gS_at (gi 0 (by decide) (by decide))]
  · rw [gS_ne (by simp), gS_ne (by simp), gS_ne (by simp), gS_ne (by simp), gS_at (gi 1 (by decide) (by decide))]
  · rw [gS_ne (by simp), gS_ne (by simp), gS_ne (by simp), gS_at (gi 2 (by decide) (by decide))]
  · rw [gS_ne (by simp), gS_ne (by simp), gS_at (gi 3 (by decide) (by decide))]
  · rw [gS_ne (by simp), gS_at (gi 4 (by decide) (by decide))]
  · rw [gS_at (gi 5 (by decide) (by decide))]
theorem lin30 {s p : Int32} (h : gin 60 30 s p) : (0 ≤ 30 * s + p ∧ 30 * s + p < 1800) ∧ (30 * s + p).toInt = 30 * s.toInt + p.toInt := by
  obtain ⟨a, b, c, d⟩ := h
  have z : (0 : Int32).toInt = 0 := by decide
  have a1 := Int32.le_iff_toInt_le.mp a
  have a2 := Int32.lt_iff_toInt_lt.mp b
  have b1 := Int32.le_iff_toInt_le.mp c
  have b2 := Int32.lt_iff_toInt_lt.mp d
  have e1 : (60 : Int32).toInt = 60 := by decide
  have e2 : (30 : Int32).toInt = 30 := by decide
  have e3 : (1800 : Int32).toInt = 1800 := by decide
  have m : (30 * s).toInt = 30 * s.toInt := by
    rw [Int32.toInt_mul, e2]
    apply Int.bmod_eq_of_le <;> omega
  have l : (30 * s + p).toInt = 30 * s.toInt + p.toInt := by
    rw [Int32.toInt_add, m]
    apply Int.bmod_eq_of_le <;> omega
  exact ⟨⟨Int32.le_iff_toInt_le.mpr (by omega), Int32.lt_iff_toInt_lt.mpr (by omega)⟩, l⟩
theorem inj30 {s p s' p' : Int32} (h : gin 60 30 s p) (h' : gin 60 30 s' p') (q : 30 * s + p = 30 * s' + p') : s = s' ∧ p = p' := by
  have a := (lin30 h).2
  rw [q, (lin30 h').2] at a
  have z : (0 : Int32).toInt = 0 := by decide
  have e2 : (30 : Int32).toInt = 30 := by decide
  have b1 := Int32.le_iff_toInt_le.mp h.2.2.1
  have b2 := Int32.lt_iff_toInt_lt.mp h.2.2.2
  have c1 := Int32.le_iff_toInt_le.mp h'.2.2.1
  have c2 := Int32.lt_iff_toInt_lt.mp h'.2.2.2
  exact ⟨Int32.toInt_inj.mp (by omega), Int32.toInt_inj.mp (by omega)⟩
/-- the reference's tables of the sort x are those of R; nothing else has changed since e0 -/
def RcQ (e0 : mE) (x : Int32) (R : Rc) (e : mE) : Prop := e.1 = e0.1 ∧ (∀ k, k ≠ 67 → k ≠ 68 → ∀ i, e.2 k i = e0.2 k i) ∧ (∀ c, inL 6 c → e.2 67 c = R.1 x c) ∧ ∀ s p, gin 60 30 s p → e.2 68 (30 * s + p) = R.2 s p
theorem RcQ.cg {e0 e : mE} {x : Int32} {R R' : Rc} (q : RcQ e0 x R e) (h1 : R'.1 x = R.1 x) (h2 : R'.2 = R.2) : RcQ e0 x R' e := ⟨q.1, q.2.1, fun c hc => by rw [h1]; exact q.2.2.1 c hc, fun s p h => by rw [h2]; exact q.2.2.2 s p h⟩
section Mre
variable {e0 e : mE} {x g t b f : Int32} {R : Rc} {st : Int32 → Int32 → Int32} {T : Ty}
theorem i6 : inL 6 0 ∧ inL 6 5 := ⟨⟨by decide, by decide⟩, ⟨by decide, by decide⟩⟩
theorem r_bet (q : RcQ e0 x R e) (hx : inL 4 x) (n g t d p r : Int32) : Rn (P_X12_better n g t d p r e) (RcQ e0 x (rNote R.1 x n g t d p r, R.2)) := by
  unfold P_X12_better
  refine rn_ck (by decide) (rn_bd (rn_ck (by decide) (rn_bd (rn_ck (by decide) (rn_bd (rn_ck (by decide) (rn_bd (rn_ck (by decide) (rn_bd (rn_ck (by decide) (rn_bd (rn_s ?_))))))))))))
  have N := rNote_at (f := R.1) (n := n) (g := g) (t := t) (d := d) (p := p) (r := r) hx
  refine ⟨q.1, fun k n1 n2 i => ?_, fun c hc => ?_, fun s p h => ?_⟩
  · rw [mA_ne n1, mA_ne n1, mA_ne n1, mA_ne n1, mA_ne n1, mA_ne n1]
    exact q.2.1 k n1 n2 i
  · have : c = 0 ∨ c = 1 ∨ c = 2 ∨ c = 3 ∨ c = 4 ∨ c = 5 := by
      obtain ⟨a, b⟩ := hc
      clear q N
      grind
    rcases this with y | y | y | y | y | y <;> subst y
    · exact Eq.trans (by simp [mA]) N.1.symm
    · exact Eq.trans (by simp [mA]) N.2.1.symm
    · exact Eq.trans (by simp [mA]) N.2.2.1.symm
    · exact Eq.trans (by simp [mA]) N.2.2.2.1.symm
    · exact Eq.trans (by simp [mA]) N.2.2.2.2.1.symm
    · exact Eq.trans (by simp [mA]) N.2.2.2.2.2.symm
  · rw [mA_ne (by decide), mA_ne (by decide), mA_ne (by decide), mA_ne (by decide), mA_ne (by decide), mA_ne (by decide)]
    exact q.2.2.2 s p h
/-- what the cells hold of a turn that was played -/
def TuQ (e0 : mE) (g t b f : Int32) (st : Int32 → Int32 → Int32) (T : Ty) : Prop := (0 ≤ g ∧ g < 400) ∧ inL 4 t ∧ inL 60 b ∧ ∀ k, inL 11 k → (e0.2 53 (11 * t + k) = T.bat k 0 ∧ e0.2 56 (11 * t + k) = T.bow k 0 ∧ e0.2 57 (11 * t + k) = T.bow k 1 ∧ e0.2 58 (11 * t + k) = T.bow k 2) ∧ e0.2 7 (22 * g + 11 * md2 t + k) = st (md2 t) k ∧ e0.2 7 (22 * g + 11 * (1 - md2 t) + k) = st (1 - md2 t) k ∧ inL 30 (st (md2 t) k)
theorem b_3 {k v : Int32} (g0 : 0 ≤ g ∧ g < 400) (t0 : inL 4 t) (k0 : inL 11 k) (h : e.2 7 (22 * g + 11 * md2 t + k) = v) : P_X12_batsOf g t k 3 e = some (v, e) := by
  unfold P_X12_batsOf
  rw [bd_e, if_neg (by decide), if_neg (by decide), if_neg (by decide), ck_t (ix22 g0 (md2_b t0.1 t0.2) k0), h]
theorem f_3 {k v : Int32} (g0 : 0 ≤ g ∧ g < 400) (t0 : inL 4 t) (k0 : inL 11 k) (h : e.2 7 (22 * g + 11 * (1 - md2 t) + k) = v) : P_X12_fieldsOf g t k 3 e = some (v, e) := by
  have m := md2_b t0.1 t0.2
  have m' : (1 - md2 t = 0 ∨ 1 - md2 t = 1) := by rcases m with q | q <;> rw [q] <;> decide
  unfold P_X12_fieldsOf
  rw [bd_e, if_neg (by decide), if_neg (by decide), if_neg (by decide), ck_t (ix22 g0 m' k0), h]
theorem ix44 {k : Int32} (t0 : inL 4 t) (k0 : inL 11 k) : (0 : Int32) ≤ 11 * t + k ∧ 11 * t + k < 44 := by
  obtain ⟨a, b⟩ := t0
  obtain ⟨c, d⟩ := k0
  constructor <;> grind
theorem r_254 {k : Int32} {Q : mE → Prop} {k7 : Int32 → Int32 → Int32 → mE → Option mE} {k95 : Int32 → Int32 → Int32 → Int32 → Int32 → Int32 → mE → Option mE} (I : TuQ e0 g t b f st T) (k0 : inL 11 k) (q : RcQ e0 x R e) (K : ∀ e', RcQ e0 x (R.1, gAd 60 30 R.2 b (st (md2 t) k) (T.bat k 0)) e' → Rn (k95 x g t b f (k + 1) e') Q) : Rn (P_X12_recordOf_254 k7 k95 x g t b f k (11 * t + k) (st (md2 t) k) e) Q := by
  obtain ⟨g0, t0, b0, I⟩ := I
  obtain ⟨⟨v1, -, -, -⟩, -, -, sp⟩ := I k k0
  have gi : gin 60 30 b (st (md2 t) k) := ⟨b0.1, b0.2, sp.1, sp.2⟩
  unfold P_X12_recordOf_254
  rw [q.2.1 53 (by decide) (by decide), v1, q.2.2.2 _ _ gi]
  refine rn_ck (lin30 gi).1 (rn_ck (ix44 t0 k0) (rn_bd (rn_bd (K _ ⟨q.1, fun k n1 n2 i => (mA_ne n2).trans (q.2.1 k n1 n2 i), fun c hc => (mA_ne (by decide)).trans (q.2.2.1 c hc), fun s p h => ?_⟩))))
  rw [mA_at]
  show _ = (if gin 60 30 b (st (md2 t) k) ∧ s = b ∧ p = st (md2 t) k then R.2 b (st (md2 t) k) + T.bat k 0 else R.2 s p)
  by_cases y : s = b ∧ p = st (md2 t) k
  · rw [if_pos (show gin 60 30 b (st (md2 t) k) ∧ s = b ∧ p = st (md2 t) k from ⟨gi, y⟩), if_pos (by rw [y.1, y.2])]
  · rw [if_neg (show ¬ (gin 60 30 b (st (md2 t) k) ∧ s = b ∧ p = st (md2 t) k) from fun z => y z.2), if_neg (fun z => y (inj30 h gi z))]
    exact q.2.2.2 s p h
theorem r_160 {k : Int32} {Q : mE → Prop} {k7 : Int32 → Int32 → Int32 → mE → Option mE} {k95 : Int32 → Int32 → Int32 → Int32 → Int32 → Int32 → mE → Option mE} (hx : inL 4 x) (I : TuQ e0 g t b f st T) (k0 : inL 11 k) (q : RcQ e0 x R e) (K : ∀ e', RcQ e0 x ((rSeat2 f (st (1 - md2 t) k) (T.bow k 0) (T.bow k 2) (T.bow k 1) g t R).1, gAd 60 30 R.2 b (st (md2 t) k) (T.bat k 0)) e' → Rn (k95 x g t b f (k + 1) e') Q) : Rn (P_X12_recordOf_160 k7 k95 x g t b f k (11 * t + k) (st (md2 t) k) e) Q := by
  have I' := I
  obtain ⟨g0, t0, b0, I⟩ := I
  obtain ⟨⟨-, v2, v3, v4⟩, -, s2, -⟩ := I k k0
  have i44 := ix44 t0 k0
  unfold P_X12_recordOf_160
  have skip : ∀ (h : (rSeat2 f (st (1 - md2 t) k) (T.bow k 0) (T.bow k 2) (T.bow k 1) g t R).1 x = R.1 x), Rn (P_X12_recordOf_254 k7 k95 x g t b f k (11 * t + k) (st (md2 t) k) e) Q := fun h => r_254 I' k0 (q.cg (R' := ((rSeat2 f (st (1 - md2 t) k) (T.bow k 0) (T.bow k 2) (T.bow k 1) g t R).1, R.2)) h rfl) K
  by_cases cx : x = 1
  rotate_left
  · rw [if_neg cx]
    refine skip ?_
    unfold rSeat2
    repeat' split
    · rfl
    · exact rNote_ne cx
    · rfl
  subst cx
  rw [if_pos rfl, q.2.1 56 (by decide) (by decide), v2, q.2.1 58 (by decide) (by decide), v4, q.2.1 57 (by decide) (by decide), v3, q.2.2.1 0 i6.1, q.2.2.1 5 i6.2]
  have note : ∀ (h : ¬ T.bow k 0 ≤ 0) (h2 : R.1 1 0 < T.bow k 2 ∨ (T.bow k 2 = R.1 1 0 ∧ T.bow k 1 < R.1 1 5)), Rn (P_X12_recordOf_223 k7 k95 1 g t b f k (11 * t + k) (st (md2 t) k) e) Q := fun h h2 => by
    have e1 : rSeat2 f (st (1 - md2 t) k) (T.bow k 0) (T.bow k 2) (T.bow k 1) g t R = (rNote R.1 1 (T.bow k 2) g t f (st (1 - md2 t) k) (T.bow k 1), R.2) := by
      unfold rSeat2
      rw [if_neg h, if_pos h2]
    rw [e1] at K
    unfold P_X12_recordOf_223
    rw [q.2.1 58 (by decide) (by decide), v4]
    refine rn_ck i44 (rn_o (f_3 g0 t0 k0 ((q.2.1 7 (by decide) (by decide) _).trans s2)) (rn_bd (rn_bd (rn_ck i44 ?_))))
    dsimp only
    rw [q.2.1 57 (by decide) (by decide), v3]
    exact rn_c (r_bet q hx _ _ _ _ _ _) (fun e2 q2 => r_254 I' k0 q2 K)
  have none' : ∀ (h : ¬ (R.1 1 0 < T.bow k 2 ∨ (T.bow k 2 = R.1 1 0 ∧ T.bow k 1 < R.1 1 5))), (rSeat2 f (st (1 - md2 t) k) (T.bow k 0) (T.bow k 2) (T.bow k 1) g t R).1 1 = R.1 1 := fun h => by
    unfold rSeat2
    rw [if_neg h]
    split <;> rfl
  refine rn_ck i44 (rn_i (fun c1 => skip ?_) (fun c1 => rn_ck i44 (rn_ck (by decide) (rn_i (fun c2 => note c1 (Or.inl c2)) (fun c2 => rn_ck i44 (rn_ck (by decide) (rn_i (fun c3 => rn_ck i44 (rn_ck (by decide) (rn_i (fun c4 => skip (none' ?_)) (fun c4 => note c1 (Or.inr ⟨c3, Int32.not_le.mp c4⟩))))) (fun c3 => skip (none' ?_)))))))))
  · unfold rSeat2
    rw [if_pos c1]
  · exact fun z => z.elim c2 (fun y => absurd y.2 (Int32.not_lt.mpr c4))
  · exact fun z => z.elim c2 (fun y => c3 y.1)
theorem r_95 {Q : mE → Prop} {k7 : Int32 → Int32 → Int32 → mE → Option mE} (hx : inL 4 x) (I : TuQ e0 g t b f st T) : ∀ n k, ((11 : Int32).toInt - k.toInt).toNat < n → ∀ e R, 0 ≤ k → RcQ e0 x R e → (∀ e', RcQ e0 x (rSeats st b f T g t ((11 : Int32).toInt - k.toInt).toNat k R) e' → Rn (k7 x g (t + 1) e') Q) → Rn (P_X12_recordOf_95 k7 n x g t b f k e) Q := by
  refine i32_up ?_ ?_
  · intro n k hc e R k0 q K
    unfold P_X12_recordOf_95
    rw [sub_none hc] at K
    exact rn_p hc (rn_bd (K e q))
  · intro n k hc ih e R k0 q K
    have ck' : inL 11 k := ⟨k0, hc⟩
    have I' := I
    obtain ⟨g0, t0, b0, I⟩ := I
    obtain ⟨⟨v1, -, -, -⟩, s1, -, sp⟩ := I k ck'
    have i44 := ix44 t0 ck'
    unfold P_X12_recordOf_95
    rw [sub_succ hc] at K
    refine rn_n (Int32.not_le.mpr hc) (rn_bd (rn_o (b_3 g0 t0 ck' ((q.2.1 7 (by decide) (by decide) _).trans s1)) (rn_bd (rn_bd ?_))))
    dsimp only
    have go : ∀ e1, RcQ e0 x ((rSeat1 b (st (md2 t) k) (T.bat k 0) g t R).1, R.2) e1 → Rn (P_X12_recordOf_160 k7 (P_X12_recordOf_95 k7 n) x g t b f k (11 * t + k) (st (md2 t) k) e1) Q := fun e1 q1 => by
      refine r_160 hx I' ck' q1 (fun e2 q2 => ih e2 _ (i32_ps k0 hc) (q2.cg ?_ ?_) K)
      · have : ∀ (N : Int32 → Int32 → Int32) (A B : Int32 → Int32 → Int32), (rSeat2 f (st (1 - md2 t) k) (T.bow k 0) (T.bow k 2) (T.bow k 1) g t (N, A)).1 = (rSeat2 f (st (1 - md2 t) k) (T.bow k 0) (T.bow k 2) (T.bow k 1) g t (N, B)).1 := fun N A B => by
          unfold rSeat2
          repeat' split
          all_goals rfl
        exact congrFun (this (rSeat1 b (st (md2 t) k) (T.bat k 0) g t R).1 (rSeat1 b (st (md2 t) k) (T.bat k 0) g t R).2 R.2) x
      · have : ∀ (X : Rc), (rSeat2 f (st (1 - md2 t) k) (T.bow k 0) (T.bow k 2) (T.bow k 1) g t X).2 = X.2 := fun X => by
          unfold rSeat2
          repeat' split
          all_goals rfl
        rw [this]
        rfl
    by_cases cx : x = 0
    rotate_left
    · rw [if_neg cx]
      refine go e (q.cg ?_ rfl)
      show (if T.bat k 0 ≤ R.1 0 0 then R.1 else rNote R.1 0 (T.bat k 0) g t b (st (md2 t) k) 0) x = R.1 x
      split
      · rfl
      · exact rNote_ne cx
    · subst cx
      rw [if_pos rfl, q.2.1 53 (by decide) (by decide), v1, q.2.2.1 0 i6.1]
      refine rn_ck i44 (rn_ck (by decide) (rn_i (fun c => go e (q.cg ?_ rfl)) (fun c => rn_ck i44 (rn_c (r_bet q hx _ _ _ _ _ _) (fun e1 q1 => go e1 (q1.cg ?_ rfl))))))
      · show (if T.bat k 0 ≤ R.1 0 0 then R.1 else rNote R.1 0 (T.bat k 0) g t b (st (md2 t) k) 0) 0 = R.1 0
        rw [if_pos c]
      · show (if T.bat k 0 ≤ R.1 0 0 then R.1 else rNote R.1 0 (T.bat k 0) g t b (st (md2 t) k) 0) 0 = rNote R.1 0 (T.bat k 0) g t b (st (md2 t) k) 0 0
        rw [if_neg c]
end Mre
