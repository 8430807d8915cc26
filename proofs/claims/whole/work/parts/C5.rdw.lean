/-! The reference reads a turn as a whole -/
theorem rT2_e (f : Int32 → Int32) (e t : Int32) (s : Rh × Pg × (Int32 → Int32)) : rT2 f e t s = rNext f e 0 255 (rT1 f e t s).1 := rfl
theorem rT3_e (f : Int32 → Int32) (e t : Int32) (s : Rh × Pg × (Int32 → Int32)) : rT3 f e t s = rNext f e 0 255 (rT2 f e t s).2 := rfl
theorem rTurn1_e (f : Int32 → Int32) (e t : Int32) (s : Rh × Pg × (Int32 → Int32)) : rTurn1 f e t s = ((rT3 f e t s).2, (rT1 f e t s).2, fun q => if q = t then 256 * (rT2 f e t s).1 + (rT3 f e t s).1 else s.2.2 q) := rfl
def TuT (e0 eh : mE) (g n : Int32) (f : Int32 → Int32) (s : Rh × Pg × (Int32 → Int32)) (e : mE) : Prop := RdM e0 g n f s.1 e ∧ (∀ k, k < 9 → ∀ i, e.2 k i = eh.2 k i) ∧ e.1 11 ≤ 5801 ∧ (s.1.2 = 0 → 2 * (e.1 11).toInt ≤ 2 * (e0.1 11).toInt + s.1.1.toInt ∧ PgX e0 g s.2.1 e ∧ ∀ q, inL s.2.1.turns q → e.2 70 q = s.2.2 q)
section Mrw
variable {e e0 eh : mE} {g n : Int32} {f : Int32 → Int32}
theorem TuS.rd {r r' : Rh} {G : Pg} {e' : mE} (q : TuS e0 eh g n f r G e) (R : RdM e0 g n f r' e') (D : rdE e e') (h : r'.2 = 0 → r.2 = 0 ∧ r.1.toInt ≤ r'.1.toInt) : TuS e0 eh g n f r' G e' := by
  have i11 : e'.1 11 = e.1 11 := D.1 11 (by decide) (by decide)
  refine ⟨R, fun k hk i => by rw [D.2]; exact q.2.1 k hk i, by rw [i11]; exact q.2.2.1, fun h0 => ?_⟩
  obtain ⟨a, b⟩ := h h0
  obtain ⟨c, d⟩ := q.2.2.2 a
  refine ⟨by rw [i11]; omega, ?_⟩
  unfold PgX rwT at d ⊢
  rw [D.2, i11]
  exact d
theorem rNext_pos {lo hi : Int32} {r : Rh} (n6 : n ≤ 6000) (h : (rNext f n lo hi r).2.2 = 0) : r.2 = 0 ∧ r.1.toInt ≤ (rNext f n lo hi r).2.1.toInt := by
  obtain ⟨-, a, b, c, -⟩ := (rNext_lo (f := f) (e := n) (lo := lo) (hi := hi) (r := r)).2 h
  refine ⟨a, ?_⟩
  rw [c]
  have := i32_succ (Int32.lt_of_lt_of_le b n6)
  omega
theorem m_readTurn {t : Int32} {s : Rh × Pg × (Int32 → Int32)} (g0 : 0 ≤ g ∧ g < 400) (r0 : 0 ≤ e0.1 11) (HR : 2 * (e0.1 11).toInt + n.toInt ≤ 11600) (q : TuT e0 eh g n f s e) (hs : s.1.2 = 0) (ok : PgOK s.2.1) (et : s.2.1.turns = t) (tl : t < 2 * s.2.1.each) : Rn (P_X12_readTurn g t e) (TuT e0 eh g n f (rTurn1 f n t s)) := by
  obtain ⟨R, fr, b58, cond⟩ := q
  obtain ⟨rb, PX, SC⟩ := cond hs
  have n6 := R.2.2.2.1
  have tu := ok.2.2.1.1
  have t4 : t < 4 := by
    refine Int32.lt_of_lt_of_le tl ?_
    rcases ok.1 with y | y <;> rw [y] <;> decide
  have ht : inL 4 t := ⟨by rw [← et]; exact tu, t4⟩
  have T1 := rT1_ok f n s ok et tl
  have e1' := rT1_e f n t s
  have PO := rNext_pos (f := f) (lo := 0) (hi := 130) (r := s.1) n6
  have LO := (rNext_lo (f := f) (e := n) (lo := 0) (hi := 130) (r := s.1)).1
  have HI := rNext_hi (f := f) (e := n) (lo := 0) (hi := 130) (r := s.1) (by decide)
  unfold P_X12_readTurn
  refine rn_c (m_read (lo := 0) (hi := 130) R) ?_
  rintro ⟨x3, e1⟩ ⟨ev, R1, D1⟩
  dsimp only at ev R1 D1
  generalize rNext f n 0 130 s.1 = X at ev R1 PO LO HI e1'
  subst ev
  refine rn_bd (rn_bd (rn_ck (ix4 g0.1 g0.2 ht.1 ht.2) (rn_bd ?_)))
  dsimp only
  have i11 : e1.1 11 = e.1 11 := D1.1 11 (by decide) (by decide)
  have aok : PgOK s.2.1.addT := addT_ok ok (by rw [et]; exact tl)
  have ct : inL s.2.1.addT.turns t := by
    show inL (s.2.1.turns + 1) t
    rw [et]
    exact ⟨ht.1, (i32_ls t4).mpr (Or.inr rfl)⟩
  have em : s.2.1.addT.many t = 0 := by
    show (if t = s.2.1.turns then 0 else s.2.1.many t) = 0
    rw [if_pos et.symm]
  have S0 : TuS e0 e g n f X.2 s.2.1.addT (mA e1 9 (4 * g + t) 0) := by
    refine ⟨⟨R1.1.set9 g0 ht, R1.2⟩, fun k hk i => by rw [mA_ne (by omega), D1.2], by show e1.1 11 ≤ 5801; rw [i11]; exact b58, fun h => ⟨?_, ?_⟩⟩
    · show 2 * (e1.1 11).toInt ≤ _
      rw [i11]
      have := (PO h).2
      omega
    · refine PX.addT ok g0 (by rw [et]; exact t4) i11 (fun i => ?_) (fun k hk i => ?_)
      · rw [mA_at, D1.2, et]
      · rw [mA_ne (by omega), D1.2]
  have z0 : (0 : Int32).toInt = 0 := by decide
  have x130 := le_i HI (by decide : (130 : Int32).toInt = 130)
  have zz : (X.1.toInt - (0 : Int32).toInt).toNat = X.1.toInt.toNat := by rw [z0, Int.sub_zero]
  refine m_23 (eh := e) g0 ht HI r0 HR fu 0 (by rw [zz]; show _ < 10000000; omega) _ X.2 s.2.1.addT (by decide) S0 aok ct em (fun e2 S2 => ?_)
  rw [zz, ← e1'] at S2
  have P2 := rNext_pos (f := f) (lo := 0) (hi := 255) (r := (rT1 f n t s).1) n6
  have P3 := rNext_pos (f := f) (lo := 0) (hi := 255) (r := (rT2 f n t s).2) n6
  have E2 := rT2_e f n t s
  have E3 := rT3_e f n t s
  rw [rTurn1_e]
  unfold P_X12_readTurn_155
  refine rn_c (m_read (lo := 0) (hi := 255) S2.1) ?_
  rintro ⟨v2, e3⟩ ⟨ev2, R2, D2⟩
  dsimp only at ev2 R2 D2
  rw [← E2] at ev2 R2 P2
  refine rn_bd (rn_bd (rn_c (m_read (lo := 0) (hi := 255) R2) ?_))
  rintro ⟨v3, e4⟩ ⟨ev3, R3, D3⟩
  dsimp only at ev3 R3 D3
  rw [← E3] at ev3 R3 P3
  have S3 := (S2.rd R2 D2 P2).rd R3 D3 P3
  subst ev2
  subst ev3
  clear E2 E3 e1' P2 P3
  generalize rT1 f n t s = Y1 at *
  generalize rT2 f n t s = Y2 at *
  generalize rT3 f n t s = Y3 at *
  refine rn_bd (rn_bd (rn_ck ht (rn_bd (rn_s ⟨⟨S3.1.1.hi (by decide), S3.1.2⟩, fun k hk i => ?_, S3.2.2.1, fun h => ?_⟩))))
  · rw [mA_ne (by omega), S3.2.1 k (Or.inl hk) i]
    exact fr k hk i
  · obtain ⟨c1, c2⟩ := S3.2.2.2 h
    refine ⟨c1, ?_, fun q hq => ?_⟩
    · exact c2
    · have hq : inL (t + 1) q := by rw [← T1.2.1]; exact hq
      show (mA e4 70 t (256 * Y2.1 + Y3.1)).2 70 q = if q = t then 256 * Y2.1 + Y3.1 else s.2.2 q
      rw [mA_at]
      by_cases y : q = t
      · rw [if_pos y, if_pos y]
      · rw [if_neg y, if_neg y, S3.2.1 70 (Or.inr rfl) q]
        refine SC q ?_
        rw [et]
        exact ⟨hq.1, ((i32_ls t4).mp hq.2).resolve_right y⟩
end Mrw
