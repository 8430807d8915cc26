/-! Reading an image: what both sides do, byte by byte. A reader is (its place, 0 as long as all is right) -/
abbrev Rh : Type := Int32 × Int32
def rNext (f : Int32 → Int32) (e lo hi : Int32) (r : Rh) : Int32 × Rh := if r.2 = 0 then (if r.1 < e ∧ lo ≤ f r.1 ∧ f r.1 ≤ hi then (f r.1, (r.1 + 1, 0)) else (lo, (r.1, 1))) else (lo, r)
def rFail (r : Rh) : Rh := if r.2 = 0 then (r.1 - 1, 1) else r
def rEnts (f : Int32 → Int32) (e : Int32) : Nat → Int32 → Rh × Int32 × (Int32 → Int32) → Rh × Int32 × (Int32 → Int32)
  | 0, _, s => s
  | n + 1, i, s => if s.1.2 = 0 then rEnts f e n (i + 1) ((rNext f e 0 255 s.1).2, i + 1, rIns s.2.2 i (rNext f e 0 255 s.1).1) else s
def rOvB (f : Int32 → Int32) (e : Int32) (r : Rh) : Int32 × Rh := rNext f e 0 15 r
def rOvS (f : Int32 → Int32) (e : Int32) (r : Rh) : Int32 × Rh := rNext f e 0 41 (rOvB f e r).2
def rOvE (f : Int32 → Int32) (e : Int32) (r : Rh) : Rh × Int32 × (Int32 → Int32) := rEnts f e ((rOvS f e r).1 - 1).toInt.toNat 0 ((rOvS f e r).2, if 0 < (rOvS f e r).1 - 1 then 0 else (rOvS f e r).1 - 1, fun _ => 0)
def rOvs (f : Int32 → Int32) (e t : Int32) : Nat → Rh × Pg → Rh × Pg
  | 0, s => s
  | n + 1, s => if s.1.2 = 0 then rOvs f e t n ((rOvE f e s.1).1, s.2.addO t (rOvB f e s.1).1 (rOvE f e s.1).2.1 (rOvE f e s.1).2.2) else s
def rT1 (f : Int32 → Int32) (e t : Int32) (s : Rh × Pg × (Int32 → Int32)) : Rh × Pg := rOvs f e t (rNext f e 0 130 s.1).1.toInt.toNat ((rNext f e 0 130 s.1).2, s.2.1.addT)
def rT2 (f : Int32 → Int32) (e t : Int32) (s : Rh × Pg × (Int32 → Int32)) : Int32 × Rh := rNext f e 0 255 (rT1 f e t s).1
def rT3 (f : Int32 → Int32) (e t : Int32) (s : Rh × Pg × (Int32 → Int32)) : Int32 × Rh := rNext f e 0 255 (rT2 f e t s).2
def rTurn1 (f : Int32 → Int32) (e t : Int32) (s : Rh × Pg × (Int32 → Int32)) : Rh × Pg × (Int32 → Int32) := ((rT3 f e t s).2, (rT1 f e t s).2, fun q => if q = t then 256 * (rT2 f e t s).1 + (rT3 f e t s).1 else s.2.2 q)
def rTurns0 (f : Int32 → Int32) (e : Int32) : Nat → Int32 → Rh × Pg × (Int32 → Int32) → Rh × Pg × (Int32 → Int32)
  | 0, _, s => s
  | n + 1, t, s => if s.1.2 = 0 then rTurns0 f e n (t + 1) (rTurn1 f e t s) else s
def rDup (st : Int32 → Int32 → Int32) (s p : Int32) : Nat → Int32 → Rh → Rh
  | 0, _, r => r
  | n + 1, o, r => rDup st s p n (o + 1) (if st s o = p then rFail r else r)
def rSts (f : Int32 → Int32) (e m s : Int32) : Nat → Int32 → Rh × (Int32 → Int32 → Int32) → Rh × (Int32 → Int32 → Int32)
  | 0, _, z => z
  | n + 1, k, z => if z.1.2 = 0 then rSts f e m s n (k + 1) (rDup z.2 s (rNext f e 0 (m - 1) z.1).1 k.toInt.toNat 0 (rNext f e 0 (m - 1) z.1).2, gS 2 11 z.2 s k (rNext f e 0 (m - 1) z.1).1) else z
def rH1 (f : Int32 → Int32) (e : Int32) : Int32 × Rh := rNext f e 66 66 (0, 0)
def rH2 (f : Int32 → Int32) (e n : Int32) : Int32 × Rh := rNext f e 0 (n - 1) (rH1 f e).2
def rH3 (f : Int32 → Int32) (e n : Int32) : Int32 × Rh := rNext f e 0 (n - 1) (rH2 f e n).2
def rH4 (f : Int32 → Int32) (e n : Int32) : Int32 × Rh := rNext f e 1 120 (if (rH3 f e n).1 = (rH2 f e n).1 then rFail (rH3 f e n).2 else (rH3 f e n).2)
def rH5 (f : Int32 → Int32) (e n : Int32) : Int32 × Rh := rNext f e 1 2 (rH4 f e n).2
def rS1 (f : Int32 → Int32) (e : Int32) (A : Bk) : Rh × (Int32 → Int32 → Int32) := rSts f e (A.pl (rH2 f e A.sides).1) 0 11 0 ((rH5 f e A.sides).2, seat0)
def rS2 (f : Int32 → Int32) (e : Int32) (A : Bk) : Rh × (Int32 → Int32 → Int32) := rSts f e (A.pl (rH3 f e A.sides).1) 1 11 0 (rS1 f e A)
def rTn (f : Int32 → Int32) (e : Int32) (A : Bk) : Int32 × Rh := rNext f e 0 (2 * (rH5 f e A.sides).1) (rS2 f e A).1
def rBody (f : Int32 → Int32) (e : Int32) (A : Bk) : Rh × Pg × (Int32 → Int32) := rTurns0 f e (rTn f e A).1.toInt.toNat 0 ((rTn f e A).2, Pg.new (rH4 f e A.sides).1 (rH5 f e A.sides).1, fun _ => 0)
def rEnd (f : Int32 → Int32) (e : Int32) (A : Bk) : Rh := if (rBody f e A).1.2 = 0 ∧ (rBody f e A).1.1 < e then ((rBody f e A).1.1, 1) else (rBody f e A).1
def wf (w v : Int32) : Int32 := if w = -1 then v else w
def rCmp (S : Ps) (G : Pg) (sc : Int32 → Int32) : Nat → Int32 → Int32 → Int32
  | 0, _, w => w
  | n + 1, t, w => rCmp S G sc n (t + 1) (if sc t / 256 = (S.ty t).score / 256 then (if sc t = (S.ty t).score then w else wf w (plc G t (G.many t) (-1) + 1)) else wf w (plc G t (G.many t) (-1)))
def rRes (S : Ps) (G : Pg) (sc : Int32 → Int32) : Int32 := rCmp S G sc G.turns.toInt.toNat 0 (if S.rule = 0 then -1 else plc G S.bt S.bo S.be)
/-- the place of the first wrong byte, or -1 -/
def rWrong (s : Ps) (n : Int32) (A : Bk) : Int32 := if (rEnd A.tape n A).2 = 0 then rRes (s.play (rBody A.tape n A).2.1) (rBody A.tape n A).2.1 (rBody A.tape n A).2.2 else (rEnd A.tape n A).1
def aCheck (s : Ps) (n : Int32) (A : Bk) : Int32 × Bk := if 0 ≤ n ∧ n ≤ A.taped then (rWrong s n A + 1, A.sI 2 0) else (-1, A)
def aTake (s : Ps) (n : Int32) (A : Bk) : Int32 × Bk := if 0 ≤ n ∧ n ≤ A.taped ∧ A.games < 400 then (if rWrong s n A = -1 then (A.games, (A.sI 2 0).addG (rH2 A.tape n A.sides).1 (rH3 A.tape n A.sides).1 (rS2 A.tape n A).2 (rBody A.tape n A).2.1) else (-2 - rWrong s n A, A.sI 2 0)) else (-1, A)
/-! bounds -/
theorem rNext_lo {f : Int32 → Int32} {e lo hi : Int32} {r : Rh} : lo ≤ (rNext f e lo hi r).1 ∧ ((rNext f e lo hi r).2.2 = 0 → (rNext f e lo hi r).1 ≤ hi ∧ r.2 = 0 ∧ r.1 < e ∧ (rNext f e lo hi r).2.1 = r.1 + 1 ∧ (rNext f e lo hi r).1 = f r.1) := by
  unfold rNext
  by_cases c : r.2 = 0
  · rw [if_pos c]
    by_cases c2 : r.1 < e ∧ lo ≤ f r.1 ∧ f r.1 ≤ hi
    · rw [if_pos c2]
      exact ⟨c2.2.1, fun _ => ⟨c2.2.2, c, c2.1, rfl, rfl⟩⟩
    · rw [if_neg c2]
      exact ⟨Int32.le_refl _, fun q => absurd q (by show ¬ (1 : Int32) = 0; decide)⟩
  · rw [if_neg c]
    exact ⟨Int32.le_refl _, fun q => absurd q c⟩
theorem rNext_hi {f : Int32 → Int32} {e lo hi : Int32} {r : Rh} (h : lo ≤ hi) : (rNext f e lo hi r).1 ≤ hi := by
  unfold rNext
  by_cases c : r.2 = 0
  · rw [if_pos c]
    by_cases c2 : r.1 < e ∧ lo ≤ f r.1 ∧ f r.1 ≤ hi
    · rw [if_pos c2]; exact c2.2.2
    · rw [if_neg c2]; exact h
  · rw [if_neg c]; exact h
/-- a reader's place lies between 0 and the end -/
abbrev rIn (e : Int32) (r : Rh) : Prop := 0 ≤ r.1 ∧ r.1 ≤ e
theorem rNext_in {f : Int32 → Int32} {e lo hi : Int32} {r : Rh} (h : rIn e r) : rIn e (rNext f e lo hi r).2 := by
  unfold rNext
  by_cases c : r.2 = 0
  · rw [if_pos c]
    by_cases c2 : r.1 < e ∧ lo ≤ f r.1 ∧ f r.1 ≤ hi
    · rw [if_pos c2]
      refine ⟨i32_ps h.1 c2.1, ?_⟩
      have := i32_succ c2.1
      have := Int32.lt_iff_toInt_lt.mp c2.1
      exact Int32.le_iff_toInt_le.mpr (by show (r.1 + 1).toInt ≤ _; omega)
    · rw [if_neg c2]; exact h
  · rw [if_neg c]; exact h
theorem rNext_bad {f : Int32 → Int32} {e lo hi : Int32} {r : Rh} (h : r.2 ≠ 0) : rNext f e lo hi r = (lo, r) := if_neg h
