/-! The book: what both sides tell of -/
abbrev Bk : Type := (Nat → Int32) × (Nat → Int32 → Int32) × (Int32 → Int32 → Int32 → Int32) × (Int32 → Pg) × List (Int32 × Pg)
abbrev Bk.sides (A : Bk) : Int32 := A.1 0
abbrev Bk.games (A : Bk) : Int32 := A.1 1
abbrev Bk.taped (A : Bk) : Int32 := A.1 2
abbrev Bk.outs (A : Bk) : Int32 := A.1 3
abbrev Bk.why (A : Bk) : Int32 := A.1 4
abbrev Bk.pl (A : Bk) : Int32 → Int32 := A.2.1 0
abbrev Bk.tape (A : Bk) : Int32 → Int32 := A.2.1 1
abbrev Bk.out (A : Bk) : Int32 → Int32 := A.2.1 2
abbrev Bk.sd0 (A : Bk) : Int32 → Int32 := A.2.1 3
abbrev Bk.sd1 (A : Bk) : Int32 → Int32 := A.2.1 4
abbrev Bk.st (A : Bk) : Int32 → Int32 → Int32 → Int32 := A.2.2.1
abbrev Bk.pg (A : Bk) : Int32 → Pg := A.2.2.2.1
abbrev Bk.hi (A : Bk) : List (Int32 × Pg) := A.2.2.2.2
def Bk.sI (A : Bk) (k : Nat) (v : Int32) : Bk := (fun j => if j = k then v else A.1 j, A.2)
def Bk.sR (A : Bk) (k : Nat) (f : Int32 → Int32) : Bk := (A.1, fun j => if j = k then f else A.2.1 j, A.2.2)
def Bk.sS (A : Bk) (g : Int32) (f : Int32 → Int32 → Int32) : Bk := (A.1, A.2.1, fun g' => if g' = g then f else A.st g', A.2.2.2)
def upP (pg : Int32 → Pg) (g : Int32) (P : Pg) : Int32 → Pg := fun g' => if g' = g then P else pg g'
def Bk.sP (A : Bk) (g : Int32) (P : Pg) : Bk := (A.1, A.2.1, A.st, upP A.pg g P, A.hi)
def Bk.sH (A : Bk) (l : List (Int32 × Pg)) : Bk := (A.1, A.2.1, A.st, A.pg, l)
/-- a change of a page, kept -/
def Bk.chg (A : Bk) (g : Int32) (P : Pg) : Bk := (A.sP g P).sH (((g, A.pg g) :: A.hi).take 40)
/-- what is seen of two pages is the same -/
def PgEq (P R : Pg) : Prop := P.ovs = R.ovs ∧ P.each = R.each ∧ P.turns = R.turns ∧ ∀ t, inL P.turns t → P.many t = R.many t ∧ ∀ o, inL (P.many t) o → P.bow t o = R.bow t o ∧ P.siz t o = R.siz t o ∧ ∀ i, inL (P.siz t o) i → P.ent t o i = R.ent t o i
theorem PgEq.refl (P : Pg) : PgEq P P := ⟨rfl, rfl, rfl, fun _ _ => ⟨rfl, fun _ _ => ⟨rfl, rfl, fun _ _ => rfl⟩⟩⟩
theorem PgEq.gm {h : aH} {lb : Nat → Lab} {ad cp : Adr} {g sd0 sd1 : Int32} {st : Int32 → Int32 → Int32} {P R : Pg} (e : PgEq P R) (r : GmL h lb ad cp g sd0 sd1 st P) : GmL h lb ad cp g sd0 sd1 st R := by
  obtain ⟨e1, e2, e3, e4⟩ := e
  obtain ⟨r1, r2, r3, r4, r5, r6⟩ := r
  refine ⟨by rw [← e1, ← e2]; exact r1, r2, by rw [← e3]; exact r3, r4, r5, fun t t0 t1 => ?_⟩
  have t1 : t < P.turns := by rw [e3]; exact t1
  obtain ⟨m, em⟩ := e4 t ⟨t0, t1⟩
  obtain ⟨u1, u2, u3, u4, u5⟩ := r6 t t0 t1
  refine ⟨u1, by rw [← m]; exact u2, u3, u4, fun o o0 o1 => ?_⟩
  have o1 : o < P.many t := by rw [m]; exact o1
  obtain ⟨w1, w2, w3⟩ := em o ⟨o0, o1⟩
  have v := u5 o o0 o1
  refine ⟨?_, v.2⟩
  rw [← w1, ← w2]
  exact v.1.cg (fun i i0 i1 => (w3 i ⟨i0, i1⟩).symm)
theorem PgEq.ok {P R : Pg} (e : PgEq P R) (r : PgOK P) : PgOK R := by
  obtain ⟨e1, e2, e3, e4⟩ := e
  obtain ⟨r1, r2, r3, r4⟩ := r
  refine ⟨by rw [← e2]; exact r1, by rw [← e1]; exact r2, by rw [← e2, ← e3]; exact r3, fun t t0 t1 => ?_⟩
  have t1 : t < P.turns := by rw [e3]; exact t1
  obtain ⟨m, em⟩ := e4 t ⟨t0, t1⟩
  obtain ⟨v1, v2⟩ := r4 t t0 t1
  refine ⟨by rw [← m]; exact v1, fun o o0 o1 => ?_⟩
  have o1 : o < P.many t := by rw [m]; exact o1
  obtain ⟨w1, w2, w3⟩ := em o ⟨o0, o1⟩
  obtain ⟨y1, y2, y3⟩ := v2 o o0 o1
  refine ⟨by rw [← w1]; exact y1, by rw [← w2]; exact y2, fun i i0 i1 => ?_⟩
  have i1 : i < P.siz t o := by rw [w2]; exact i1
  rw [← w3 i ⟨i0, i1⟩]
  exact y3 i i0 i1
/-! the records, as one goes over all games -/
abbrev Rc : Type := (Int32 → Int32 → Int32) × (Int32 → Int32 → Int32)
abbrev md2 (t : Int32) : Int32 := t - t / 2 * 2
def rNote (f : Int32 → Int32 → Int32) (s n g t d p r : Int32) : Int32 → Int32 → Int32 := gS 4 6 (gS 4 6 (gS 4 6 (gS 4 6 (gS 4 6 (gS 4 6 f s 0 n) s 1 g) s 2 t) s 3 d) s 4 p) s 5 r
def rSeat1 (b p n g t : Int32) (R : Rc) : Rc := (if n ≤ R.1 0 0 then R.1 else rNote R.1 0 n g t b p 0, gAd 60 30 R.2 b p n)
def rSeat2 (f p v o w g t : Int32) (R : Rc) : Rc := if v ≤ 0 then R else if R.1 1 0 < o ∨ (o = R.1 1 0 ∧ w < R.1 1 5) then (rNote R.1 1 o g t f p w, R.2) else R
def rSeats (st : Int32 → Int32 → Int32) (b f : Int32) (T : Ty) (g t : Int32) : Nat → Int32 → Rc → Rc
  | 0, _, R => R
  | n + 1, k, R => rSeats st b f T g t n (k + 1) (rSeat2 f (st (1 - md2 t) k) (T.bow k 0) (T.bow k 2) (T.bow k 1) g t (rSeat1 b (st (md2 t) k) (T.bat k 0) g t R))
def rTurn (a b : Int32) (st : Int32 → Int32 → Int32) (T : Ty) (g t : Int32) (R : Rc) : Rc := rSeats st (if md2 t = 0 then a else b) (if 1 - md2 t = 0 then a else b) T g t 11 0 (if T.score ≤ R.1 2 0 then R else (rNote R.1 2 T.score g t (if md2 t = 0 then a else b) (-1) 0, R.2))
def rTurns (a b : Int32) (st : Int32 → Int32 → Int32) (S : Ps) (g : Int32) : Nat → Int32 → Rc → Rc
  | 0, _, R => R
  | n + 1, t, R => rTurns a b st S g n (t + 1) (rTurn a b st (S.ty t) g t R)
def rGames (A : Bk) (sf : Int32 → Ps) : Nat → Int32 → Rc → Rc
  | 0, _, R => R
  | n + 1, g, R => rGames A sf n (g + 1) (rTurns (A.sd0 g) (A.sd1 g) (A.st g) ((sf g).play (A.pg g)) g (A.pg g).turns.toInt.toNat 0 R)
def rPl (s : Int32) : Nat → Int32 → Rc → Rc
  | 0, _, R => R
  | n + 1, p, R => rPl s n (p + 1) (if R.2 s p ≤ R.1 3 0 then R else (rNote R.1 3 (R.2 s p) (-1) (-1) s p 0, R.2))
def rSides (A : Bk) : Nat → Int32 → Rc → Rc
  | 0, _, R => R
  | n + 1, s, R => rSides A n (s + 1) (rPl s (A.pl s).toInt.toNat 0 R)
def recs (A : Bk) (sf : Int32 → Ps) : Rc := rSides A A.sides.toInt.toNat 0 (rGames A sf A.games.toInt.toNat 0 (gAll 4 6 (-1), gAll 60 30 0))
/-! the class's heap holds the book -/
def PL (x : Nat) (h : aH) (lb : Nat → Lab) (ad cp : Adr) (A : Bk) : Prop := (∀ a, a < x + 229 → (lb a).1 = 0) ∧ Ls h (x + 2) (ad 4 0 0 0) (cp 4 0 0 0) A.games (fun g => ad 1 g 0 0) 5 ∧ (cp 4 0 0 0 ≠ 0 → lb (ad 4 0 0 0) = (4, 0, 0, 0)) ∧ ∀ g, 0 ≤ g → g < A.games → GmL h lb ad cp g (A.sd0 g) (A.sd1 g) (A.st g) (A.pg g)
def CI (x : Nat) (h : aH) (A : Bk) : Prop := hF h 1208 x = A.sides ∧ hF h 1209 x = A.why ∧ hF h 101 (x + 3) = A.taped ∧ hF h 101 (x + 5) = A.outs ∧ (∀ i, inL A.sides i → rdA h (x + 1) i = A.pl i) ∧ (∀ i, inL A.taped i → rdA h (x + 4) i = A.tape i) ∧ ∀ i, inL A.outs i → rdA h (x + 6) i = A.out i
/-- a change kept at a: it can be taken back, and what comes of that -/
def cok (h : aH) (a : Nat) (R : Pg) : Prop := (hF h 202 a = 0 ∧ 0 < R.turns ∧ hF h 203 a = R.turns - 1) ∨ (hF h 202 a = 1 ∧ inL R.turns (hF h 203 a) ∧ 0 < R.many (hF h 203 a)) ∨ (hF h 202 a = 2 ∧ inL R.turns (hF h 203 a) ∧ inL (R.many (hF h 203 a)) (hF h 204 a) ∧ -1 ≤ hF h 602 (a + 1) ∧ hF h 602 (a + 1) ≤ 40)
def capp (h : aH) (a : Nat) (R : Pg) : Pg := if hF h 202 a = 0 then R.subT else if hF h 202 a = 1 then R.subO (hF h 203 a) else R.edit (hF h 203 a) (hF h 204 a) (hF h 601 (a + 1)) (hF h 602 (a + 1)) (rdA h (a + 2))
def slt (x j i : Nat) : Nat := x + 9 + 3 * ((j + 40 - i) % 40)
def HCr (h : aH) (x j : Nat) : (Int32 → Pg) → Nat → List (Int32 × Pg) → Prop
  | _, _, [] => True
  | pg, i, (g, P) :: l => hF h 201 (slt x j i) = g ∧ cok h (slt x j i) (pg g) ∧ PgEq (capp h (slt x j i) (pg g)) P ∧ HCr h x j (upP pg g P) (i + 1) l
def HC (x : Nat) (h : aH) (A : Bk) : Prop := ∃ j, j < 40 ∧ hF h 301 (x + 7) = Int32.ofNat ((j + 1) % 40) ∧ hF h 302 (x + 7) = Int32.ofNat A.hi.length ∧ A.hi.length ≤ 40 ∧ HCr h x j A.pg 0 A.hi
def TyNs (s : Ps) : Prop := ∀ q, TyN (s.ty q)
def PC (x : Nat) (h : aH) (A : Bk) : Prop := hF h 1210 x = -1 ∨ (inL A.games (hF h 1210 x) ∧ ∃ s, TyNs s ∧ psOf (x + 129) h = s.play (A.pg (hF h 1210 x)))
def RC (x : Nat) (h : aH) (A : Bk) : Prop := hF h 1211 x = 0 → ∃ sf : Int32 → Ps, (∀ g, TyNs (sf g)) ∧ gv h (x + 168) 4 6 = (recs A sf).1
/-- what a book may hold -/
def BkOK (A : Bk) : Prop := (0 ≤ A.sides ∧ A.sides ≤ 60) ∧ (0 ≤ A.games ∧ A.games ≤ 400) ∧ (0 ≤ A.taped ∧ A.taped ≤ 6000) ∧ (0 ≤ A.outs ∧ A.outs ≤ 8000) ∧ (∀ i, inL A.sides i → 11 ≤ A.pl i ∧ A.pl i ≤ 30) ∧ (∀ i, inL A.taped i → 0 ≤ A.tape i ∧ A.tape i ≤ 255) ∧
  (∀ g, inL A.games g → PgOK (A.pg g) ∧ inL A.sides (A.sd0 g) ∧ inL A.sides (A.sd1 g) ∧ ∀ k, inL 11 k → inL (A.pl (A.sd0 g)) (A.st g 0 k) ∧ inL (A.pl (A.sd1 g)) (A.st g 1 k)) ∧ A.hi.length ≤ 40 ∧ ∀ q ∈ A.hi, inL A.games q.1 ∧ PgOK q.2
def CRp (x : Nat) (h : aH) (lb : Nat → Lab) (ad cp : Adr) (A : Bk) : Prop := FX x h ∧ PL x h lb ad cp A ∧ CI x h A ∧ HC x h A ∧ PC x h A ∧ RC x h A
def CR (x : Nat) (h : aH) (A : Bk) : Prop := ∃ lb ad cp, CRp x h lb ad cp A
/-! frames -/
/-- only ints of the fixed cells of S have changed -/
def frs (S : Nat → Prop) (x : Nat) (h h' : aH) : Prop := sst h h' ∧ ∀ b, (∀ k, S k → b ≠ x + k) → cel h h' b
theorem frs.refl {S : Nat → Prop} {x : Nat} {h : aH} : frs S x h h := ⟨sst.refl _, fun _ _ => cel.refl _ _⟩
theorem frs.trans {S : Nat → Prop} {x : Nat} {h h1 h2 : aH} (a : frs S x h h1) (b : frs S x h1 h2) : frs S x h h2 := ⟨a.1.trans b.1, fun q hq => (a.2 q hq).trans (b.2 q hq)⟩
theorem frs.wk {S R : Nat → Prop} {x : Nat} {h h' : aH} (a : frs S x h h') (f : ∀ k, S k → R k) : frs R x h h' := ⟨a.1, fun b hb => a.2 b (fun k hk => hb k (f k hk))⟩
theorem frs_sF {S : Nat → Prop} {x k f : Nat} {h : aH} {v : Int32} (hk : S k) (hf : f ≠ 500 ∧ f ≠ 501) : frs S x h (sF h f (x + k) v) := ⟨sst_sF, fun b hb => cel_sF (hb k hk)⟩
theorem frs_sF0 {S : Nat → Prop} {x f : Nat} {h : aH} {v : Int32} (hk : S 0) (hf : f ≠ 500 ∧ f ≠ 501) : frs S x h (sF h f x v) := frs_sF (k := 0) hk hf
theorem frs_sI {S : Nat → Prop} {x k i : Nat} {h : aH} {v : Int32} (hk : S k) : frs S x h (sI h (x + k) i v) := ⟨⟨rfl, rfl, rfl, rfl⟩, fun b hb => cel_sI (hb k hk)⟩
theorem frs_wr {S : Nat → Prop} {x k : Nat} {i : Int32} {h : aH} {v : Int32} (hk : S k) : frs S x h (wrA h (x + k) i v) := frs_sI hk
theorem frs.c {S : Nat → Prop} {x k : Nat} {h h' : aH} (a : frs S x h h') (hk : ¬ S k) : cel h h' (x + k) := a.2 _ (fun j hj e => hk (by rw [show k = j by omega]; exact hj))
theorem frs.sc {S : Nat → Prop} {x : Nat} {h h' : aH} (a : frs S x h h') (b : Nat) : scl h h' b := ⟨by rw [a.1.K], by rw [a.1.N], fun i => by rw [a.1.O], fun f _ _ => by rw [a.1.G]⟩
theorem FX.fs {S : Nat → Prop} {x : Nat} {h h' : aH} (r : FX x h) (a : frs S x h h') (hS : ∀ k, S k → (k < 129 ∨ 166 ≤ k) ∧ k ≠ 167 ∧ k ≠ 169) : FX x h' := by
  refine r.mv (fun b _ _ _ => a.sc b) (fun b hb f => (a.2 b (fun k hk e => by have := hS k hk; omega)).F f) (r.2.2.2.2.2.1.cl (fun b b0 b1 => a.2 b (fun k hk e => ?_))) a.1.E (by rw [a.1.z]; exact Nat.le_refl _)
  have := hS k hk
  omega
theorem FX.zE {x : Nat} {h : aH} (r : FX x h) : hE h < hz h := by
  have := r.2.2.2.2.2.2.2.2
  omega
theorem PL.fs {S : Nat → Prop} {x : Nat} {h h' : aH} {lb : Nat → Lab} {ad cp : Adr} {A : Bk} (r : PL x h lb ad cp A) (a : frs S x h h') (hS : ∀ k, S k → k < 229 ∧ k ≠ 2) : PL x h' lb ad cp A := by
  obtain ⟨r1, r2, r3, r4⟩ := r
  have k : kpL lb (fun L => L.1 ≠ 0) h h' := ⟨by rw [a.1.z]; exact Nat.le_refl _, a.1.E, fun b _ hb => a.2 b (fun k hk e => hb (by
    have := hS k hk
    exact r1 b (by omega)))⟩
  refine ⟨r1, r2.mv2 k.1 k.2.1 (a.c (fun q => (hS 2 q).2 rfl)) (fun hc => k.2.2 _ r2.1.2.2.2.2 (by rw [r3 hc]; decide)) (fun i _ _ => by rw [a.1.K]) (fun _ _ _ => rfl), r3, fun g g0 g1 => ?_⟩
  exact (r4 g g0 g1).mv k (fun _ _ => rfl) (fun k t o hk _ => by show k ≠ 0; omega) (fun _ _ _ _ _ => ⟨rfl, rfl⟩)
theorem PL.cg {x : Nat} {h : aH} {lb : Nat → Lab} {ad cp : Adr} {A B : Bk} (r : PL x h lb ad cp A) (e1 : B.games = A.games) (e2 : ∀ g, inL A.games g → B.sd0 g = A.sd0 g ∧ B.sd1 g = A.sd1 g ∧ B.st g = A.st g ∧ B.pg g = A.pg g) : PL x h lb ad cp B := by
  refine ⟨r.1, by rw [e1]; exact r.2.1, r.2.2.1, fun g g0 g1 => ?_⟩
  rw [e1] at g1
  obtain ⟨q1, q2, q3, q4⟩ := e2 g ⟨g0, g1⟩
  rw [q1, q2, q3, q4]
  exact r.2.2.2 g g0 g1
theorem CI.mv {x : Nat} {h h' : aH} {A : Bk} (r : CI x h A) (c0 : hF h' 1208 x = hF h 1208 x ∧ hF h' 1209 x = hF h 1209 x) (c1 : cel h h' (x + 1)) (c3 : cel h h' (x + 3)) (c4 : cel h h' (x + 4)) (c5 : cel h h' (x + 5)) (c6 : cel h h' (x + 6)) : CI x h' A := by
  obtain ⟨r1, r2, r3, r4, r5, r6, r7⟩ := r
  exact ⟨by rw [c0.1]; exact r1, by rw [c0.2]; exact r2, by rw [c3.F]; exact r3, by rw [c5.F]; exact r4, fun i hi => by rw [c1.A]; exact r5 i hi, fun i hi => by rw [c4.A]; exact r6 i hi, fun i hi => by rw [c6.A]; exact r7 i hi⟩
theorem HCr.mv {h h' : aH} {x j : Nat} : ∀ (l : List (Int32 × Pg)) (pg : Int32 → Pg) (i : Nat), HCr h x j pg i l → (∀ i', i ≤ i' → i' < i + l.length → cel h h' (slt x j i') ∧ cel h h' (slt x j i' + 1) ∧ cel h h' (slt x j i' + 2)) → HCr h' x j pg i l
  | [], _, _, _, _ => trivial
  | (g, P) :: l, pg, i, r, c => by
    obtain ⟨r1, r2, r3, r4⟩ := r
    obtain ⟨c0, c1, c2⟩ := c i (Nat.le_refl _) (by simp)
    have e3 : rdA h' (slt x j i + 2) = rdA h (slt x j i + 2) := funext (fun q => c2.A q)
    refine ⟨by rw [c0.F]; exact r1, ?_, ?_, HCr.mv l _ _ r4 (fun i' a b => c i' (by omega) (by simp; omega))⟩
    · unfold cok
      rw [c0.F, c0.F, c0.F, c1.F]
      exact r2
    · unfold capp
      rw [c0.F, c0.F, c0.F, c1.F, c1.F, e3]
      exact r3
theorem HCr.pg {h : aH} {x j : Nat} : ∀ (l : List (Int32 × Pg)) (pg pg' : Int32 → Pg) (i : Nat), HCr h x j pg i l → (∀ q ∈ l, pg' q.1 = pg q.1) → HCr h x j pg' i l
  | [], _, _, _, _, _ => trivial
  | (g, P) :: l, pg, pg', i, r, c => by
    obtain ⟨r1, r2, r3, r4⟩ := r
    have e : pg' g = pg g := c (g, P) (by simp)
    refine ⟨r1, by rw [e]; exact r2, by rw [e]; exact r3, HCr.pg l _ _ _ r4 (fun q hq => ?_)⟩
    unfold upP
    by_cases z : q.1 = g
    · rw [if_pos z, if_pos z]
    · rw [if_neg z, if_neg z]
      exact c q (by simp [hq])
theorem slt_in {x j i : Nat} (hj : j < 40) : x + 9 ≤ slt x j i ∧ slt x j i + 2 < x + 129 := by
  unfold slt
  omega
theorem HC.mv {x : Nat} {h h' : aH} {A : Bk} (r : HC x h A) (c7 : cel h h' (x + 7)) (c : ∀ k, 9 ≤ k → k < 129 → cel h h' (x + k)) : HC x h' A := by
  obtain ⟨j, j1, j2, j3, j4, j5⟩ := r
  refine ⟨j, j1, by rw [c7.F]; exact j2, by rw [c7.F]; exact j3, j4, HCr.mv _ _ _ j5 (fun i' _ _ => ?_)⟩
  have := slt_in (x := x) (i := i') j1
  have cc : ∀ b, x + 9 ≤ b → b < x + 129 → cel h h' b := fun b b0 b1 => by
    have := c (b - x) (by omega) (by omega)
    rw [show x + (b - x) = b by omega] at this
    exact this
  exact ⟨cc _ (by omega) (by omega), cc _ (by omega) (by omega), cc _ (by omega) (by omega)⟩
theorem PC.mv {x : Nat} {h h' : aH} {A : Bk} (r : PC x h A) (c0 : hF h' 1210 x = hF h 1210 x) (c : psOf (x + 129) h' = psOf (x + 129) h) : PC x h' A := by
  unfold PC
  rw [c0, c]
  exact r
theorem RC.mv {x : Nat} {h h' : aH} {A : Bk} (r : RC x h A) (c0 : hF h' 1211 x = hF h 1211 x) (c : cel h h' (x + 168)) : RC x h' A := by
  unfold RC
  rw [c0, gv_cel c]
  exact r
theorem rGames_cg {A B : Bk} {sf : Int32 → Ps} (e3 : B.sd0 = A.sd0) (e4 : B.sd1 = A.sd1) (e5 : B.st = A.st) (e6 : B.pg = A.pg) : ∀ n g R, rGames B sf n g R = rGames A sf n g R
  | 0, _, _ => rfl
  | n + 1, g, R => by
    unfold rGames
    rw [e3, e4, e5, e6]
    exact rGames_cg e3 e4 e5 e6 n _ _
theorem rSides_cg {A B : Bk} (e2 : B.pl = A.pl) : ∀ n g R, rSides B n g R = rSides A n g R
  | 0, _, _ => rfl
  | n + 1, g, R => by
    unfold rSides
    rw [e2]
    exact rSides_cg e2 n _ _
theorem recs_cg {A B : Bk} {sf : Int32 → Ps} (e0 : B.sides = A.sides) (e1 : B.games = A.games) (e2 : B.pl = A.pl) (e3 : B.sd0 = A.sd0) (e4 : B.sd1 = A.sd1) (e5 : B.st = A.st) (e6 : B.pg = A.pg) : recs B sf = recs A sf := by
  unfold recs
  rw [rSides_cg e2, rGames_cg e3 e4 e5 e6, e0, e1]
theorem RC.cg {x : Nat} {h : aH} {A B : Bk} (r : RC x h A) (e0 : B.sides = A.sides) (e1 : B.games = A.games) (e2 : B.pl = A.pl) (e3 : B.sd0 = A.sd0) (e4 : B.sd1 = A.sd1) (e5 : B.st = A.st) (e6 : B.pg = A.pg) : RC x h B := fun q => by
  obtain ⟨sf, s1, s2⟩ := r q
  exact ⟨sf, s1, by rw [recs_cg e0 e1 e2 e3 e4 e5 e6]; exact s2⟩
theorem RC.old {x : Nat} {h : aH} {A : Bk} (e : hF h 1211 x = 1) : RC x h A := fun q => by rw [e] at q; exact absurd q (by decide)
theorem PC.old {x : Nat} {h : aH} {A : Bk} (e : hF h 1210 x = -1) : PC x h A := Or.inl e
