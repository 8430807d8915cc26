/-! Play: the state of the class's Play as a record -/
abbrev Ps : Type := (Nat → Int32) × (Int32 → Ty)
abbrev Ps.gov (s : Ps) : Int32 := s.1 0
abbrev Ps.last (s : Ps) : Int32 := s.1 1
abbrev Ps.hand (s : Ps) : Int32 := s.1 2
abbrev Ps.won (s : Ps) : Int32 := s.1 3
abbrev Ps.rule (s : Ps) : Int32 := s.1 4
abbrev Ps.bt (s : Ps) : Int32 := s.1 5
abbrev Ps.bo (s : Ps) : Int32 := s.1 6
abbrev Ps.be (s : Ps) : Int32 := s.1 7
abbrev Ps.ty (s : Ps) : Int32 → Ty := s.2
def Ps.sI (s : Ps) (k : Nat) (v : Int32) : Ps := (fun j => if j = k then v else s.1 j, s.2)
def Ps.sTy (s : Ps) (t : Int32) (T : Ty) : Ps := (s.1, fun t' => if t' = t then T else s.2 t')
abbrev Ps.sGov (s : Ps) (v : Int32) : Ps := Ps.sI s 0 v
abbrev Ps.sLast (s : Ps) (v : Int32) : Ps := Ps.sI s 1 v
abbrev Ps.sHand (s : Ps) (v : Int32) : Ps := Ps.sI s 2 v
abbrev Ps.sWon (s : Ps) (v : Int32) : Ps := Ps.sI s 3 v
abbrev Ps.sRule (s : Ps) (v : Int32) : Ps := Ps.sI s 4 v
abbrev Ps.sBt (s : Ps) (v : Int32) : Ps := Ps.sI s 5 v
abbrev Ps.sBo (s : Ps) (v : Int32) : Ps := Ps.sI s 6 v
abbrev Ps.sBe (s : Ps) (v : Int32) : Ps := Ps.sI s 7 v
def ta (p : Nat) (t : Int32) : Nat := if t = 0 then p + 9 else if t = 1 then p + 16 else if t = 2 then p + 23 else if t = 3 then p + 30 else p + 2
def psOf (p : Nat) (h : aH) : Ps := (fun k => if k < 8 then hF h (702 + k) p else 0, fun t => tyOf (ta p t) h)
abbrev Pg : Type := Int32 × Int32 × Int32 × (Int32 → Int32) × (Int32 → Int32 → Int32) × (Int32 → Int32 → Int32) × (Int32 → Int32 → Int32 → Int32)
abbrev Pg.ovs (g : Pg) : Int32 := g.1
abbrev Pg.each (g : Pg) : Int32 := g.2.1
abbrev Pg.turns (g : Pg) : Int32 := g.2.2.1
abbrev Pg.many (g : Pg) : Int32 → Int32 := g.2.2.2.1
abbrev Pg.bow (g : Pg) : Int32 → Int32 → Int32 := g.2.2.2.2.1
abbrev Pg.siz (g : Pg) : Int32 → Int32 → Int32 := g.2.2.2.2.2.1
abbrev Pg.ent (g : Pg) : Int32 → Int32 → Int32 → Int32 := g.2.2.2.2.2.2

def Ps.target (s : Ps) : Int32 := if s.last ≤ 1 then (if (s.ty 1).means ≤ (s.ty 0).means then (if (s.ty 0).means ≤ 0 then 1 else (s.ty 0).score * (s.ty 1).means / (s.ty 0).means + 1) else (s.ty 0).score + 200 * ((s.ty 1).means - (s.ty 0).means) / 1000 + 1) else (s.ty 0).score + (s.ty 2).score - (s.ty 1).score + 1
def Ps.findW (s : Ps) : Ps := if s.hand = s.last then (if 0 < s.target - (s.ty s.hand).score then (if s.target - (s.ty s.hand).score = 1 then s.sWon 3 else s.sWon 1) else s.sWon 2) else if s.hand = 2 then (if 1 ≤ s.target then s else s.sWon 2) else s
def Ps.end84 (s : Ps) : Ps := if (s.ty s.hand).ended = 0 then s else s.findW
def Ps.sEnd (s : Ps) (v : Int32) : Ps := s.sTy s.hand ((s.ty s.hand).sEnded v)
def Ps.end39 (c : Int32) (s : Ps) : Ps := if (s.ty s.hand).outs < 10 then (if c = 0 then (if (s.ty s.hand).whole < (s.ty s.hand).allowed then s.end84 else (s.sEnd 2).end84) else (s.sEnd 3).end84) else (s.sEnd 1).end84
def Ps.endT (c : Int32) (s : Ps) : Ps := if s.hand = s.last then (if (s.ty s.hand).score < s.target then s.end39 c else (s.sEnd 4).end84) else s.end39 c
def Ps.ruleT (t : Int32) (s : Ps) : Int32 := if t ≤ 0 ∨ ¬ (s.ty (t - 1)).ended = 0 then (if s.won = 0 ∧ t ≤ s.last then 0 else 2) else 1
def Ps.ruleO (b : Int32) (s : Ps) : Int32 := (s.ty s.hand).ruleO b ((s.gov + 4) / 5)
def Ps.ruleE (c : Int32) (s : Ps) : Int32 := (s.ty s.hand).ruleE c (if s.last = 1 then 1 else 0)
def Ps.stop (r t o i : Int32) (s : Ps) : Ps := (((s.sRule r).sBt t).sBo o).sBe i
def Ps.begT (t : Int32) (s : Ps) : Ps := (s.sHand t).sTy t ((s.ty t).begin (if t = 1 ∧ s.last = 1 then (s.ty 0).allowed else s.gov))
def Ps.clr : Nat → Int32 → Ps → Ps
  | 0, _, s => s
  | n + 1, t, s => Ps.clr n (t + 1) (s.sTy t (s.ty t).clear)
def Ps.start (g : Pg) (s : Ps) : Ps := Ps.clr g.turns.toInt.toNat 0 ((((((((s.sGov g.ovs).sLast (2 * g.each - 1)).sHand (-1)).sWon 0).sRule 0).sBt (-1)).sBo (-1)).sBe (-1))
def Ps.plE (g : Pg) (t o : Int32) : Nat → Int32 → Ps → Ps
  | 0, _, s => s
  | n + 1, i, s => if s.ruleE (g.ent t o i) = 0 then Ps.plE g t o n (i + 1) (Ps.endT (if g.ent t o i / 16 = 9 then 1 else 0) (s.sTy t ((s.ty t).ent (g.ent t o i)))) else s.stop (s.ruleE (g.ent t o i)) t o i
def Ps.begO (g : Pg) (t o : Int32) (s : Ps) : Ps := (s.sTy t ((s.ty t).begO (g.bow t o) (g.siz t o))).endT 0
def Ps.plO (g : Pg) (t : Int32) : Nat → Int32 → Ps → Ps
  | 0, _, s => s
  | n + 1, o, s => if s.ruleO (g.bow t o) = 0 then (if (Ps.plE g t o (g.siz t o).toInt.toNat 0 (s.begO g t o)).rule = 0 then Ps.plO g t n (o + 1) (Ps.plE g t o (g.siz t o).toInt.toNat 0 (s.begO g t o)) else Ps.plE g t o (g.siz t o).toInt.toNat 0 (s.begO g t o)) else s.stop (s.ruleO (g.bow t o)) t o (-1)
def Ps.plT (g : Pg) : Nat → Int32 → Ps → Ps
  | 0, _, s => s
  | n + 1, t, s => if s.ruleT t = 0 then (if (Ps.plO g t (g.many t).toInt.toNat 0 (s.begT t)).rule = 0 then Ps.plT g n (t + 1) (Ps.plO g t (g.many t).toInt.toNat 0 (s.begT t)) else Ps.plO g t (g.many t).toInt.toNat 0 (s.begT t)) else s.stop (s.ruleT t) t (-1) (-1)
def Ps.play (g : Pg) (s : Ps) : Ps := Ps.plT g g.turns.toInt.toNat 0 (s.start g)
def Ps.had (s : Ps) : Int32 := if (s.ty s.hand).ended = 0 then 6 * (s.ty s.hand).left else 0
def Ps.chase (w : Int32) (s : Ps) : Int32 := if w = 6 then s.target else if w = 7 then (if s.target - (s.ty s.hand).score < 0 then 0 else s.target - (s.ty s.hand).score) else if s.had < (if s.target - (s.ty s.hand).score < 0 then 0 else s.target - (s.ty s.hand).score) then 0 else 1
def Ps.figH (w : Int32) (s : Ps) : Int32 := if w = 1 then (s.ty s.hand).faces else if w = 2 then (s.ty s.hand).other else if w = 3 then (s.ty s.hand).bowler else if w = 4 then (s.ty s.hand).left else if w = 5 then (s.ty s.hand).ended else if w = 9 then (s.ty s.hand).score + s.had else if s.hand = s.last then s.chase w else -1
def Ps.fig (w : Int32) (s : Ps) : Int32 := if w = 0 then s.hand else if w = 10 then s.won else if w = 11 then s.rule else if w = 12 then s.bt else if w = 13 then s.bo else if w = 14 then s.be else if s.hand = -1 then -1 else s.figH w
def PS (p : Nat) (h : aH) : Prop := hK h p = 8 ∧ hG h 700 p = some (p + 1) ∧ hG h 701 p = some (p + 2) ∧ hK h (p + 1) = 25 ∧ hN h (p + 1) = 4 ∧ (hO h (p + 1) 0 = some (p + 9) ∧ hO h (p + 1) 1 = some (p + 16) ∧ hO h (p + 1) 2 = some (p + 23) ∧ hO h (p + 1) 3 = some (p + 30)) ∧ ∀ t, TS (ta p t) h
def PSt (p : Nat) (h0 h : aH) (s : Ps) : Prop := PS p h ∧ frn p 37 h0 h ∧ psOf p h = s
def GP (p : Nat) (h0 : aH) (X : Option aH) (s : Ps) : Prop := ∃ h', X = some h' ∧ PSt p h0 h' s
theorem ta_in (p : Nat) (t : Int32) : p + 2 ≤ ta p t ∧ ta p t + 7 ≤ p + 37 := by
  unfold ta
  repeat' split
  all_goals omega
theorem ta_sep {p : Nat} {t t' : Int32} (h1 : 0 ≤ t) (h2 : t < 4) (hn : t' ≠ t) : ta p t + 7 ≤ ta p t' ∨ ta p t' + 7 ≤ ta p t := by
  unfold ta
  repeat' split
  all_goals first | omega | (exfalso; grind)
theorem TS.out {a : Nat} {h h' : aH} {lo n : Nat} (s : TS a h) (f : frn lo n h h') (ho : a + 7 ≤ lo ∨ lo + n ≤ a) : TS a h' := by
  obtain ⟨s1, s2, s3, s4, s5, s6, s7⟩ := s
  exact ⟨by rw [f.1.K]; exact s1, by rw [f.1.G]; exact s2, by rw [f.1.G]; exact s3, by rw [f.1.G]; exact s4, s5.out f (by omega), s6.out f (by omega), s7.out f (by omega)⟩
theorem tyOf_out {a : Nat} {h h' : aH} {lo n : Nat} (f : frn lo n h h') (ho : a + 7 ≤ lo ∨ lo + n ≤ a) : tyOf a h' = tyOf a h := by
  refine Ty.ext2 (fun j => ?_) (fun j => ?_)
  · show (if j < 16 then hF h' (1003 + j) a else 0) = if j < 16 then hF h (1003 + j) a else 0
    rw [f.F (q := a) (by omega)]
  · show (if j = 0 then gv h' (a + 2) 11 3 else if j = 1 then gv h' (a + 4) 11 3 else if j = 2 then gv h' (a + 6) 120 5 else fun _ _ => 0) = if j = 0 then gv h (a + 2) 11 3 else if j = 1 then gv h (a + 4) 11 3 else if j = 2 then gv h (a + 6) 120 5 else fun _ _ => 0
    rw [gv_out (b := a + 2) f (by omega), gv_out (b := a + 4) f (by omega), gv_out (b := a + 6) f (by omega)]
theorem PS.F {p : Nat} {h : aH} {v : Int32} {k : Nat} (s : PS p h) : PS p (sF h k p v) := by
  obtain ⟨s1, s2, s3, s4, s5, s6, s7⟩ := s
  exact ⟨s1, s2, s3, s4, s5, s6, fun t => (s7 t).out (frn_sF (lo := p) (n := 1) ⟨Nat.le_refl _, by omega⟩) (Or.inr (by have := ta_in p t; omega))⟩
theorem c_tallyAt {p : Nat} {h : aH} (s : PS p h) (t : Int32) : F_X6_tallyAt p t h = some (some (ta p t), h) := by
  obtain ⟨s1, s2, s3, s4, s5, ⟨o0, o1, o2, o3⟩, s7⟩ := s
  unfold F_X6_tallyAt ta
  by_cases c1 : t < 0
  · rw [if_pos c1, s3, if_neg (by grind), if_neg (by grind), if_neg (by grind), if_neg (by grind)]; rfl
  rw [if_neg c1]
  by_cases c2 : 4 ≤ t
  · rw [if_pos c2, s3, if_neg (by grind), if_neg (by grind), if_neg (by grind), if_neg (by grind)]; rfl
  rw [if_neg c2, s2, Option.bind_some, ck_t ⟨s4, by rw [s5]; exact in_nat (m := 4) (by decide) ⟨le_of_nlt c1, lt_of_nle c2⟩⟩]
  by_cases e0 : t = 0
  · subst e0; rw [show Int32.toNatClampNeg 0 = 0 from by decide, o0]; rfl
  by_cases e1 : t = 1
  · subst e1; rw [show Int32.toNatClampNeg 1 = 1 from by decide, o1]; rfl
  by_cases e2 : t = 2
  · subst e2; rw [show Int32.toNatClampNeg 2 = 2 from by decide, o2]; rfl
  by_cases e3 : t = 3
  · subst e3; rw [show Int32.toNatClampNeg 3 = 3 from by decide, o3]; rfl
  exfalso; grind
theorem psOf_sF {p : Nat} {h : aH} {v : Int32} {k : Nat} (hk : k < 8) : psOf p (sF h (702 + k) p v) = Ps.sI (psOf p h) k v := by
  refine Prod.ext (funext fun j => ?_) (funext fun t => ?_)
  · show (if j < 8 then (if 702 + j = 702 + k ∧ p = p then v else hF h (702 + j) p) else 0) = if j = k then v else if j < 8 then hF h (702 + j) p else 0
    by_cases c : j = k
    · subst c
      rw [if_pos hk, if_pos ⟨rfl, rfl⟩, if_pos rfl]
    · rw [if_neg c]
      by_cases c2 : j < 8
      · rw [if_pos c2, if_pos c2, if_neg (fun q => c (by omega))]
      · rw [if_neg c2, if_neg c2]
  · exact tyOf_out (frn_sF (lo := p) (n := 1) ⟨Nat.le_refl _, by omega⟩) (Or.inr (by have := ta_in p t; omega))
section PStep
variable {p : Nat} {h0 h : aH} {s s' : Ps}
theorem PSt.K (q : PSt p h0 h s) : hK h p = 8 := q.1.1
theorem PSt.KT (q : PSt p h0 h s) (t : Int32) : hK h (ta p t) = 11 := (q.1.2.2.2.2.2.2 t).1
theorem PSt.T (q : PSt p h0 h s) (t : Int32) : St (ta p t) h h (s.ty t) := ⟨q.1.2.2.2.2.2.2 t, frn.refl _ _ _, by rw [← q.2.2]; rfl⟩
theorem pst_T (q : PSt p h0 h s) {t : Int32} (h1 : 0 ≤ t) (h2 : t < 4) {h' : aH} {T : Ty} (c : St (ta p t) h h' T) : PSt p h0 h' (s.sTy t T) := by
  obtain ⟨⟨s1, s2, s3, s4, s5, s6, s7⟩, sf, st⟩ := q
  obtain ⟨c1, c2, c3⟩ := c
  have hi := ta_in p t
  refine ⟨⟨by rw [c2.1.K]; exact s1, by rw [c2.1.G]; exact s2, by rw [c2.1.G]; exact s3, by rw [c2.1.K]; exact s4, by rw [c2.1.N]; exact s5, by rw [c2.1.O]; exact s6, ?_⟩, sf.trans (c2.wide (by omega) (by omega)), ?_⟩
  · intro t'
    by_cases e : t' = t
    · rw [e]; exact c1
    · exact (s7 t').out c2 ((ta_sep h1 h2 e).symm.imp id id)
  · rw [← st]
    refine Prod.ext (funext fun j => ?_) (funext fun t' => ?_)
    · show (if j < 8 then hF h' (702 + j) p else 0) = if j < 8 then hF h (702 + j) p else 0
      rw [c2.F (q := p) (by omega)]
    · show tyOf (ta p t') h' = if t' = t then T else tyOf (ta p t') h
      by_cases e : t' = t
      · rw [if_pos e, e]; exact c3
      · rw [if_neg e]
        exact tyOf_out c2 ((ta_sep h1 h2 e).symm.imp id id)
theorem PSt.gov (q : PSt p h0 h s) : hF h 702 p = s.gov := by rw [← q.2.2]; rfl
theorem PSt.last (q : PSt p h0 h s) : hF h 703 p = s.last := by rw [← q.2.2]; rfl
theorem PSt.hand (q : PSt p h0 h s) : hF h 704 p = s.hand := by rw [← q.2.2]; rfl
theorem PSt.won (q : PSt p h0 h s) : hF h 705 p = s.won := by rw [← q.2.2]; rfl
theorem PSt.rule (q : PSt p h0 h s) : hF h 706 p = s.rule := by rw [← q.2.2]; rfl
theorem PSt.bt (q : PSt p h0 h s) : hF h 707 p = s.bt := by rw [← q.2.2]; rfl
theorem PSt.bo (q : PSt p h0 h s) : hF h 708 p = s.bo := by rw [← q.2.2]; rfl
theorem PSt.be (q : PSt p h0 h s) : hF h 709 p = s.be := by rw [← q.2.2]; rfl
theorem pst_gov (q : PSt p h0 h s) (v : Int32) : PSt p h0 (sF h 702 p v) (s.sGov v) := by
  refine ⟨q.1.F, q.2.1.trans (frn_sF ⟨Nat.le_refl _, by omega⟩), ?_⟩
  rw [← q.2.2]
  exact psOf_sF (k := 0) (by decide)
theorem gp_gov (q : PSt p h0 h s) {v : Int32} {f : aH → Option aH} (kk : ∀ h1, PSt p h0 h1 (s.sGov v) → GP p h0 (f h1) s') : GP p h0 (bd (sF h 702 p v) f) s' := kk _ (pst_gov q v)
theorem pst_last (q : PSt p h0 h s) (v : Int32) : PSt p h0 (sF h 703 p v) (s.sLast v) := by
  refine ⟨q.1.F, q.2.1.trans (frn_sF ⟨Nat.le_refl _, by omega⟩), ?_⟩
  rw [← q.2.2]
  exact psOf_sF (k := 1) (by decide)
theorem gp_last (q : PSt p h0 h s) {v : Int32} {f : aH → Option aH} (kk : ∀ h1, PSt p h0 h1 (s.sLast v) → GP p h0 (f h1) s') : GP p h0 (bd (sF h 703 p v) f) s' := kk _ (pst_last q v)
theorem pst_hand (q : PSt p h0 h s) (v : Int32) : PSt p h0 (sF h 704 p v) (s.sHand v) := by
  refine ⟨q.1.F, q.2.1.trans (frn_sF ⟨Nat.le_refl _, by omega⟩), ?_⟩
  rw [← q.2.2]
  exact psOf_sF (k := 2) (by decide)
theorem gp_hand (q : PSt p h0 h s) {v : Int32} {f : aH → Option aH} (kk : ∀ h1, PSt p h0 h1 (s.sHand v) → GP p h0 (f h1) s') : GP p h0 (bd (sF h 704 p v) f) s' := kk _ (pst_hand q v)
theorem pst_won (q : PSt p h0 h s) (v : Int32) : PSt p h0 (sF h 705 p v) (s.sWon v) := by
  refine ⟨q.1.F, q.2.1.trans (frn_sF ⟨Nat.le_refl _, by omega⟩), ?_⟩
  rw [← q.2.2]
  exact psOf_sF (k := 3) (by decide)
theorem gp_won (q : PSt p h0 h s) {v : Int32} {f : aH → Option aH} (kk : ∀ h1, PSt p h0 h1 (s.sWon v) → GP p h0 (f h1) s') : GP p h0 (bd (sF h 705 p v) f) s' := kk _ (pst_won q v)
theorem pst_rule (q : PSt p h0 h s) (v : Int32) : PSt p h0 (sF h 706 p v) (s.sRule v) := by
  refine ⟨q.1.F, q.2.1.trans (frn_sF ⟨Nat.le_refl _, by omega⟩), ?_⟩
  rw [← q.2.2]
  exact psOf_sF (k := 4) (by decide)
theorem gp_rule (q : PSt p h0 h s) {v : Int32} {f : aH → Option aH} (kk : ∀ h1, PSt p h0 h1 (s.sRule v) → GP p h0 (f h1) s') : GP p h0 (bd (sF h 706 p v) f) s' := kk _ (pst_rule q v)
theorem pst_bt (q : PSt p h0 h s) (v : Int32) : PSt p h0 (sF h 707 p v) (s.sBt v) := by
  refine ⟨q.1.F, q.2.1.trans (frn_sF ⟨Nat.le_refl _, by omega⟩), ?_⟩
  rw [← q.2.2]
  exact psOf_sF (k := 5) (by decide)
theorem gp_bt (q : PSt p h0 h s) {v : Int32} {f : aH → Option aH} (kk : ∀ h1, PSt p h0 h1 (s.sBt v) → GP p h0 (f h1) s') : GP p h0 (bd (sF h 707 p v) f) s' := kk _ (pst_bt q v)
theorem pst_bo (q : PSt p h0 h s) (v : Int32) : PSt p h0 (sF h 708 p v) (s.sBo v) := by
  refine ⟨q.1.F, q.2.1.trans (frn_sF ⟨Nat.le_refl _, by omega⟩), ?_⟩
  rw [← q.2.2]
  exact psOf_sF (k := 6) (by decide)
theorem gp_bo (q : PSt p h0 h s) {v : Int32} {f : aH → Option aH} (kk : ∀ h1, PSt p h0 h1 (s.sBo v) → GP p h0 (f h1) s') : GP p h0 (bd (sF h 708 p v) f) s' := kk _ (pst_bo q v)
theorem pst_be (q : PSt p h0 h s) (v : Int32) : PSt p h0 (sF h 709 p v) (s.sBe v) := by
  refine ⟨q.1.F, q.2.1.trans (frn_sF ⟨Nat.le_refl _, by omega⟩), ?_⟩
  rw [← q.2.2]
  exact psOf_sF (k := 7) (by decide)
theorem gp_be (q : PSt p h0 h s) {v : Int32} {f : aH → Option aH} (kk : ∀ h1, PSt p h0 h1 (s.sBe v) → GP p h0 (f h1) s') : GP p h0 (bd (sF h 709 p v) f) s' := kk _ (pst_be q v)
theorem gp_K (q : PSt p h0 h s) {f : Unit → Option aH} (kk : GP p h0 (f ()) s') : GP p h0 ((ck (hK h p = 8)).bind f) s' := by rw [ck_t q.K]; exact kk
theorem gp_KT (q : PSt p h0 h s) {t : Int32} {f : Unit → Option aH} (kk : GP p h0 (f ()) s') : GP p h0 ((ck (hK h (ta p t) = 11)).bind f) s' := by rw [ck_t (q.KT t)]; exact kk
theorem gp_ck {P : Prop} [Decidable P] (hp : P) {f : Unit → Option aH} (kk : GP p h0 (f ()) s') : GP p h0 ((ck P).bind f) s' := by rw [ck_t hp]; exact kk
theorem gp_o {β : Type} {X : Option β} {x : β} (e : X = some x) {f : β → Option aH} (kk : GP p h0 (f x) s') : GP p h0 (X.bind f) s' := by rw [e]; exact kk
theorem gp_bd {β : Type} {x : β} {f : β → Option aH} (kk : GP p h0 (f x) s') : GP p h0 (bd x f) s' := kk
theorem gp_end (q : PSt p h0 h s) (e : s = s') : GP p h0 (some h) s' := ⟨h, rfl, e ▸ q⟩
theorem gp_eq {X : Option aH} {s1 : Ps} (c : GP p h0 X s1) (e : s1 = s') : GP p h0 X s' := e ▸ c
theorem gp_call {X : Option aH} {s1 : Ps} (c : GP p h0 X s1) {f : aH → Option aH} (kk : ∀ h1, PSt p h0 h1 s1 → GP p h0 (f h1) s') : GP p h0 (X.bind f) s' := by
  obtain ⟨h1, e, q⟩ := c
  rw [e]
  exact kk h1 q
theorem gp_ite {c : Prop} [Decidable c] {A B : Option aH} (k1 : c → GP p h0 A s') (k2 : ¬ c → GP p h0 B s') : GP p h0 (if c then A else B) s' := by
  by_cases hc : c
  · rw [if_pos hc]; exact k1 hc
  · rw [if_neg hc]; exact k2 hc
theorem gp_tally (q : PSt p h0 h s) {t : Int32} (h1 : 0 ≤ t) (h2 : t < 4) {X : Option aH} {T : Ty} (c : GT (ta p t) h X T) {f : aH → Option aH} (kk : ∀ h1, PSt p h0 h1 (s.sTy t T) → GP p h0 (f h1) s') : GP p h0 (X.bind f) s' := by
  obtain ⟨h', e, q'⟩ := c
  rw [e]
  exact kk h' (pst_T q h1 h2 q')
theorem gp_at (q : PSt p h0 h s) {t : Int32} {f : Option Nat × aH → Option aH} (kk : GP p h0 (f (some (ta p t), h)) s') : GP p h0 ((F_X6_tallyAt p t h).bind f) s' := by rw [c_tallyAt q.1]; exact kk
end PStep
